def f_Mo_in (p0 : Int64) (p1 : Int64) (p2 : Int64) : Int32 := if (lg_cmp p0 p1) < 0 then 0 else if 0 < (lg_cmp p0 p2) then 0 else 1
theorem cm_Mo_in {G : GT} (p0 : Int64) (p1 : Int64) (p2 : Int64) (Mu : Mm)  : CM G 1 y_Mo_in c_Mo_in 6 (some .boolean) (some (.int (f_Mo_in p0 p1 p2)), Mu) Mu [.long p0, .long p1, .long p2] := by
  generalize hf : f_Mo_in p0 p1 p2 = ru
  unfold f_Mo_in at hf
  refine CM.of (own := R_Mo) (lv := [some (.long p0), none, some (.long p1), none, some (.long p2), none]) (by decide) rfl (Nat.le_of_ble_eq_true rfl) rfl ?_
  refine r_lload_n 0 d_Mo_in_0 rfl rfl ?_
  refine r_lload_n 2 d_Mo_in_1 rfl rfl ?_
  refine r_lcmp d_Mo_in_2 ?_
  refine r_if_lt 17 d_Mo_in_3 (by decide) (fun qu1 => ?_) (fun qu1 => ?_)
  · replace hf := ip qu1 hf
    refine r_iconst (v := 0) d_Mo_in_17 (by decide) ?_
    subst hf
    exact r_zreturn d_Mo_in_18 rfl (Or.inl rfl) rfl
  · replace hf := im qu1 hf
    refine r_lload_n 0 d_Mo_in_6 rfl rfl ?_
    refine r_lload d_Mo_in_7 rfl ?_
    refine r_lcmp d_Mo_in_9 ?_
    refine r_if_gt 17 d_Mo_in_10 (by decide) (fun qu2 => ?_) (fun qu2 => ?_)
    · replace hf := ip qu2 hf
      refine r_iconst (v := 0) d_Mo_in_17 (by decide) ?_
      subst hf
      exact r_zreturn d_Mo_in_18 rfl (Or.inl rfl) rfl
    · replace hf := im qu2 hf
      refine r_iconst (v := 1) d_Mo_in_13 (by decide) ?_
      refine r_goto 18 d_Mo_in_14 (by decide) ?_
      subst hf
      exact r_zreturn d_Mo_in_18 rfl (Or.inr rfl) rfl
theorem z_Mo_in (p0 : Int64) (p1 : Int64) (p2 : Int64) : f_Mo_in p0 p1 p2 = 0 ∨ f_Mo_in p0 p1 p2 = 1 := by unfold f_Mo_in; repeat (first | (with_reducible refine z_ite ?_ ?_) | exact Or.inl rfl | exact Or.inr rfl)
def f_Mo_has (p0 : Int32) (p1 : Int32) : Int32 := if ((p0 >>> (p1 &&& 31)) &&& 1) = 1 then 1 else 0
theorem cm_Mo_has {G : GT} (p0 : Int32) (p1 : Int32) (Mu : Mm)  : CM G 1 y_Mo_has c_Mo_has 2 (some .boolean) (some (.int (f_Mo_has p0 p1)), Mu) Mu [.int p0, .int p1] := by
  generalize hf : f_Mo_has p0 p1 = ru
  unfold f_Mo_has at hf
  refine CM.of (own := R_Mo) (lv := [some (.int p0), some (.int p1)]) (by decide) rfl (Nat.le_of_ble_eq_true rfl) rfl ?_
  refine r_iload_n 0 d_Mo_has_0 rfl rfl ?_
  refine r_iload_n 1 d_Mo_has_1 rfl rfl ?_
  refine r_ishr d_Mo_has_2 ?_
  refine r_iconst (v := 1) d_Mo_has_3 (by decide) ?_
  refine r_iand d_Mo_has_4 ?_
  refine r_iconst (v := 1) d_Mo_has_5 (by decide) ?_
  refine r_icmp_ne 13 d_Mo_has_6 (by decide) (fun qu1 => ?_) (fun qu1 => ?_)
  · replace hf := im qu1 hf
    refine r_iconst (v := 0) d_Mo_has_13 (by decide) ?_
    subst hf
    exact r_zreturn d_Mo_has_14 rfl (Or.inl rfl) rfl
  · replace hf := ip qu1 hf
    refine r_iconst (v := 1) d_Mo_has_9 (by decide) ?_
    refine r_goto 14 d_Mo_has_10 (by decide) ?_
    subst hf
    exact r_zreturn d_Mo_has_14 rfl (Or.inr rfl) rfl
theorem z_Mo_has (p0 : Int32) (p1 : Int32) : f_Mo_has p0 p1 = 0 ∨ f_Mo_has p0 p1 = 1 := by unfold f_Mo_has; repeat (first | (with_reducible refine z_ite ?_ ?_) | exact Or.inl rfl | exact Or.inr rfl)
def L_Mo_bits_4 (Nu : Nat) (p0 : Int32) : Nat → Int32 → Int32 → Option (Int32)
  | 0, _, _ => none
  | nu + 1, z1_4, z2_4 => if 28 ≤ z2_4 then some z1_4 else lt (z1_4 + ((p0 >>> (z2_4 &&& 31)) &&& 1)) fun xu2 => lt (z2_4 + 1) fun xu3 => L_Mo_bits_4 Nu p0 nu xu2 xu3
def f_Mo_bits (Nu : Nat) (p0 : Int32) : Option (Int32) := L_Mo_bits_4 Nu p0 Nu 0 0
theorem l_Mo_bits_4 {G : GT} {ru : Int32} (Nu : Nat) (p0 : Int32) (Mu : Mm)    : ∀ (nu : Nat) (z1_4 : Int32) (z2_4 : Int32), L_Mo_bits_4 Nu p0 nu z1_4 z2_4 = some ru → SW G 1 c_Mo_bits R_Mo 3 (some .int) (some (.int ru), Mu) Mu 4 [some (.int p0), some (.int z1_4), some (.int z2_4)] []
  | 0, _, _, hf => by cases hf
  | nu + 1, z1_4, z2_4, hf => by
    have ih := l_Mo_bits_4 (G := G) (ru := ru) Nu p0 Mu   nu
    rw [L_Mo_bits_4] at hf
    refine r_iload_n 2 d_Mo_bits_4 rfl rfl ?_
    refine r_bipush (v := 28) d_Mo_bits_5 (by decide) ?_
    refine r_icmp_ge 24 d_Mo_bits_7 (by decide) (fun qu1 => ?_) (fun qu1 => ?_)
    · replace hf := ip qu1 hf
      refine r_iload_n 1 d_Mo_bits_24 rfl rfl ?_
      obtain rfl := Option.some.inj hf
      exact r_ireturn d_Mo_bits_25 rfl rfl
    · replace hf := im qu1 hf
      refine r_iload_n 1 d_Mo_bits_10 rfl rfl ?_
      refine r_iload_n 0 d_Mo_bits_11 rfl rfl ?_
      refine r_iload_n 2 d_Mo_bits_12 rfl rfl ?_
      refine r_ishr d_Mo_bits_13 ?_
      refine r_iconst (v := 1) d_Mo_bits_14 (by decide) ?_
      refine r_iand d_Mo_bits_15 ?_
      refine r_iadd d_Mo_bits_16 ?_
      refine nmI (fun xu2 hxu2 => ?_)
      replace hf := lt_of hxu2 hf
      refine r_istore_n (lv' := [some (.int p0), some (.int xu2), some (.int z2_4)]) 1 d_Mo_bits_17 rfl (by decide) rfl ?_
      obtain ⟨xu3, hxu3⟩ : ∃ y : Int32, y = z2_4 + 1 := ⟨_, rfl⟩
      replace hf := lt_of hxu3 hf
      refine r_iinc (lv' := [some (.int p0), some (.int xu2), some (.int xu3)]) d_Mo_bits_18 rfl (by rw [hxu3]; rfl) (by decide) rfl ?_
      refine r_goto 4 d_Mo_bits_21 (by decide) ?_
      exact ih xu2 xu3  hf
theorem cm_Mo_bits {G : GT} {Nu : Nat} {p0 : Int32} {Mu : Mm} {ru : Int32}  (hf : f_Mo_bits Nu p0 = some ru) : CM G 1 y_Mo_bits c_Mo_bits 3 (some .int) (some (.int ru), Mu) Mu [.int p0] := by
  unfold f_Mo_bits at hf
  refine CM.of (own := R_Mo) (lv := [some (.int p0), none, none]) (by decide) rfl (Nat.le_of_ble_eq_true rfl) rfl ?_
  refine r_iconst (v := 0) d_Mo_bits_0 (by decide) ?_
  refine r_istore_n (lv' := [some (.int p0), some (.int 0), none]) 1 d_Mo_bits_1 rfl (by decide) rfl ?_
  refine r_iconst (v := 0) d_Mo_bits_2 (by decide) ?_
  refine r_istore_n (lv' := [some (.int p0), some (.int 0), some (.int 0)]) 2 d_Mo_bits_3 rfl (by decide) rfl ?_
  exact l_Mo_bits_4 (G := G) (ru := ru) Nu p0 Mu   Nu 0 0 hf
def f_Mo_isPerson (p0 : Int32) (Mu : Mm) : Int32 := f_Mo_in p0.toInt64 0 (((Mu.1 49 0) - 1).toInt64)
theorem cm_Mo_isPerson {G : GT} (p0 : Int32) (Mu : Mm)   : CM G 2 y_Mo_isPerson c_Mo_isPerson 2 (some .boolean) (some (.int (f_Mo_isPerson p0 Mu)), Mu) Mu [.ref 49, .int p0] := by
  generalize hf : f_Mo_isPerson p0 Mu = ru
  unfold f_Mo_isPerson at hf
  refine CM.of (own := R_Mo) (lv := [some (.ref 49), some (.int p0)]) (by decide) rfl (Nat.le_of_ble_eq_true rfl) rfl ?_
  refine r_iload_n 1 d_Mo_isPerson_0 rfl rfl ?_
  refine r_i2l d_Mo_isPerson_1 ?_
  refine r_lconst (v := 0) d_Mo_isPerson_2 (by decide) ?_
  refine r_aload_n 0 d_Mo_isPerson_3 rfl rfl ?_
  refine r_getI d_Mo_isPerson_4 fl_Mo_63 sh_49 (by decide) ?_
  refine r_iconst (v := 1) d_Mo_isPerson_7 (by decide) ?_
  refine r_isub d_Mo_isPerson_8 ?_
  refine r_i2l d_Mo_isPerson_9 ?_
  refine r_callS [.long p0.toInt64, .long 0, .long (((Mu.1 49 0) - 1).toInt64)] d_Mo_isPerson_10 lk_Mo_66 (cm_Mo_in p0.toInt64 0 (((Mu.1 49 0) - 1).toInt64) Mu) (by decide) rfl rfl (Nat.le_of_ble_eq_true rfl) ?_
  subst hf
  exact r_zreturn d_Mo_isPerson_13 rfl (z_Mo_in p0.toInt64 0 (((Mu.1 49 0) - 1).toInt64)) rfl
theorem z_Mo_isPerson (p0 : Int32) (Mu : Mm) : f_Mo_isPerson p0 Mu = 0 ∨ f_Mo_isPerson p0 Mu = 1 := by unfold f_Mo_isPerson; exact z_Mo_in _ _ _
def f_Mo_areTwo (p0 : Int32) (p1 : Int32) (Mu : Mm) : Int32 := if (f_Mo_isPerson p0 Mu) = 0 then 0 else if (f_Mo_isPerson p1 Mu) = 0 then 0 else if p0 = p1 then 0 else 1
theorem cm_Mo_areTwo {G : GT} (p0 : Int32) (p1 : Int32) (Mu : Mm)   : CM G 3 y_Mo_areTwo c_Mo_areTwo 3 (some .boolean) (some (.int (f_Mo_areTwo p0 p1 Mu)), Mu) Mu [.ref 49, .int p0, .int p1] := by
  generalize hf : f_Mo_areTwo p0 p1 Mu = ru
  unfold f_Mo_areTwo at hf
  refine CM.of (own := R_Mo) (lv := [some (.ref 49), some (.int p0), some (.int p1)]) (by decide) rfl (Nat.le_of_ble_eq_true rfl) rfl ?_
  refine r_aload_n 0 d_Mo_areTwo_0 rfl rfl ?_
  refine r_iload_n 1 d_Mo_areTwo_1 rfl rfl ?_
  refine r_callV [.int p0] d_Mo_areTwo_2 lk_Mo_70 sh_49 (cm_Mo_isPerson p0 Mu) (by decide) rfl rfl (Nat.le_of_ble_eq_true rfl) ?_
  refine r_if_eq 25 d_Mo_areTwo_5 (by decide) (fun qu1 => ?_) (fun qu1 => ?_)
  · replace hf := ip qu1 hf
    refine r_iconst (v := 0) d_Mo_areTwo_25 (by decide) ?_
    subst hf
    exact r_zreturn d_Mo_areTwo_26 rfl (Or.inl rfl) rfl
  · replace hf := im qu1 hf
    refine r_aload_n 0 d_Mo_areTwo_8 rfl rfl ?_
    refine r_iload_n 2 d_Mo_areTwo_9 rfl rfl ?_
    refine r_callV [.int p1] d_Mo_areTwo_10 lk_Mo_70 sh_49 (cm_Mo_isPerson p1 Mu) (by decide) rfl rfl (Nat.le_of_ble_eq_true rfl) ?_
    refine r_if_eq 25 d_Mo_areTwo_13 (by decide) (fun qu2 => ?_) (fun qu2 => ?_)
    · replace hf := ip qu2 hf
      refine r_iconst (v := 0) d_Mo_areTwo_25 (by decide) ?_
      subst hf
      exact r_zreturn d_Mo_areTwo_26 rfl (Or.inl rfl) rfl
    · replace hf := im qu2 hf
      refine r_iload_n 1 d_Mo_areTwo_16 rfl rfl ?_
      refine r_iload_n 2 d_Mo_areTwo_17 rfl rfl ?_
      refine r_icmp_eq 25 d_Mo_areTwo_18 (by decide) (fun qu3 => ?_) (fun qu3 => ?_)
      · replace hf := ip qu3 hf
        refine r_iconst (v := 0) d_Mo_areTwo_25 (by decide) ?_
        subst hf
        exact r_zreturn d_Mo_areTwo_26 rfl (Or.inl rfl) rfl
      · replace hf := im qu3 hf
        refine r_iconst (v := 1) d_Mo_areTwo_21 (by decide) ?_
        refine r_goto 26 d_Mo_areTwo_22 (by decide) ?_
        subst hf
        exact r_zreturn d_Mo_areTwo_26 rfl (Or.inr rfl) rfl
theorem z_Mo_areTwo (p0 : Int32) (p1 : Int32) (Mu : Mm) : f_Mo_areTwo p0 p1 Mu = 0 ∨ f_Mo_areTwo p0 p1 Mu = 1 := by unfold f_Mo_areTwo; repeat (first | (with_reducible refine z_ite ?_ ?_) | exact Or.inl rfl | exact Or.inr rfl)
def f_Mo_pairs (p0 : Int32) : Int32 := (p0 * (p0 - 1)) / 2
theorem cm_Mo_pairs {G : GT} (p0 : Int32) (Mu : Mm)  : CM G 1 y_Mo_pairs c_Mo_pairs 1 (some .int) (some (.int (f_Mo_pairs p0)), Mu) Mu [.int p0] := by
  generalize hf : f_Mo_pairs p0 = ru
  unfold f_Mo_pairs at hf
  refine CM.of (own := R_Mo) (lv := [some (.int p0)]) (by decide) rfl (Nat.le_of_ble_eq_true rfl) rfl ?_
  refine r_iload_n 0 d_Mo_pairs_0 rfl rfl ?_
  refine r_iload_n 0 d_Mo_pairs_1 rfl rfl ?_
  refine r_iconst (v := 1) d_Mo_pairs_2 (by decide) ?_
  refine r_isub d_Mo_pairs_3 ?_
  refine r_imul d_Mo_pairs_4 ?_
  refine r_iconst (v := 2) d_Mo_pairs_5 (by decide) ?_
  refine r_idiv d_Mo_pairs_6 (by decide) ?_
  subst hf
  exact r_ireturn d_Mo_pairs_7 rfl rfl
def L_Mo_pairOf_29 (Nu : Nat) (p0 : Int32) (xu2 : Int32) (ju5 : Int32 → Option (Int32)) : Nat → Int32 → Int32 → Option (Int32)
  | 0, _, _ => none
  | nu + 1, z5_29, z6_29 => if xu2 ≤ z6_29 then ju5 z5_29 else lt (z5_29 + ((p0 - 1) - z6_29)) fun xu8 => lt (z6_29 + 1) fun xu9 => L_Mo_pairOf_29 Nu p0 xu2 ju5 nu xu8 xu9
def f_Mo_pairOf (Nu : Nat) (p0 : Int32) (p1 : Int32) (p2 : Int32) : Option (Int32) := lt (fun (xu2 : Int32) => lt (fun (xu4 : Int32) => lt (fun (xu6 : Int32) => some (((xu6 + xu4) - xu2) - 1)) fun ju5 => L_Mo_pairOf_29 Nu p0 xu2 ju5 Nu 0 0) fun ju3 => if p2 ≤ p1 then ju3 p1 else ju3 p2) fun ju1 => if p2 ≤ p1 then ju1 p2 else ju1 p1
theorem l_Mo_pairOf_29 {G : GT} {ru : Int32} (Nu : Nat) (p0 : Int32) (xu2 : Int32) (ju5 : Int32 → Option (Int32)) (xu4 : Int32) (Mu : Mm)  (Kju5 : ∀ (w5 : Int32), ju5 w5 = some ru → SW G 1 c_Mo_pairOf R_Mo 7 (some .int) (some (.int ru), Mu) Mu 52 [none, none, none, some (.int xu2), some (.int xu4), some (.int w5), none] [])  : ∀ (nu : Nat) (z5_29 : Int32) (z6_29 : Int32), L_Mo_pairOf_29 Nu p0 xu2 ju5 nu z5_29 z6_29 = some ru → SW G 1 c_Mo_pairOf R_Mo 7 (some .int) (some (.int ru), Mu) Mu 29 [some (.int p0), none, none, some (.int xu2), some (.int xu4), some (.int z5_29), some (.int z6_29)] []
  | 0, _, _, hf => by cases hf
  | nu + 1, z5_29, z6_29, hf => by
    have ih := l_Mo_pairOf_29 (G := G) (ru := ru) Nu p0 xu2 ju5 xu4 Mu  Kju5 nu
    rw [L_Mo_pairOf_29] at hf
    refine r_iload d_Mo_pairOf_29 rfl ?_
    refine r_iload_n 3 d_Mo_pairOf_31 rfl rfl ?_
    refine r_icmp_ge 52 d_Mo_pairOf_32 (by decide) (fun qu7 => ?_) (fun qu7 => ?_)
    · replace hf := ip qu7 hf
      refine r_weak [0, 6] (lv' := [none, none, none, some (.int xu2), some (.int xu4), some (.int z5_29), none]) rfl ?_
      exact Kju5 z5_29  hf
    · replace hf := im qu7 hf
      refine r_iload d_Mo_pairOf_35 rfl ?_
      refine r_iload_n 0 d_Mo_pairOf_37 rfl rfl ?_
      refine r_iconst (v := 1) d_Mo_pairOf_38 (by decide) ?_
      refine r_isub d_Mo_pairOf_39 ?_
      refine r_iload d_Mo_pairOf_40 rfl ?_
      refine r_isub d_Mo_pairOf_42 ?_
      refine r_iadd d_Mo_pairOf_43 ?_
      refine nmI (fun xu8 hxu8 => ?_)
      replace hf := lt_of hxu8 hf
      refine r_istore (lv' := [some (.int p0), none, none, some (.int xu2), some (.int xu4), some (.int xu8), some (.int z6_29)]) d_Mo_pairOf_44 (by decide) rfl ?_
      obtain ⟨xu9, hxu9⟩ : ∃ y : Int32, y = z6_29 + 1 := ⟨_, rfl⟩
      replace hf := lt_of hxu9 hf
      refine r_iinc (lv' := [some (.int p0), none, none, some (.int xu2), some (.int xu4), some (.int xu8), some (.int xu9)]) d_Mo_pairOf_46 rfl (by rw [hxu9]; rfl) (by decide) rfl ?_
      refine r_goto 29 d_Mo_pairOf_49 (by decide) ?_
      exact ih xu8 xu9  hf
theorem cm_Mo_pairOf {G : GT} {Nu : Nat} {p0 : Int32} {p1 : Int32} {p2 : Int32} {Mu : Mm} {ru : Int32}  (hf : f_Mo_pairOf Nu p0 p1 p2 = some ru) : CM G 1 y_Mo_pairOf c_Mo_pairOf 7 (some .int) (some (.int ru), Mu) Mu [.int p0, .int p1, .int p2] := by
  unfold f_Mo_pairOf at hf
  refine CM.of (own := R_Mo) (lv := [some (.int p0), some (.int p1), some (.int p2), none, none, none, none]) (by decide) rfl (Nat.le_of_ble_eq_true rfl) rfl ?_
  refine r_iload_n 1 d_Mo_pairOf_0 rfl rfl ?_
  refine r_iload_n 2 d_Mo_pairOf_1 rfl rfl ?_
  obtain ⟨ju1, hju1, hf⟩ := lt_ex hf
  have Kju1 : ∀ (xu2 : Int32), ju1 xu2 = some ru → SW G 1 c_Mo_pairOf R_Mo 7 (some .int) (some (.int ru), Mu) Mu 10 [some (.int p0), some (.int p1), some (.int p2), none, none, none, none] [.int xu2] := by
    intro xu2 hf
    rw [hju1] at hf
    refine r_istore_n (lv' := [some (.int p0), some (.int p1), some (.int p2), some (.int xu2), none, none, none]) 3 d_Mo_pairOf_10 rfl (by decide) rfl ?_
    refine r_iload_n 1 d_Mo_pairOf_11 rfl rfl ?_
    refine r_iload_n 2 d_Mo_pairOf_12 rfl rfl ?_
    obtain ⟨ju3, hju3, hf⟩ := lt_ex hf
    have Kju3 : ∀ (xu4 : Int32), ju3 xu4 = some ru → SW G 1 c_Mo_pairOf R_Mo 7 (some .int) (some (.int ru), Mu) Mu 21 [some (.int p0), none, none, some (.int xu2), none, none, none] [.int xu4] := by
      intro xu4 hf
      rw [hju3] at hf
      refine r_istore (lv' := [some (.int p0), none, none, some (.int xu2), some (.int xu4), none, none]) d_Mo_pairOf_21 (by decide) rfl ?_
      refine r_iconst (v := 0) d_Mo_pairOf_23 (by decide) ?_
      refine r_istore (lv' := [some (.int p0), none, none, some (.int xu2), some (.int xu4), some (.int 0), none]) d_Mo_pairOf_24 (by decide) rfl ?_
      refine r_iconst (v := 0) d_Mo_pairOf_26 (by decide) ?_
      refine r_istore (lv' := [some (.int p0), none, none, some (.int xu2), some (.int xu4), some (.int 0), some (.int 0)]) d_Mo_pairOf_27 (by decide) rfl ?_
      obtain ⟨ju5, hju5, hf⟩ := lt_ex hf
      have Kju5 : ∀ (xu6 : Int32), ju5 xu6 = some ru → SW G 1 c_Mo_pairOf R_Mo 7 (some .int) (some (.int ru), Mu) Mu 52 [none, none, none, some (.int xu2), some (.int xu4), some (.int xu6), none] [] := by
        intro xu6 hf
        rw [hju5] at hf
        refine r_iload d_Mo_pairOf_52 rfl ?_
        refine r_iload d_Mo_pairOf_54 rfl ?_
        refine r_iadd d_Mo_pairOf_56 ?_
        refine r_iload_n 3 d_Mo_pairOf_57 rfl rfl ?_
        refine r_isub d_Mo_pairOf_58 ?_
        refine r_iconst (v := 1) d_Mo_pairOf_59 (by decide) ?_
        refine r_isub d_Mo_pairOf_60 ?_
        obtain rfl := Option.some.inj hf
        exact r_ireturn d_Mo_pairOf_61 rfl rfl
      exact l_Mo_pairOf_29 (G := G) (ru := ru) Nu p0 xu2 ju5 xu4 Mu  Kju5 Nu 0 0 hf
    refine r_icmp_ge 20 d_Mo_pairOf_13 (by decide) (fun qu10 => ?_) (fun qu10 => ?_)
    · replace hf := ip qu10 hf
      refine r_iload_n 1 d_Mo_pairOf_20 rfl rfl ?_
      refine r_weak [1, 2] (lv' := [some (.int p0), none, none, some (.int xu2), none, none, none]) rfl ?_
      exact Kju3 p1  hf
    · replace hf := im qu10 hf
      refine r_iload_n 2 d_Mo_pairOf_16 rfl rfl ?_
      refine r_goto 21 d_Mo_pairOf_17 (by decide) ?_
      refine r_weak [1, 2] (lv' := [some (.int p0), none, none, some (.int xu2), none, none, none]) rfl ?_
      exact Kju3 p2  hf
  refine r_icmp_ge 9 d_Mo_pairOf_2 (by decide) (fun qu11 => ?_) (fun qu11 => ?_)
  · replace hf := ip qu11 hf
    refine r_iload_n 2 d_Mo_pairOf_9 rfl rfl ?_
    exact Kju1 p2  hf
  · replace hf := im qu11 hf
    refine r_iload_n 1 d_Mo_pairOf_5 rfl rfl ?_
    refine r_goto 10 d_Mo_pairOf_6 (by decide) ?_
    exact Kju1 p1  hf
def L_Mo_countIn_5 (Nu : Nat) (p0 : Int32) (p1 : Int32) (p2 : Int32) : Nat → Int32 → Int32 → Option (Int32)
  | 0, _, _ => none
  | nu + 1, z3_5, z4_5 => if p0 ≤ z4_5 then some z3_5 else lt (fun (xu3 : Int32) => lt (z3_5 + xu3) fun xu4 => lt (z4_5 + 1) fun xu5 => L_Mo_countIn_5 Nu p0 p1 p2 nu xu4 xu5) fun ju2 => lt (fun (_ : Unit) => ju2 0) fun ju6 => if z4_5 = p2 then ju6 () else (f_Mo_pairOf Nu p0 p2 z4_5).bind fun vu8 => if (f_Mo_has p1 vu8) = 0 then ju6 () else ju2 1
def f_Mo_countIn (Nu : Nat) (p0 : Int32) (p1 : Int32) (p2 : Int32) : Option (Int32) := L_Mo_countIn_5 Nu p0 p1 p2 Nu 0 0
theorem l_Mo_countIn_5 {G : GT} {ru : Int32} (Nu : Nat) (p0 : Int32) (p1 : Int32) (p2 : Int32) (Mu : Mm)    : ∀ (nu : Nat) (z3_5 : Int32) (z4_5 : Int32), L_Mo_countIn_5 Nu p0 p1 p2 nu z3_5 z4_5 = some ru → SW G 2 c_Mo_countIn R_Mo 5 (some .int) (some (.int ru), Mu) Mu 5 [some (.int p0), some (.int p1), some (.int p2), some (.int z3_5), some (.int z4_5)] []
  | 0, _, _, hf => by cases hf
  | nu + 1, z3_5, z4_5, hf => by
    have ih := l_Mo_countIn_5 (G := G) (ru := ru) Nu p0 p1 p2 Mu   nu
    rw [L_Mo_countIn_5] at hf
    refine r_iload d_Mo_countIn_5 rfl ?_
    refine r_iload_n 0 d_Mo_countIn_7 rfl rfl ?_
    refine r_icmp_ge 45 d_Mo_countIn_8 (by decide) (fun qu1 => ?_) (fun qu1 => ?_)
    · replace hf := ip qu1 hf
      refine r_iload_n 3 d_Mo_countIn_45 rfl rfl ?_
      obtain rfl := Option.some.inj hf
      exact r_ireturn d_Mo_countIn_46 rfl rfl
    · replace hf := im qu1 hf
      refine r_iload_n 3 d_Mo_countIn_11 rfl rfl ?_
      refine r_iload d_Mo_countIn_12 rfl ?_
      refine r_iload_n 2 d_Mo_countIn_14 rfl rfl ?_
      obtain ⟨ju2, hju2, hf⟩ := lt_ex hf
      have Kju2 : ∀ (xu3 : Int32), ju2 xu3 = some ru → SW G 2 c_Mo_countIn R_Mo 5 (some .int) (some (.int ru), Mu) Mu 37 [some (.int p0), some (.int p1), some (.int p2), none, some (.int z4_5)] [.int xu3, .int z3_5] := by
        intro xu3 hf
        rw [hju2] at hf
        refine r_iadd d_Mo_countIn_37 ?_
        refine nmI (fun xu4 hxu4 => ?_)
        replace hf := lt_of hxu4 hf
        refine r_istore_n (lv' := [some (.int p0), some (.int p1), some (.int p2), some (.int xu4), some (.int z4_5)]) 3 d_Mo_countIn_38 rfl (by decide) rfl ?_
        obtain ⟨xu5, hxu5⟩ : ∃ y : Int32, y = z4_5 + 1 := ⟨_, rfl⟩
        replace hf := lt_of hxu5 hf
        refine r_iinc (lv' := [some (.int p0), some (.int p1), some (.int p2), some (.int xu4), some (.int xu5)]) d_Mo_countIn_39 rfl (by rw [hxu5]; rfl) (by decide) rfl ?_
        refine r_goto 5 d_Mo_countIn_42 (by decide) ?_
        exact ih xu4 xu5  hf
      obtain ⟨ju6, hju6, hf⟩ := lt_ex hf
      have Kju6 : ∀ (_ : Unit), ju6 () = some ru → SW G 2 c_Mo_countIn R_Mo 5 (some .int) (some (.int ru), Mu) Mu 36 [some (.int p0), some (.int p1), some (.int p2), none, some (.int z4_5)] [.int z3_5] := by
        intro _ hf
        rw [hju6] at hf
        refine r_iconst (v := 0) d_Mo_countIn_36 (by decide) ?_
        exact Kju2 0  hf
      refine r_icmp_eq 36 d_Mo_countIn_15 (by decide) (fun qu7 => ?_) (fun qu7 => ?_)
      · replace hf := ip qu7 hf
        refine r_weak [3] (lv' := [some (.int p0), some (.int p1), some (.int p2), none, some (.int z4_5)]) rfl ?_
        exact Kju6 ()  hf
      · replace hf := im qu7 hf
        refine r_iload_n 1 d_Mo_countIn_18 rfl rfl ?_
        refine r_iload_n 0 d_Mo_countIn_19 rfl rfl ?_
        refine r_iload_n 2 d_Mo_countIn_20 rfl rfl ?_
        refine r_iload d_Mo_countIn_21 rfl ?_
        obtain ⟨vu8, evu8, hf⟩ := bnd hf
        refine r_callS [.int p0, .int p2, .int z4_5] d_Mo_countIn_23 lk_Mo_74 (cm_Mo_pairOf evu8) (by decide) rfl rfl (Nat.le_of_ble_eq_true rfl) ?_
        refine r_callS [.int p1, .int vu8] d_Mo_countIn_26 lk_Mo_78 (cm_Mo_has p1 vu8 Mu) (by decide) rfl rfl (Nat.le_of_ble_eq_true rfl) ?_
        refine r_if_eq 36 d_Mo_countIn_29 (by decide) (fun qu9 => ?_) (fun qu9 => ?_)
        · replace hf := ip qu9 hf
          refine r_weak [3] (lv' := [some (.int p0), some (.int p1), some (.int p2), none, some (.int z4_5)]) rfl ?_
          exact Kju6 ()  hf
        · replace hf := im qu9 hf
          refine r_iconst (v := 1) d_Mo_countIn_32 (by decide) ?_
          refine r_goto 37 d_Mo_countIn_33 (by decide) ?_
          refine r_weak [3] (lv' := [some (.int p0), some (.int p1), some (.int p2), none, some (.int z4_5)]) rfl ?_
          exact Kju2 1  hf
theorem cm_Mo_countIn {G : GT} {Nu : Nat} {p0 : Int32} {p1 : Int32} {p2 : Int32} {Mu : Mm} {ru : Int32}  (hf : f_Mo_countIn Nu p0 p1 p2 = some ru) : CM G 2 y_Mo_countIn c_Mo_countIn 5 (some .int) (some (.int ru), Mu) Mu [.int p0, .int p1, .int p2] := by
  unfold f_Mo_countIn at hf
  refine CM.of (own := R_Mo) (lv := [some (.int p0), some (.int p1), some (.int p2), none, none]) (by decide) rfl (Nat.le_of_ble_eq_true rfl) rfl ?_
  refine r_iconst (v := 0) d_Mo_countIn_0 (by decide) ?_
  refine r_istore_n (lv' := [some (.int p0), some (.int p1), some (.int p2), some (.int 0), none]) 3 d_Mo_countIn_1 rfl (by decide) rfl ?_
  refine r_iconst (v := 0) d_Mo_countIn_2 (by decide) ?_
  refine r_istore (lv' := [some (.int p0), some (.int p1), some (.int p2), some (.int 0), some (.int 0)]) d_Mo_countIn_3 (by decide) rfl ?_
  exact l_Mo_countIn_5 (G := G) (ru := ru) Nu p0 p1 p2 Mu   Nu 0 0 hf
def L_Mo_findCounts_37 (Nu : Nat) (p0 : Int32) (p1 : Int32) (z4_25 : Int32) (ju5 : Int32 → Mm → Option (Mm)) : Nat → Int32 → Int32 → Mm → Option (Mm)
  | 0, _, _, _ => none
  | nu + 1, z3_37, z5_37, M_37 => if p0 ≤ z5_37 then ju5 z3_37 M_37 else if inb z4_25 8 = true then if inb z4_25 8 = true then lt (si M_37 51 (Int32.toNatClampNeg z4_25) ((M_37.1 51 (Int32.toNatClampNeg z4_25)) + ((p1 >>> (z3_37 &&& 31)) &&& 1))) fun Mu12 => if inb z5_37 8 = true then if inb z5_37 8 = true then lt (si Mu12 51 (Int32.toNatClampNeg z5_37) ((Mu12.1 51 (Int32.toNatClampNeg z5_37)) + ((p1 >>> (z3_37 &&& 31)) &&& 1))) fun Mu15 => lt (z3_37 + 1) fun xu16 => lt (z5_37 + 1) fun xu17 => L_Mo_findCounts_37 Nu p0 p1 z4_25 ju5 nu xu16 xu17 Mu15 else none else none else none else none
def L_Mo_findCounts_25 (Nu : Nat) (p0 : Int32) (p1 : Int32) : Nat → Int32 → Int32 → Mm → Option (Mm)
  | 0, _, _, _ => none
  | nu + 1, z3_25, z4_25, M_25 => if p0 ≤ z4_25 then some M_25 else lt (z4_25 + 1) fun xu4 => lt (fun (xu6 : Int32) (Mu7 : Mm) => lt (z4_25 + 1) fun xu8 => L_Mo_findCounts_25 Nu p0 p1 nu xu6 xu8 Mu7) fun ju5 => L_Mo_findCounts_37 Nu p0 p1 z4_25 ju5 Nu z3_25 xu4 M_25
def L_Mo_findCounts_2 (Nu : Nat) (p0 : Int32) (ju1 : Mm → Option (Mm)) : Nat → Int32 → Mm → Option (Mm)
  | 0, _, _ => none
  | nu + 1, z3_2, M_2 => if p0 ≤ z3_2 then ju1 M_2 else if inb z3_2 8 = true then lt (si M_2 51 (Int32.toNatClampNeg z3_2) 0) fun Mu20 => lt (z3_2 + 1) fun xu21 => L_Mo_findCounts_2 Nu p0 ju1 nu xu21 Mu20 else none
def f_Mo_findCounts (Nu : Nat) (p0 : Int32) (p1 : Int32) (Mu : Mm) : Option (Mm) := lt (fun (Mu2 : Mm) => L_Mo_findCounts_25 Nu p0 p1 Nu 0 0 Mu2) fun ju1 => L_Mo_findCounts_2 Nu p0 ju1 Nu 0 Mu
theorem l_Mo_findCounts_37 {G : GT} {ru : Mm} (Nu : Nat) (p0 : Int32) (p1 : Int32) (z4_25 : Int32) (ju5 : Int32 → Mm → Option (Mm))  (Kju5 : ∀ (w3 : Int32) (Mw : Mm), ju5 w3 Mw = some ru → SW G 1 c_Mo_findCounts R_Mo 6 none (none, ru) Mw 82 [some (.ref 49), some (.int p0), some (.int p1), some (.int w3), some (.int z4_25), none] [])  : ∀ (nu : Nat) (z3_37 : Int32) (z5_37 : Int32) (M_37 : Mm), L_Mo_findCounts_37 Nu p0 p1 z4_25 ju5 nu z3_37 z5_37 M_37 = some ru → SW G 1 c_Mo_findCounts R_Mo 6 none (none, ru) M_37 37 [some (.ref 49), some (.int p0), some (.int p1), some (.int z3_37), some (.int z4_25), some (.int z5_37)] []
  | 0, _, _, _, hf => by cases hf
  | nu + 1, z3_37, z5_37, M_37, hf => by
    have ih := l_Mo_findCounts_37 (G := G) (ru := ru) Nu p0 p1 z4_25 ju5  Kju5 nu
    rw [L_Mo_findCounts_37] at hf
    refine r_iload d_Mo_findCounts_37 rfl ?_
    refine r_iload_n 1 d_Mo_findCounts_39 rfl rfl ?_
    refine r_icmp_ge 82 d_Mo_findCounts_40 (by decide) (fun qu9 => ?_) (fun qu9 => ?_)
    · replace hf := ip qu9 hf
      refine r_weak [5] (lv' := [some (.ref 49), some (.int p0), some (.int p1), some (.int z3_37), some (.int z4_25), none]) rfl ?_
      exact Kju5 z3_37 M_37  hf
    · replace hf := im qu9 hf
      refine r_aload_n 0 d_Mo_findCounts_43 rfl rfl ?_
      refine r_getR 51 d_Mo_findCounts_44 fl_Mo_20 sh_49 rfl rf_49_8 ?_
      refine r_iload d_Mo_findCounts_47 rfl ?_
      refine r_dup2 d_Mo_findCounts_49 rfl rfl ?_
      obtain ⟨qu10, hf⟩ := ck hf
      refine r_iald d_Mo_findCounts_50 sh_51 qu10 ?_
      refine r_iload_n 2 d_Mo_findCounts_51 rfl rfl ?_
      refine r_iload_n 3 d_Mo_findCounts_52 rfl rfl ?_
      refine r_ishr d_Mo_findCounts_53 ?_
      refine r_iconst (v := 1) d_Mo_findCounts_54 (by decide) ?_
      refine r_iand d_Mo_findCounts_55 ?_
      refine r_iadd d_Mo_findCounts_56 ?_
      obtain ⟨qu11, hf⟩ := ck hf
      refine r_iast d_Mo_findCounts_57 sh_51 qu11 ?_
      refine nmM (fun Mu12 hMu12 => ?_)
      replace hf := lt_of hMu12 hf
      refine r_aload_n 0 d_Mo_findCounts_58 rfl rfl ?_
      refine r_getR 51 d_Mo_findCounts_59 fl_Mo_20 sh_49 rfl rf_49_8 ?_
      refine r_iload d_Mo_findCounts_62 rfl ?_
      refine r_dup2 d_Mo_findCounts_64 rfl rfl ?_
      obtain ⟨qu13, hf⟩ := ck hf
      refine r_iald d_Mo_findCounts_65 sh_51 qu13 ?_
      refine r_iload_n 2 d_Mo_findCounts_66 rfl rfl ?_
      refine r_iload_n 3 d_Mo_findCounts_67 rfl rfl ?_
      refine r_ishr d_Mo_findCounts_68 ?_
      refine r_iconst (v := 1) d_Mo_findCounts_69 (by decide) ?_
      refine r_iand d_Mo_findCounts_70 ?_
      refine r_iadd d_Mo_findCounts_71 ?_
      obtain ⟨qu14, hf⟩ := ck hf
      refine r_iast d_Mo_findCounts_72 sh_51 qu14 ?_
      refine nmM (fun Mu15 hMu15 => ?_)
      replace hf := lt_of hMu15 hf
      obtain ⟨xu16, hxu16⟩ : ∃ y : Int32, y = z3_37 + 1 := ⟨_, rfl⟩
      replace hf := lt_of hxu16 hf
      refine r_iinc (lv' := [some (.ref 49), some (.int p0), some (.int p1), some (.int xu16), some (.int z4_25), some (.int z5_37)]) d_Mo_findCounts_73 rfl (by rw [hxu16]; rfl) (by decide) rfl ?_
      obtain ⟨xu17, hxu17⟩ : ∃ y : Int32, y = z5_37 + 1 := ⟨_, rfl⟩
      replace hf := lt_of hxu17 hf
      refine r_iinc (lv' := [some (.ref 49), some (.int p0), some (.int p1), some (.int xu16), some (.int z4_25), some (.int xu17)]) d_Mo_findCounts_76 rfl (by rw [hxu17]; rfl) (by decide) rfl ?_
      refine r_goto 37 d_Mo_findCounts_79 (by decide) ?_
      exact ih xu16 xu17 Mu15  hf
theorem l_Mo_findCounts_25 {G : GT} {ru : Mm} (Nu : Nat) (p0 : Int32) (p1 : Int32)    : ∀ (nu : Nat) (z3_25 : Int32) (z4_25 : Int32) (M_25 : Mm), L_Mo_findCounts_25 Nu p0 p1 nu z3_25 z4_25 M_25 = some ru → SW G 1 c_Mo_findCounts R_Mo 6 none (none, ru) M_25 25 [some (.ref 49), some (.int p0), some (.int p1), some (.int z3_25), some (.int z4_25), none] []
  | 0, _, _, _, hf => by cases hf
  | nu + 1, z3_25, z4_25, M_25, hf => by
    have ih := l_Mo_findCounts_25 (G := G) (ru := ru) Nu p0 p1   nu
    rw [L_Mo_findCounts_25] at hf
    refine r_iload d_Mo_findCounts_25 rfl ?_
    refine r_iload_n 1 d_Mo_findCounts_27 rfl rfl ?_
    refine r_icmp_ge 88 d_Mo_findCounts_28 (by decide) (fun qu3 => ?_) (fun qu3 => ?_)
    · replace hf := ip qu3 hf
      obtain rfl := Option.some.inj hf
      exact r_return d_Mo_findCounts_88 rfl rfl
    · replace hf := im qu3 hf
      refine r_iload d_Mo_findCounts_31 rfl ?_
      refine r_iconst (v := 1) d_Mo_findCounts_33 (by decide) ?_
      refine r_iadd d_Mo_findCounts_34 ?_
      refine nmI (fun xu4 hxu4 => ?_)
      replace hf := lt_of hxu4 hf
      refine r_istore (lv' := [some (.ref 49), some (.int p0), some (.int p1), some (.int z3_25), some (.int z4_25), some (.int xu4)]) d_Mo_findCounts_35 (by decide) rfl ?_
      obtain ⟨ju5, hju5, hf⟩ := lt_ex hf
      have Kju5 : ∀ (xu6 : Int32) (Mu7 : Mm), ju5 xu6 Mu7 = some ru → SW G 1 c_Mo_findCounts R_Mo 6 none (none, ru) Mu7 82 [some (.ref 49), some (.int p0), some (.int p1), some (.int xu6), some (.int z4_25), none] [] := by
        intro xu6 Mu7 hf
        rw [hju5] at hf
        obtain ⟨xu8, hxu8⟩ : ∃ y : Int32, y = z4_25 + 1 := ⟨_, rfl⟩
        replace hf := lt_of hxu8 hf
        refine r_iinc (lv' := [some (.ref 49), some (.int p0), some (.int p1), some (.int xu6), some (.int xu8), none]) d_Mo_findCounts_82 rfl (by rw [hxu8]; rfl) (by decide) rfl ?_
        refine r_goto 25 d_Mo_findCounts_85 (by decide) ?_
        exact ih xu6 xu8 Mu7  hf
      exact l_Mo_findCounts_37 (G := G) (ru := ru) Nu p0 p1 z4_25 ju5  Kju5 Nu z3_25 xu4 M_25 hf
theorem l_Mo_findCounts_2 {G : GT} {ru : Mm} (Nu : Nat) (p0 : Int32) (ju1 : Mm → Option (Mm)) (p1 : Int32)  (Kju1 : ∀ (Mw : Mm), ju1 Mw = some ru → SW G 1 c_Mo_findCounts R_Mo 6 none (none, ru) Mw 20 [some (.ref 49), some (.int p0), some (.int p1), none, none, none] [])  : ∀ (nu : Nat) (z3_2 : Int32) (M_2 : Mm), L_Mo_findCounts_2 Nu p0 ju1 nu z3_2 M_2 = some ru → SW G 1 c_Mo_findCounts R_Mo 6 none (none, ru) M_2 2 [some (.ref 49), some (.int p0), some (.int p1), some (.int z3_2), none, none] []
  | 0, _, _, hf => by cases hf
  | nu + 1, z3_2, M_2, hf => by
    have ih := l_Mo_findCounts_2 (G := G) (ru := ru) Nu p0 ju1 p1  Kju1 nu
    rw [L_Mo_findCounts_2] at hf
    refine r_iload_n 3 d_Mo_findCounts_2 rfl rfl ?_
    refine r_iload_n 1 d_Mo_findCounts_3 rfl rfl ?_
    refine r_icmp_ge 20 d_Mo_findCounts_4 (by decide) (fun qu18 => ?_) (fun qu18 => ?_)
    · replace hf := ip qu18 hf
      refine r_weak [3] (lv' := [some (.ref 49), some (.int p0), some (.int p1), none, none, none]) rfl ?_
      exact Kju1 M_2  hf
    · replace hf := im qu18 hf
      refine r_aload_n 0 d_Mo_findCounts_7 rfl rfl ?_
      refine r_getR 51 d_Mo_findCounts_8 fl_Mo_20 sh_49 rfl rf_49_8 ?_
      refine r_iload_n 3 d_Mo_findCounts_11 rfl rfl ?_
      refine r_iconst (v := 0) d_Mo_findCounts_12 (by decide) ?_
      obtain ⟨qu19, hf⟩ := ck hf
      refine r_iast d_Mo_findCounts_13 sh_51 qu19 ?_
      refine nmM (fun Mu20 hMu20 => ?_)
      replace hf := lt_of hMu20 hf
      obtain ⟨xu21, hxu21⟩ : ∃ y : Int32, y = z3_2 + 1 := ⟨_, rfl⟩
      replace hf := lt_of hxu21 hf
      refine r_iinc (lv' := [some (.ref 49), some (.int p0), some (.int p1), some (.int xu21), none, none]) d_Mo_findCounts_14 rfl (by rw [hxu21]; rfl) (by decide) rfl ?_
      refine r_goto 2 d_Mo_findCounts_17 (by decide) ?_
      exact ih xu21 Mu20  hf
theorem cm_Mo_findCounts {G : GT} {Nu : Nat} {p0 : Int32} {p1 : Int32} {Mu : Mm}  {ru : Mm}  (hf : f_Mo_findCounts Nu p0 p1 Mu = some ru) : CM G 1 y_Mo_findCounts c_Mo_findCounts 6 none (none, ru) Mu [.ref 49, .int p0, .int p1] := by
  unfold f_Mo_findCounts at hf
  refine CM.of (own := R_Mo) (lv := [some (.ref 49), some (.int p0), some (.int p1), none, none, none]) (by decide) rfl (Nat.le_of_ble_eq_true rfl) rfl ?_
  refine r_iconst (v := 0) d_Mo_findCounts_0 (by decide) ?_
  refine r_istore_n (lv' := [some (.ref 49), some (.int p0), some (.int p1), some (.int 0), none, none]) 3 d_Mo_findCounts_1 rfl (by decide) rfl ?_
  obtain ⟨ju1, hju1, hf⟩ := lt_ex hf
  have Kju1 : ∀ (Mu2 : Mm), ju1 Mu2 = some ru → SW G 1 c_Mo_findCounts R_Mo 6 none (none, ru) Mu2 20 [some (.ref 49), some (.int p0), some (.int p1), none, none, none] [] := by
    intro Mu2 hf
    rw [hju1] at hf
    refine r_iconst (v := 0) d_Mo_findCounts_20 (by decide) ?_
    refine r_istore_n (lv' := [some (.ref 49), some (.int p0), some (.int p1), some (.int 0), none, none]) 3 d_Mo_findCounts_21 rfl (by decide) rfl ?_
    refine r_iconst (v := 0) d_Mo_findCounts_22 (by decide) ?_
    refine r_istore (lv' := [some (.ref 49), some (.int p0), some (.int p1), some (.int 0), some (.int 0), none]) d_Mo_findCounts_23 (by decide) rfl ?_
    exact l_Mo_findCounts_25 (G := G) (ru := ru) Nu p0 p1   Nu 0 0 Mu2 hf
  exact l_Mo_findCounts_2 (G := G) (ru := ru) Nu p0 ju1 p1  Kju1 Nu 0 Mu hf
def L_Mo_alikeIn_23 (Nu : Nat) (p0 : Int32) (vu1 : Mm) (z4_11 : Int32) (ju4 : Int32 → Option (Int32 × Mm)) : Nat → Int32 → Int32 → Option (Int32 × Mm)
  | 0, _, _ => none
  | nu + 1, z3_23, z5_23 => if p0 ≤ z5_23 then ju4 z3_23 else if inb z4_11 8 = true then if inb z5_23 8 = true then lt (fun (xu11 : Int32) => lt (z3_23 + xu11) fun xu12 => lt (z5_23 + 1) fun xu13 => L_Mo_alikeIn_23 Nu p0 vu1 z4_11 ju4 nu xu12 xu13) fun ju10 => if (vu1.1 51 (Int32.toNatClampNeg z4_11)) = (vu1.1 51 (Int32.toNatClampNeg z5_23)) then ju10 1 else ju10 0 else none else none
def L_Mo_alikeIn_11 (Nu : Nat) (p0 : Int32) (vu1 : Mm) : Nat → Int32 → Int32 → Option (Int32 × Mm)
  | 0, _, _ => none
  | nu + 1, z3_11, z4_11 => if p0 ≤ z4_11 then some (z3_11, vu1) else lt (z4_11 + 1) fun xu3 => lt (fun (xu5 : Int32) => lt (z4_11 + 1) fun xu6 => L_Mo_alikeIn_11 Nu p0 vu1 nu xu5 xu6) fun ju4 => L_Mo_alikeIn_23 Nu p0 vu1 z4_11 ju4 Nu z3_11 xu3
def f_Mo_alikeIn (Nu : Nat) (p0 : Int32) (p1 : Int32) (Mu : Mm) : Option (Int32 × Mm) := (f_Mo_findCounts Nu p0 p1 Mu).bind fun vu1 => L_Mo_alikeIn_11 Nu p0 vu1 Nu 0 0
theorem l_Mo_alikeIn_23 {G : GT} {ru : Int32 × Mm} (Nu : Nat) (p0 : Int32) (vu1 : Mm) (z4_11 : Int32) (ju4 : Int32 → Option (Int32 × Mm))  (Kju4 : ∀ (w3 : Int32), ju4 w3 = some ru → SW G 2 c_Mo_alikeIn R_Mo 6 (some .int) (some (.int ru.1), ru.2) vu1 60 [some (.ref 49), some (.int p0), none, some (.int w3), some (.int z4_11), none] [])  : ∀ (nu : Nat) (z3_23 : Int32) (z5_23 : Int32), L_Mo_alikeIn_23 Nu p0 vu1 z4_11 ju4 nu z3_23 z5_23 = some ru → SW G 2 c_Mo_alikeIn R_Mo 6 (some .int) (some (.int ru.1), ru.2) vu1 23 [some (.ref 49), some (.int p0), none, some (.int z3_23), some (.int z4_11), some (.int z5_23)] []
  | 0, _, _, hf => by cases hf
  | nu + 1, z3_23, z5_23, hf => by
    have ih := l_Mo_alikeIn_23 (G := G) (ru := ru) Nu p0 vu1 z4_11 ju4  Kju4 nu
    rw [L_Mo_alikeIn_23] at hf
    refine r_iload d_Mo_alikeIn_23 rfl ?_
    refine r_iload_n 1 d_Mo_alikeIn_25 rfl rfl ?_
    refine r_icmp_ge 60 d_Mo_alikeIn_26 (by decide) (fun qu7 => ?_) (fun qu7 => ?_)
    · replace hf := ip qu7 hf
      refine r_weak [5] (lv' := [some (.ref 49), some (.int p0), none, some (.int z3_23), some (.int z4_11), none]) rfl ?_
      exact Kju4 z3_23  hf
    · replace hf := im qu7 hf
      refine r_iload_n 3 d_Mo_alikeIn_29 rfl rfl ?_
      refine r_aload_n 0 d_Mo_alikeIn_30 rfl rfl ?_
      refine r_getR 51 d_Mo_alikeIn_31 fl_Mo_20 sh_49 rfl rf_49_8 ?_
      refine r_iload d_Mo_alikeIn_34 rfl ?_
      obtain ⟨qu8, hf⟩ := ck hf
      refine r_iald d_Mo_alikeIn_36 sh_51 qu8 ?_
      refine r_aload_n 0 d_Mo_alikeIn_37 rfl rfl ?_
      refine r_getR 51 d_Mo_alikeIn_38 fl_Mo_20 sh_49 rfl rf_49_8 ?_
      refine r_iload d_Mo_alikeIn_41 rfl ?_
      obtain ⟨qu9, hf⟩ := ck hf
      refine r_iald d_Mo_alikeIn_43 sh_51 qu9 ?_
      obtain ⟨ju10, hju10, hf⟩ := lt_ex hf
      have Kju10 : ∀ (xu11 : Int32), ju10 xu11 = some ru → SW G 2 c_Mo_alikeIn R_Mo 6 (some .int) (some (.int ru.1), ru.2) vu1 52 [some (.ref 49), some (.int p0), none, none, some (.int z4_11), some (.int z5_23)] [.int xu11, .int z3_23] := by
        intro xu11 hf
        rw [hju10] at hf
        refine r_iadd d_Mo_alikeIn_52 ?_
        refine nmI (fun xu12 hxu12 => ?_)
        replace hf := lt_of hxu12 hf
        refine r_istore_n (lv' := [some (.ref 49), some (.int p0), none, some (.int xu12), some (.int z4_11), some (.int z5_23)]) 3 d_Mo_alikeIn_53 rfl (by decide) rfl ?_
        obtain ⟨xu13, hxu13⟩ : ∃ y : Int32, y = z5_23 + 1 := ⟨_, rfl⟩
        replace hf := lt_of hxu13 hf
        refine r_iinc (lv' := [some (.ref 49), some (.int p0), none, some (.int xu12), some (.int z4_11), some (.int xu13)]) d_Mo_alikeIn_54 rfl (by rw [hxu13]; rfl) (by decide) rfl ?_
        refine r_goto 23 d_Mo_alikeIn_57 (by decide) ?_
        exact ih xu12 xu13  hf
      refine r_icmp_ne 51 d_Mo_alikeIn_44 (by decide) (fun qu14 => ?_) (fun qu14 => ?_)
      · replace hf := im qu14 hf
        refine r_iconst (v := 0) d_Mo_alikeIn_51 (by decide) ?_
        refine r_weak [3] (lv' := [some (.ref 49), some (.int p0), none, none, some (.int z4_11), some (.int z5_23)]) rfl ?_
        exact Kju10 0  hf
      · replace hf := ip qu14 hf
        refine r_iconst (v := 1) d_Mo_alikeIn_47 (by decide) ?_
        refine r_goto 52 d_Mo_alikeIn_48 (by decide) ?_
        refine r_weak [3] (lv' := [some (.ref 49), some (.int p0), none, none, some (.int z4_11), some (.int z5_23)]) rfl ?_
        exact Kju10 1  hf
theorem l_Mo_alikeIn_11 {G : GT} {ru : Int32 × Mm} (Nu : Nat) (p0 : Int32) (vu1 : Mm)    : ∀ (nu : Nat) (z3_11 : Int32) (z4_11 : Int32), L_Mo_alikeIn_11 Nu p0 vu1 nu z3_11 z4_11 = some ru → SW G 2 c_Mo_alikeIn R_Mo 6 (some .int) (some (.int ru.1), ru.2) vu1 11 [some (.ref 49), some (.int p0), none, some (.int z3_11), some (.int z4_11), none] []
  | 0, _, _, hf => by cases hf
  | nu + 1, z3_11, z4_11, hf => by
    have ih := l_Mo_alikeIn_11 (G := G) (ru := ru) Nu p0 vu1   nu
    rw [L_Mo_alikeIn_11] at hf
    refine r_iload d_Mo_alikeIn_11 rfl ?_
    refine r_iload_n 1 d_Mo_alikeIn_13 rfl rfl ?_
    refine r_icmp_ge 66 d_Mo_alikeIn_14 (by decide) (fun qu2 => ?_) (fun qu2 => ?_)
    · replace hf := ip qu2 hf
      refine r_iload_n 3 d_Mo_alikeIn_66 rfl rfl ?_
      obtain rfl := Option.some.inj hf
      exact r_ireturn d_Mo_alikeIn_67 rfl rfl
    · replace hf := im qu2 hf
      refine r_iload d_Mo_alikeIn_17 rfl ?_
      refine r_iconst (v := 1) d_Mo_alikeIn_19 (by decide) ?_
      refine r_iadd d_Mo_alikeIn_20 ?_
      refine nmI (fun xu3 hxu3 => ?_)
      replace hf := lt_of hxu3 hf
      refine r_istore (lv' := [some (.ref 49), some (.int p0), none, some (.int z3_11), some (.int z4_11), some (.int xu3)]) d_Mo_alikeIn_21 (by decide) rfl ?_
      obtain ⟨ju4, hju4, hf⟩ := lt_ex hf
      have Kju4 : ∀ (xu5 : Int32), ju4 xu5 = some ru → SW G 2 c_Mo_alikeIn R_Mo 6 (some .int) (some (.int ru.1), ru.2) vu1 60 [some (.ref 49), some (.int p0), none, some (.int xu5), some (.int z4_11), none] [] := by
        intro xu5 hf
        rw [hju4] at hf
        obtain ⟨xu6, hxu6⟩ : ∃ y : Int32, y = z4_11 + 1 := ⟨_, rfl⟩
        replace hf := lt_of hxu6 hf
        refine r_iinc (lv' := [some (.ref 49), some (.int p0), none, some (.int xu5), some (.int xu6), none]) d_Mo_alikeIn_60 rfl (by rw [hxu6]; rfl) (by decide) rfl ?_
        refine r_goto 11 d_Mo_alikeIn_63 (by decide) ?_
        exact ih xu5 xu6  hf
      exact l_Mo_alikeIn_23 (G := G) (ru := ru) Nu p0 vu1 z4_11 ju4  Kju4 Nu z3_11 xu3 hf
theorem cm_Mo_alikeIn {G : GT} {Nu : Nat} {p0 : Int32} {p1 : Int32} {Mu : Mm}  {ru : Int32 × Mm}  (hf : f_Mo_alikeIn Nu p0 p1 Mu = some ru) : CM G 2 y_Mo_alikeIn c_Mo_alikeIn 6 (some .int) (some (.int ru.1), ru.2) Mu [.ref 49, .int p0, .int p1] := by
  unfold f_Mo_alikeIn at hf
  refine CM.of (own := R_Mo) (lv := [some (.ref 49), some (.int p0), some (.int p1), none, none, none]) (by decide) rfl (Nat.le_of_ble_eq_true rfl) rfl ?_
  refine r_aload_n 0 d_Mo_alikeIn_0 rfl rfl ?_
  refine r_iload_n 1 d_Mo_alikeIn_1 rfl rfl ?_
  refine r_iload_n 2 d_Mo_alikeIn_2 rfl rfl ?_
  obtain ⟨vu1, evu1, hf⟩ := bnd hf
  refine r_callV [.int p0, .int p1] d_Mo_alikeIn_3 lk_Mo_82 sh_49 (cm_Mo_findCounts evu1) (by decide) rfl rfl (Nat.le_of_ble_eq_true rfl) ?_
  refine r_iconst (v := 0) d_Mo_alikeIn_6 (by decide) ?_
  refine r_istore_n (lv' := [some (.ref 49), some (.int p0), some (.int p1), some (.int 0), none, none]) 3 d_Mo_alikeIn_7 rfl (by decide) rfl ?_
  refine r_iconst (v := 0) d_Mo_alikeIn_8 (by decide) ?_
  refine r_istore (lv' := [some (.ref 49), some (.int p0), some (.int p1), some (.int 0), some (.int 0), none]) d_Mo_alikeIn_9 (by decide) rfl ?_
  refine r_weak [2] (lv' := [some (.ref 49), some (.int p0), none, some (.int 0), some (.int 0), none]) rfl ?_
  exact l_Mo_alikeIn_11 (G := G) (ru := ru) Nu p0 vu1   Nu 0 0 hf
def L_Mo_tellCounts_2 (Nu : Nat) : Nat → Int32 → Mm → Option (Mm)
  | 0, _, _ => none
  | nu + 1, z1_2, M_2 => if 8 ≤ z1_2 then some M_2 else lt (fun (xu3 : Int32) => if inb z1_2 8 = true then lt (si M_2 50 (Int32.toNatClampNeg z1_2) xu3) fun Mu5 => lt (z1_2 + 1) fun xu6 => L_Mo_tellCounts_2 Nu nu xu6 Mu5 else none) fun ju2 => if (M_2.1 49 0) ≤ z1_2 then ju2 0 else (f_Mo_countIn Nu (M_2.1 49 0) (M_2.1 49 1) z1_2).bind fun vu8 => ju2 vu8
def f_Mo_tellCounts (Nu : Nat) (Mu : Mm) : Option (Mm) := L_Mo_tellCounts_2 Nu Nu 0 Mu
theorem l_Mo_tellCounts_2 {G : GT} {ru : Mm} (Nu : Nat)    : ∀ (nu : Nat) (z1_2 : Int32) (M_2 : Mm), L_Mo_tellCounts_2 Nu nu z1_2 M_2 = some ru → SW G 3 c_Mo_tellCounts R_Mo 2 none (none, ru) M_2 2 [some (.ref 49), some (.int z1_2)] []
  | 0, _, _, hf => by cases hf
  | nu + 1, z1_2, M_2, hf => by
    have ih := l_Mo_tellCounts_2 (G := G) (ru := ru) Nu   nu
    rw [L_Mo_tellCounts_2] at hf
    refine r_iload_n 1 d_Mo_tellCounts_2 rfl rfl ?_
    refine r_bipush (v := 8) d_Mo_tellCounts_3 (by decide) ?_
    refine r_icmp_ge 44 d_Mo_tellCounts_5 (by decide) (fun qu1 => ?_) (fun qu1 => ?_)
    · replace hf := ip qu1 hf
      obtain rfl := Option.some.inj hf
      exact r_return d_Mo_tellCounts_44 rfl rfl
    · replace hf := im qu1 hf
      refine r_aload_n 0 d_Mo_tellCounts_8 rfl rfl ?_
      refine r_getR 50 d_Mo_tellCounts_9 fl_Mo_16 sh_49 rfl rf_49_6 ?_
      refine r_iload_n 1 d_Mo_tellCounts_12 rfl rfl ?_
      refine r_iload_n 1 d_Mo_tellCounts_13 rfl rfl ?_
      refine r_aload_n 0 d_Mo_tellCounts_14 rfl rfl ?_
      refine r_getI d_Mo_tellCounts_15 fl_Mo_63 sh_49 (by decide) ?_
      obtain ⟨ju2, hju2, hf⟩ := lt_ex hf
      have Kju2 : ∀ (xu3 : Int32), ju2 xu3 = some ru → SW G 3 c_Mo_tellCounts R_Mo 2 none (none, ru) M_2 37 [some (.ref 49), some (.int z1_2)] [.int xu3, .int z1_2, .ref 50] := by
        intro xu3 hf
        rw [hju2] at hf
        obtain ⟨qu4, hf⟩ := ck hf
        refine r_iast d_Mo_tellCounts_37 sh_50 qu4 ?_
        refine nmM (fun Mu5 hMu5 => ?_)
        replace hf := lt_of hMu5 hf
        obtain ⟨xu6, hxu6⟩ : ∃ y : Int32, y = z1_2 + 1 := ⟨_, rfl⟩
        replace hf := lt_of hxu6 hf
        refine r_iinc (lv' := [some (.ref 49), some (.int xu6)]) d_Mo_tellCounts_38 rfl (by rw [hxu6]; rfl) (by decide) rfl ?_
        refine r_goto 2 d_Mo_tellCounts_41 (by decide) ?_
        exact ih xu6 Mu5  hf
      refine r_icmp_ge 36 d_Mo_tellCounts_18 (by decide) (fun qu7 => ?_) (fun qu7 => ?_)
      · replace hf := ip qu7 hf
        refine r_iconst (v := 0) d_Mo_tellCounts_36 (by decide) ?_
        exact Kju2 0  hf
      · replace hf := im qu7 hf
        refine r_aload_n 0 d_Mo_tellCounts_21 rfl rfl ?_
        refine r_getI d_Mo_tellCounts_22 fl_Mo_63 sh_49 (by decide) ?_
        refine r_aload_n 0 d_Mo_tellCounts_25 rfl rfl ?_
        refine r_getI d_Mo_tellCounts_26 fl_Mo_86 sh_49 (by decide) ?_
        refine r_iload_n 1 d_Mo_tellCounts_29 rfl rfl ?_
        obtain ⟨vu8, evu8, hf⟩ := bnd hf
        refine r_callS [.int (M_2.1 49 0), .int (M_2.1 49 1), .int z1_2] d_Mo_tellCounts_30 lk_Mo_89 (cm_Mo_countIn evu8) (by decide) rfl rfl (Nat.le_of_ble_eq_true rfl) ?_
        refine r_goto 37 d_Mo_tellCounts_33 (by decide) ?_
        exact Kju2 vu8  hf
theorem cm_Mo_tellCounts {G : GT} {Nu : Nat} {Mu : Mm}  {ru : Mm}  (hf : f_Mo_tellCounts Nu Mu = some ru) : CM G 3 y_Mo_tellCounts c_Mo_tellCounts 2 none (none, ru) Mu [.ref 49] := by
  unfold f_Mo_tellCounts at hf
  refine CM.of (own := R_Mo) (lv := [some (.ref 49), none]) (by decide) rfl (Nat.le_of_ble_eq_true rfl) rfl ?_
  refine r_iconst (v := 0) d_Mo_tellCounts_0 (by decide) ?_
  refine r_istore_n (lv' := [some (.ref 49), some (.int 0)]) 1 d_Mo_tellCounts_1 rfl (by decide) rfl ?_
  exact l_Mo_tellCounts_2 (G := G) (ru := ru) Nu   Nu 0 Mu hf
def L_Mo_feed_35 (Nu : Nat) (p1 : Int64) : Nat → Int32 → Mm → Option (Int32 × Mm)
  | 0, _, _ => none
  | nu + 1, z4_35, M_35 => if z4_35 < 0 then some (M_35.1 49 10, M_35) else if inb (M_35.1 49 10) 400 = true then lt (si M_35 52 (Int32.toNatClampNeg (M_35.1 49 10)) (((p1 >>> (((8 : Int32) * z4_35).toInt64 &&& 63)) &&& 255).toInt32)) fun Mu6 => lt (si Mu6 49 10 ((Mu6.1 49 10) + 1)) fun Mu7 => lt (z4_35 + (-1)) fun xu8 => L_Mo_feed_35 Nu p1 nu xu8 Mu7 else none
def f_Mo_feed (Nu : Nat) (p0 : Int32) (p1 : Int64) (Mu : Mm) : Option (Int32 × Mm) := if (f_Mo_in p0.toInt64 1 8) = 0 then some ((-1000000002), Mu) else if ((Mu.1 49 10) + p0) ≤ 400 then lt (p0 - 1) fun xu3 => L_Mo_feed_35 Nu p1 Nu xu3 Mu else some ((-1000000004), Mu)
theorem l_Mo_feed_35 {G : GT} {ru : Int32 × Mm} (Nu : Nat) (p1 : Int64)    : ∀ (nu : Nat) (z4_35 : Int32) (M_35 : Mm), L_Mo_feed_35 Nu p1 nu z4_35 M_35 = some ru → SW G 2 c_Mo_feed R_Mo 5 (some .int) (some (.int ru.1), ru.2) M_35 35 [some (.ref 49), none, some (.long p1), none, some (.int z4_35)] []
  | 0, _, _, hf => by cases hf
  | nu + 1, z4_35, M_35, hf => by
    have ih := l_Mo_feed_35 (G := G) (ru := ru) Nu p1   nu
    rw [L_Mo_feed_35] at hf
    refine r_iload d_Mo_feed_35 rfl ?_
    refine r_if_lt 77 d_Mo_feed_37 (by decide) (fun qu4 => ?_) (fun qu4 => ?_)
    · replace hf := ip qu4 hf
      refine r_aload_n 0 d_Mo_feed_77 rfl rfl ?_
      refine r_getI d_Mo_feed_78 fl_Mo_95 sh_49 (by decide) ?_
      obtain rfl := Option.some.inj hf
      exact r_ireturn d_Mo_feed_81 rfl rfl
    · replace hf := im qu4 hf
      refine r_aload_n 0 d_Mo_feed_40 rfl rfl ?_
      refine r_getR 52 d_Mo_feed_41 fl_Mo_23 sh_49 rfl rf_49_9 ?_
      refine r_aload_n 0 d_Mo_feed_44 rfl rfl ?_
      refine r_getI d_Mo_feed_45 fl_Mo_95 sh_49 (by decide) ?_
      refine r_lload_n 2 d_Mo_feed_48 rfl rfl ?_
      refine r_bipush (v := 8) d_Mo_feed_49 (by decide) ?_
      refine r_iload d_Mo_feed_51 rfl ?_
      refine r_imul d_Mo_feed_53 ?_
      refine r_lshr d_Mo_feed_54 ?_
      refine r_ldc2_w d_Mo_feed_55 k_Mo_99 ?_
      refine r_land d_Mo_feed_58 ?_
      refine r_l2i d_Mo_feed_59 ?_
      obtain ⟨qu5, hf⟩ := ck hf
      refine r_iast d_Mo_feed_60 sh_52 qu5 ?_
      refine nmM (fun Mu6 hMu6 => ?_)
      replace hf := lt_of hMu6 hf
      refine r_aload_n 0 d_Mo_feed_61 rfl rfl ?_
      refine r_dup d_Mo_feed_62 rfl ?_
      refine r_getI d_Mo_feed_63 fl_Mo_95 sh_49 (by decide) ?_
      refine r_iconst (v := 1) d_Mo_feed_66 (by decide) ?_
      refine r_iadd d_Mo_feed_67 ?_
      refine r_putI d_Mo_feed_68 fl_Mo_95 sh_49 (Or.inl rfl) rfl ?_
      refine nmM (fun Mu7 hMu7 => ?_)
      replace hf := lt_of hMu7 hf
      obtain ⟨xu8, hxu8⟩ : ∃ y : Int32, y = z4_35 + (-1) := ⟨_, rfl⟩
      replace hf := lt_of hxu8 hf
      refine r_iinc (lv' := [some (.ref 49), none, some (.long p1), none, some (.int xu8)]) d_Mo_feed_71 rfl (by rw [hxu8]; rfl) (by decide) rfl ?_
      refine r_goto 35 d_Mo_feed_74 (by decide) ?_
      exact ih xu8 Mu7  hf
theorem cm_Mo_feed {G : GT} {Nu : Nat} {p0 : Int32} {p1 : Int64} {Mu : Mm}  {ru : Int32 × Mm}  (hf : f_Mo_feed Nu p0 p1 Mu = some ru) : CM G 2 y_Mo_feed c_Mo_feed 5 (some .int) (some (.int ru.1), ru.2) Mu [.ref 49, .int p0, .long p1] := by
  unfold f_Mo_feed at hf
  refine CM.of (own := R_Mo) (lv := [some (.ref 49), some (.int p0), some (.long p1), none, none]) (by decide) rfl (Nat.le_of_ble_eq_true rfl) rfl ?_
  refine r_iload_n 1 d_Mo_feed_0 rfl rfl ?_
  refine r_i2l d_Mo_feed_1 ?_
  refine r_lconst (v := 1) d_Mo_feed_2 (by decide) ?_
  refine r_ldc2_w d_Mo_feed_3 k_Mo_92 ?_
  refine r_callS [.long p0.toInt64, .long 1, .long 8] d_Mo_feed_6 lk_Mo_66 (cm_Mo_in p0.toInt64 1 8 Mu) (by decide) rfl rfl (Nat.le_of_ble_eq_true rfl) ?_
  refine r_if_ne 15 d_Mo_feed_9 (by decide) (fun qu1 => ?_) (fun qu1 => ?_)
  · replace hf := im qu1 hf
    refine r_aload_n 0 d_Mo_feed_15 rfl rfl ?_
    refine r_getI d_Mo_feed_16 fl_Mo_95 sh_49 (by decide) ?_
    refine r_iload_n 1 d_Mo_feed_19 rfl rfl ?_
    refine r_iadd d_Mo_feed_20 ?_
    refine r_sipush (v := 400) d_Mo_feed_21 (by decide) ?_
    refine r_icmp_le 30 d_Mo_feed_24 (by decide) (fun qu2 => ?_) (fun qu2 => ?_)
    · replace hf := ip qu2 hf
      refine r_iload_n 1 d_Mo_feed_30 rfl rfl ?_
      refine r_iconst (v := 1) d_Mo_feed_31 (by decide) ?_
      refine r_isub d_Mo_feed_32 ?_
      refine nmI (fun xu3 hxu3 => ?_)
      replace hf := lt_of hxu3 hf
      refine r_istore (lv' := [some (.ref 49), some (.int p0), some (.long p1), none, some (.int xu3)]) d_Mo_feed_33 (by decide) rfl ?_
      refine r_weak [1] (lv' := [some (.ref 49), none, some (.long p1), none, some (.int xu3)]) rfl ?_
      exact l_Mo_feed_35 (G := G) (ru := ru) Nu p1   Nu xu3 Mu hf
    · replace hf := im qu2 hf
      refine r_ldc d_Mo_feed_27 k_Mo_98 ?_
      obtain rfl := Option.some.inj hf
      exact r_ireturn d_Mo_feed_29 rfl rfl
  · replace hf := ip qu1 hf
    refine r_ldc d_Mo_feed_12 k_Mo_94 ?_
    obtain rfl := Option.some.inj hf
    exact r_ireturn d_Mo_feed_14 rfl rfl
def L_Mo_here_0 (Nu : Nat) (ju1 : Mm → Option (Int32 × Mm)) : Nat → Mm → Option (Int32 × Mm)
  | 0, _ => none
  | nu + 1, M_0 => if (M_0.1 49 10) ≤ (M_0.1 49 12) then ju1 M_0 else if inb (M_0.1 49 12) 400 = true then if (M_0.1 52 (Int32.toNatClampNeg (M_0.1 49 12))) = 32 then lt (si M_0 49 12 ((M_0.1 49 12) + 1)) fun Mu8 => L_Mo_here_0 Nu ju1 nu Mu8 else ju1 M_0 else none
def f_Mo_here (Nu : Nat) (Mu : Mm) : Option (Int32 × Mm) := lt (fun (Mu2 : Mm) => if (Mu2.1 49 10) ≤ (Mu2.1 49 12) then some ((-1), Mu2) else if inb (Mu2.1 49 12) 400 = true then some (Mu2.1 52 (Int32.toNatClampNeg (Mu2.1 49 12)), Mu2) else none) fun ju1 => L_Mo_here_0 Nu ju1 Nu Mu
theorem l_Mo_here_0 {G : GT} {ru : Int32 × Mm} (Nu : Nat) (ju1 : Mm → Option (Int32 × Mm))  (Kju1 : ∀ (Mw : Mm), ju1 Mw = some ru → SW G 1 c_Mo_here R_Mo 1 (some .int) (some (.int ru.1), ru.2) Mw 38 [some (.ref 49)] [])  : ∀ (nu : Nat) (M_0 : Mm), L_Mo_here_0 Nu ju1 nu M_0 = some ru → SW G 1 c_Mo_here R_Mo 1 (some .int) (some (.int ru.1), ru.2) M_0 0 [some (.ref 49)] []
  | 0, _, hf => by cases hf
  | nu + 1, M_0, hf => by
    have ih := l_Mo_here_0 (G := G) (ru := ru) Nu ju1  Kju1 nu
    rw [L_Mo_here_0] at hf
    refine r_aload_n 0 d_Mo_here_0 rfl rfl ?_
    refine r_getI d_Mo_here_1 fl_Mo_101 sh_49 (by decide) ?_
    refine r_aload_n 0 d_Mo_here_4 rfl rfl ?_
    refine r_getI d_Mo_here_5 fl_Mo_95 sh_49 (by decide) ?_
    refine r_icmp_ge 38 d_Mo_here_8 (by decide) (fun qu5 => ?_) (fun qu5 => ?_)
    · replace hf := ip qu5 hf
      exact Kju1 M_0  hf
    · replace hf := im qu5 hf
      refine r_aload_n 0 d_Mo_here_11 rfl rfl ?_
      refine r_getR 52 d_Mo_here_12 fl_Mo_23 sh_49 rfl rf_49_9 ?_
      refine r_aload_n 0 d_Mo_here_15 rfl rfl ?_
      refine r_getI d_Mo_here_16 fl_Mo_101 sh_49 (by decide) ?_
      obtain ⟨qu6, hf⟩ := ck hf
      refine r_iald d_Mo_here_19 sh_52 qu6 ?_
      refine r_bipush (v := 32) d_Mo_here_20 (by decide) ?_
      refine r_icmp_ne 38 d_Mo_here_22 (by decide) (fun qu7 => ?_) (fun qu7 => ?_)
      · replace hf := im qu7 hf
        exact Kju1 M_0  hf
      · replace hf := ip qu7 hf
        refine r_aload_n 0 d_Mo_here_25 rfl rfl ?_
        refine r_dup d_Mo_here_26 rfl ?_
        refine r_getI d_Mo_here_27 fl_Mo_101 sh_49 (by decide) ?_
        refine r_iconst (v := 1) d_Mo_here_30 (by decide) ?_
        refine r_iadd d_Mo_here_31 ?_
        refine r_putI d_Mo_here_32 fl_Mo_101 sh_49 (Or.inl rfl) rfl ?_
        refine nmM (fun Mu8 hMu8 => ?_)
        replace hf := lt_of hMu8 hf
        refine r_goto 0 d_Mo_here_35 (by decide) ?_
        exact ih Mu8  hf
theorem cm_Mo_here {G : GT} {Nu : Nat} {Mu : Mm}  {ru : Int32 × Mm}  (hf : f_Mo_here Nu Mu = some ru) : CM G 1 y_Mo_here c_Mo_here 1 (some .int) (some (.int ru.1), ru.2) Mu [.ref 49] := by
  unfold f_Mo_here at hf
  refine CM.of (own := R_Mo) (lv := [some (.ref 49)]) (by decide) rfl (Nat.le_of_ble_eq_true rfl) rfl ?_
  obtain ⟨ju1, hju1, hf⟩ := lt_ex hf
  have Kju1 : ∀ (Mu2 : Mm), ju1 Mu2 = some ru → SW G 1 c_Mo_here R_Mo 1 (some .int) (some (.int ru.1), ru.2) Mu2 38 [some (.ref 49)] [] := by
    intro Mu2 hf
    rw [hju1] at hf
    refine r_aload_n 0 d_Mo_here_38 rfl rfl ?_
    refine r_getI d_Mo_here_39 fl_Mo_101 sh_49 (by decide) ?_
    refine r_aload_n 0 d_Mo_here_42 rfl rfl ?_
    refine r_getI d_Mo_here_43 fl_Mo_95 sh_49 (by decide) ?_
    refine r_icmp_ge 61 d_Mo_here_46 (by decide) (fun qu3 => ?_) (fun qu3 => ?_)
    · replace hf := ip qu3 hf
      refine r_iconst (v := (-1)) d_Mo_here_61 (by decide) ?_
      obtain rfl := Option.some.inj hf
      exact r_ireturn d_Mo_here_62 rfl rfl
    · replace hf := im qu3 hf
      refine r_aload_n 0 d_Mo_here_49 rfl rfl ?_
      refine r_getR 52 d_Mo_here_50 fl_Mo_23 sh_49 rfl rf_49_9 ?_
      refine r_aload_n 0 d_Mo_here_53 rfl rfl ?_
      refine r_getI d_Mo_here_54 fl_Mo_101 sh_49 (by decide) ?_
      obtain ⟨qu4, hf⟩ := ck hf
      refine r_iald d_Mo_here_57 sh_52 qu4 ?_
      refine r_goto 62 d_Mo_here_58 (by decide) ?_
      obtain rfl := Option.some.inj hf
      exact r_ireturn d_Mo_here_62 rfl rfl
  exact l_Mo_here_0 (G := G) (ru := ru) Nu ju1  Kju1 Nu Mu hf
def f_Mo_fails (p0 : Int32) (p1 : Int32) (Mu : Mm) : Int32 × Mm := lt (si Mu 49 11 p1) fun Mu1 => (p0, Mu1)
theorem cm_Mo_fails {G : GT} (p0 : Int32) (p1 : Int32) (Mu : Mm)   : CM G 1 y_Mo_fails c_Mo_fails 3 (some .int) (some (.int (f_Mo_fails p0 p1 Mu).1), (f_Mo_fails p0 p1 Mu).2) Mu [.ref 49, .int p0, .int p1] := by
  generalize hf : f_Mo_fails p0 p1 Mu = ru
  unfold f_Mo_fails at hf
  refine CM.of (own := R_Mo) (lv := [some (.ref 49), some (.int p0), some (.int p1)]) (by decide) rfl (Nat.le_of_ble_eq_true rfl) rfl ?_
  refine r_aload_n 0 d_Mo_fails_0 rfl rfl ?_
  refine r_iload_n 2 d_Mo_fails_1 rfl rfl ?_
  refine r_putI d_Mo_fails_2 fl_Mo_26 sh_49 (Or.inl rfl) rfl ?_
  refine nmM (fun Mu1 hMu1 => ?_)
  replace hf := lt_of hMu1 hf
  refine r_iload_n 1 d_Mo_fails_5 rfl rfl ?_
  subst hf
  exact r_ireturn d_Mo_fails_6 rfl rfl
def L_Mo_readWord_18 (Nu : Nat) : Nat → Mm → Option (Mm)
  | 0, _ => none
  | nu + 1, M_18 => if (M_18.1 49 10) ≤ (M_18.1 49 14) then some M_18 else if inb (M_18.1 49 14) 400 = true then if (f_Mo_in ((M_18.1 52 (Int32.toNatClampNeg (M_18.1 49 14))).toInt64) 97 122) = 0 then some M_18 else lt (fun (xu10 : Int64) => lt (sl M_18 49 13 xu10) fun Mu11 => lt (si Mu11 49 14 ((Mu11.1 49 14) + 1)) fun Mu12 => L_Mo_readWord_18 Nu nu Mu12) fun ju9 => if (lg_cmp (M_18.2 49 13) 100000000000000) ≤ 0 then if inb (M_18.1 49 14) 400 = true then ju9 ((((27 : Int64) * (M_18.2 49 13)) + ((M_18.1 52 (Int32.toNatClampNeg (M_18.1 49 14))).toInt64)) - 96) else none else ju9 200000000000000 else none
def f_Mo_readWord (Nu : Nat) (Mu : Mm) : Option (Mm) := (f_Mo_here Nu Mu).bind fun vu1 => lt vu1.1 fun vu2 => lt vu1.2 fun Mu3 => lt (sl Mu3 49 13 0) fun Mu4 => lt (si Mu4 49 14 (Mu4.1 49 12)) fun Mu5 => L_Mo_readWord_18 Nu Nu Mu5
theorem l_Mo_readWord_18 {G : GT} {ru : Mm} (Nu : Nat)    : ∀ (nu : Nat) (M_18 : Mm), L_Mo_readWord_18 Nu nu M_18 = some ru → SW G 2 c_Mo_readWord R_Mo 2 none (none, ru) M_18 18 [some (.ref 49), none] []
  | 0, _, hf => by cases hf
  | nu + 1, M_18, hf => by
    have ih := l_Mo_readWord_18 (G := G) (ru := ru) Nu   nu
    rw [L_Mo_readWord_18] at hf
    refine r_aload_n 0 d_Mo_readWord_18 rfl rfl ?_
    refine r_getI d_Mo_readWord_19 fl_Mo_112 sh_49 (by decide) ?_
    refine r_aload_n 0 d_Mo_readWord_22 rfl rfl ?_
    refine r_getI d_Mo_readWord_23 fl_Mo_95 sh_49 (by decide) ?_
    refine r_icmp_ge 108 d_Mo_readWord_26 (by decide) (fun qu6 => ?_) (fun qu6 => ?_)
    · replace hf := ip qu6 hf
      obtain rfl := Option.some.inj hf
      exact r_return d_Mo_readWord_108 rfl rfl
    · replace hf := im qu6 hf
      refine r_aload_n 0 d_Mo_readWord_29 rfl rfl ?_
      refine r_getR 52 d_Mo_readWord_30 fl_Mo_23 sh_49 rfl rf_49_9 ?_
      refine r_aload_n 0 d_Mo_readWord_33 rfl rfl ?_
      refine r_getI d_Mo_readWord_34 fl_Mo_112 sh_49 (by decide) ?_
      obtain ⟨qu7, hf⟩ := ck hf
      refine r_iald d_Mo_readWord_37 sh_52 qu7 ?_
      refine r_i2l d_Mo_readWord_38 ?_
      refine r_ldc2_w d_Mo_readWord_39 k_Mo_115 ?_
      refine r_ldc2_w d_Mo_readWord_42 k_Mo_117 ?_
      refine r_callS [.long ((M_18.1 52 (Int32.toNatClampNeg (M_18.1 49 14))).toInt64), .long 97, .long 122] d_Mo_readWord_45 lk_Mo_66 (cm_Mo_in ((M_18.1 52 (Int32.toNatClampNeg (M_18.1 49 14))).toInt64) 97 122 M_18) (by decide) rfl rfl (Nat.le_of_ble_eq_true rfl) ?_
      refine r_if_eq 108 d_Mo_readWord_48 (by decide) (fun qu8 => ?_) (fun qu8 => ?_)
      · replace hf := ip qu8 hf
        obtain rfl := Option.some.inj hf
        exact r_return d_Mo_readWord_108 rfl rfl
      · replace hf := im qu8 hf
        refine r_aload_n 0 d_Mo_readWord_51 rfl rfl ?_
        refine r_aload_n 0 d_Mo_readWord_52 rfl rfl ?_
        refine r_getL d_Mo_readWord_53 fl_Mo_108 sh_49 rfl ?_
        refine r_ldc2_w d_Mo_readWord_56 k_Mo_119 ?_
        refine r_lcmp d_Mo_readWord_59 ?_
        obtain ⟨ju9, hju9, hf⟩ := lt_ex hf
        have Kju9 : ∀ (xu10 : Int64), ju9 xu10 = some ru → SW G 2 c_Mo_readWord R_Mo 2 none (none, ru) M_18 92 [some (.ref 49), none] [.long xu10, .ref 49] := by
          intro xu10 hf
          rw [hju9] at hf
          refine r_putL d_Mo_readWord_92 fl_Mo_108 sh_49 rfl rfl ?_
          refine nmM (fun Mu11 hMu11 => ?_)
          replace hf := lt_of hMu11 hf
          refine r_aload_n 0 d_Mo_readWord_95 rfl rfl ?_
          refine r_dup d_Mo_readWord_96 rfl ?_
          refine r_getI d_Mo_readWord_97 fl_Mo_112 sh_49 (by decide) ?_
          refine r_iconst (v := 1) d_Mo_readWord_100 (by decide) ?_
          refine r_iadd d_Mo_readWord_101 ?_
          refine r_putI d_Mo_readWord_102 fl_Mo_112 sh_49 (Or.inl rfl) rfl ?_
          refine nmM (fun Mu12 hMu12 => ?_)
          replace hf := lt_of hMu12 hf
          refine r_goto 18 d_Mo_readWord_105 (by decide) ?_
          exact ih Mu12  hf
        refine r_if_le 69 d_Mo_readWord_60 (by decide) (fun qu13 => ?_) (fun qu13 => ?_)
        · replace hf := ip qu13 hf
          refine r_ldc2_w d_Mo_readWord_69 k_Mo_123 ?_
          refine r_aload_n 0 d_Mo_readWord_72 rfl rfl ?_
          refine r_getL d_Mo_readWord_73 fl_Mo_108 sh_49 rfl ?_
          refine r_lmul d_Mo_readWord_76 ?_
          refine r_aload_n 0 d_Mo_readWord_77 rfl rfl ?_
          refine r_getR 52 d_Mo_readWord_78 fl_Mo_23 sh_49 rfl rf_49_9 ?_
          refine r_aload_n 0 d_Mo_readWord_81 rfl rfl ?_
          refine r_getI d_Mo_readWord_82 fl_Mo_112 sh_49 (by decide) ?_
          obtain ⟨qu14, hf⟩ := ck hf
          refine r_iald d_Mo_readWord_85 sh_52 qu14 ?_
          refine r_i2l d_Mo_readWord_86 ?_
          refine r_ladd d_Mo_readWord_87 ?_
          refine r_ldc2_w d_Mo_readWord_88 k_Mo_125 ?_
          refine r_lsub d_Mo_readWord_91 ?_
          exact Kju9 ((((27 : Int64) * (M_18.2 49 13)) + ((M_18.1 52 (Int32.toNatClampNeg (M_18.1 49 14))).toInt64)) - 96)  hf
        · replace hf := im qu13 hf
          refine r_ldc2_w d_Mo_readWord_63 k_Mo_121 ?_
          refine r_goto 92 d_Mo_readWord_66 (by decide) ?_
          exact Kju9 200000000000000  hf
theorem cm_Mo_readWord {G : GT} {Nu : Nat} {Mu : Mm}  {ru : Mm}  (hf : f_Mo_readWord Nu Mu = some ru) : CM G 2 y_Mo_readWord c_Mo_readWord 2 none (none, ru) Mu [.ref 49] := by
  unfold f_Mo_readWord at hf
  refine CM.of (own := R_Mo) (lv := [some (.ref 49), none]) (by decide) rfl (Nat.le_of_ble_eq_true rfl) rfl ?_
  refine r_aload_n 0 d_Mo_readWord_0 rfl rfl ?_
  obtain ⟨vu1, evu1, hf⟩ := bnd hf
  obtain ⟨vu2, Mu3⟩ := vu1
  replace hf := lt_of (rfl : vu2 = (vu2, Mu3).1) hf
  replace hf := lt_of (rfl : Mu3 = (vu2, Mu3).2) hf
  refine r_callV [] d_Mo_readWord_1 lk_Mo_104 sh_49 (cm_Mo_here evu1) (by decide) rfl rfl (Nat.le_of_ble_eq_true rfl) ?_
  refine r_istore_n (lv' := [some (.ref 49), some (.int vu2)]) 1 d_Mo_readWord_4 rfl (by decide) rfl ?_
  refine r_aload_n 0 d_Mo_readWord_5 rfl rfl ?_
  refine r_lconst (v := 0) d_Mo_readWord_6 (by decide) ?_
  refine r_putL d_Mo_readWord_7 fl_Mo_108 sh_49 rfl rfl ?_
  refine nmM (fun Mu4 hMu4 => ?_)
  replace hf := lt_of hMu4 hf
  refine r_aload_n 0 d_Mo_readWord_10 rfl rfl ?_
  refine r_aload_n 0 d_Mo_readWord_11 rfl rfl ?_
  refine r_getI d_Mo_readWord_12 fl_Mo_101 sh_49 (by decide) ?_
  refine r_putI d_Mo_readWord_15 fl_Mo_112 sh_49 (Or.inl rfl) rfl ?_
  refine nmM (fun Mu5 hMu5 => ?_)
  replace hf := lt_of hMu5 hf
  refine r_weak [1] (lv' := [some (.ref 49), none]) rfl ?_
  exact l_Mo_readWord_18 (G := G) (ru := ru) Nu   Nu Mu5 hf
def f_Mo_code (p0 : Int32) (p1 : Int32) (p2 : Int32) (p3 : Int32) : Int64 := (((27 : Int64) * ((((27 : Int64) * ((((27 : Int64) * (p0.toInt64 - 96)) + p1.toInt64) - 96)) + p2.toInt64) - 96)) + p3.toInt64) - 96
theorem cm_Mo_code {G : GT} (p0 : Int32) (p1 : Int32) (p2 : Int32) (p3 : Int32) (Mu : Mm)  : CM G 1 y_Mo_code c_Mo_code 4 (some .long) (some (.long (f_Mo_code p0 p1 p2 p3)), Mu) Mu [.int p0, .int p1, .int p2, .int p3] := by
  generalize hf : f_Mo_code p0 p1 p2 p3 = ru
  unfold f_Mo_code at hf
  refine CM.of (own := R_Mo) (lv := [some (.int p0), some (.int p1), some (.int p2), some (.int p3)]) (by decide) rfl (Nat.le_of_ble_eq_true rfl) rfl ?_
  refine r_ldc2_w d_Mo_code_0 k_Mo_123 ?_
  refine r_ldc2_w d_Mo_code_3 k_Mo_123 ?_
  refine r_ldc2_w d_Mo_code_6 k_Mo_123 ?_
  refine r_iload_n 0 d_Mo_code_9 rfl rfl ?_
  refine r_i2l d_Mo_code_10 ?_
  refine r_ldc2_w d_Mo_code_11 k_Mo_125 ?_
  refine r_lsub d_Mo_code_14 ?_
  refine r_lmul d_Mo_code_15 ?_
  refine r_iload_n 1 d_Mo_code_16 rfl rfl ?_
  refine r_i2l d_Mo_code_17 ?_
  refine r_ladd d_Mo_code_18 ?_
  refine r_ldc2_w d_Mo_code_19 k_Mo_125 ?_
  refine r_lsub d_Mo_code_22 ?_
  refine r_lmul d_Mo_code_23 ?_
  refine r_iload_n 2 d_Mo_code_24 rfl rfl ?_
  refine r_i2l d_Mo_code_25 ?_
  refine r_ladd d_Mo_code_26 ?_
  refine r_ldc2_w d_Mo_code_27 k_Mo_125 ?_
  refine r_lsub d_Mo_code_30 ?_
  refine r_lmul d_Mo_code_31 ?_
  refine r_iload_n 3 d_Mo_code_32 rfl rfl ?_
  refine r_i2l d_Mo_code_33 ?_
  refine r_ladd d_Mo_code_34 ?_
  refine r_ldc2_w d_Mo_code_35 k_Mo_125 ?_
  refine r_lsub d_Mo_code_38 ?_
  subst hf
  exact r_lreturn d_Mo_code_39 rfl rfl
def f_Mo_longer (p0 : Int64) (p1 : Int32) (p2 : Int32) : Int64 := (((27 : Int64) * ((((27 : Int64) * p0) + p1.toInt64) - 96)) + p2.toInt64) - 96
theorem cm_Mo_longer {G : GT} (p0 : Int64) (p1 : Int32) (p2 : Int32) (Mu : Mm)  : CM G 1 y_Mo_longer c_Mo_longer 4 (some .long) (some (.long (f_Mo_longer p0 p1 p2)), Mu) Mu [.long p0, .int p1, .int p2] := by
  generalize hf : f_Mo_longer p0 p1 p2 = ru
  unfold f_Mo_longer at hf
  refine CM.of (own := R_Mo) (lv := [some (.long p0), none, some (.int p1), some (.int p2)]) (by decide) rfl (Nat.le_of_ble_eq_true rfl) rfl ?_
  refine r_ldc2_w d_Mo_longer_0 k_Mo_123 ?_
  refine r_ldc2_w d_Mo_longer_3 k_Mo_123 ?_
  refine r_lload_n 0 d_Mo_longer_6 rfl rfl ?_
  refine r_lmul d_Mo_longer_7 ?_
  refine r_iload_n 2 d_Mo_longer_8 rfl rfl ?_
  refine r_i2l d_Mo_longer_9 ?_
  refine r_ladd d_Mo_longer_10 ?_
  refine r_ldc2_w d_Mo_longer_11 k_Mo_125 ?_
  refine r_lsub d_Mo_longer_14 ?_
  refine r_lmul d_Mo_longer_15 ?_
  refine r_iload_n 3 d_Mo_longer_16 rfl rfl ?_
  refine r_i2l d_Mo_longer_17 ?_
  refine r_ladd d_Mo_longer_18 ?_
  refine r_ldc2_w d_Mo_longer_19 k_Mo_125 ?_
  refine r_lsub d_Mo_longer_22 ?_
  subst hf
  exact r_lreturn d_Mo_longer_23 rfl rfl
def L_Mo_takeNumber_42 (Nu : Nat) (ju7 : Mm → Option (Int32 × Mm)) : Nat → Mm → Option (Int32 × Mm)
  | 0, _ => none
  | nu + 1, M_42 => if (M_42.1 49 10) ≤ (M_42.1 49 12) then ju7 M_42 else if inb (M_42.1 49 12) 400 = true then if (f_Mo_in ((M_42.1 52 (Int32.toNatClampNeg (M_42.1 49 12))).toInt64) 48 57) = 0 then ju7 M_42 else lt (fun (xu17 : Int32) => lt (si M_42 49 15 xu17) fun Mu18 => lt (si Mu18 49 12 ((Mu18.1 49 12) + 1)) fun Mu19 => L_Mo_takeNumber_42 Nu ju7 nu Mu19) fun ju16 => if (M_42.1 49 15) ≤ 10000 then if inb (M_42.1 49 12) 400 = true then ju16 ((((10 : Int32) * (M_42.1 49 15)) + (M_42.1 52 (Int32.toNatClampNeg (M_42.1 49 12)))) - 48) else none else ju16 (M_42.1 49 15) else none
def f_Mo_takeNumber (Nu : Nat) (p0 : Int32) (p1 : Int32) (Mu : Mm) : Option (Int32 × Mm) := (f_Mo_here Nu Mu).bind fun vu1 => lt vu1.1 fun vu2 => lt vu1.2 fun Mu3 => if (f_Mo_in vu2.toInt64 48 57) = 0 then lt ((f_Mo_fails 1 (Mu3.1 49 12) Mu3).2) fun Mu22 => some ((f_Mo_fails 1 (Mu3.1 49 12) Mu3).1, Mu22) else lt (si Mu3 49 16 (Mu3.1 49 12)) fun Mu5 => lt (si Mu5 49 15 0) fun Mu6 => lt (fun (Mu8 : Mm) => lt (fun (_ : Unit) => lt ((f_Mo_fails 2 (Mu8.1 49 16) Mu8).2) fun Mu10 => some ((f_Mo_fails 2 (Mu8.1 49 16) Mu8).1, Mu10)) fun ju9 => if 3 < ((Mu8.1 49 12) - (Mu8.1 49 16)) then ju9 () else if (f_Mo_in ((Mu8.1 49 15).toInt64) p0.toInt64 p1.toInt64) = 0 then ju9 () else some (0, Mu8)) fun ju7 => L_Mo_takeNumber_42 Nu ju7 Nu Mu6
theorem l_Mo_takeNumber_42 {G : GT} {ru : Int32 × Mm} (Nu : Nat) (ju7 : Mm → Option (Int32 × Mm)) (p0 : Int32) (p1 : Int32)  (Kju7 : ∀ (Mw : Mm), ju7 Mw = some ru → SW G 2 c_Mo_takeNumber R_Mo 4 (some .int) (some (.int ru.1), ru.2) Mw 129 [some (.ref 49), some (.int p0), some (.int p1), none] [])  : ∀ (nu : Nat) (M_42 : Mm), L_Mo_takeNumber_42 Nu ju7 nu M_42 = some ru → SW G 2 c_Mo_takeNumber R_Mo 4 (some .int) (some (.int ru.1), ru.2) M_42 42 [some (.ref 49), some (.int p0), some (.int p1), none] []
  | 0, _, hf => by cases hf
  | nu + 1, M_42, hf => by
    have ih := l_Mo_takeNumber_42 (G := G) (ru := ru) Nu ju7 p0 p1  Kju7 nu
    rw [L_Mo_takeNumber_42] at hf
    refine r_aload_n 0 d_Mo_takeNumber_42 rfl rfl ?_
    refine r_getI d_Mo_takeNumber_43 fl_Mo_101 sh_49 (by decide) ?_
    refine r_aload_n 0 d_Mo_takeNumber_46 rfl rfl ?_
    refine r_getI d_Mo_takeNumber_47 fl_Mo_95 sh_49 (by decide) ?_
    refine r_icmp_ge 129 d_Mo_takeNumber_50 (by decide) (fun qu13 => ?_) (fun qu13 => ?_)
    · replace hf := ip qu13 hf
      exact Kju7 M_42  hf
    · replace hf := im qu13 hf
      refine r_aload_n 0 d_Mo_takeNumber_53 rfl rfl ?_
      refine r_getR 52 d_Mo_takeNumber_54 fl_Mo_23 sh_49 rfl rf_49_9 ?_
      refine r_aload_n 0 d_Mo_takeNumber_57 rfl rfl ?_
      refine r_getI d_Mo_takeNumber_58 fl_Mo_101 sh_49 (by decide) ?_
      obtain ⟨qu14, hf⟩ := ck hf
      refine r_iald d_Mo_takeNumber_61 sh_52 qu14 ?_
      refine r_i2l d_Mo_takeNumber_62 ?_
      refine r_ldc2_w d_Mo_takeNumber_63 k_Mo_127 ?_
      refine r_ldc2_w d_Mo_takeNumber_66 k_Mo_129 ?_
      refine r_callS [.long ((M_42.1 52 (Int32.toNatClampNeg (M_42.1 49 12))).toInt64), .long 48, .long 57] d_Mo_takeNumber_69 lk_Mo_66 (cm_Mo_in ((M_42.1 52 (Int32.toNatClampNeg (M_42.1 49 12))).toInt64) 48 57 M_42) (by decide) rfl rfl (Nat.le_of_ble_eq_true rfl) ?_
      refine r_if_eq 129 d_Mo_takeNumber_72 (by decide) (fun qu15 => ?_) (fun qu15 => ?_)
      · replace hf := ip qu15 hf
        exact Kju7 M_42  hf
      · replace hf := im qu15 hf
        refine r_aload_n 0 d_Mo_takeNumber_75 rfl rfl ?_
        refine r_aload_n 0 d_Mo_takeNumber_76 rfl rfl ?_
        refine r_getI d_Mo_takeNumber_77 fl_Mo_138 sh_49 (by decide) ?_
        refine r_sipush (v := 10000) d_Mo_takeNumber_80 (by decide) ?_
        obtain ⟨ju16, hju16, hf⟩ := lt_ex hf
        have Kju16 : ∀ (xu17 : Int32), ju16 xu17 = some ru → SW G 2 c_Mo_takeNumber R_Mo 4 (some .int) (some (.int ru.1), ru.2) M_42 113 [some (.ref 49), some (.int p0), some (.int p1), none] [.int xu17, .ref 49] := by
          intro xu17 hf
          rw [hju16] at hf
          refine r_putI d_Mo_takeNumber_113 fl_Mo_138 sh_49 (Or.inl rfl) rfl ?_
          refine nmM (fun Mu18 hMu18 => ?_)
          replace hf := lt_of hMu18 hf
          refine r_aload_n 0 d_Mo_takeNumber_116 rfl rfl ?_
          refine r_dup d_Mo_takeNumber_117 rfl ?_
          refine r_getI d_Mo_takeNumber_118 fl_Mo_101 sh_49 (by decide) ?_
          refine r_iconst (v := 1) d_Mo_takeNumber_121 (by decide) ?_
          refine r_iadd d_Mo_takeNumber_122 ?_
          refine r_putI d_Mo_takeNumber_123 fl_Mo_101 sh_49 (Or.inl rfl) rfl ?_
          refine nmM (fun Mu19 hMu19 => ?_)
          replace hf := lt_of hMu19 hf
          refine r_goto 42 d_Mo_takeNumber_126 (by decide) ?_
          exact ih Mu19  hf
        refine r_icmp_le 93 d_Mo_takeNumber_83 (by decide) (fun qu20 => ?_) (fun qu20 => ?_)
        · replace hf := ip qu20 hf
          refine r_bipush (v := 10) d_Mo_takeNumber_93 (by decide) ?_
          refine r_aload_n 0 d_Mo_takeNumber_95 rfl rfl ?_
          refine r_getI d_Mo_takeNumber_96 fl_Mo_138 sh_49 (by decide) ?_
          refine r_imul d_Mo_takeNumber_99 ?_
          refine r_aload_n 0 d_Mo_takeNumber_100 rfl rfl ?_
          refine r_getR 52 d_Mo_takeNumber_101 fl_Mo_23 sh_49 rfl rf_49_9 ?_
          refine r_aload_n 0 d_Mo_takeNumber_104 rfl rfl ?_
          refine r_getI d_Mo_takeNumber_105 fl_Mo_101 sh_49 (by decide) ?_
          obtain ⟨qu21, hf⟩ := ck hf
          refine r_iald d_Mo_takeNumber_108 sh_52 qu21 ?_
          refine r_iadd d_Mo_takeNumber_109 ?_
          refine r_bipush (v := 48) d_Mo_takeNumber_110 (by decide) ?_
          refine r_isub d_Mo_takeNumber_112 ?_
          exact Kju16 ((((10 : Int32) * (M_42.1 49 15)) + (M_42.1 52 (Int32.toNatClampNeg (M_42.1 49 12)))) - 48)  hf
        · replace hf := im qu20 hf
          refine r_aload_n 0 d_Mo_takeNumber_86 rfl rfl ?_
          refine r_getI d_Mo_takeNumber_87 fl_Mo_138 sh_49 (by decide) ?_
          refine r_goto 113 d_Mo_takeNumber_90 (by decide) ?_
          exact Kju16 (M_42.1 49 15)  hf
theorem cm_Mo_takeNumber {G : GT} {Nu : Nat} {p0 : Int32} {p1 : Int32} {Mu : Mm}  {ru : Int32 × Mm}  (hf : f_Mo_takeNumber Nu p0 p1 Mu = some ru) : CM G 2 y_Mo_takeNumber c_Mo_takeNumber 4 (some .int) (some (.int ru.1), ru.2) Mu [.ref 49, .int p0, .int p1] := by
  unfold f_Mo_takeNumber at hf
  refine CM.of (own := R_Mo) (lv := [some (.ref 49), some (.int p0), some (.int p1), none]) (by decide) rfl (Nat.le_of_ble_eq_true rfl) rfl ?_
  refine r_aload_n 0 d_Mo_takeNumber_0 rfl rfl ?_
  obtain ⟨vu1, evu1, hf⟩ := bnd hf
  obtain ⟨vu2, Mu3⟩ := vu1
  replace hf := lt_of (rfl : vu2 = (vu2, Mu3).1) hf
  replace hf := lt_of (rfl : Mu3 = (vu2, Mu3).2) hf
  refine r_callV [] d_Mo_takeNumber_1 lk_Mo_104 sh_49 (cm_Mo_here evu1) (by decide) rfl rfl (Nat.le_of_ble_eq_true rfl) ?_
  refine r_istore_n (lv' := [some (.ref 49), some (.int p0), some (.int p1), some (.int vu2)]) 3 d_Mo_takeNumber_4 rfl (by decide) rfl ?_
  refine r_iload_n 3 d_Mo_takeNumber_5 rfl rfl ?_
  refine r_i2l d_Mo_takeNumber_6 ?_
  refine r_ldc2_w d_Mo_takeNumber_7 k_Mo_127 ?_
  refine r_ldc2_w d_Mo_takeNumber_10 k_Mo_129 ?_
  refine r_callS [.long vu2.toInt64, .long 48, .long 57] d_Mo_takeNumber_13 lk_Mo_66 (cm_Mo_in vu2.toInt64 48 57 Mu3) (by decide) rfl rfl (Nat.le_of_ble_eq_true rfl) ?_
  refine r_if_ne 29 d_Mo_takeNumber_16 (by decide) (fun qu4 => ?_) (fun qu4 => ?_)
  · replace hf := im qu4 hf
    refine r_aload_n 0 d_Mo_takeNumber_29 rfl rfl ?_
    refine r_aload_n 0 d_Mo_takeNumber_30 rfl rfl ?_
    refine r_getI d_Mo_takeNumber_31 fl_Mo_101 sh_49 (by decide) ?_
    refine r_putI d_Mo_takeNumber_34 fl_Mo_135 sh_49 (Or.inl rfl) rfl ?_
    refine nmM (fun Mu5 hMu5 => ?_)
    replace hf := lt_of hMu5 hf
    refine r_aload_n 0 d_Mo_takeNumber_37 rfl rfl ?_
    refine r_iconst (v := 0) d_Mo_takeNumber_38 (by decide) ?_
    refine r_putI d_Mo_takeNumber_39 fl_Mo_138 sh_49 (Or.inl rfl) rfl ?_
    refine nmM (fun Mu6 hMu6 => ?_)
    replace hf := lt_of hMu6 hf
    obtain ⟨ju7, hju7, hf⟩ := lt_ex hf
    have Kju7 : ∀ (Mu8 : Mm), ju7 Mu8 = some ru → SW G 2 c_Mo_takeNumber R_Mo 4 (some .int) (some (.int ru.1), ru.2) Mu8 129 [some (.ref 49), some (.int p0), some (.int p1), none] [] := by
      intro Mu8 hf
      rw [hju7] at hf
      refine r_aload_n 0 d_Mo_takeNumber_129 rfl rfl ?_
      refine r_getI d_Mo_takeNumber_130 fl_Mo_101 sh_49 (by decide) ?_
      refine r_aload_n 0 d_Mo_takeNumber_133 rfl rfl ?_
      refine r_getI d_Mo_takeNumber_134 fl_Mo_135 sh_49 (by decide) ?_
      refine r_isub d_Mo_takeNumber_137 ?_
      refine r_iconst (v := 3) d_Mo_takeNumber_138 (by decide) ?_
      obtain ⟨ju9, hju9, hf⟩ := lt_ex hf
      have Kju9 : ∀ (_ : Unit), ju9 () = some ru → SW G 2 c_Mo_takeNumber R_Mo 4 (some .int) (some (.int ru.1), ru.2) Mu8 157 [some (.ref 49), none, none, none] [] := by
        intro _ hf
        rw [hju9] at hf
        refine r_aload_n 0 d_Mo_takeNumber_157 rfl rfl ?_
        refine r_iconst (v := 2) d_Mo_takeNumber_158 (by decide) ?_
        refine r_aload_n 0 d_Mo_takeNumber_159 rfl rfl ?_
        refine r_getI d_Mo_takeNumber_160 fl_Mo_135 sh_49 (by decide) ?_
        refine r_callV [.int 2, .int (Mu8.1 49 16)] d_Mo_takeNumber_163 lk_Mo_131 sh_49 (cm_Mo_fails 2 (Mu8.1 49 16) Mu8) (by decide) rfl rfl (Nat.le_of_ble_eq_true rfl) ?_
        refine nmM (fun Mu10 hMu10 => ?_)
        replace hf := lt_of hMu10 hf
        refine r_goto 170 d_Mo_takeNumber_166 (by decide) ?_
        obtain rfl := Option.some.inj hf
        exact r_ireturn d_Mo_takeNumber_170 rfl rfl
      refine r_icmp_gt 157 d_Mo_takeNumber_139 (by decide) (fun qu11 => ?_) (fun qu11 => ?_)
      · replace hf := ip qu11 hf
        refine r_weak [1, 2] (lv' := [some (.ref 49), none, none, none]) rfl ?_
        exact Kju9 ()  hf
      · replace hf := im qu11 hf
        refine r_aload_n 0 d_Mo_takeNumber_142 rfl rfl ?_
        refine r_getI d_Mo_takeNumber_143 fl_Mo_138 sh_49 (by decide) ?_
        refine r_i2l d_Mo_takeNumber_146 ?_
        refine r_iload_n 1 d_Mo_takeNumber_147 rfl rfl ?_
        refine r_i2l d_Mo_takeNumber_148 ?_
        refine r_iload_n 2 d_Mo_takeNumber_149 rfl rfl ?_
        refine r_i2l d_Mo_takeNumber_150 ?_
        refine r_callS [.long ((Mu8.1 49 15).toInt64), .long p0.toInt64, .long p1.toInt64] d_Mo_takeNumber_151 lk_Mo_66 (cm_Mo_in ((Mu8.1 49 15).toInt64) p0.toInt64 p1.toInt64 Mu8) (by decide) rfl rfl (Nat.le_of_ble_eq_true rfl) ?_
        refine r_if_ne 169 d_Mo_takeNumber_154 (by decide) (fun qu12 => ?_) (fun qu12 => ?_)
        · replace hf := im qu12 hf
          refine r_iconst (v := 0) d_Mo_takeNumber_169 (by decide) ?_
          obtain rfl := Option.some.inj hf
          exact r_ireturn d_Mo_takeNumber_170 rfl rfl
        · replace hf := ip qu12 hf
          refine r_weak [1, 2] (lv' := [some (.ref 49), none, none, none]) rfl ?_
          exact Kju9 ()  hf
    refine r_weak [3] (lv' := [some (.ref 49), some (.int p0), some (.int p1), none]) rfl ?_
    exact l_Mo_takeNumber_42 (G := G) (ru := ru) Nu ju7 p0 p1  Kju7 Nu Mu6 hf
  · replace hf := ip qu4 hf
    refine r_aload_n 0 d_Mo_takeNumber_19 rfl rfl ?_
    refine r_iconst (v := 1) d_Mo_takeNumber_20 (by decide) ?_
    refine r_aload_n 0 d_Mo_takeNumber_21 rfl rfl ?_
    refine r_getI d_Mo_takeNumber_22 fl_Mo_101 sh_49 (by decide) ?_
    refine r_callV [.int 1, .int (Mu3.1 49 12)] d_Mo_takeNumber_25 lk_Mo_131 sh_49 (cm_Mo_fails 1 (Mu3.1 49 12) Mu3) (by decide) rfl rfl (Nat.le_of_ble_eq_true rfl) ?_
    refine nmM (fun Mu22 hMu22 => ?_)
    replace hf := lt_of hMu22 hf
    obtain rfl := Option.some.inj hf
    exact r_ireturn d_Mo_takeNumber_28 rfl rfl
def f_Mo_takeTwo (Nu : Nat) (p0 : Int32) (Mu : Mm) : Option (Int32 × Mm) := (f_Mo_takeNumber Nu 0 ((Mu.1 49 17) - 1) Mu).bind fun vu1 => lt vu1.1 fun vu2 => lt vu1.2 fun Mu3 => lt (Mu3.1 49 15) fun xu4 => lt (fun (xu6 : Int32) (Mu7 : Mm) => if xu6 ≤ 0 then lt (fun (_ : Unit) => lt ((f_Mo_fails 4 (Mu7.1 49 16) Mu7).2) fun Mu10 => some ((f_Mo_fails 4 (Mu7.1 49 16) Mu7).1, Mu10)) fun ju9 => if xu4 = (Mu7.1 49 15) then ju9 () else (f_Mo_pairOf Nu (Mu7.1 49 17) xu4 (Mu7.1 49 15)).bind fun vu12 => if (f_Mo_has ((Mu7.1 49 18) ||| (Mu7.1 49 19)) vu12) = 0 then (f_Mo_pairOf Nu (Mu7.1 49 17) xu4 (Mu7.1 49 15)).bind fun vu14 => lt ((1 : Int32) <<< (vu14 &&& 31)) fun xu15 => lt (fun (xu17 : Int32) => lt (si Mu7 49 18 ((Mu7.1 49 18) ||| xu17)) fun Mu18 => lt (fun (xu20 : Int32) => lt (si Mu18 49 19 ((Mu18.1 49 19) ||| xu20)) fun Mu21 => lt (fun (xu23 : Int32) => lt (si Mu21 49 20 ((Mu21.1 49 20) ||| xu23)) fun Mu24 => some (0, Mu24)) fun ju22 => if p0 = 3 then ju22 xu15 else ju22 0) fun ju19 => if p0 = 2 then ju19 xu15 else ju19 0) fun ju16 => if p0 = 2 then ju16 0 else ju16 xu15 else ju9 () else some (xu6, Mu7)) fun ju5 => if vu2 ≤ 0 then (f_Mo_takeNumber Nu 0 ((Mu3.1 49 17) - 1) Mu3).bind fun vu29 => lt vu29.1 fun vu30 => lt vu29.2 fun Mu31 => ju5 vu30 Mu31 else ju5 vu2 Mu3
theorem cm_Mo_takeTwo {G : GT} {Nu : Nat} {p0 : Int32} {Mu : Mm}  {ru : Int32 × Mm}  (hf : f_Mo_takeTwo Nu p0 Mu = some ru) : CM G 3 y_Mo_takeTwo c_Mo_takeTwo 5 (some .int) (some (.int ru.1), ru.2) Mu [.ref 49, .int p0] := by
  unfold f_Mo_takeTwo at hf
  refine CM.of (own := R_Mo) (lv := [some (.ref 49), some (.int p0), none, none, none]) (by decide) rfl (Nat.le_of_ble_eq_true rfl) rfl ?_
  refine r_aload_n 0 d_Mo_takeTwo_0 rfl rfl ?_
  refine r_iconst (v := 0) d_Mo_takeTwo_1 (by decide) ?_
  refine r_aload_n 0 d_Mo_takeTwo_2 rfl rfl ?_
  refine r_getI d_Mo_takeTwo_3 fl_Mo_141 sh_49 (by decide) ?_
  refine r_iconst (v := 1) d_Mo_takeTwo_6 (by decide) ?_
  refine r_isub d_Mo_takeTwo_7 ?_
  obtain ⟨vu1, evu1, hf⟩ := bnd hf
  obtain ⟨vu2, Mu3⟩ := vu1
  replace hf := lt_of (rfl : vu2 = (vu2, Mu3).1) hf
  replace hf := lt_of (rfl : Mu3 = (vu2, Mu3).2) hf
  refine r_callV [.int 0, .int ((Mu.1 49 17) - 1)] d_Mo_takeTwo_8 lk_Mo_144 sh_49 (cm_Mo_takeNumber evu1) (by decide) rfl rfl (Nat.le_of_ble_eq_true rfl) ?_
  refine r_istore_n (lv' := [some (.ref 49), some (.int p0), some (.int vu2), none, none]) 2 d_Mo_takeTwo_11 rfl (by decide) rfl ?_
  refine r_aload_n 0 d_Mo_takeTwo_12 rfl rfl ?_
  refine r_getI d_Mo_takeTwo_13 fl_Mo_138 sh_49 (by decide) ?_
  refine nmI (fun xu4 hxu4 => ?_)
  replace hf := lt_of hxu4 hf
  refine r_istore_n (lv' := [some (.ref 49), some (.int p0), some (.int vu2), some (.int xu4), none]) 3 d_Mo_takeTwo_16 rfl (by decide) rfl ?_
  refine r_iload_n 2 d_Mo_takeTwo_17 rfl rfl ?_
  obtain ⟨ju5, hju5, hf⟩ := lt_ex hf
  have Kju5 : ∀ (xu6 : Int32) (Mu7 : Mm), ju5 xu6 Mu7 = some ru → SW G 3 c_Mo_takeTwo R_Mo 5 (some .int) (some (.int ru.1), ru.2) Mu7 36 [some (.ref 49), some (.int p0), none, some (.int xu4), none] [.int xu6] := by
    intro xu6 Mu7 hf
    rw [hju5] at hf
    refine r_istore_n (lv' := [some (.ref 49), some (.int p0), some (.int xu6), some (.int xu4), none]) 2 d_Mo_takeTwo_36 rfl (by decide) rfl ?_
    refine r_iload_n 2 d_Mo_takeTwo_37 rfl rfl ?_
    refine r_if_le 43 d_Mo_takeTwo_38 (by decide) (fun qu8 => ?_) (fun qu8 => ?_)
    · replace hf := ip qu8 hf
      refine r_iload_n 3 d_Mo_takeTwo_43 rfl rfl ?_
      refine r_aload_n 0 d_Mo_takeTwo_44 rfl rfl ?_
      refine r_getI d_Mo_takeTwo_45 fl_Mo_138 sh_49 (by decide) ?_
      obtain ⟨ju9, hju9, hf⟩ := lt_ex hf
      have Kju9 : ∀ (_ : Unit), ju9 () = some ru → SW G 3 c_Mo_takeTwo R_Mo 5 (some .int) (some (.int ru.1), ru.2) Mu7 78 [some (.ref 49), none, none, none, none] [] := by
        intro _ hf
        rw [hju9] at hf
        refine r_aload_n 0 d_Mo_takeTwo_78 rfl rfl ?_
        refine r_iconst (v := 4) d_Mo_takeTwo_79 (by decide) ?_
        refine r_aload_n 0 d_Mo_takeTwo_80 rfl rfl ?_
        refine r_getI d_Mo_takeTwo_81 fl_Mo_135 sh_49 (by decide) ?_
        refine r_callV [.int 4, .int (Mu7.1 49 16)] d_Mo_takeTwo_84 lk_Mo_131 sh_49 (cm_Mo_fails 4 (Mu7.1 49 16) Mu7) (by decide) rfl rfl (Nat.le_of_ble_eq_true rfl) ?_
        refine nmM (fun Mu10 hMu10 => ?_)
        replace hf := lt_of hMu10 hf
        obtain rfl := Option.some.inj hf
        exact r_ireturn d_Mo_takeTwo_87 rfl rfl
      refine r_icmp_eq 78 d_Mo_takeTwo_48 (by decide) (fun qu11 => ?_) (fun qu11 => ?_)
      · replace hf := ip qu11 hf
        refine r_weak [1, 2, 3] (lv' := [some (.ref 49), none, none, none, none]) rfl ?_
        exact Kju9 ()  hf
      · replace hf := im qu11 hf
        refine r_aload_n 0 d_Mo_takeTwo_51 rfl rfl ?_
        refine r_getI d_Mo_takeTwo_52 fl_Mo_147 sh_49 (by decide) ?_
        refine r_aload_n 0 d_Mo_takeTwo_55 rfl rfl ?_
        refine r_getI d_Mo_takeTwo_56 fl_Mo_150 sh_49 (by decide) ?_
        refine r_ior d_Mo_takeTwo_59 ?_
        refine r_aload_n 0 d_Mo_takeTwo_60 rfl rfl ?_
        refine r_getI d_Mo_takeTwo_61 fl_Mo_141 sh_49 (by decide) ?_
        refine r_iload_n 3 d_Mo_takeTwo_64 rfl rfl ?_
        refine r_aload_n 0 d_Mo_takeTwo_65 rfl rfl ?_
        refine r_getI d_Mo_takeTwo_66 fl_Mo_138 sh_49 (by decide) ?_
        obtain ⟨vu12, evu12, hf⟩ := bnd hf
        refine r_callS [.int (Mu7.1 49 17), .int xu4, .int (Mu7.1 49 15)] d_Mo_takeTwo_69 lk_Mo_74 (cm_Mo_pairOf evu12) (by decide) rfl rfl (Nat.le_of_ble_eq_true rfl) ?_
        refine r_callS [.int ((Mu7.1 49 18) ||| (Mu7.1 49 19)), .int vu12] d_Mo_takeTwo_72 lk_Mo_78 (cm_Mo_has ((Mu7.1 49 18) ||| (Mu7.1 49 19)) vu12 Mu7) (by decide) rfl rfl (Nat.le_of_ble_eq_true rfl) ?_
        refine r_if_eq 88 d_Mo_takeTwo_75 (by decide) (fun qu13 => ?_) (fun qu13 => ?_)
        · replace hf := ip qu13 hf
          refine r_iconst (v := 1) d_Mo_takeTwo_88 (by decide) ?_
          refine r_aload_n 0 d_Mo_takeTwo_89 rfl rfl ?_
          refine r_getI d_Mo_takeTwo_90 fl_Mo_141 sh_49 (by decide) ?_
          refine r_iload_n 3 d_Mo_takeTwo_93 rfl rfl ?_
          refine r_aload_n 0 d_Mo_takeTwo_94 rfl rfl ?_
          refine r_getI d_Mo_takeTwo_95 fl_Mo_138 sh_49 (by decide) ?_
          obtain ⟨vu14, evu14, hf⟩ := bnd hf
          refine r_callS [.int (Mu7.1 49 17), .int xu4, .int (Mu7.1 49 15)] d_Mo_takeTwo_98 lk_Mo_74 (cm_Mo_pairOf evu14) (by decide) rfl rfl (Nat.le_of_ble_eq_true rfl) ?_
          refine r_ishl d_Mo_takeTwo_101 ?_
          refine nmI (fun xu15 hxu15 => ?_)
          replace hf := lt_of hxu15 hf
          refine r_istore (lv' := [some (.ref 49), some (.int p0), some (.int xu6), some (.int xu4), some (.int xu15)]) d_Mo_takeTwo_102 (by decide) rfl ?_
          refine r_aload_n 0 d_Mo_takeTwo_104 rfl rfl ?_
          refine r_dup d_Mo_takeTwo_105 rfl ?_
          refine r_getI d_Mo_takeTwo_106 fl_Mo_147 sh_49 (by decide) ?_
          refine r_iload_n 1 d_Mo_takeTwo_109 rfl rfl ?_
          refine r_iconst (v := 2) d_Mo_takeTwo_110 (by decide) ?_
          obtain ⟨ju16, hju16, hf⟩ := lt_ex hf
          have Kju16 : ∀ (xu17 : Int32), ju16 xu17 = some ru → SW G 3 c_Mo_takeTwo R_Mo 5 (some .int) (some (.int ru.1), ru.2) Mu7 120 [some (.ref 49), some (.int p0), none, none, some (.int xu15)] [.int xu17, .int (Mu7.1 49 18), .ref 49] := by
            intro xu17 hf
            rw [hju16] at hf
            refine r_ior d_Mo_takeTwo_120 ?_
            refine r_putI d_Mo_takeTwo_121 fl_Mo_147 sh_49 (Or.inl rfl) rfl ?_
            refine nmM (fun Mu18 hMu18 => ?_)
            replace hf := lt_of hMu18 hf
            refine r_aload_n 0 d_Mo_takeTwo_124 rfl rfl ?_
            refine r_dup d_Mo_takeTwo_125 rfl ?_
            refine r_getI d_Mo_takeTwo_126 fl_Mo_150 sh_49 (by decide) ?_
            refine r_iload_n 1 d_Mo_takeTwo_129 rfl rfl ?_
            refine r_iconst (v := 2) d_Mo_takeTwo_130 (by decide) ?_
            obtain ⟨ju19, hju19, hf⟩ := lt_ex hf
            have Kju19 : ∀ (xu20 : Int32), ju19 xu20 = some ru → SW G 3 c_Mo_takeTwo R_Mo 5 (some .int) (some (.int ru.1), ru.2) Mu18 140 [some (.ref 49), some (.int p0), none, none, some (.int xu15)] [.int xu20, .int (Mu18.1 49 19), .ref 49] := by
              intro xu20 hf
              rw [hju19] at hf
              refine r_ior d_Mo_takeTwo_140 ?_
              refine r_putI d_Mo_takeTwo_141 fl_Mo_150 sh_49 (Or.inl rfl) rfl ?_
              refine nmM (fun Mu21 hMu21 => ?_)
              replace hf := lt_of hMu21 hf
              refine r_aload_n 0 d_Mo_takeTwo_144 rfl rfl ?_
              refine r_dup d_Mo_takeTwo_145 rfl ?_
              refine r_getI d_Mo_takeTwo_146 fl_Mo_153 sh_49 (by decide) ?_
              refine r_iload_n 1 d_Mo_takeTwo_149 rfl rfl ?_
              refine r_iconst (v := 3) d_Mo_takeTwo_150 (by decide) ?_
              obtain ⟨ju22, hju22, hf⟩ := lt_ex hf
              have Kju22 : ∀ (xu23 : Int32), ju22 xu23 = some ru → SW G 3 c_Mo_takeTwo R_Mo 5 (some .int) (some (.int ru.1), ru.2) Mu21 160 [none, none, none, none, none] [.int xu23, .int (Mu21.1 49 20), .ref 49] := by
                intro xu23 hf
                rw [hju22] at hf
                refine r_ior d_Mo_takeTwo_160 ?_
                refine r_putI d_Mo_takeTwo_161 fl_Mo_153 sh_49 (Or.inl rfl) rfl ?_
                refine nmM (fun Mu24 hMu24 => ?_)
                replace hf := lt_of hMu24 hf
                refine r_iconst (v := 0) d_Mo_takeTwo_164 (by decide) ?_
                obtain rfl := Option.some.inj hf
                exact r_ireturn d_Mo_takeTwo_165 rfl rfl
              refine r_icmp_ne 159 d_Mo_takeTwo_151 (by decide) (fun qu25 => ?_) (fun qu25 => ?_)
              · replace hf := im qu25 hf
                refine r_iconst (v := 0) d_Mo_takeTwo_159 (by decide) ?_
                refine r_weak [0, 1, 4] (lv' := [none, none, none, none, none]) rfl ?_
                exact Kju22 0  hf
              · replace hf := ip qu25 hf
                refine r_iload d_Mo_takeTwo_154 rfl ?_
                refine r_goto 160 d_Mo_takeTwo_156 (by decide) ?_
                refine r_weak [0, 1, 4] (lv' := [none, none, none, none, none]) rfl ?_
                exact Kju22 xu15  hf
            refine r_icmp_ne 139 d_Mo_takeTwo_131 (by decide) (fun qu26 => ?_) (fun qu26 => ?_)
            · replace hf := im qu26 hf
              refine r_iconst (v := 0) d_Mo_takeTwo_139 (by decide) ?_
              exact Kju19 0  hf
            · replace hf := ip qu26 hf
              refine r_iload d_Mo_takeTwo_134 rfl ?_
              refine r_goto 140 d_Mo_takeTwo_136 (by decide) ?_
              exact Kju19 xu15  hf
          refine r_icmp_ne 118 d_Mo_takeTwo_111 (by decide) (fun qu27 => ?_) (fun qu27 => ?_)
          · replace hf := im qu27 hf
            refine r_iload d_Mo_takeTwo_118 rfl ?_
            refine r_weak [2, 3] (lv' := [some (.ref 49), some (.int p0), none, none, some (.int xu15)]) rfl ?_
            exact Kju16 xu15  hf
          · replace hf := ip qu27 hf
            refine r_iconst (v := 0) d_Mo_takeTwo_114 (by decide) ?_
            refine r_goto 120 d_Mo_takeTwo_115 (by decide) ?_
            refine r_weak [2, 3] (lv' := [some (.ref 49), some (.int p0), none, none, some (.int xu15)]) rfl ?_
            exact Kju16 0  hf
        · replace hf := im qu13 hf
          refine r_weak [1, 2, 3] (lv' := [some (.ref 49), none, none, none, none]) rfl ?_
          exact Kju9 ()  hf
    · replace hf := im qu8 hf
      refine r_iload_n 2 d_Mo_takeTwo_41 rfl rfl ?_
      obtain rfl := Option.some.inj hf
      exact r_ireturn d_Mo_takeTwo_42 rfl rfl
  refine r_if_le 25 d_Mo_takeTwo_18 (by decide) (fun qu28 => ?_) (fun qu28 => ?_)
  · replace hf := ip qu28 hf
    refine r_aload_n 0 d_Mo_takeTwo_25 rfl rfl ?_
    refine r_iconst (v := 0) d_Mo_takeTwo_26 (by decide) ?_
    refine r_aload_n 0 d_Mo_takeTwo_27 rfl rfl ?_
    refine r_getI d_Mo_takeTwo_28 fl_Mo_141 sh_49 (by decide) ?_
    refine r_iconst (v := 1) d_Mo_takeTwo_31 (by decide) ?_
    refine r_isub d_Mo_takeTwo_32 ?_
    obtain ⟨vu29, evu29, hf⟩ := bnd hf
    obtain ⟨vu30, Mu31⟩ := vu29
    replace hf := lt_of (rfl : vu30 = (vu30, Mu31).1) hf
    replace hf := lt_of (rfl : Mu31 = (vu30, Mu31).2) hf
    refine r_callV [.int 0, .int ((Mu3.1 49 17) - 1)] d_Mo_takeTwo_33 lk_Mo_144 sh_49 (cm_Mo_takeNumber evu29) (by decide) rfl rfl (Nat.le_of_ble_eq_true rfl) ?_
    refine r_weak [2] (lv' := [some (.ref 49), some (.int p0), none, some (.int xu4), none]) rfl ?_
    exact Kju5 vu30 Mu31  hf
  · replace hf := im qu28 hf
    refine r_iload_n 2 d_Mo_takeTwo_21 rfl rfl ?_
    refine r_goto 36 d_Mo_takeTwo_22 (by decide) ?_
    refine r_weak [2] (lv' := [some (.ref 49), some (.int p0), none, some (.int xu4), none]) rfl ?_
    exact Kju5 vu2 Mu3  hf
def f_Mo_takeKind (Nu : Nat) (p0 : Int32) (Mu : Mm) : Option (Int32 × Mm) := if p0 = 0 then (f_Mo_takeNumber Nu 1 8 Mu).bind fun vu18 => lt vu18.1 fun vu19 => lt vu18.2 fun Mu20 => lt (si Mu20 49 17 (Mu20.1 49 15)) fun Mu21 => some (vu19, Mu21) else if p0 = 4 then (f_Mo_takeNumber Nu 1 9 Mu).bind fun vu6 => lt vu6.1 fun vu7 => lt vu6.2 fun Mu8 => lt (si Mu8 49 21 (Mu8.1 49 15)) fun Mu9 => lt (fun (xu11 : Int32) (Mu12 : Mm) => lt (si Mu12 49 22 (Mu12.1 49 15)) fun Mu13 => some (xu11, Mu13)) fun ju10 => if vu7 ≤ 0 then (f_Mo_takeNumber Nu 1 9 Mu9).bind fun vu15 => lt vu15.1 fun vu16 => lt vu15.2 fun Mu17 => ju10 vu16 Mu17 else ju10 vu7 Mu9 else (f_Mo_takeTwo Nu p0 Mu).bind fun vu3 => lt vu3.1 fun vu4 => lt vu3.2 fun Mu5 => some (vu4, Mu5)
theorem cm_Mo_takeKind {G : GT} {Nu : Nat} {p0 : Int32} {Mu : Mm}  {ru : Int32 × Mm}  (hf : f_Mo_takeKind Nu p0 Mu = some ru) : CM G 4 y_Mo_takeKind c_Mo_takeKind 3 (some .int) (some (.int ru.1), ru.2) Mu [.ref 49, .int p0] := by
  unfold f_Mo_takeKind at hf
  refine CM.of (own := R_Mo) (lv := [some (.ref 49), some (.int p0), none]) (by decide) rfl (Nat.le_of_ble_eq_true rfl) rfl ?_
  refine r_iload_n 1 d_Mo_takeKind_0 rfl rfl ?_
  refine r_if_ne 22 d_Mo_takeKind_1 (by decide) (fun qu1 => ?_) (fun qu1 => ?_)
  · replace hf := im qu1 hf
    refine r_iload_n 1 d_Mo_takeKind_22 rfl rfl ?_
    refine r_iconst (v := 4) d_Mo_takeKind_23 (by decide) ?_
    refine r_icmp_ne 69 d_Mo_takeKind_24 (by decide) (fun qu2 => ?_) (fun qu2 => ?_)
    · replace hf := im qu2 hf
      refine r_aload_n 0 d_Mo_takeKind_69 rfl rfl ?_
      refine r_iload_n 1 d_Mo_takeKind_70 rfl rfl ?_
      obtain ⟨vu3, evu3, hf⟩ := bnd hf
      obtain ⟨vu4, Mu5⟩ := vu3
      replace hf := lt_of (rfl : vu4 = (vu4, Mu5).1) hf
      replace hf := lt_of (rfl : Mu5 = (vu4, Mu5).2) hf
      refine r_callV [.int p0] d_Mo_takeKind_71 lk_Mo_162 sh_49 (cm_Mo_takeTwo evu3) (by decide) rfl rfl (Nat.le_of_ble_eq_true rfl) ?_
      obtain rfl := Option.some.inj hf
      exact r_ireturn d_Mo_takeKind_74 rfl rfl
    · replace hf := ip qu2 hf
      refine r_aload_n 0 d_Mo_takeKind_27 rfl rfl ?_
      refine r_iconst (v := 1) d_Mo_takeKind_28 (by decide) ?_
      refine r_bipush (v := 9) d_Mo_takeKind_29 (by decide) ?_
      obtain ⟨vu6, evu6, hf⟩ := bnd hf
      obtain ⟨vu7, Mu8⟩ := vu6
      replace hf := lt_of (rfl : vu7 = (vu7, Mu8).1) hf
      replace hf := lt_of (rfl : Mu8 = (vu7, Mu8).2) hf
      refine r_callV [.int 1, .int 9] d_Mo_takeKind_31 lk_Mo_144 sh_49 (cm_Mo_takeNumber evu6) (by decide) rfl rfl (Nat.le_of_ble_eq_true rfl) ?_
      refine r_istore_n (lv' := [some (.ref 49), some (.int p0), some (.int vu7)]) 2 d_Mo_takeKind_34 rfl (by decide) rfl ?_
      refine r_aload_n 0 d_Mo_takeKind_35 rfl rfl ?_
      refine r_aload_n 0 d_Mo_takeKind_36 rfl rfl ?_
      refine r_getI d_Mo_takeKind_37 fl_Mo_138 sh_49 (by decide) ?_
      refine r_putI d_Mo_takeKind_40 fl_Mo_156 sh_49 (Or.inl rfl) rfl ?_
      refine nmM (fun Mu9 hMu9 => ?_)
      replace hf := lt_of hMu9 hf
      refine r_iload_n 2 d_Mo_takeKind_43 rfl rfl ?_
      obtain ⟨ju10, hju10, hf⟩ := lt_ex hf
      have Kju10 : ∀ (xu11 : Int32) (Mu12 : Mm), ju10 xu11 Mu12 = some ru → SW G 4 c_Mo_takeKind R_Mo 3 (some .int) (some (.int ru.1), ru.2) Mu12 58 [some (.ref 49), none, none] [.int xu11] := by
        intro xu11 Mu12 hf
        rw [hju10] at hf
        refine r_istore_n (lv' := [some (.ref 49), none, some (.int xu11)]) 2 d_Mo_takeKind_58 rfl (by decide) rfl ?_
        refine r_aload_n 0 d_Mo_takeKind_59 rfl rfl ?_
        refine r_aload_n 0 d_Mo_takeKind_60 rfl rfl ?_
        refine r_getI d_Mo_takeKind_61 fl_Mo_138 sh_49 (by decide) ?_
        refine r_putI d_Mo_takeKind_64 fl_Mo_159 sh_49 (Or.inl rfl) rfl ?_
        refine nmM (fun Mu13 hMu13 => ?_)
        replace hf := lt_of hMu13 hf
        refine r_iload_n 2 d_Mo_takeKind_67 rfl rfl ?_
        obtain rfl := Option.some.inj hf
        exact r_ireturn d_Mo_takeKind_68 rfl rfl
      refine r_if_le 51 d_Mo_takeKind_44 (by decide) (fun qu14 => ?_) (fun qu14 => ?_)
      · replace hf := ip qu14 hf
        refine r_aload_n 0 d_Mo_takeKind_51 rfl rfl ?_
        refine r_iconst (v := 1) d_Mo_takeKind_52 (by decide) ?_
        refine r_bipush (v := 9) d_Mo_takeKind_53 (by decide) ?_
        obtain ⟨vu15, evu15, hf⟩ := bnd hf
        obtain ⟨vu16, Mu17⟩ := vu15
        replace hf := lt_of (rfl : vu16 = (vu16, Mu17).1) hf
        replace hf := lt_of (rfl : Mu17 = (vu16, Mu17).2) hf
        refine r_callV [.int 1, .int 9] d_Mo_takeKind_55 lk_Mo_144 sh_49 (cm_Mo_takeNumber evu15) (by decide) rfl rfl (Nat.le_of_ble_eq_true rfl) ?_
        refine r_weak [1, 2] (lv' := [some (.ref 49), none, none]) rfl ?_
        exact Kju10 vu16 Mu17  hf
      · replace hf := im qu14 hf
        refine r_iload_n 2 d_Mo_takeKind_47 rfl rfl ?_
        refine r_goto 58 d_Mo_takeKind_48 (by decide) ?_
        refine r_weak [1, 2] (lv' := [some (.ref 49), none, none]) rfl ?_
        exact Kju10 vu7 Mu9  hf
  · replace hf := ip qu1 hf
    refine r_aload_n 0 d_Mo_takeKind_4 rfl rfl ?_
    refine r_iconst (v := 1) d_Mo_takeKind_5 (by decide) ?_
    refine r_bipush (v := 8) d_Mo_takeKind_6 (by decide) ?_
    obtain ⟨vu18, evu18, hf⟩ := bnd hf
    obtain ⟨vu19, Mu20⟩ := vu18
    replace hf := lt_of (rfl : vu19 = (vu19, Mu20).1) hf
    replace hf := lt_of (rfl : Mu20 = (vu19, Mu20).2) hf
    refine r_callV [.int 1, .int 8] d_Mo_takeKind_8 lk_Mo_144 sh_49 (cm_Mo_takeNumber evu18) (by decide) rfl rfl (Nat.le_of_ble_eq_true rfl) ?_
    refine r_istore_n (lv' := [some (.ref 49), some (.int p0), some (.int vu19)]) 2 d_Mo_takeKind_11 rfl (by decide) rfl ?_
    refine r_aload_n 0 d_Mo_takeKind_12 rfl rfl ?_
    refine r_aload_n 0 d_Mo_takeKind_13 rfl rfl ?_
    refine r_getI d_Mo_takeKind_14 fl_Mo_138 sh_49 (by decide) ?_
    refine r_putI d_Mo_takeKind_17 fl_Mo_141 sh_49 (Or.inl rfl) rfl ?_
    refine nmM (fun Mu21 hMu21 => ?_)
    replace hf := lt_of hMu21 hf
    refine r_iload_n 2 d_Mo_takeKind_20 rfl rfl ?_
    obtain rfl := Option.some.inj hf
    exact r_ireturn d_Mo_takeKind_21 rfl rfl
def f_Mo_takeClause (Nu : Nat) (Mu : Mm) : Option (Int32 × Mm) := (f_Mo_readWord Nu Mu).bind fun vu1 => lt (fun (xu3 : Int32) => lt (fun (xu5 : Int32) => lt (fun (_ : Unit) => lt ((f_Mo_fails 1 (vu1.1 49 12) vu1).2) fun Mu7 => some ((f_Mo_fails 1 (vu1.1 49 12) vu1).1, Mu7)) fun ju6 => if xu5 < 0 then ju6 () else lt (fun (_ : Unit) => lt (fun (_ : Unit) => lt ((f_Mo_fails 3 (vu1.1 49 12) vu1).2) fun Mu11 => some ((f_Mo_fails 3 (vu1.1 49 12) vu1).1, Mu11)) fun ju10 => lt (fun (_ : Unit) => lt (fun (_ : Unit) => lt (si vu1 49 12 (vu1.1 49 14)) fun Mu14 => (f_Mo_takeKind Nu xu5 Mu14).bind fun vu15 => lt vu15.1 fun vu16 => lt vu15.2 fun Mu17 => lt (fun (Mu19 : Mm) => lt (si Mu19 49 12 ((Mu19.1 49 12) + 1)) fun Mu20 => some (vu16, Mu20)) fun ju18 => if vu16 = 0 then (f_Mo_here Nu Mu17).bind fun vu22 => lt vu22.1 fun vu23 => lt vu22.2 fun Mu24 => if vu23 = 59 then ju18 Mu24 else lt ((f_Mo_fails 1 (Mu24.1 49 12) Mu24).2) fun Mu26 => some ((f_Mo_fails 1 (Mu24.1 49 12) Mu24).1, Mu26) else ju18 Mu17) fun ju13 => if xu5 = 4 then if (vu1.1 49 21) ≤ 0 then ju13 () else ju10 () else ju13 ()) fun ju12 => if xu5 = 0 then if 0 < (vu1.1 49 17) then ju10 () else ju12 () else ju12 ()) fun ju9 => if xu5 ≤ 0 then ju9 () else if (vu1.1 49 17) = 0 then ju6 () else ju9 ()) fun ju4 => if xu3 < 0 then if (lg_cmp (vu1.2 49 13) (f_Mo_longer (f_Mo_code 98 97 114 114) 101 100)) = 0 then ju4 2 else if (lg_cmp (vu1.2 49 13) (f_Mo_code 109 117 115 116)) = 0 then ju4 3 else if (lg_cmp (vu1.2 49 13) (f_Mo_code 99 111 115 116)) = 0 then ju4 4 else ju4 (-1) else ju4 xu3) fun ju2 => if (lg_cmp (vu1.2 49 13) (f_Mo_longer (f_Mo_code 112 101 111 112) 108 101)) = 0 then ju2 0 else if (lg_cmp (vu1.2 49 13) ((((27 : Int64) * (f_Mo_longer (f_Mo_code 102 114 105 101) 110 100)) + 115) - 96)) = 0 then ju2 1 else ju2 (-1)
theorem cm_Mo_takeClause {G : GT} {Nu : Nat} {Mu : Mm}  {ru : Int32 × Mm}  (hf : f_Mo_takeClause Nu Mu = some ru) : CM G 5 y_Mo_takeClause c_Mo_takeClause 4 (some .int) (some (.int ru.1), ru.2) Mu [.ref 49] := by
  unfold f_Mo_takeClause at hf
  refine CM.of (own := R_Mo) (lv := [some (.ref 49), none, none, none]) (by decide) rfl (Nat.le_of_ble_eq_true rfl) rfl ?_
  refine r_aload_n 0 d_Mo_takeClause_0 rfl rfl ?_
  obtain ⟨vu1, evu1, hf⟩ := bnd hf
  refine r_callV [] d_Mo_takeClause_1 lk_Mo_166 sh_49 (cm_Mo_readWord evu1) (by decide) rfl rfl (Nat.le_of_ble_eq_true rfl) ?_
  refine r_aload_n 0 d_Mo_takeClause_4 rfl rfl ?_
  refine r_getL d_Mo_takeClause_5 fl_Mo_108 sh_49 rfl ?_
  refine r_bipush (v := 112) d_Mo_takeClause_8 (by decide) ?_
  refine r_bipush (v := 101) d_Mo_takeClause_10 (by decide) ?_
  refine r_bipush (v := 111) d_Mo_takeClause_12 (by decide) ?_
  refine r_bipush (v := 112) d_Mo_takeClause_14 (by decide) ?_
  refine r_callS [.int 112, .int 101, .int 111, .int 112] d_Mo_takeClause_16 lk_Mo_169 (cm_Mo_code 112 101 111 112 vu1) (by decide) rfl rfl (Nat.le_of_ble_eq_true rfl) ?_
  refine r_bipush (v := 108) d_Mo_takeClause_19 (by decide) ?_
  refine r_bipush (v := 101) d_Mo_takeClause_21 (by decide) ?_
  refine r_callS [.long (f_Mo_code 112 101 111 112), .int 108, .int 101] d_Mo_takeClause_23 lk_Mo_173 (cm_Mo_longer (f_Mo_code 112 101 111 112) 108 101 vu1) (by decide) rfl rfl (Nat.le_of_ble_eq_true rfl) ?_
  refine r_lcmp d_Mo_takeClause_26 ?_
  obtain ⟨ju2, hju2, hf⟩ := lt_ex hf
  have Kju2 : ∀ (xu3 : Int32), ju2 xu3 = some ru → SW G 5 c_Mo_takeClause R_Mo 4 (some .int) (some (.int ru.1), ru.2) vu1 77 [some (.ref 49), none, none, none] [.int xu3] := by
    intro xu3 hf
    rw [hju2] at hf
    refine r_istore_n (lv' := [some (.ref 49), some (.int xu3), none, none]) 1 d_Mo_takeClause_77 rfl (by decide) rfl ?_
    refine r_iload_n 1 d_Mo_takeClause_78 rfl rfl ?_
    obtain ⟨ju4, hju4, hf⟩ := lt_ex hf
    have Kju4 : ∀ (xu5 : Int32), ju4 xu5 = some ru → SW G 5 c_Mo_takeClause R_Mo 4 (some .int) (some (.int ru.1), ru.2) vu1 163 [some (.ref 49), none, none, none] [.int xu5] := by
      intro xu5 hf
      rw [hju4] at hf
      refine r_istore_n (lv' := [some (.ref 49), none, some (.int xu5), none]) 2 d_Mo_takeClause_163 rfl (by decide) rfl ?_
      refine r_iload_n 2 d_Mo_takeClause_164 rfl rfl ?_
      obtain ⟨ju6, hju6, hf⟩ := lt_ex hf
      have Kju6 : ∀ (_ : Unit), ju6 () = some ru → SW G 5 c_Mo_takeClause R_Mo 4 (some .int) (some (.int ru.1), ru.2) vu1 179 [some (.ref 49), none, none, none] [] := by
        intro _ hf
        rw [hju6] at hf
        refine r_aload_n 0 d_Mo_takeClause_179 rfl rfl ?_
        refine r_iconst (v := 1) d_Mo_takeClause_180 (by decide) ?_
        refine r_aload_n 0 d_Mo_takeClause_181 rfl rfl ?_
        refine r_getI d_Mo_takeClause_182 fl_Mo_101 sh_49 (by decide) ?_
        refine r_callV [.int 1, .int (vu1.1 49 12)] d_Mo_takeClause_185 lk_Mo_131 sh_49 (cm_Mo_fails 1 (vu1.1 49 12) vu1) (by decide) rfl rfl (Nat.le_of_ble_eq_true rfl) ?_
        refine nmM (fun Mu7 hMu7 => ?_)
        replace hf := lt_of hMu7 hf
        obtain rfl := Option.some.inj hf
        exact r_ireturn d_Mo_takeClause_188 rfl rfl
      refine r_if_lt 179 d_Mo_takeClause_165 (by decide) (fun qu8 => ?_) (fun qu8 => ?_)
      · replace hf := ip qu8 hf
        refine r_weak [2] (lv' := [some (.ref 49), none, none, none]) rfl ?_
        exact Kju6 ()  hf
      · replace hf := im qu8 hf
        refine r_iload_n 2 d_Mo_takeClause_168 rfl rfl ?_
        obtain ⟨ju9, hju9, hf⟩ := lt_ex hf
        have Kju9 : ∀ (_ : Unit), ju9 () = some ru → SW G 5 c_Mo_takeClause R_Mo 4 (some .int) (some (.int ru.1), ru.2) vu1 189 [some (.ref 49), none, some (.int xu5), none] [] := by
          intro _ hf
          rw [hju9] at hf
          refine r_iload_n 2 d_Mo_takeClause_189 rfl rfl ?_
          obtain ⟨ju10, hju10, hf⟩ := lt_ex hf
          have Kju10 : ∀ (_ : Unit), ju10 () = some ru → SW G 5 c_Mo_takeClause R_Mo 4 (some .int) (some (.int ru.1), ru.2) vu1 212 [some (.ref 49), none, none, none] [] := by
            intro _ hf
            rw [hju10] at hf
            refine r_aload_n 0 d_Mo_takeClause_212 rfl rfl ?_
            refine r_iconst (v := 3) d_Mo_takeClause_213 (by decide) ?_
            refine r_aload_n 0 d_Mo_takeClause_214 rfl rfl ?_
            refine r_getI d_Mo_takeClause_215 fl_Mo_101 sh_49 (by decide) ?_
            refine r_callV [.int 3, .int (vu1.1 49 12)] d_Mo_takeClause_218 lk_Mo_131 sh_49 (cm_Mo_fails 3 (vu1.1 49 12) vu1) (by decide) rfl rfl (Nat.le_of_ble_eq_true rfl) ?_
            refine nmM (fun Mu11 hMu11 => ?_)
            replace hf := lt_of hMu11 hf
            obtain rfl := Option.some.inj hf
            exact r_ireturn d_Mo_takeClause_221 rfl rfl
          obtain ⟨ju12, hju12, hf⟩ := lt_ex hf
          have Kju12 : ∀ (_ : Unit), ju12 () = some ru → SW G 5 c_Mo_takeClause R_Mo 4 (some .int) (some (.int ru.1), ru.2) vu1 200 [some (.ref 49), none, some (.int xu5), none] [] := by
            intro _ hf
            rw [hju12] at hf
            refine r_iload_n 2 d_Mo_takeClause_200 rfl rfl ?_
            refine r_iconst (v := 4) d_Mo_takeClause_201 (by decide) ?_
            obtain ⟨ju13, hju13, hf⟩ := lt_ex hf
            have Kju13 : ∀ (_ : Unit), ju13 () = some ru → SW G 5 c_Mo_takeClause R_Mo 4 (some .int) (some (.int ru.1), ru.2) vu1 222 [some (.ref 49), none, some (.int xu5), none] [] := by
              intro _ hf
              rw [hju13] at hf
              refine r_aload_n 0 d_Mo_takeClause_222 rfl rfl ?_
              refine r_aload_n 0 d_Mo_takeClause_223 rfl rfl ?_
              refine r_getI d_Mo_takeClause_224 fl_Mo_112 sh_49 (by decide) ?_
              refine r_putI d_Mo_takeClause_227 fl_Mo_101 sh_49 (Or.inl rfl) rfl ?_
              refine nmM (fun Mu14 hMu14 => ?_)
              replace hf := lt_of hMu14 hf
              refine r_aload_n 0 d_Mo_takeClause_230 rfl rfl ?_
              refine r_iload_n 2 d_Mo_takeClause_231 rfl rfl ?_
              obtain ⟨vu15, evu15, hf⟩ := bnd hf
              obtain ⟨vu16, Mu17⟩ := vu15
              replace hf := lt_of (rfl : vu16 = (vu16, Mu17).1) hf
              replace hf := lt_of (rfl : Mu17 = (vu16, Mu17).2) hf
              refine r_callV [.int xu5] d_Mo_takeClause_232 lk_Mo_179 sh_49 (cm_Mo_takeKind evu15) (by decide) rfl rfl (Nat.le_of_ble_eq_true rfl) ?_
              refine r_istore_n (lv' := [some (.ref 49), none, some (.int xu5), some (.int vu16)]) 3 d_Mo_takeClause_235 rfl (by decide) rfl ?_
              refine r_iload_n 3 d_Mo_takeClause_236 rfl rfl ?_
              obtain ⟨ju18, hju18, hf⟩ := lt_ex hf
              have Kju18 : ∀ (Mu19 : Mm), ju18 Mu19 = some ru → SW G 5 c_Mo_takeClause R_Mo 4 (some .int) (some (.int ru.1), ru.2) Mu19 259 [some (.ref 49), none, none, some (.int vu16)] [] := by
                intro Mu19 hf
                rw [hju18] at hf
                refine r_aload_n 0 d_Mo_takeClause_259 rfl rfl ?_
                refine r_dup d_Mo_takeClause_260 rfl ?_
                refine r_getI d_Mo_takeClause_261 fl_Mo_101 sh_49 (by decide) ?_
                refine r_iconst (v := 1) d_Mo_takeClause_264 (by decide) ?_
                refine r_iadd d_Mo_takeClause_265 ?_
                refine r_putI d_Mo_takeClause_266 fl_Mo_101 sh_49 (Or.inl rfl) rfl ?_
                refine nmM (fun Mu20 hMu20 => ?_)
                replace hf := lt_of hMu20 hf
                refine r_iload_n 3 d_Mo_takeClause_269 rfl rfl ?_
                obtain rfl := Option.some.inj hf
                exact r_ireturn d_Mo_takeClause_270 rfl rfl
              refine r_if_ne 259 d_Mo_takeClause_237 (by decide) (fun qu21 => ?_) (fun qu21 => ?_)
              · replace hf := im qu21 hf
                refine r_weak [2] (lv' := [some (.ref 49), none, none, some (.int vu16)]) rfl ?_
                exact Kju18 Mu17  hf
              · replace hf := ip qu21 hf
                refine r_aload_n 0 d_Mo_takeClause_240 rfl rfl ?_
                obtain ⟨vu22, evu22, hf⟩ := bnd hf
                obtain ⟨vu23, Mu24⟩ := vu22
                replace hf := lt_of (rfl : vu23 = (vu23, Mu24).1) hf
                replace hf := lt_of (rfl : Mu24 = (vu23, Mu24).2) hf
                refine r_callV [] d_Mo_takeClause_241 lk_Mo_104 sh_49 (cm_Mo_here evu22) (by decide) rfl rfl (Nat.le_of_ble_eq_true rfl) ?_
                refine r_bipush (v := 59) d_Mo_takeClause_244 (by decide) ?_
                refine r_icmp_eq 259 d_Mo_takeClause_246 (by decide) (fun qu25 => ?_) (fun qu25 => ?_)
                · replace hf := ip qu25 hf
                  refine r_weak [2] (lv' := [some (.ref 49), none, none, some (.int vu16)]) rfl ?_
                  exact Kju18 Mu24  hf
                · replace hf := im qu25 hf
                  refine r_aload_n 0 d_Mo_takeClause_249 rfl rfl ?_
                  refine r_iconst (v := 1) d_Mo_takeClause_250 (by decide) ?_
                  refine r_aload_n 0 d_Mo_takeClause_251 rfl rfl ?_
                  refine r_getI d_Mo_takeClause_252 fl_Mo_101 sh_49 (by decide) ?_
                  refine r_callV [.int 1, .int (Mu24.1 49 12)] d_Mo_takeClause_255 lk_Mo_131 sh_49 (cm_Mo_fails 1 (Mu24.1 49 12) Mu24) (by decide) rfl rfl (Nat.le_of_ble_eq_true rfl) ?_
                  refine nmM (fun Mu26 hMu26 => ?_)
                  replace hf := lt_of hMu26 hf
                  obtain rfl := Option.some.inj hf
                  exact r_ireturn d_Mo_takeClause_258 rfl rfl
            refine r_icmp_ne 222 d_Mo_takeClause_202 (by decide) (fun qu27 => ?_) (fun qu27 => ?_)
            · replace hf := im qu27 hf
              exact Kju13 ()  hf
            · replace hf := ip qu27 hf
              refine r_aload_n 0 d_Mo_takeClause_205 rfl rfl ?_
              refine r_getI d_Mo_takeClause_206 fl_Mo_156 sh_49 (by decide) ?_
              refine r_if_le 222 d_Mo_takeClause_209 (by decide) (fun qu28 => ?_) (fun qu28 => ?_)
              · replace hf := ip qu28 hf
                exact Kju13 ()  hf
              · replace hf := im qu28 hf
                refine r_weak [2] (lv' := [some (.ref 49), none, none, none]) rfl ?_
                exact Kju10 ()  hf
          refine r_if_ne 200 d_Mo_takeClause_190 (by decide) (fun qu29 => ?_) (fun qu29 => ?_)
          · replace hf := im qu29 hf
            exact Kju12 ()  hf
          · replace hf := ip qu29 hf
            refine r_aload_n 0 d_Mo_takeClause_193 rfl rfl ?_
            refine r_getI d_Mo_takeClause_194 fl_Mo_141 sh_49 (by decide) ?_
            refine r_if_gt 212 d_Mo_takeClause_197 (by decide) (fun qu30 => ?_) (fun qu30 => ?_)
            · replace hf := ip qu30 hf
              refine r_weak [2] (lv' := [some (.ref 49), none, none, none]) rfl ?_
              exact Kju10 ()  hf
            · replace hf := im qu30 hf
              exact Kju12 ()  hf
        refine r_if_le 189 d_Mo_takeClause_169 (by decide) (fun qu31 => ?_) (fun qu31 => ?_)
        · replace hf := ip qu31 hf
          exact Kju9 ()  hf
        · replace hf := im qu31 hf
          refine r_aload_n 0 d_Mo_takeClause_172 rfl rfl ?_
          refine r_getI d_Mo_takeClause_173 fl_Mo_141 sh_49 (by decide) ?_
          refine r_if_ne 189 d_Mo_takeClause_176 (by decide) (fun qu32 => ?_) (fun qu32 => ?_)
          · replace hf := im qu32 hf
            exact Kju9 ()  hf
          · replace hf := ip qu32 hf
            refine r_weak [2] (lv' := [some (.ref 49), none, none, none]) rfl ?_
            exact Kju6 ()  hf
    refine r_if_lt 86 d_Mo_takeClause_79 (by decide) (fun qu33 => ?_) (fun qu33 => ?_)
    · replace hf := ip qu33 hf
      refine r_aload_n 0 d_Mo_takeClause_86 rfl rfl ?_
      refine r_getL d_Mo_takeClause_87 fl_Mo_108 sh_49 rfl ?_
      refine r_bipush (v := 98) d_Mo_takeClause_90 (by decide) ?_
      refine r_bipush (v := 97) d_Mo_takeClause_92 (by decide) ?_
      refine r_bipush (v := 114) d_Mo_takeClause_94 (by decide) ?_
      refine r_bipush (v := 114) d_Mo_takeClause_96 (by decide) ?_
      refine r_callS [.int 98, .int 97, .int 114, .int 114] d_Mo_takeClause_98 lk_Mo_169 (cm_Mo_code 98 97 114 114 vu1) (by decide) rfl rfl (Nat.le_of_ble_eq_true rfl) ?_
      refine r_bipush (v := 101) d_Mo_takeClause_101 (by decide) ?_
      refine r_bipush (v := 100) d_Mo_takeClause_103 (by decide) ?_
      refine r_callS [.long (f_Mo_code 98 97 114 114), .int 101, .int 100] d_Mo_takeClause_105 lk_Mo_173 (cm_Mo_longer (f_Mo_code 98 97 114 114) 101 100 vu1) (by decide) rfl rfl (Nat.le_of_ble_eq_true rfl) ?_
      refine r_lcmp d_Mo_takeClause_108 ?_
      refine r_if_ne 116 d_Mo_takeClause_109 (by decide) (fun qu34 => ?_) (fun qu34 => ?_)
      · replace hf := im qu34 hf
        refine r_aload_n 0 d_Mo_takeClause_116 rfl rfl ?_
        refine r_getL d_Mo_takeClause_117 fl_Mo_108 sh_49 rfl ?_
        refine r_bipush (v := 109) d_Mo_takeClause_120 (by decide) ?_
        refine r_bipush (v := 117) d_Mo_takeClause_122 (by decide) ?_
        refine r_bipush (v := 115) d_Mo_takeClause_124 (by decide) ?_
        refine r_bipush (v := 116) d_Mo_takeClause_126 (by decide) ?_
        refine r_callS [.int 109, .int 117, .int 115, .int 116] d_Mo_takeClause_128 lk_Mo_169 (cm_Mo_code 109 117 115 116 vu1) (by decide) rfl rfl (Nat.le_of_ble_eq_true rfl) ?_
        refine r_lcmp d_Mo_takeClause_131 ?_
        refine r_if_ne 139 d_Mo_takeClause_132 (by decide) (fun qu35 => ?_) (fun qu35 => ?_)
        · replace hf := im qu35 hf
          refine r_aload_n 0 d_Mo_takeClause_139 rfl rfl ?_
          refine r_getL d_Mo_takeClause_140 fl_Mo_108 sh_49 rfl ?_
          refine r_bipush (v := 99) d_Mo_takeClause_143 (by decide) ?_
          refine r_bipush (v := 111) d_Mo_takeClause_145 (by decide) ?_
          refine r_bipush (v := 115) d_Mo_takeClause_147 (by decide) ?_
          refine r_bipush (v := 116) d_Mo_takeClause_149 (by decide) ?_
          refine r_callS [.int 99, .int 111, .int 115, .int 116] d_Mo_takeClause_151 lk_Mo_169 (cm_Mo_code 99 111 115 116 vu1) (by decide) rfl rfl (Nat.le_of_ble_eq_true rfl) ?_
          refine r_lcmp d_Mo_takeClause_154 ?_
          refine r_if_ne 162 d_Mo_takeClause_155 (by decide) (fun qu36 => ?_) (fun qu36 => ?_)
          · replace hf := im qu36 hf
            refine r_iconst (v := (-1)) d_Mo_takeClause_162 (by decide) ?_
            refine r_weak [1] (lv' := [some (.ref 49), none, none, none]) rfl ?_
            exact Kju4 (-1)  hf
          · replace hf := ip qu36 hf
            refine r_iconst (v := 4) d_Mo_takeClause_158 (by decide) ?_
            refine r_goto 163 d_Mo_takeClause_159 (by decide) ?_
            refine r_weak [1] (lv' := [some (.ref 49), none, none, none]) rfl ?_
            exact Kju4 4  hf
        · replace hf := ip qu35 hf
          refine r_iconst (v := 3) d_Mo_takeClause_135 (by decide) ?_
          refine r_goto 163 d_Mo_takeClause_136 (by decide) ?_
          refine r_weak [1] (lv' := [some (.ref 49), none, none, none]) rfl ?_
          exact Kju4 3  hf
      · replace hf := ip qu34 hf
        refine r_iconst (v := 2) d_Mo_takeClause_112 (by decide) ?_
        refine r_goto 163 d_Mo_takeClause_113 (by decide) ?_
        refine r_weak [1] (lv' := [some (.ref 49), none, none, none]) rfl ?_
        exact Kju4 2  hf
    · replace hf := im qu33 hf
      refine r_iload_n 1 d_Mo_takeClause_82 rfl rfl ?_
      refine r_goto 163 d_Mo_takeClause_83 (by decide) ?_
      refine r_weak [1] (lv' := [some (.ref 49), none, none, none]) rfl ?_
      exact Kju4 xu3  hf
  refine r_if_ne 34 d_Mo_takeClause_27 (by decide) (fun qu37 => ?_) (fun qu37 => ?_)
  · replace hf := im qu37 hf
    refine r_aload_n 0 d_Mo_takeClause_34 rfl rfl ?_
    refine r_getL d_Mo_takeClause_35 fl_Mo_108 sh_49 rfl ?_
    refine r_ldc2_w d_Mo_takeClause_38 k_Mo_123 ?_
    refine r_bipush (v := 102) d_Mo_takeClause_41 (by decide) ?_
    refine r_bipush (v := 114) d_Mo_takeClause_43 (by decide) ?_
    refine r_bipush (v := 105) d_Mo_takeClause_45 (by decide) ?_
    refine r_bipush (v := 101) d_Mo_takeClause_47 (by decide) ?_
    refine r_callS [.int 102, .int 114, .int 105, .int 101] d_Mo_takeClause_49 lk_Mo_169 (cm_Mo_code 102 114 105 101 vu1) (by decide) rfl rfl (Nat.le_of_ble_eq_true rfl) ?_
    refine r_bipush (v := 110) d_Mo_takeClause_52 (by decide) ?_
    refine r_bipush (v := 100) d_Mo_takeClause_54 (by decide) ?_
    refine r_callS [.long (f_Mo_code 102 114 105 101), .int 110, .int 100] d_Mo_takeClause_56 lk_Mo_173 (cm_Mo_longer (f_Mo_code 102 114 105 101) 110 100 vu1) (by decide) rfl rfl (Nat.le_of_ble_eq_true rfl) ?_
    refine r_lmul d_Mo_takeClause_59 ?_
    refine r_ldc2_w d_Mo_takeClause_60 k_Mo_177 ?_
    refine r_ladd d_Mo_takeClause_63 ?_
    refine r_ldc2_w d_Mo_takeClause_64 k_Mo_125 ?_
    refine r_lsub d_Mo_takeClause_67 ?_
    refine r_lcmp d_Mo_takeClause_68 ?_
    refine r_if_ne 76 d_Mo_takeClause_69 (by decide) (fun qu38 => ?_) (fun qu38 => ?_)
    · replace hf := im qu38 hf
      refine r_iconst (v := (-1)) d_Mo_takeClause_76 (by decide) ?_
      exact Kju2 (-1)  hf
    · replace hf := ip qu38 hf
      refine r_iconst (v := 1) d_Mo_takeClause_72 (by decide) ?_
      refine r_goto 77 d_Mo_takeClause_73 (by decide) ?_
      exact Kju2 1  hf
  · replace hf := ip qu37 hf
    refine r_iconst (v := 0) d_Mo_takeClause_30 (by decide) ?_
    refine r_goto 77 d_Mo_takeClause_31 (by decide) ?_
    exact Kju2 0  hf
def L_Mo_town_37 (Nu : Nat) (ju8 : Int32 → Mm → Option (Int32 × Mm)) : Nat → Int32 → Mm → Option (Int32 × Mm)
  | 0, _, _ => none
  | nu + 1, z1_37, M_37 => if z1_37 = 0 then (f_Mo_here Nu M_37).bind fun vu30 => lt vu30.1 fun vu31 => lt vu30.2 fun Mu32 => if vu31 < 0 then ju8 z1_37 Mu32 else (f_Mo_takeClause Nu Mu32).bind fun vu34 => lt vu34.1 fun vu35 => lt vu34.2 fun Mu36 => L_Mo_town_37 Nu ju8 nu vu35 Mu36 else ju8 z1_37 M_37
def f_Mo_town (Nu : Nat) (Mu : Mm) : Option (Int32 × Mm) := lt (si Mu 49 11 (-1)) fun Mu1 => lt (si Mu1 49 12 0) fun Mu2 => lt (si Mu2 49 17 0) fun Mu3 => lt (si Mu3 49 18 0) fun Mu4 => lt (si Mu4 49 19 0) fun Mu5 => lt (si Mu5 49 20 0) fun Mu6 => lt (si Mu6 49 21 0) fun Mu7 => lt (fun (xu9 : Int32) (Mu10 : Mm) => lt (si Mu10 49 10 0) fun Mu11 => if xu9 ≤ 0 then lt (si Mu11 49 0 (Mu11.1 49 17)) fun Mu13 => lt (si Mu13 49 1 (Mu13.1 49 18)) fun Mu14 => lt (si Mu14 49 2 (Mu14.1 49 19)) fun Mu15 => lt (si Mu15 49 3 (Mu15.1 49 20)) fun Mu16 => lt (fun (xu18 : Int32) => lt (si Mu16 49 4 xu18) fun Mu19 => lt (fun (xu21 : Int32) => lt (si Mu19 49 5 xu21) fun Mu22 => (f_Mo_tellCounts Nu Mu22).bind fun vu23 => lt (si vu23 49 33 0) fun Mu24 => lt (si Mu24 63 (Int32.toNatClampNeg 0) (vp_nar .boolean 0)) fun Mu25 => lt (si Mu25 63 (Int32.toNatClampNeg 1) (vp_nar .boolean 0)) fun Mu26 => some (Mu26.1 49 0, Mu26)) fun ju20 => if (Mu19.1 49 21) ≤ 0 then ju20 1 else ju20 (Mu19.1 49 22)) fun ju17 => if (Mu16.1 49 21) ≤ 0 then ju17 1 else ju17 (Mu16.1 49 21) else some (((-10) : Int32) - xu9, Mu11)) fun ju8 => L_Mo_town_37 Nu ju8 Nu 0 Mu7
theorem l_Mo_town_37 {G : GT} {ru : Int32 × Mm} (Nu : Nat) (ju8 : Int32 → Mm → Option (Int32 × Mm))  (Kju8 : ∀ (w1 : Int32) (Mw : Mm), ju8 w1 Mw = some ru → SW G 6 c_Mo_town R_Mo 2 (some .int) (some (.int ru.1), ru.2) Mw 56 [some (.ref 49), some (.int w1)] [])  : ∀ (nu : Nat) (z1_37 : Int32) (M_37 : Mm), L_Mo_town_37 Nu ju8 nu z1_37 M_37 = some ru → SW G 6 c_Mo_town R_Mo 2 (some .int) (some (.int ru.1), ru.2) M_37 37 [some (.ref 49), some (.int z1_37)] []
  | 0, _, _, hf => by cases hf
  | nu + 1, z1_37, M_37, hf => by
    have ih := l_Mo_town_37 (G := G) (ru := ru) Nu ju8  Kju8 nu
    rw [L_Mo_town_37] at hf
    refine r_iload_n 1 d_Mo_town_37 rfl rfl ?_
    refine r_if_ne 56 d_Mo_town_38 (by decide) (fun qu29 => ?_) (fun qu29 => ?_)
    · replace hf := im qu29 hf
      exact Kju8 z1_37 M_37  hf
    · replace hf := ip qu29 hf
      refine r_aload_n 0 d_Mo_town_41 rfl rfl ?_
      obtain ⟨vu30, evu30, hf⟩ := bnd hf
      obtain ⟨vu31, Mu32⟩ := vu30
      replace hf := lt_of (rfl : vu31 = (vu31, Mu32).1) hf
      replace hf := lt_of (rfl : Mu32 = (vu31, Mu32).2) hf
      refine r_callV [] d_Mo_town_42 lk_Mo_104 sh_49 (cm_Mo_here evu30) (by decide) rfl rfl (Nat.le_of_ble_eq_true rfl) ?_
      refine r_if_lt 56 d_Mo_town_45 (by decide) (fun qu33 => ?_) (fun qu33 => ?_)
      · replace hf := ip qu33 hf
        exact Kju8 z1_37 Mu32  hf
      · replace hf := im qu33 hf
        refine r_aload_n 0 d_Mo_town_48 rfl rfl ?_
        obtain ⟨vu34, evu34, hf⟩ := bnd hf
        obtain ⟨vu35, Mu36⟩ := vu34
        replace hf := lt_of (rfl : vu35 = (vu35, Mu36).1) hf
        replace hf := lt_of (rfl : Mu36 = (vu35, Mu36).2) hf
        refine r_callV [] d_Mo_town_49 lk_Mo_182 sh_49 (cm_Mo_takeClause evu34) (by decide) rfl rfl (Nat.le_of_ble_eq_true rfl) ?_
        refine r_istore_n (lv' := [some (.ref 49), some (.int vu35)]) 1 d_Mo_town_52 rfl (by decide) rfl ?_
        refine r_goto 37 d_Mo_town_53 (by decide) ?_
        exact ih vu35 Mu36  hf
theorem cm_Mo_town {G : GT} {Nu : Nat} {Mu : Mm}  {ru : Int32 × Mm}  (hf : f_Mo_town Nu Mu = some ru) : CM G 6 y_Mo_town c_Mo_town 2 (some .int) (some (.int ru.1), ru.2) Mu [.ref 49] := by
  unfold f_Mo_town at hf
  refine CM.of (own := R_Mo) (lv := [some (.ref 49), none]) (by decide) rfl (Nat.le_of_ble_eq_true rfl) rfl ?_
  refine r_aload_n 0 d_Mo_town_0 rfl rfl ?_
  refine r_iconst (v := (-1)) d_Mo_town_1 (by decide) ?_
  refine r_putI d_Mo_town_2 fl_Mo_26 sh_49 (Or.inl rfl) rfl ?_
  refine nmM (fun Mu1 hMu1 => ?_)
  replace hf := lt_of hMu1 hf
  refine r_aload_n 0 d_Mo_town_5 rfl rfl ?_
  refine r_iconst (v := 0) d_Mo_town_6 (by decide) ?_
  refine r_putI d_Mo_town_7 fl_Mo_101 sh_49 (Or.inl rfl) rfl ?_
  refine nmM (fun Mu2 hMu2 => ?_)
  replace hf := lt_of hMu2 hf
  refine r_aload_n 0 d_Mo_town_10 rfl rfl ?_
  refine r_iconst (v := 0) d_Mo_town_11 (by decide) ?_
  refine r_putI d_Mo_town_12 fl_Mo_141 sh_49 (Or.inl rfl) rfl ?_
  refine nmM (fun Mu3 hMu3 => ?_)
  replace hf := lt_of hMu3 hf
  refine r_aload_n 0 d_Mo_town_15 rfl rfl ?_
  refine r_iconst (v := 0) d_Mo_town_16 (by decide) ?_
  refine r_putI d_Mo_town_17 fl_Mo_147 sh_49 (Or.inl rfl) rfl ?_
  refine nmM (fun Mu4 hMu4 => ?_)
  replace hf := lt_of hMu4 hf
  refine r_aload_n 0 d_Mo_town_20 rfl rfl ?_
  refine r_iconst (v := 0) d_Mo_town_21 (by decide) ?_
  refine r_putI d_Mo_town_22 fl_Mo_150 sh_49 (Or.inl rfl) rfl ?_
  refine nmM (fun Mu5 hMu5 => ?_)
  replace hf := lt_of hMu5 hf
  refine r_aload_n 0 d_Mo_town_25 rfl rfl ?_
  refine r_iconst (v := 0) d_Mo_town_26 (by decide) ?_
  refine r_putI d_Mo_town_27 fl_Mo_153 sh_49 (Or.inl rfl) rfl ?_
  refine nmM (fun Mu6 hMu6 => ?_)
  replace hf := lt_of hMu6 hf
  refine r_aload_n 0 d_Mo_town_30 rfl rfl ?_
  refine r_iconst (v := 0) d_Mo_town_31 (by decide) ?_
  refine r_putI d_Mo_town_32 fl_Mo_156 sh_49 (Or.inl rfl) rfl ?_
  refine nmM (fun Mu7 hMu7 => ?_)
  replace hf := lt_of hMu7 hf
  refine r_iconst (v := 0) d_Mo_town_35 (by decide) ?_
  refine r_istore_n (lv' := [some (.ref 49), some (.int 0)]) 1 d_Mo_town_36 rfl (by decide) rfl ?_
  obtain ⟨ju8, hju8, hf⟩ := lt_ex hf
  have Kju8 : ∀ (xu9 : Int32) (Mu10 : Mm), ju8 xu9 Mu10 = some ru → SW G 6 c_Mo_town R_Mo 2 (some .int) (some (.int ru.1), ru.2) Mu10 56 [some (.ref 49), some (.int xu9)] [] := by
    intro xu9 Mu10 hf
    rw [hju8] at hf
    refine r_aload_n 0 d_Mo_town_56 rfl rfl ?_
    refine r_iconst (v := 0) d_Mo_town_57 (by decide) ?_
    refine r_putI d_Mo_town_58 fl_Mo_95 sh_49 (Or.inl rfl) rfl ?_
    refine nmM (fun Mu11 hMu11 => ?_)
    replace hf := lt_of hMu11 hf
    refine r_iload_n 1 d_Mo_town_61 rfl rfl ?_
    refine r_if_le 70 d_Mo_town_62 (by decide) (fun qu12 => ?_) (fun qu12 => ?_)
    · replace hf := ip qu12 hf
      refine r_aload_n 0 d_Mo_town_70 rfl rfl ?_
      refine r_aload_n 0 d_Mo_town_71 rfl rfl ?_
      refine r_getI d_Mo_town_72 fl_Mo_141 sh_49 (by decide) ?_
      refine r_putI d_Mo_town_75 fl_Mo_63 sh_49 (Or.inl rfl) rfl ?_
      refine nmM (fun Mu13 hMu13 => ?_)
      replace hf := lt_of hMu13 hf
      refine r_aload_n 0 d_Mo_town_78 rfl rfl ?_
      refine r_aload_n 0 d_Mo_town_79 rfl rfl ?_
      refine r_getI d_Mo_town_80 fl_Mo_147 sh_49 (by decide) ?_
      refine r_putI d_Mo_town_83 fl_Mo_86 sh_49 (Or.inl rfl) rfl ?_
      refine nmM (fun Mu14 hMu14 => ?_)
      replace hf := lt_of hMu14 hf
      refine r_aload_n 0 d_Mo_town_86 rfl rfl ?_
      refine r_aload_n 0 d_Mo_town_87 rfl rfl ?_
      refine r_getI d_Mo_town_88 fl_Mo_150 sh_49 (by decide) ?_
      refine r_putI d_Mo_town_91 fl_Mo_185 sh_49 (Or.inl rfl) rfl ?_
      refine nmM (fun Mu15 hMu15 => ?_)
      replace hf := lt_of hMu15 hf
      refine r_aload_n 0 d_Mo_town_94 rfl rfl ?_
      refine r_aload_n 0 d_Mo_town_95 rfl rfl ?_
      refine r_getI d_Mo_town_96 fl_Mo_153 sh_49 (by decide) ?_
      refine r_putI d_Mo_town_99 fl_Mo_188 sh_49 (Or.inl rfl) rfl ?_
      refine nmM (fun Mu16 hMu16 => ?_)
      replace hf := lt_of hMu16 hf
      refine r_aload_n 0 d_Mo_town_102 rfl rfl ?_
      refine r_aload_n 0 d_Mo_town_103 rfl rfl ?_
      refine r_getI d_Mo_town_104 fl_Mo_156 sh_49 (by decide) ?_
      obtain ⟨ju17, hju17, hf⟩ := lt_ex hf
      have Kju17 : ∀ (xu18 : Int32), ju17 xu18 = some ru → SW G 6 c_Mo_town R_Mo 2 (some .int) (some (.int ru.1), ru.2) Mu16 118 [some (.ref 49), none] [.int xu18, .ref 49] := by
        intro xu18 hf
        rw [hju17] at hf
        refine r_putI d_Mo_town_118 fl_Mo_7 sh_49 (Or.inl rfl) rfl ?_
        refine nmM (fun Mu19 hMu19 => ?_)
        replace hf := lt_of hMu19 hf
        refine r_aload_n 0 d_Mo_town_121 rfl rfl ?_
        refine r_aload_n 0 d_Mo_town_122 rfl rfl ?_
        refine r_getI d_Mo_town_123 fl_Mo_156 sh_49 (by decide) ?_
        obtain ⟨ju20, hju20, hf⟩ := lt_ex hf
        have Kju20 : ∀ (xu21 : Int32), ju20 xu21 = some ru → SW G 6 c_Mo_town R_Mo 2 (some .int) (some (.int ru.1), ru.2) Mu19 137 [some (.ref 49), none] [.int xu21, .ref 49] := by
          intro xu21 hf
          rw [hju20] at hf
          refine r_putI d_Mo_town_137 fl_Mo_13 sh_49 (Or.inl rfl) rfl ?_
          refine nmM (fun Mu22 hMu22 => ?_)
          replace hf := lt_of hMu22 hf
          refine r_aload_n 0 d_Mo_town_140 rfl rfl ?_
          obtain ⟨vu23, evu23, hf⟩ := bnd hf
          refine r_callV [] d_Mo_town_141 lk_Mo_191 sh_49 (cm_Mo_tellCounts evu23) (by decide) rfl rfl (Nat.le_of_ble_eq_true rfl) ?_
          refine r_aload_n 0 d_Mo_town_144 rfl rfl ?_
          refine r_iconst (v := 0) d_Mo_town_145 (by decide) ?_
          refine r_putI d_Mo_town_146 fl_Mo_194 sh_49 (Or.inl rfl) rfl ?_
          refine nmM (fun Mu24 hMu24 => ?_)
          replace hf := lt_of hMu24 hf
          refine r_aload_n 0 d_Mo_town_149 rfl rfl ?_
          refine r_getR 63 d_Mo_town_150 fl_Mo_60 sh_49 rfl rf_49_38 ?_
          refine r_iconst (v := 0) d_Mo_town_153 (by decide) ?_
          refine r_iconst (v := 0) d_Mo_town_154 (by decide) ?_
          refine r_zast d_Mo_town_155 sh_63 (inb_iff.mp (by decide)) ?_
          refine nmM (fun Mu25 hMu25 => ?_)
          replace hf := lt_of hMu25 hf
          refine r_aload_n 0 d_Mo_town_156 rfl rfl ?_
          refine r_getR 63 d_Mo_town_157 fl_Mo_60 sh_49 rfl rf_49_38 ?_
          refine r_iconst (v := 1) d_Mo_town_160 (by decide) ?_
          refine r_iconst (v := 0) d_Mo_town_161 (by decide) ?_
          refine r_zast d_Mo_town_162 sh_63 (inb_iff.mp (by decide)) ?_
          refine nmM (fun Mu26 hMu26 => ?_)
          replace hf := lt_of hMu26 hf
          refine r_aload_n 0 d_Mo_town_163 rfl rfl ?_
          refine r_getI d_Mo_town_164 fl_Mo_63 sh_49 (by decide) ?_
          obtain rfl := Option.some.inj hf
          exact r_ireturn d_Mo_town_167 rfl rfl
        refine r_if_le 136 d_Mo_town_126 (by decide) (fun qu27 => ?_) (fun qu27 => ?_)
        · replace hf := ip qu27 hf
          refine r_iconst (v := 1) d_Mo_town_136 (by decide) ?_
          exact Kju20 1  hf
        · replace hf := im qu27 hf
          refine r_aload_n 0 d_Mo_town_129 rfl rfl ?_
          refine r_getI d_Mo_town_130 fl_Mo_159 sh_49 (by decide) ?_
          refine r_goto 137 d_Mo_town_133 (by decide) ?_
          exact Kju20 (Mu19.1 49 22)  hf
      refine r_if_le 117 d_Mo_town_107 (by decide) (fun qu28 => ?_) (fun qu28 => ?_)
      · replace hf := ip qu28 hf
        refine r_iconst (v := 1) d_Mo_town_117 (by decide) ?_
        refine r_weak [1] (lv' := [some (.ref 49), none]) rfl ?_
        exact Kju17 1  hf
      · replace hf := im qu28 hf
        refine r_aload_n 0 d_Mo_town_110 rfl rfl ?_
        refine r_getI d_Mo_town_111 fl_Mo_156 sh_49 (by decide) ?_
        refine r_goto 118 d_Mo_town_114 (by decide) ?_
        refine r_weak [1] (lv' := [some (.ref 49), none]) rfl ?_
        exact Kju17 (Mu16.1 49 21)  hf
    · replace hf := im qu12 hf
      refine r_bipush (v := (-10)) d_Mo_town_65 (by decide) ?_
      refine r_iload_n 1 d_Mo_town_67 rfl rfl ?_
      refine r_isub d_Mo_town_68 ?_
      obtain rfl := Option.some.inj hf
      exact r_ireturn d_Mo_town_69 rfl rfl
  exact l_Mo_town_37 (G := G) (ru := ru) Nu ju8  Kju8 Nu 0 Mu7 hf
def f_Mo_fault (Mu : Mm) : Int32 := Mu.1 49 11
theorem cm_Mo_fault {G : GT} (Mu : Mm)   : CM G 1 y_Mo_fault c_Mo_fault 1 (some .int) (some (.int (f_Mo_fault Mu)), Mu) Mu [.ref 49] := by
  generalize hf : f_Mo_fault Mu = ru
  unfold f_Mo_fault at hf
  refine CM.of (own := R_Mo) (lv := [some (.ref 49)]) (by decide) rfl (Nat.le_of_ble_eq_true rfl) rfl ?_
  refine r_aload_n 0 d_Mo_fault_0 rfl rfl ?_
  refine r_getI d_Mo_fault_1 fl_Mo_26 sh_49 (by decide) ?_
  subst hf
  exact r_ireturn d_Mo_fault_4 rfl rfl
def f_Mo_told (Nu : Nat) (p0 : Int32) (Mu : Mm) : Option (Int32 × Mm) := if p0 = 0 then some (Mu.1 49 0, Mu) else if p0 = 1 then (f_Mo_bits Nu (Mu.1 49 1)).bind fun vu3 => some (vu3, Mu) else if p0 = 2 then some (Mu.1 49 1, Mu) else if p0 = 3 then some (Mu.1 49 2, Mu) else if p0 = 4 then some (Mu.1 49 3, Mu) else if p0 = 5 then some (Mu.1 49 4, Mu) else if p0 = 6 then some (Mu.1 49 5, Mu) else if p0 = 7 then (f_Mo_alikeIn Nu (Mu.1 49 0) (Mu.1 49 1) Mu).bind fun vu10 => lt vu10.1 fun vu11 => lt vu10.2 fun Mu12 => some (vu11, Mu12) else if p0 = 8 then if (Mu.1 49 0) ≤ 1 then some (0, Mu) else (f_Mo_alikeIn Nu (Mu.1 49 0) (Mu.1 49 1) Mu).bind fun vu15 => lt vu15.1 fun vu16 => lt vu15.2 fun Mu17 => if vu16 = 1 then some (1, Mu17) else some (0, Mu17) else if p0 = 9 then some (Mu.1 49 10, Mu) else if p0 = 10 then some (Mu.1 49 33, Mu) else some ((-1000000002), Mu)
theorem cm_Mo_told {G : GT} {Nu : Nat} {p0 : Int32} {Mu : Mm}  {ru : Int32 × Mm}  (hf : f_Mo_told Nu p0 Mu = some ru) : CM G 3 y_Mo_told c_Mo_told 2 (some .int) (some (.int ru.1), ru.2) Mu [.ref 49, .int p0] := by
  unfold f_Mo_told at hf
  refine CM.of (own := R_Mo) (lv := [some (.ref 49), some (.int p0)]) (by decide) rfl (Nat.le_of_ble_eq_true rfl) rfl ?_
  refine r_iload_n 1 d_Mo_told_0 rfl rfl ?_
  by_cases qu1 : p0 = 0
  · replace hf := ip qu1 hf
    refine r_tabIn 60 d_Mo_told_1 (by rw [qu1]; decide) (by rw [qu1]; decide) (by rw [qu1]; rfl) (by decide) ?_
    refine r_aload_n 0 d_Mo_told_60 rfl rfl ?_
    refine r_getI d_Mo_told_61 fl_Mo_63 sh_49 (by decide) ?_
    obtain rfl := Option.some.inj hf
    exact r_ireturn d_Mo_told_64 rfl rfl
  replace hf := im qu1 hf
  by_cases qu2 : p0 = 1
  · replace hf := ip qu2 hf
    refine r_tabIn 65 d_Mo_told_1 (by rw [qu2]; decide) (by rw [qu2]; decide) (by rw [qu2]; rfl) (by decide) ?_
    refine r_aload_n 0 d_Mo_told_65 rfl rfl ?_
    refine r_getI d_Mo_told_66 fl_Mo_86 sh_49 (by decide) ?_
    obtain ⟨vu3, evu3, hf⟩ := bnd hf
    refine r_callS [.int (Mu.1 49 1)] d_Mo_told_69 lk_Mo_197 (cm_Mo_bits evu3) (by decide) rfl rfl (Nat.le_of_ble_eq_true rfl) ?_
    obtain rfl := Option.some.inj hf
    exact r_ireturn d_Mo_told_72 rfl rfl
  replace hf := im qu2 hf
  by_cases qu4 : p0 = 2
  · replace hf := ip qu4 hf
    refine r_tabIn 73 d_Mo_told_1 (by rw [qu4]; decide) (by rw [qu4]; decide) (by rw [qu4]; rfl) (by decide) ?_
    refine r_aload_n 0 d_Mo_told_73 rfl rfl ?_
    refine r_getI d_Mo_told_74 fl_Mo_86 sh_49 (by decide) ?_
    obtain rfl := Option.some.inj hf
    exact r_ireturn d_Mo_told_77 rfl rfl
  replace hf := im qu4 hf
  by_cases qu5 : p0 = 3
  · replace hf := ip qu5 hf
    refine r_tabIn 78 d_Mo_told_1 (by rw [qu5]; decide) (by rw [qu5]; decide) (by rw [qu5]; rfl) (by decide) ?_
    refine r_aload_n 0 d_Mo_told_78 rfl rfl ?_
    refine r_getI d_Mo_told_79 fl_Mo_185 sh_49 (by decide) ?_
    obtain rfl := Option.some.inj hf
    exact r_ireturn d_Mo_told_82 rfl rfl
  replace hf := im qu5 hf
  by_cases qu6 : p0 = 4
  · replace hf := ip qu6 hf
    refine r_tabIn 83 d_Mo_told_1 (by rw [qu6]; decide) (by rw [qu6]; decide) (by rw [qu6]; rfl) (by decide) ?_
    refine r_aload_n 0 d_Mo_told_83 rfl rfl ?_
    refine r_getI d_Mo_told_84 fl_Mo_188 sh_49 (by decide) ?_
    obtain rfl := Option.some.inj hf
    exact r_ireturn d_Mo_told_87 rfl rfl
  replace hf := im qu6 hf
  by_cases qu7 : p0 = 5
  · replace hf := ip qu7 hf
    refine r_tabIn 88 d_Mo_told_1 (by rw [qu7]; decide) (by rw [qu7]; decide) (by rw [qu7]; rfl) (by decide) ?_
    refine r_aload_n 0 d_Mo_told_88 rfl rfl ?_
    refine r_getI d_Mo_told_89 fl_Mo_7 sh_49 (by decide) ?_
    obtain rfl := Option.some.inj hf
    exact r_ireturn d_Mo_told_92 rfl rfl
  replace hf := im qu7 hf
  by_cases qu8 : p0 = 6
  · replace hf := ip qu8 hf
    refine r_tabIn 93 d_Mo_told_1 (by rw [qu8]; decide) (by rw [qu8]; decide) (by rw [qu8]; rfl) (by decide) ?_
    refine r_aload_n 0 d_Mo_told_93 rfl rfl ?_
    refine r_getI d_Mo_told_94 fl_Mo_13 sh_49 (by decide) ?_
    obtain rfl := Option.some.inj hf
    exact r_ireturn d_Mo_told_97 rfl rfl
  replace hf := im qu8 hf
  by_cases qu9 : p0 = 7
  · replace hf := ip qu9 hf
    refine r_tabIn 98 d_Mo_told_1 (by rw [qu9]; decide) (by rw [qu9]; decide) (by rw [qu9]; rfl) (by decide) ?_
    refine r_aload_n 0 d_Mo_told_98 rfl rfl ?_
    refine r_aload_n 0 d_Mo_told_99 rfl rfl ?_
    refine r_getI d_Mo_told_100 fl_Mo_63 sh_49 (by decide) ?_
    refine r_aload_n 0 d_Mo_told_103 rfl rfl ?_
    refine r_getI d_Mo_told_104 fl_Mo_86 sh_49 (by decide) ?_
    obtain ⟨vu10, evu10, hf⟩ := bnd hf
    obtain ⟨vu11, Mu12⟩ := vu10
    replace hf := lt_of (rfl : vu11 = (vu11, Mu12).1) hf
    replace hf := lt_of (rfl : Mu12 = (vu11, Mu12).2) hf
    refine r_callV [.int (Mu.1 49 0), .int (Mu.1 49 1)] d_Mo_told_107 lk_Mo_200 sh_49 (cm_Mo_alikeIn evu10) (by decide) rfl rfl (Nat.le_of_ble_eq_true rfl) ?_
    obtain rfl := Option.some.inj hf
    exact r_ireturn d_Mo_told_110 rfl rfl
  replace hf := im qu9 hf
  by_cases qu13 : p0 = 8
  · replace hf := ip qu13 hf
    refine r_tabIn 111 d_Mo_told_1 (by rw [qu13]; decide) (by rw [qu13]; decide) (by rw [qu13]; rfl) (by decide) ?_
    refine r_aload_n 0 d_Mo_told_111 rfl rfl ?_
    refine r_getI d_Mo_told_112 fl_Mo_63 sh_49 (by decide) ?_
    refine r_iconst (v := 1) d_Mo_told_115 (by decide) ?_
    refine r_icmp_le 139 d_Mo_told_116 (by decide) (fun qu14 => ?_) (fun qu14 => ?_)
    · replace hf := ip qu14 hf
      refine r_iconst (v := 0) d_Mo_told_139 (by decide) ?_
      obtain rfl := Option.some.inj hf
      exact r_ireturn d_Mo_told_140 rfl rfl
    · replace hf := im qu14 hf
      refine r_aload_n 0 d_Mo_told_119 rfl rfl ?_
      refine r_aload_n 0 d_Mo_told_120 rfl rfl ?_
      refine r_getI d_Mo_told_121 fl_Mo_63 sh_49 (by decide) ?_
      refine r_aload_n 0 d_Mo_told_124 rfl rfl ?_
      refine r_getI d_Mo_told_125 fl_Mo_86 sh_49 (by decide) ?_
      obtain ⟨vu15, evu15, hf⟩ := bnd hf
      obtain ⟨vu16, Mu17⟩ := vu15
      replace hf := lt_of (rfl : vu16 = (vu16, Mu17).1) hf
      replace hf := lt_of (rfl : Mu17 = (vu16, Mu17).2) hf
      refine r_callV [.int (Mu.1 49 0), .int (Mu.1 49 1)] d_Mo_told_128 lk_Mo_200 sh_49 (cm_Mo_alikeIn evu15) (by decide) rfl rfl (Nat.le_of_ble_eq_true rfl) ?_
      refine r_iconst (v := 1) d_Mo_told_131 (by decide) ?_
      refine r_icmp_ne 139 d_Mo_told_132 (by decide) (fun qu18 => ?_) (fun qu18 => ?_)
      · replace hf := im qu18 hf
        refine r_iconst (v := 0) d_Mo_told_139 (by decide) ?_
        obtain rfl := Option.some.inj hf
        exact r_ireturn d_Mo_told_140 rfl rfl
      · replace hf := ip qu18 hf
        refine r_iconst (v := 1) d_Mo_told_135 (by decide) ?_
        refine r_goto 140 d_Mo_told_136 (by decide) ?_
        obtain rfl := Option.some.inj hf
        exact r_ireturn d_Mo_told_140 rfl rfl
  replace hf := im qu13 hf
  by_cases qu19 : p0 = 9
  · replace hf := ip qu19 hf
    refine r_tabIn 141 d_Mo_told_1 (by rw [qu19]; decide) (by rw [qu19]; decide) (by rw [qu19]; rfl) (by decide) ?_
    refine r_aload_n 0 d_Mo_told_141 rfl rfl ?_
    refine r_getI d_Mo_told_142 fl_Mo_95 sh_49 (by decide) ?_
    obtain rfl := Option.some.inj hf
    exact r_ireturn d_Mo_told_145 rfl rfl
  replace hf := im qu19 hf
  by_cases qu20 : p0 = 10
  · replace hf := ip qu20 hf
    refine r_tabIn 146 d_Mo_told_1 (by rw [qu20]; decide) (by rw [qu20]; decide) (by rw [qu20]; rfl) (by decide) ?_
    refine r_aload_n 0 d_Mo_told_146 rfl rfl ?_
    refine r_getI d_Mo_told_147 fl_Mo_194 sh_49 (by decide) ?_
    obtain rfl := Option.some.inj hf
    exact r_ireturn d_Mo_told_150 rfl rfl
  replace hf := im qu20 hf
  refine r_tabOut 151 d_Mo_told_1 (by have tq1 := lv_neT qu1 (a := 0) (by decide); have tq2 := lv_neT qu2 (a := 1) (by decide); have tq4 := lv_neT qu4 (a := 2) (by decide); have tq5 := lv_neT qu5 (a := 3) (by decide); have tq6 := lv_neT qu6 (a := 4) (by decide); have tq7 := lv_neT qu7 (a := 5) (by decide); have tq8 := lv_neT qu8 (a := 6) (by decide); have tq9 := lv_neT qu9 (a := 7) (by decide); have tq13 := lv_neT qu13 (a := 8) (by decide); have tq19 := lv_neT qu19 (a := 9) (by decide); have tq20 := lv_neT qu20 (a := 10) (by decide); omega) (by decide) ?_
  refine r_ldc d_Mo_told_151 k_Mo_94 ?_
  obtain rfl := Option.some.inj hf
  exact r_ireturn d_Mo_told_153 rfl rfl
def f_Mo_count (Nu : Nat) (p0 : Int32) (Mu : Mm) : Option (Int32) := if (f_Mo_isPerson p0 Mu) = 0 then some (-1000000001) else (f_Mo_countIn Nu (Mu.1 49 0) (Mu.1 49 1) p0).bind fun vu2 => some vu2
theorem cm_Mo_count {G : GT} {Nu : Nat} {p0 : Int32} {Mu : Mm}  {ru : Int32}  (hf : f_Mo_count Nu p0 Mu = some ru) : CM G 3 y_Mo_count c_Mo_count 2 (some .int) (some (.int ru), Mu) Mu [.ref 49, .int p0] := by
  unfold f_Mo_count at hf
  refine CM.of (own := R_Mo) (lv := [some (.ref 49), some (.int p0)]) (by decide) rfl (Nat.le_of_ble_eq_true rfl) rfl ?_
  refine r_aload_n 0 d_Mo_count_0 rfl rfl ?_
  refine r_iload_n 1 d_Mo_count_1 rfl rfl ?_
  refine r_callV [.int p0] d_Mo_count_2 lk_Mo_70 sh_49 (cm_Mo_isPerson p0 Mu) (by decide) rfl rfl (Nat.le_of_ble_eq_true rfl) ?_
  refine r_if_eq 23 d_Mo_count_5 (by decide) (fun qu1 => ?_) (fun qu1 => ?_)
  · replace hf := ip qu1 hf
    refine r_ldc d_Mo_count_23 k_Mo_203 ?_
    obtain rfl := Option.some.inj hf
    exact r_ireturn d_Mo_count_25 rfl rfl
  · replace hf := im qu1 hf
    refine r_aload_n 0 d_Mo_count_8 rfl rfl ?_
    refine r_getI d_Mo_count_9 fl_Mo_63 sh_49 (by decide) ?_
    refine r_aload_n 0 d_Mo_count_12 rfl rfl ?_
    refine r_getI d_Mo_count_13 fl_Mo_86 sh_49 (by decide) ?_
    refine r_iload_n 1 d_Mo_count_16 rfl rfl ?_
    obtain ⟨vu2, evu2, hf⟩ := bnd hf
    refine r_callS [.int (Mu.1 49 0), .int (Mu.1 49 1), .int p0] d_Mo_count_17 lk_Mo_89 (cm_Mo_countIn evu2) (by decide) rfl rfl (Nat.le_of_ble_eq_true rfl) ?_
    refine r_goto 25 d_Mo_count_20 (by decide) ?_
    obtain rfl := Option.some.inj hf
    exact r_ireturn d_Mo_count_25 rfl rfl
def L_Mo_friendsIn_6 (Nu : Nat) (p0 : Int32) (p1 : Int32) (p2 : Int32) : Nat → Int32 → Int32 → Option (Int32)
  | 0, _, _ => none
  | nu + 1, z4_6, z5_6 => if p0 ≤ z5_6 then some z4_6 else lt (fun (xu3 : Int32) => lt (z4_6 ||| xu3) fun xu4 => lt (z5_6 + 1) fun xu5 => L_Mo_friendsIn_6 Nu p0 p1 p2 nu xu4 xu5) fun ju2 => lt (fun (_ : Unit) => ju2 0) fun ju6 => if z5_6 = p2 then ju6 () else (f_Mo_pairOf Nu p0 p2 z5_6).bind fun vu8 => if (f_Mo_has p1 vu8) = 0 then ju6 () else ju2 ((1 : Int32) <<< (z5_6 &&& 31))
def f_Mo_friendsIn (Nu : Nat) (p0 : Int32) (p1 : Int32) (p2 : Int32) : Option (Int32) := L_Mo_friendsIn_6 Nu p0 p1 p2 Nu 0 0
theorem l_Mo_friendsIn_6 {G : GT} {ru : Int32} (Nu : Nat) (p0 : Int32) (p1 : Int32) (p2 : Int32) (Mu : Mm)    : ∀ (nu : Nat) (z4_6 : Int32) (z5_6 : Int32), L_Mo_friendsIn_6 Nu p0 p1 p2 nu z4_6 z5_6 = some ru → SW G 2 c_Mo_friendsIn R_Mo 6 (some .int) (some (.int ru), Mu) Mu 6 [none, some (.int p0), some (.int p1), some (.int p2), some (.int z4_6), some (.int z5_6)] []
  | 0, _, _, hf => by cases hf
  | nu + 1, z4_6, z5_6, hf => by
    have ih := l_Mo_friendsIn_6 (G := G) (ru := ru) Nu p0 p1 p2 Mu   nu
    rw [L_Mo_friendsIn_6] at hf
    refine r_iload d_Mo_friendsIn_6 rfl ?_
    refine r_iload_n 1 d_Mo_friendsIn_8 rfl rfl ?_
    refine r_icmp_ge 51 d_Mo_friendsIn_9 (by decide) (fun qu1 => ?_) (fun qu1 => ?_)
    · replace hf := ip qu1 hf
      refine r_iload d_Mo_friendsIn_51 rfl ?_
      obtain rfl := Option.some.inj hf
      exact r_ireturn d_Mo_friendsIn_53 rfl rfl
    · replace hf := im qu1 hf
      refine r_iload d_Mo_friendsIn_12 rfl ?_
      refine r_iload d_Mo_friendsIn_14 rfl ?_
      refine r_iload_n 3 d_Mo_friendsIn_16 rfl rfl ?_
      obtain ⟨ju2, hju2, hf⟩ := lt_ex hf
      have Kju2 : ∀ (xu3 : Int32), ju2 xu3 = some ru → SW G 2 c_Mo_friendsIn R_Mo 6 (some .int) (some (.int ru), Mu) Mu 42 [none, some (.int p0), some (.int p1), some (.int p2), none, some (.int z5_6)] [.int xu3, .int z4_6] := by
        intro xu3 hf
        rw [hju2] at hf
        refine r_ior d_Mo_friendsIn_42 ?_
        refine nmI (fun xu4 hxu4 => ?_)
        replace hf := lt_of hxu4 hf
        refine r_istore (lv' := [none, some (.int p0), some (.int p1), some (.int p2), some (.int xu4), some (.int z5_6)]) d_Mo_friendsIn_43 (by decide) rfl ?_
        obtain ⟨xu5, hxu5⟩ : ∃ y : Int32, y = z5_6 + 1 := ⟨_, rfl⟩
        replace hf := lt_of hxu5 hf
        refine r_iinc (lv' := [none, some (.int p0), some (.int p1), some (.int p2), some (.int xu4), some (.int xu5)]) d_Mo_friendsIn_45 rfl (by rw [hxu5]; rfl) (by decide) rfl ?_
        refine r_goto 6 d_Mo_friendsIn_48 (by decide) ?_
        exact ih xu4 xu5  hf
      obtain ⟨ju6, hju6, hf⟩ := lt_ex hf
      have Kju6 : ∀ (_ : Unit), ju6 () = some ru → SW G 2 c_Mo_friendsIn R_Mo 6 (some .int) (some (.int ru), Mu) Mu 41 [none, some (.int p0), some (.int p1), some (.int p2), none, some (.int z5_6)] [.int z4_6] := by
        intro _ hf
        rw [hju6] at hf
        refine r_iconst (v := 0) d_Mo_friendsIn_41 (by decide) ?_
        exact Kju2 0  hf
      refine r_icmp_eq 41 d_Mo_friendsIn_17 (by decide) (fun qu7 => ?_) (fun qu7 => ?_)
      · replace hf := ip qu7 hf
        refine r_weak [4] (lv' := [none, some (.int p0), some (.int p1), some (.int p2), none, some (.int z5_6)]) rfl ?_
        exact Kju6 ()  hf
      · replace hf := im qu7 hf
        refine r_iload_n 2 d_Mo_friendsIn_20 rfl rfl ?_
        refine r_iload_n 1 d_Mo_friendsIn_21 rfl rfl ?_
        refine r_iload_n 3 d_Mo_friendsIn_22 rfl rfl ?_
        refine r_iload d_Mo_friendsIn_23 rfl ?_
        obtain ⟨vu8, evu8, hf⟩ := bnd hf
        refine r_callS [.int p0, .int p2, .int z5_6] d_Mo_friendsIn_25 lk_Mo_74 (cm_Mo_pairOf evu8) (by decide) rfl rfl (Nat.le_of_ble_eq_true rfl) ?_
        refine r_callS [.int p1, .int vu8] d_Mo_friendsIn_28 lk_Mo_78 (cm_Mo_has p1 vu8 Mu) (by decide) rfl rfl (Nat.le_of_ble_eq_true rfl) ?_
        refine r_if_eq 41 d_Mo_friendsIn_31 (by decide) (fun qu9 => ?_) (fun qu9 => ?_)
        · replace hf := ip qu9 hf
          refine r_weak [4] (lv' := [none, some (.int p0), some (.int p1), some (.int p2), none, some (.int z5_6)]) rfl ?_
          exact Kju6 ()  hf
        · replace hf := im qu9 hf
          refine r_iconst (v := 1) d_Mo_friendsIn_34 (by decide) ?_
          refine r_iload d_Mo_friendsIn_35 rfl ?_
          refine r_ishl d_Mo_friendsIn_37 ?_
          refine r_goto 42 d_Mo_friendsIn_38 (by decide) ?_
          refine r_weak [4] (lv' := [none, some (.int p0), some (.int p1), some (.int p2), none, some (.int z5_6)]) rfl ?_
          exact Kju2 ((1 : Int32) <<< (z5_6 &&& 31))  hf
theorem cm_Mo_friendsIn {G : GT} {Nu : Nat} {p0 : Int32} {p1 : Int32} {p2 : Int32} {Mu : Mm} {ru : Int32}  (hf : f_Mo_friendsIn Nu p0 p1 p2 = some ru) : CM G 2 y_Mo_friendsIn c_Mo_friendsIn 6 (some .int) (some (.int ru), Mu) Mu [.ref 49, .int p0, .int p1, .int p2] := by
  unfold f_Mo_friendsIn at hf
  refine CM.of (own := R_Mo) (lv := [some (.ref 49), some (.int p0), some (.int p1), some (.int p2), none, none]) (by decide) rfl (Nat.le_of_ble_eq_true rfl) rfl ?_
  refine r_iconst (v := 0) d_Mo_friendsIn_0 (by decide) ?_
  refine r_istore (lv' := [some (.ref 49), some (.int p0), some (.int p1), some (.int p2), some (.int 0), none]) d_Mo_friendsIn_1 (by decide) rfl ?_
  refine r_iconst (v := 0) d_Mo_friendsIn_3 (by decide) ?_
  refine r_istore (lv' := [some (.ref 49), some (.int p0), some (.int p1), some (.int p2), some (.int 0), some (.int 0)]) d_Mo_friendsIn_4 (by decide) rfl ?_
  refine r_weak [0] (lv' := [none, some (.int p0), some (.int p1), some (.int p2), some (.int 0), some (.int 0)]) rfl ?_
  exact l_Mo_friendsIn_6 (G := G) (ru := ru) Nu p0 p1 p2 Mu   Nu 0 0 hf
def f_Mo_friends (Nu : Nat) (p0 : Int32) (Mu : Mm) : Option (Int32) := if (f_Mo_isPerson p0 Mu) = 0 then some (-1000000001) else (f_Mo_friendsIn Nu (Mu.1 49 0) (Mu.1 49 1) p0).bind fun vu2 => some vu2
theorem cm_Mo_friends {G : GT} {Nu : Nat} {p0 : Int32} {Mu : Mm}  {ru : Int32}  (hf : f_Mo_friends Nu p0 Mu = some ru) : CM G 3 y_Mo_friends c_Mo_friends 2 (some .int) (some (.int ru), Mu) Mu [.ref 49, .int p0] := by
  unfold f_Mo_friends at hf
  refine CM.of (own := R_Mo) (lv := [some (.ref 49), some (.int p0)]) (by decide) rfl (Nat.le_of_ble_eq_true rfl) rfl ?_
  refine r_aload_n 0 d_Mo_friends_0 rfl rfl ?_
  refine r_iload_n 1 d_Mo_friends_1 rfl rfl ?_
  refine r_callV [.int p0] d_Mo_friends_2 lk_Mo_70 sh_49 (cm_Mo_isPerson p0 Mu) (by decide) rfl rfl (Nat.le_of_ble_eq_true rfl) ?_
  refine r_if_eq 24 d_Mo_friends_5 (by decide) (fun qu1 => ?_) (fun qu1 => ?_)
  · replace hf := ip qu1 hf
    refine r_ldc d_Mo_friends_24 k_Mo_203 ?_
    obtain rfl := Option.some.inj hf
    exact r_ireturn d_Mo_friends_26 rfl rfl
  · replace hf := im qu1 hf
    refine r_aload_n 0 d_Mo_friends_8 rfl rfl ?_
    refine r_aload_n 0 d_Mo_friends_9 rfl rfl ?_
    refine r_getI d_Mo_friends_10 fl_Mo_63 sh_49 (by decide) ?_
    refine r_aload_n 0 d_Mo_friends_13 rfl rfl ?_
    refine r_getI d_Mo_friends_14 fl_Mo_86 sh_49 (by decide) ?_
    refine r_iload_n 1 d_Mo_friends_17 rfl rfl ?_
    obtain ⟨vu2, evu2, hf⟩ := bnd hf
    refine r_callV [.int (Mu.1 49 0), .int (Mu.1 49 1), .int p0] d_Mo_friends_18 lk_Mo_204 sh_49 (cm_Mo_friendsIn evu2) (by decide) rfl rfl (Nat.le_of_ble_eq_true rfl) ?_
    refine r_goto 26 d_Mo_friends_21 (by decide) ?_
    obtain rfl := Option.some.inj hf
    exact r_ireturn d_Mo_friends_26 rfl rfl
def L_Mo_alike_27 (Nu : Nat) (p0 : Int32) (vu2 : Mm) : Nat → Int32 → Int32 → Option (Int32 × Mm)
  | 0, _, _ => none
  | nu + 1, z2_27, z3_27 => if (vu2.1 49 0) ≤ z3_27 then some (z2_27, vu2) else lt (fun (xu5 : Int32) => lt (z2_27 ||| xu5) fun xu6 => lt (z3_27 + 1) fun xu7 => L_Mo_alike_27 Nu p0 vu2 nu xu6 xu7) fun ju4 => lt (fun (_ : Unit) => ju4 0) fun ju8 => if z3_27 = p0 then ju8 () else if inb z3_27 8 = true then if inb p0 8 = true then if (vu2.1 51 (Int32.toNatClampNeg z3_27)) = (vu2.1 51 (Int32.toNatClampNeg p0)) then ju4 ((1 : Int32) <<< (z3_27 &&& 31)) else ju8 () else none else none
def f_Mo_alike (Nu : Nat) (p0 : Int32) (Mu : Mm) : Option (Int32 × Mm) := if (f_Mo_isPerson p0 Mu) = 0 then some ((-1000000001), Mu) else (f_Mo_findCounts Nu (Mu.1 49 0) (Mu.1 49 1) Mu).bind fun vu2 => L_Mo_alike_27 Nu p0 vu2 Nu 0 0
theorem l_Mo_alike_27 {G : GT} {ru : Int32 × Mm} (Nu : Nat) (p0 : Int32) (vu2 : Mm)    : ∀ (nu : Nat) (z2_27 : Int32) (z3_27 : Int32), L_Mo_alike_27 Nu p0 vu2 nu z2_27 z3_27 = some ru → SW G 3 c_Mo_alike R_Mo 4 (some .int) (some (.int ru.1), ru.2) vu2 27 [some (.ref 49), some (.int p0), some (.int z2_27), some (.int z3_27)] []
  | 0, _, _, hf => by cases hf
  | nu + 1, z2_27, z3_27, hf => by
    have ih := l_Mo_alike_27 (G := G) (ru := ru) Nu p0 vu2   nu
    rw [L_Mo_alike_27] at hf
    refine r_iload_n 3 d_Mo_alike_27 rfl rfl ?_
    refine r_aload_n 0 d_Mo_alike_28 rfl rfl ?_
    refine r_getI d_Mo_alike_29 fl_Mo_63 sh_49 (by decide) ?_
    refine r_icmp_ge 71 d_Mo_alike_32 (by decide) (fun qu3 => ?_) (fun qu3 => ?_)
    · replace hf := ip qu3 hf
      refine r_iload_n 2 d_Mo_alike_71 rfl rfl ?_
      obtain rfl := Option.some.inj hf
      exact r_ireturn d_Mo_alike_72 rfl rfl
    · replace hf := im qu3 hf
      refine r_iload_n 2 d_Mo_alike_35 rfl rfl ?_
      refine r_iload_n 3 d_Mo_alike_36 rfl rfl ?_
      refine r_iload_n 1 d_Mo_alike_37 rfl rfl ?_
      obtain ⟨ju4, hju4, hf⟩ := lt_ex hf
      have Kju4 : ∀ (xu5 : Int32), ju4 xu5 = some ru → SW G 3 c_Mo_alike R_Mo 4 (some .int) (some (.int ru.1), ru.2) vu2 63 [some (.ref 49), some (.int p0), none, some (.int z3_27)] [.int xu5, .int z2_27] := by
        intro xu5 hf
        rw [hju4] at hf
        refine r_ior d_Mo_alike_63 ?_
        refine nmI (fun xu6 hxu6 => ?_)
        replace hf := lt_of hxu6 hf
        refine r_istore_n (lv' := [some (.ref 49), some (.int p0), some (.int xu6), some (.int z3_27)]) 2 d_Mo_alike_64 rfl (by decide) rfl ?_
        obtain ⟨xu7, hxu7⟩ : ∃ y : Int32, y = z3_27 + 1 := ⟨_, rfl⟩
        replace hf := lt_of hxu7 hf
        refine r_iinc (lv' := [some (.ref 49), some (.int p0), some (.int xu6), some (.int xu7)]) d_Mo_alike_65 rfl (by rw [hxu7]; rfl) (by decide) rfl ?_
        refine r_goto 27 d_Mo_alike_68 (by decide) ?_
        exact ih xu6 xu7  hf
      obtain ⟨ju8, hju8, hf⟩ := lt_ex hf
      have Kju8 : ∀ (_ : Unit), ju8 () = some ru → SW G 3 c_Mo_alike R_Mo 4 (some .int) (some (.int ru.1), ru.2) vu2 62 [some (.ref 49), some (.int p0), none, some (.int z3_27)] [.int z2_27] := by
        intro _ hf
        rw [hju8] at hf
        refine r_iconst (v := 0) d_Mo_alike_62 (by decide) ?_
        exact Kju4 0  hf
      refine r_icmp_eq 62 d_Mo_alike_38 (by decide) (fun qu9 => ?_) (fun qu9 => ?_)
      · replace hf := ip qu9 hf
        refine r_weak [2] (lv' := [some (.ref 49), some (.int p0), none, some (.int z3_27)]) rfl ?_
        exact Kju8 ()  hf
      · replace hf := im qu9 hf
        refine r_aload_n 0 d_Mo_alike_41 rfl rfl ?_
        refine r_getR 51 d_Mo_alike_42 fl_Mo_20 sh_49 rfl rf_49_8 ?_
        refine r_iload_n 3 d_Mo_alike_45 rfl rfl ?_
        obtain ⟨qu10, hf⟩ := ck hf
        refine r_iald d_Mo_alike_46 sh_51 qu10 ?_
        refine r_aload_n 0 d_Mo_alike_47 rfl rfl ?_
        refine r_getR 51 d_Mo_alike_48 fl_Mo_20 sh_49 rfl rf_49_8 ?_
        refine r_iload_n 1 d_Mo_alike_51 rfl rfl ?_
        obtain ⟨qu11, hf⟩ := ck hf
        refine r_iald d_Mo_alike_52 sh_51 qu11 ?_
        refine r_icmp_ne 62 d_Mo_alike_53 (by decide) (fun qu12 => ?_) (fun qu12 => ?_)
        · replace hf := im qu12 hf
          refine r_weak [2] (lv' := [some (.ref 49), some (.int p0), none, some (.int z3_27)]) rfl ?_
          exact Kju8 ()  hf
        · replace hf := ip qu12 hf
          refine r_iconst (v := 1) d_Mo_alike_56 (by decide) ?_
          refine r_iload_n 3 d_Mo_alike_57 rfl rfl ?_
          refine r_ishl d_Mo_alike_58 ?_
          refine r_goto 63 d_Mo_alike_59 (by decide) ?_
          refine r_weak [2] (lv' := [some (.ref 49), some (.int p0), none, some (.int z3_27)]) rfl ?_
          exact Kju4 ((1 : Int32) <<< (z3_27 &&& 31))  hf
theorem cm_Mo_alike {G : GT} {Nu : Nat} {p0 : Int32} {Mu : Mm}  {ru : Int32 × Mm}  (hf : f_Mo_alike Nu p0 Mu = some ru) : CM G 3 y_Mo_alike c_Mo_alike 4 (some .int) (some (.int ru.1), ru.2) Mu [.ref 49, .int p0] := by
  unfold f_Mo_alike at hf
  refine CM.of (own := R_Mo) (lv := [some (.ref 49), some (.int p0), none, none]) (by decide) rfl (Nat.le_of_ble_eq_true rfl) rfl ?_
  refine r_aload_n 0 d_Mo_alike_0 rfl rfl ?_
  refine r_iload_n 1 d_Mo_alike_1 rfl rfl ?_
  refine r_callV [.int p0] d_Mo_alike_2 lk_Mo_70 sh_49 (cm_Mo_isPerson p0 Mu) (by decide) rfl rfl (Nat.le_of_ble_eq_true rfl) ?_
  refine r_if_ne 11 d_Mo_alike_5 (by decide) (fun qu1 => ?_) (fun qu1 => ?_)
  · replace hf := im qu1 hf
    refine r_aload_n 0 d_Mo_alike_11 rfl rfl ?_
    refine r_aload_n 0 d_Mo_alike_12 rfl rfl ?_
    refine r_getI d_Mo_alike_13 fl_Mo_63 sh_49 (by decide) ?_
    refine r_aload_n 0 d_Mo_alike_16 rfl rfl ?_
    refine r_getI d_Mo_alike_17 fl_Mo_86 sh_49 (by decide) ?_
    obtain ⟨vu2, evu2, hf⟩ := bnd hf
    refine r_callV [.int (Mu.1 49 0), .int (Mu.1 49 1)] d_Mo_alike_20 lk_Mo_82 sh_49 (cm_Mo_findCounts evu2) (by decide) rfl rfl (Nat.le_of_ble_eq_true rfl) ?_
    refine r_iconst (v := 0) d_Mo_alike_23 (by decide) ?_
    refine r_istore_n (lv' := [some (.ref 49), some (.int p0), some (.int 0), none]) 2 d_Mo_alike_24 rfl (by decide) rfl ?_
    refine r_iconst (v := 0) d_Mo_alike_25 (by decide) ?_
    refine r_istore_n (lv' := [some (.ref 49), some (.int p0), some (.int 0), some (.int 0)]) 3 d_Mo_alike_26 rfl (by decide) rfl ?_
    exact l_Mo_alike_27 (G := G) (ru := ru) Nu p0 vu2   Nu 0 0 hf
  · replace hf := ip qu1 hf
    refine r_ldc d_Mo_alike_8 k_Mo_203 ?_
    obtain rfl := Option.some.inj hf
    exact r_ireturn d_Mo_alike_10 rfl rfl
def f_Mo_pair (Nu : Nat) (p0 : Int32) (p1 : Int32) (Mu : Mm) : Option (Int32) := if (f_Mo_areTwo p0 p1 Mu) = 0 then some (-1000000001) else (f_Mo_pairOf Nu (Mu.1 49 0) p0 p1).bind fun vu2 => some vu2
theorem cm_Mo_pair {G : GT} {Nu : Nat} {p0 : Int32} {p1 : Int32} {Mu : Mm}  {ru : Int32}  (hf : f_Mo_pair Nu p0 p1 Mu = some ru) : CM G 4 y_Mo_pair c_Mo_pair 3 (some .int) (some (.int ru), Mu) Mu [.ref 49, .int p0, .int p1] := by
  unfold f_Mo_pair at hf
  refine CM.of (own := R_Mo) (lv := [some (.ref 49), some (.int p0), some (.int p1)]) (by decide) rfl (Nat.le_of_ble_eq_true rfl) rfl ?_
  refine r_aload_n 0 d_Mo_pair_0 rfl rfl ?_
  refine r_iload_n 1 d_Mo_pair_1 rfl rfl ?_
  refine r_iload_n 2 d_Mo_pair_2 rfl rfl ?_
  refine r_callV [.int p0, .int p1] d_Mo_pair_3 lk_Mo_207 sh_49 (cm_Mo_areTwo p0 p1 Mu) (by decide) rfl rfl (Nat.le_of_ble_eq_true rfl) ?_
  refine r_if_eq 21 d_Mo_pair_6 (by decide) (fun qu1 => ?_) (fun qu1 => ?_)
  · replace hf := ip qu1 hf
    refine r_ldc d_Mo_pair_21 k_Mo_203 ?_
    obtain rfl := Option.some.inj hf
    exact r_ireturn d_Mo_pair_23 rfl rfl
  · replace hf := im qu1 hf
    refine r_aload_n 0 d_Mo_pair_9 rfl rfl ?_
    refine r_getI d_Mo_pair_10 fl_Mo_63 sh_49 (by decide) ?_
    refine r_iload_n 1 d_Mo_pair_13 rfl rfl ?_
    refine r_iload_n 2 d_Mo_pair_14 rfl rfl ?_
    obtain ⟨vu2, evu2, hf⟩ := bnd hf
    refine r_callS [.int (Mu.1 49 0), .int p0, .int p1] d_Mo_pair_15 lk_Mo_74 (cm_Mo_pairOf evu2) (by decide) rfl rfl (Nat.le_of_ble_eq_true rfl) ?_
    refine r_goto 23 d_Mo_pair_18 (by decide) ?_
    obtain rfl := Option.some.inj hf
    exact r_ireturn d_Mo_pair_23 rfl rfl
def f_Mo_tie (Nu : Nat) (p0 : Int32) (p1 : Int32) (p2 : Int32) (Mu : Mm) : Option (Int32 × Mm) := if (f_Mo_areTwo p0 p1 Mu) = 0 then some ((-1000000001), Mu) else (f_Mo_pairOf Nu (Mu.1 49 0) p0 p1).bind fun vu2 => lt (fun (_ : Unit) => lt (Mu.1 49 1) fun xu4 => lt (fun (xu6 : Int32) => lt (si Mu 49 1 xu6) fun Mu7 => if xu4 = (Mu7.1 49 1) then some (0, Mu7) else some (1, Mu7)) fun ju5 => if p2 = 0 then ju5 ((Mu.1 49 1) &&& (((1 : Int32) <<< (vu2 &&& 31)) ^^^ (-1))) else ju5 ((Mu.1 49 1) ||| ((1 : Int32) <<< (vu2 &&& 31)))) fun ju3 => if p2 = 0 then if (f_Mo_has (Mu.1 49 3) vu2) = 0 then ju3 () else some ((-1000000003), Mu) else if (f_Mo_has (Mu.1 49 2) vu2) = 0 then ju3 () else some ((-1000000003), Mu)
theorem cm_Mo_tie {G : GT} {Nu : Nat} {p0 : Int32} {p1 : Int32} {p2 : Int32} {Mu : Mm}  {ru : Int32 × Mm}  (hf : f_Mo_tie Nu p0 p1 p2 Mu = some ru) : CM G 4 y_Mo_tie c_Mo_tie 6 (some .int) (some (.int ru.1), ru.2) Mu [.ref 49, .int p0, .int p1, .int p2] := by
  unfold f_Mo_tie at hf
  refine CM.of (own := R_Mo) (lv := [some (.ref 49), some (.int p0), some (.int p1), some (.int p2), none, none]) (by decide) rfl (Nat.le_of_ble_eq_true rfl) rfl ?_
  refine r_aload_n 0 d_Mo_tie_0 rfl rfl ?_
  refine r_iload_n 1 d_Mo_tie_1 rfl rfl ?_
  refine r_iload_n 2 d_Mo_tie_2 rfl rfl ?_
  refine r_callV [.int p0, .int p1] d_Mo_tie_3 lk_Mo_207 sh_49 (cm_Mo_areTwo p0 p1 Mu) (by decide) rfl rfl (Nat.le_of_ble_eq_true rfl) ?_
  refine r_if_ne 12 d_Mo_tie_6 (by decide) (fun qu1 => ?_) (fun qu1 => ?_)
  · replace hf := im qu1 hf
    refine r_aload_n 0 d_Mo_tie_12 rfl rfl ?_
    refine r_getI d_Mo_tie_13 fl_Mo_63 sh_49 (by decide) ?_
    refine r_iload_n 1 d_Mo_tie_16 rfl rfl ?_
    refine r_iload_n 2 d_Mo_tie_17 rfl rfl ?_
    obtain ⟨vu2, evu2, hf⟩ := bnd hf
    refine r_callS [.int (Mu.1 49 0), .int p0, .int p1] d_Mo_tie_18 lk_Mo_74 (cm_Mo_pairOf evu2) (by decide) rfl rfl (Nat.le_of_ble_eq_true rfl) ?_
    refine r_istore (lv' := [some (.ref 49), some (.int p0), some (.int p1), some (.int p2), some (.int vu2), none]) d_Mo_tie_21 (by decide) rfl ?_
    refine r_iload_n 3 d_Mo_tie_23 rfl rfl ?_
    obtain ⟨ju3, hju3, hf⟩ := lt_ex hf
    have Kju3 : ∀ (_ : Unit), ju3 () = some ru → SW G 4 c_Mo_tie R_Mo 6 (some .int) (some (.int ru.1), ru.2) Mu 57 [some (.ref 49), none, none, some (.int p2), some (.int vu2), none] [] := by
      intro _ hf
      rw [hju3] at hf
      refine r_aload_n 0 d_Mo_tie_57 rfl rfl ?_
      refine r_getI d_Mo_tie_58 fl_Mo_86 sh_49 (by decide) ?_
      refine nmI (fun xu4 hxu4 => ?_)
      replace hf := lt_of hxu4 hf
      refine r_istore (lv' := [some (.ref 49), none, none, some (.int p2), some (.int vu2), some (.int xu4)]) d_Mo_tie_61 (by decide) rfl ?_
      refine r_aload_n 0 d_Mo_tie_63 rfl rfl ?_
      refine r_iload_n 3 d_Mo_tie_64 rfl rfl ?_
      obtain ⟨ju5, hju5, hf⟩ := lt_ex hf
      have Kju5 : ∀ (xu6 : Int32), ju5 xu6 = some ru → SW G 4 c_Mo_tie R_Mo 6 (some .int) (some (.int ru.1), ru.2) Mu 91 [some (.ref 49), none, none, none, none, some (.int xu4)] [.int xu6, .ref 49] := by
        intro xu6 hf
        rw [hju5] at hf
        refine r_putI d_Mo_tie_91 fl_Mo_86 sh_49 (Or.inl rfl) rfl ?_
        refine nmM (fun Mu7 hMu7 => ?_)
        replace hf := lt_of hMu7 hf
        refine r_iload d_Mo_tie_94 rfl ?_
        refine r_aload_n 0 d_Mo_tie_96 rfl rfl ?_
        refine r_getI d_Mo_tie_97 fl_Mo_86 sh_49 (by decide) ?_
        refine r_icmp_ne 107 d_Mo_tie_100 (by decide) (fun qu8 => ?_) (fun qu8 => ?_)
        · replace hf := im qu8 hf
          refine r_iconst (v := 1) d_Mo_tie_107 (by decide) ?_
          obtain rfl := Option.some.inj hf
          exact r_ireturn d_Mo_tie_108 rfl rfl
        · replace hf := ip qu8 hf
          refine r_iconst (v := 0) d_Mo_tie_103 (by decide) ?_
          refine r_goto 108 d_Mo_tie_104 (by decide) ?_
          obtain rfl := Option.some.inj hf
          exact r_ireturn d_Mo_tie_108 rfl rfl
      refine r_if_eq 80 d_Mo_tie_65 (by decide) (fun qu9 => ?_) (fun qu9 => ?_)
      · replace hf := ip qu9 hf
        refine r_aload_n 0 d_Mo_tie_80 rfl rfl ?_
        refine r_getI d_Mo_tie_81 fl_Mo_86 sh_49 (by decide) ?_
        refine r_iconst (v := 1) d_Mo_tie_84 (by decide) ?_
        refine r_iload d_Mo_tie_85 rfl ?_
        refine r_ishl d_Mo_tie_87 ?_
        refine r_iconst (v := (-1)) d_Mo_tie_88 (by decide) ?_
        refine r_ixor d_Mo_tie_89 ?_
        refine r_iand d_Mo_tie_90 ?_
        refine r_weak [3, 4] (lv' := [some (.ref 49), none, none, none, none, some (.int xu4)]) rfl ?_
        exact Kju5 ((Mu.1 49 1) &&& (((1 : Int32) <<< (vu2 &&& 31)) ^^^ (-1)))  hf
      · replace hf := im qu9 hf
        refine r_aload_n 0 d_Mo_tie_68 rfl rfl ?_
        refine r_getI d_Mo_tie_69 fl_Mo_86 sh_49 (by decide) ?_
        refine r_iconst (v := 1) d_Mo_tie_72 (by decide) ?_
        refine r_iload d_Mo_tie_73 rfl ?_
        refine r_ishl d_Mo_tie_75 ?_
        refine r_ior d_Mo_tie_76 ?_
        refine r_goto 91 d_Mo_tie_77 (by decide) ?_
        refine r_weak [3, 4] (lv' := [some (.ref 49), none, none, none, none, some (.int xu4)]) rfl ?_
        exact Kju5 ((Mu.1 49 1) ||| ((1 : Int32) <<< (vu2 &&& 31)))  hf
    refine r_if_eq 42 d_Mo_tie_24 (by decide) (fun qu10 => ?_) (fun qu10 => ?_)
    · replace hf := ip qu10 hf
      refine r_aload_n 0 d_Mo_tie_42 rfl rfl ?_
      refine r_getI d_Mo_tie_43 fl_Mo_188 sh_49 (by decide) ?_
      refine r_iload d_Mo_tie_46 rfl ?_
      refine r_callS [.int (Mu.1 49 3), .int vu2] d_Mo_tie_48 lk_Mo_78 (cm_Mo_has (Mu.1 49 3) vu2 Mu) (by decide) rfl rfl (Nat.le_of_ble_eq_true rfl) ?_
      refine r_if_eq 57 d_Mo_tie_51 (by decide) (fun qu11 => ?_) (fun qu11 => ?_)
      · replace hf := ip qu11 hf
        refine r_weak [1, 2] (lv' := [some (.ref 49), none, none, some (.int p2), some (.int vu2), none]) rfl ?_
        exact Kju3 ()  hf
      · replace hf := im qu11 hf
        refine r_ldc d_Mo_tie_54 k_Mo_210 ?_
        obtain rfl := Option.some.inj hf
        exact r_ireturn d_Mo_tie_56 rfl rfl
    · replace hf := im qu10 hf
      refine r_aload_n 0 d_Mo_tie_27 rfl rfl ?_
      refine r_getI d_Mo_tie_28 fl_Mo_185 sh_49 (by decide) ?_
      refine r_iload d_Mo_tie_31 rfl ?_
      refine r_callS [.int (Mu.1 49 2), .int vu2] d_Mo_tie_33 lk_Mo_78 (cm_Mo_has (Mu.1 49 2) vu2 Mu) (by decide) rfl rfl (Nat.le_of_ble_eq_true rfl) ?_
      refine r_if_eq 57 d_Mo_tie_36 (by decide) (fun qu12 => ?_) (fun qu12 => ?_)
      · replace hf := ip qu12 hf
        refine r_weak [1, 2] (lv' := [some (.ref 49), none, none, some (.int p2), some (.int vu2), none]) rfl ?_
        exact Kju3 ()  hf
      · replace hf := im qu12 hf
        refine r_goto 54 d_Mo_tie_39 (by decide) ?_
        refine r_ldc d_Mo_tie_54 k_Mo_210 ?_
        obtain rfl := Option.some.inj hf
        exact r_ireturn d_Mo_tie_56 rfl rfl
  · replace hf := ip qu1 hf
    refine r_ldc d_Mo_tie_9 k_Mo_203 ?_
    obtain rfl := Option.some.inj hf
    exact r_ireturn d_Mo_tie_11 rfl rfl
def f_Mo_bar (Nu : Nat) (p0 : Int32) (p1 : Int32) (p2 : Int32) (Mu : Mm) : Option (Int32 × Mm) := if (f_Mo_areTwo p0 p1 Mu) = 0 then some ((-1000000001), Mu) else if (f_Mo_in p2.toInt64 0 2) = 0 then some ((-1000000002), Mu) else (f_Mo_pairOf Nu (Mu.1 49 0) p0 p1).bind fun vu3 => lt (fun (xu5 : Int32) => lt (fun (xu7 : Int32) => lt (si Mu 49 2 xu7) fun Mu8 => lt (fun (xu10 : Int32) => lt (si Mu8 49 3 xu10) fun Mu11 => lt (fun (xu13 : Int32) => lt (si Mu11 49 1 xu13) fun Mu14 => some (xu5, Mu14)) fun ju12 => if p2 = 2 then ju12 ((Mu11.1 49 1) ||| ((1 : Int32) <<< (vu3 &&& 31))) else if p2 = 1 then ju12 ((Mu11.1 49 1) &&& (((1 : Int32) <<< (vu3 &&& 31)) ^^^ (-1))) else ju12 (Mu11.1 49 1)) fun ju9 => if p2 = 2 then ju9 ((Mu8.1 49 3) ||| ((1 : Int32) <<< (vu3 &&& 31))) else ju9 ((Mu8.1 49 3) &&& (((1 : Int32) <<< (vu3 &&& 31)) ^^^ (-1)))) fun ju6 => if p2 = 1 then ju6 ((Mu.1 49 2) ||| ((1 : Int32) <<< (vu3 &&& 31))) else ju6 ((Mu.1 49 2) &&& (((1 : Int32) <<< (vu3 &&& 31)) ^^^ (-1)))) fun ju4 => if (f_Mo_has (Mu.1 49 2) vu3) = 0 then if (f_Mo_has (Mu.1 49 3) vu3) = 0 then ju4 0 else ju4 2 else ju4 1
theorem cm_Mo_bar {G : GT} {Nu : Nat} {p0 : Int32} {p1 : Int32} {p2 : Int32} {Mu : Mm}  {ru : Int32 × Mm}  (hf : f_Mo_bar Nu p0 p1 p2 Mu = some ru) : CM G 4 y_Mo_bar c_Mo_bar 6 (some .int) (some (.int ru.1), ru.2) Mu [.ref 49, .int p0, .int p1, .int p2] := by
  unfold f_Mo_bar at hf
  refine CM.of (own := R_Mo) (lv := [some (.ref 49), some (.int p0), some (.int p1), some (.int p2), none, none]) (by decide) rfl (Nat.le_of_ble_eq_true rfl) rfl ?_
  refine r_aload_n 0 d_Mo_bar_0 rfl rfl ?_
  refine r_iload_n 1 d_Mo_bar_1 rfl rfl ?_
  refine r_iload_n 2 d_Mo_bar_2 rfl rfl ?_
  refine r_callV [.int p0, .int p1] d_Mo_bar_3 lk_Mo_207 sh_49 (cm_Mo_areTwo p0 p1 Mu) (by decide) rfl rfl (Nat.le_of_ble_eq_true rfl) ?_
  refine r_if_ne 12 d_Mo_bar_6 (by decide) (fun qu1 => ?_) (fun qu1 => ?_)
  · replace hf := im qu1 hf
    refine r_iload_n 3 d_Mo_bar_12 rfl rfl ?_
    refine r_i2l d_Mo_bar_13 ?_
    refine r_lconst (v := 0) d_Mo_bar_14 (by decide) ?_
    refine r_ldc2_w d_Mo_bar_15 k_Mo_211 ?_
    refine r_callS [.long p2.toInt64, .long 0, .long 2] d_Mo_bar_18 lk_Mo_66 (cm_Mo_in p2.toInt64 0 2 Mu) (by decide) rfl rfl (Nat.le_of_ble_eq_true rfl) ?_
    refine r_if_ne 27 d_Mo_bar_21 (by decide) (fun qu2 => ?_) (fun qu2 => ?_)
    · replace hf := im qu2 hf
      refine r_aload_n 0 d_Mo_bar_27 rfl rfl ?_
      refine r_getI d_Mo_bar_28 fl_Mo_63 sh_49 (by decide) ?_
      refine r_iload_n 1 d_Mo_bar_31 rfl rfl ?_
      refine r_iload_n 2 d_Mo_bar_32 rfl rfl ?_
      obtain ⟨vu3, evu3, hf⟩ := bnd hf
      refine r_callS [.int (Mu.1 49 0), .int p0, .int p1] d_Mo_bar_33 lk_Mo_74 (cm_Mo_pairOf evu3) (by decide) rfl rfl (Nat.le_of_ble_eq_true rfl) ?_
      refine r_istore (lv' := [some (.ref 49), some (.int p0), some (.int p1), some (.int p2), some (.int vu3), none]) d_Mo_bar_36 (by decide) rfl ?_
      refine r_aload_n 0 d_Mo_bar_38 rfl rfl ?_
      refine r_getI d_Mo_bar_39 fl_Mo_185 sh_49 (by decide) ?_
      refine r_iload d_Mo_bar_42 rfl ?_
      refine r_callS [.int (Mu.1 49 2), .int vu3] d_Mo_bar_44 lk_Mo_78 (cm_Mo_has (Mu.1 49 2) vu3 Mu) (by decide) rfl rfl (Nat.le_of_ble_eq_true rfl) ?_
      obtain ⟨ju4, hju4, hf⟩ := lt_ex hf
      have Kju4 : ∀ (xu5 : Int32), ju4 xu5 = some ru → SW G 4 c_Mo_bar R_Mo 6 (some .int) (some (.int ru.1), ru.2) Mu 71 [some (.ref 49), none, none, some (.int p2), some (.int vu3), none] [.int xu5] := by
        intro xu5 hf
        rw [hju4] at hf
        refine r_istore (lv' := [some (.ref 49), none, none, some (.int p2), some (.int vu3), some (.int xu5)]) d_Mo_bar_71 (by decide) rfl ?_
        refine r_aload_n 0 d_Mo_bar_73 rfl rfl ?_
        refine r_iload_n 3 d_Mo_bar_74 rfl rfl ?_
        refine r_iconst (v := 1) d_Mo_bar_75 (by decide) ?_
        obtain ⟨ju6, hju6, hf⟩ := lt_ex hf
        have Kju6 : ∀ (xu7 : Int32), ju6 xu7 = some ru → SW G 4 c_Mo_bar R_Mo 6 (some .int) (some (.int ru.1), ru.2) Mu 102 [some (.ref 49), none, none, some (.int p2), some (.int vu3), some (.int xu5)] [.int xu7, .ref 49] := by
          intro xu7 hf
          rw [hju6] at hf
          refine r_putI d_Mo_bar_102 fl_Mo_185 sh_49 (Or.inl rfl) rfl ?_
          refine nmM (fun Mu8 hMu8 => ?_)
          replace hf := lt_of hMu8 hf
          refine r_aload_n 0 d_Mo_bar_105 rfl rfl ?_
          refine r_iload_n 3 d_Mo_bar_106 rfl rfl ?_
          refine r_iconst (v := 2) d_Mo_bar_107 (by decide) ?_
          obtain ⟨ju9, hju9, hf⟩ := lt_ex hf
          have Kju9 : ∀ (xu10 : Int32), ju9 xu10 = some ru → SW G 4 c_Mo_bar R_Mo 6 (some .int) (some (.int ru.1), ru.2) Mu8 134 [some (.ref 49), none, none, some (.int p2), some (.int vu3), some (.int xu5)] [.int xu10, .ref 49] := by
            intro xu10 hf
            rw [hju9] at hf
            refine r_putI d_Mo_bar_134 fl_Mo_188 sh_49 (Or.inl rfl) rfl ?_
            refine nmM (fun Mu11 hMu11 => ?_)
            replace hf := lt_of hMu11 hf
            refine r_aload_n 0 d_Mo_bar_137 rfl rfl ?_
            refine r_iload_n 3 d_Mo_bar_138 rfl rfl ?_
            refine r_iconst (v := 2) d_Mo_bar_139 (by decide) ?_
            obtain ⟨ju12, hju12, hf⟩ := lt_ex hf
            have Kju12 : ∀ (xu13 : Int32), ju12 xu13 = some ru → SW G 4 c_Mo_bar R_Mo 6 (some .int) (some (.int ru.1), ru.2) Mu11 178 [none, none, none, none, none, some (.int xu5)] [.int xu13, .ref 49] := by
              intro xu13 hf
              rw [hju12] at hf
              refine r_putI d_Mo_bar_178 fl_Mo_86 sh_49 (Or.inl rfl) rfl ?_
              refine nmM (fun Mu14 hMu14 => ?_)
              replace hf := lt_of hMu14 hf
              refine r_iload d_Mo_bar_181 rfl ?_
              obtain rfl := Option.some.inj hf
              exact r_ireturn d_Mo_bar_183 rfl rfl
            refine r_icmp_ne 155 d_Mo_bar_140 (by decide) (fun qu15 => ?_) (fun qu15 => ?_)
            · replace hf := im qu15 hf
              refine r_iload_n 3 d_Mo_bar_155 rfl rfl ?_
              refine r_iconst (v := 1) d_Mo_bar_156 (by decide) ?_
              refine r_icmp_ne 174 d_Mo_bar_157 (by decide) (fun qu16 => ?_) (fun qu16 => ?_)
              · replace hf := im qu16 hf
                refine r_aload_n 0 d_Mo_bar_174 rfl rfl ?_
                refine r_getI d_Mo_bar_175 fl_Mo_86 sh_49 (by decide) ?_
                refine r_weak [0, 3, 4] (lv' := [none, none, none, none, none, some (.int xu5)]) rfl ?_
                exact Kju12 (Mu11.1 49 1)  hf
              · replace hf := ip qu16 hf
                refine r_aload_n 0 d_Mo_bar_160 rfl rfl ?_
                refine r_getI d_Mo_bar_161 fl_Mo_86 sh_49 (by decide) ?_
                refine r_iconst (v := 1) d_Mo_bar_164 (by decide) ?_
                refine r_iload d_Mo_bar_165 rfl ?_
                refine r_ishl d_Mo_bar_167 ?_
                refine r_iconst (v := (-1)) d_Mo_bar_168 (by decide) ?_
                refine r_ixor d_Mo_bar_169 ?_
                refine r_iand d_Mo_bar_170 ?_
                refine r_goto 178 d_Mo_bar_171 (by decide) ?_
                refine r_weak [0, 3, 4] (lv' := [none, none, none, none, none, some (.int xu5)]) rfl ?_
                exact Kju12 ((Mu11.1 49 1) &&& (((1 : Int32) <<< (vu3 &&& 31)) ^^^ (-1)))  hf
            · replace hf := ip qu15 hf
              refine r_aload_n 0 d_Mo_bar_143 rfl rfl ?_
              refine r_getI d_Mo_bar_144 fl_Mo_86 sh_49 (by decide) ?_
              refine r_iconst (v := 1) d_Mo_bar_147 (by decide) ?_
              refine r_iload d_Mo_bar_148 rfl ?_
              refine r_ishl d_Mo_bar_150 ?_
              refine r_ior d_Mo_bar_151 ?_
              refine r_goto 178 d_Mo_bar_152 (by decide) ?_
              refine r_weak [0, 3, 4] (lv' := [none, none, none, none, none, some (.int xu5)]) rfl ?_
              exact Kju12 ((Mu11.1 49 1) ||| ((1 : Int32) <<< (vu3 &&& 31)))  hf
          refine r_icmp_ne 123 d_Mo_bar_108 (by decide) (fun qu17 => ?_) (fun qu17 => ?_)
          · replace hf := im qu17 hf
            refine r_aload_n 0 d_Mo_bar_123 rfl rfl ?_
            refine r_getI d_Mo_bar_124 fl_Mo_188 sh_49 (by decide) ?_
            refine r_iconst (v := 1) d_Mo_bar_127 (by decide) ?_
            refine r_iload d_Mo_bar_128 rfl ?_
            refine r_ishl d_Mo_bar_130 ?_
            refine r_iconst (v := (-1)) d_Mo_bar_131 (by decide) ?_
            refine r_ixor d_Mo_bar_132 ?_
            refine r_iand d_Mo_bar_133 ?_
            exact Kju9 ((Mu8.1 49 3) &&& (((1 : Int32) <<< (vu3 &&& 31)) ^^^ (-1)))  hf
          · replace hf := ip qu17 hf
            refine r_aload_n 0 d_Mo_bar_111 rfl rfl ?_
            refine r_getI d_Mo_bar_112 fl_Mo_188 sh_49 (by decide) ?_
            refine r_iconst (v := 1) d_Mo_bar_115 (by decide) ?_
            refine r_iload d_Mo_bar_116 rfl ?_
            refine r_ishl d_Mo_bar_118 ?_
            refine r_ior d_Mo_bar_119 ?_
            refine r_goto 134 d_Mo_bar_120 (by decide) ?_
            exact Kju9 ((Mu8.1 49 3) ||| ((1 : Int32) <<< (vu3 &&& 31)))  hf
        refine r_icmp_ne 91 d_Mo_bar_76 (by decide) (fun qu18 => ?_) (fun qu18 => ?_)
        · replace hf := im qu18 hf
          refine r_aload_n 0 d_Mo_bar_91 rfl rfl ?_
          refine r_getI d_Mo_bar_92 fl_Mo_185 sh_49 (by decide) ?_
          refine r_iconst (v := 1) d_Mo_bar_95 (by decide) ?_
          refine r_iload d_Mo_bar_96 rfl ?_
          refine r_ishl d_Mo_bar_98 ?_
          refine r_iconst (v := (-1)) d_Mo_bar_99 (by decide) ?_
          refine r_ixor d_Mo_bar_100 ?_
          refine r_iand d_Mo_bar_101 ?_
          exact Kju6 ((Mu.1 49 2) &&& (((1 : Int32) <<< (vu3 &&& 31)) ^^^ (-1)))  hf
        · replace hf := ip qu18 hf
          refine r_aload_n 0 d_Mo_bar_79 rfl rfl ?_
          refine r_getI d_Mo_bar_80 fl_Mo_185 sh_49 (by decide) ?_
          refine r_iconst (v := 1) d_Mo_bar_83 (by decide) ?_
          refine r_iload d_Mo_bar_84 rfl ?_
          refine r_ishl d_Mo_bar_86 ?_
          refine r_ior d_Mo_bar_87 ?_
          refine r_goto 102 d_Mo_bar_88 (by decide) ?_
          exact Kju6 ((Mu.1 49 2) ||| ((1 : Int32) <<< (vu3 &&& 31)))  hf
      refine r_if_eq 54 d_Mo_bar_47 (by decide) (fun qu19 => ?_) (fun qu19 => ?_)
      · replace hf := ip qu19 hf
        refine r_aload_n 0 d_Mo_bar_54 rfl rfl ?_
        refine r_getI d_Mo_bar_55 fl_Mo_188 sh_49 (by decide) ?_
        refine r_iload d_Mo_bar_58 rfl ?_
        refine r_callS [.int (Mu.1 49 3), .int vu3] d_Mo_bar_60 lk_Mo_78 (cm_Mo_has (Mu.1 49 3) vu3 Mu) (by decide) rfl rfl (Nat.le_of_ble_eq_true rfl) ?_
        refine r_if_eq 70 d_Mo_bar_63 (by decide) (fun qu20 => ?_) (fun qu20 => ?_)
        · replace hf := ip qu20 hf
          refine r_iconst (v := 0) d_Mo_bar_70 (by decide) ?_
          refine r_weak [1, 2] (lv' := [some (.ref 49), none, none, some (.int p2), some (.int vu3), none]) rfl ?_
          exact Kju4 0  hf
        · replace hf := im qu20 hf
          refine r_iconst (v := 2) d_Mo_bar_66 (by decide) ?_
          refine r_goto 71 d_Mo_bar_67 (by decide) ?_
          refine r_weak [1, 2] (lv' := [some (.ref 49), none, none, some (.int p2), some (.int vu3), none]) rfl ?_
          exact Kju4 2  hf
      · replace hf := im qu19 hf
        refine r_iconst (v := 1) d_Mo_bar_50 (by decide) ?_
        refine r_goto 71 d_Mo_bar_51 (by decide) ?_
        refine r_weak [1, 2] (lv' := [some (.ref 49), none, none, some (.int p2), some (.int vu3), none]) rfl ?_
        exact Kju4 1  hf
    · replace hf := ip qu2 hf
      refine r_ldc d_Mo_bar_24 k_Mo_94 ?_
      obtain rfl := Option.some.inj hf
      exact r_ireturn d_Mo_bar_26 rfl rfl
  · replace hf := ip qu1 hf
    refine r_ldc d_Mo_bar_9 k_Mo_203 ?_
    obtain rfl := Option.some.inj hf
    exact r_ireturn d_Mo_bar_11 rfl rfl
def L_Mo_withMore_14 (Nu : Nat) (p0 : Int32) (p1 : Int32) (z3_4 : Int32) (ju3 : Int32 → Option (Int32)) : Nat → Int32 → Int32 → Option (Int32)
  | 0, _, _ => none
  | nu + 1, z2_14, z4_14 => if p0 ≤ z4_14 then ju3 z2_14 else (f_Mo_pairOf Nu p0 z3_4 z4_14).bind fun vu7 => lt (fun (xu9 : Int32) => lt (z2_14 ||| xu9) fun xu10 => lt (z4_14 + 1) fun xu11 => L_Mo_withMore_14 Nu p0 p1 z3_4 ju3 nu xu10 xu11) fun ju8 => if (f_Mo_has p1 vu7) = 0 then ju8 0 else (f_Mo_pairOf Nu (p0 + 1) z3_4 z4_14).bind fun vu13 => ju8 ((1 : Int32) <<< (vu13 &&& 31))
def L_Mo_withMore_4 (Nu : Nat) (p0 : Int32) (p1 : Int32) : Nat → Int32 → Int32 → Option (Int32)
  | 0, _, _ => none
  | nu + 1, z2_4, z3_4 => if p0 ≤ z3_4 then some z2_4 else lt (z3_4 + 1) fun xu2 => lt (fun (xu4 : Int32) => lt (z3_4 + 1) fun xu5 => L_Mo_withMore_4 Nu p0 p1 nu xu4 xu5) fun ju3 => L_Mo_withMore_14 Nu p0 p1 z3_4 ju3 Nu z2_4 xu2
def f_Mo_withMore (Nu : Nat) (p0 : Int32) (p1 : Int32) : Option (Int32) := L_Mo_withMore_4 Nu p0 p1 Nu 0 0
theorem l_Mo_withMore_14 {G : GT} {ru : Int32} (Nu : Nat) (p0 : Int32) (p1 : Int32) (z3_4 : Int32) (ju3 : Int32 → Option (Int32)) (Mu : Mm)  (Kju3 : ∀ (w2 : Int32), ju3 w2 = some ru → SW G 2 c_Mo_withMore R_Mo 5 (some .int) (some (.int ru), Mu) Mu 58 [some (.int p0), some (.int p1), some (.int w2), some (.int z3_4), none] [])  : ∀ (nu : Nat) (z2_14 : Int32) (z4_14 : Int32), L_Mo_withMore_14 Nu p0 p1 z3_4 ju3 nu z2_14 z4_14 = some ru → SW G 2 c_Mo_withMore R_Mo 5 (some .int) (some (.int ru), Mu) Mu 14 [some (.int p0), some (.int p1), some (.int z2_14), some (.int z3_4), some (.int z4_14)] []
  | 0, _, _, hf => by cases hf
  | nu + 1, z2_14, z4_14, hf => by
    have ih := l_Mo_withMore_14 (G := G) (ru := ru) Nu p0 p1 z3_4 ju3 Mu  Kju3 nu
    rw [L_Mo_withMore_14] at hf
    refine r_iload d_Mo_withMore_14 rfl ?_
    refine r_iload_n 0 d_Mo_withMore_16 rfl rfl ?_
    refine r_icmp_ge 58 d_Mo_withMore_17 (by decide) (fun qu6 => ?_) (fun qu6 => ?_)
    · replace hf := ip qu6 hf
      refine r_weak [4] (lv' := [some (.int p0), some (.int p1), some (.int z2_14), some (.int z3_4), none]) rfl ?_
      exact Kju3 z2_14  hf
    · replace hf := im qu6 hf
      refine r_iload_n 2 d_Mo_withMore_20 rfl rfl ?_
      refine r_iload_n 1 d_Mo_withMore_21 rfl rfl ?_
      refine r_iload_n 0 d_Mo_withMore_22 rfl rfl ?_
      refine r_iload_n 3 d_Mo_withMore_23 rfl rfl ?_
      refine r_iload d_Mo_withMore_24 rfl ?_
      obtain ⟨vu7, evu7, hf⟩ := bnd hf
      refine r_callS [.int p0, .int z3_4, .int z4_14] d_Mo_withMore_26 lk_Mo_74 (cm_Mo_pairOf evu7) (by decide) rfl rfl (Nat.le_of_ble_eq_true rfl) ?_
      refine r_callS [.int p1, .int vu7] d_Mo_withMore_29 lk_Mo_78 (cm_Mo_has p1 vu7 Mu) (by decide) rfl rfl (Nat.le_of_ble_eq_true rfl) ?_
      obtain ⟨ju8, hju8, hf⟩ := lt_ex hf
      have Kju8 : ∀ (xu9 : Int32), ju8 xu9 = some ru → SW G 2 c_Mo_withMore R_Mo 5 (some .int) (some (.int ru), Mu) Mu 50 [some (.int p0), some (.int p1), none, some (.int z3_4), some (.int z4_14)] [.int xu9, .int z2_14] := by
        intro xu9 hf
        rw [hju8] at hf
        refine r_ior d_Mo_withMore_50 ?_
        refine nmI (fun xu10 hxu10 => ?_)
        replace hf := lt_of hxu10 hf
        refine r_istore_n (lv' := [some (.int p0), some (.int p1), some (.int xu10), some (.int z3_4), some (.int z4_14)]) 2 d_Mo_withMore_51 rfl (by decide) rfl ?_
        obtain ⟨xu11, hxu11⟩ : ∃ y : Int32, y = z4_14 + 1 := ⟨_, rfl⟩
        replace hf := lt_of hxu11 hf
        refine r_iinc (lv' := [some (.int p0), some (.int p1), some (.int xu10), some (.int z3_4), some (.int xu11)]) d_Mo_withMore_52 rfl (by rw [hxu11]; rfl) (by decide) rfl ?_
        refine r_goto 14 d_Mo_withMore_55 (by decide) ?_
        exact ih xu10 xu11  hf
      refine r_if_eq 49 d_Mo_withMore_32 (by decide) (fun qu12 => ?_) (fun qu12 => ?_)
      · replace hf := ip qu12 hf
        refine r_iconst (v := 0) d_Mo_withMore_49 (by decide) ?_
        refine r_weak [2] (lv' := [some (.int p0), some (.int p1), none, some (.int z3_4), some (.int z4_14)]) rfl ?_
        exact Kju8 0  hf
      · replace hf := im qu12 hf
        refine r_iconst (v := 1) d_Mo_withMore_35 (by decide) ?_
        refine r_iload_n 0 d_Mo_withMore_36 rfl rfl ?_
        refine r_iconst (v := 1) d_Mo_withMore_37 (by decide) ?_
        refine r_iadd d_Mo_withMore_38 ?_
        refine r_iload_n 3 d_Mo_withMore_39 rfl rfl ?_
        refine r_iload d_Mo_withMore_40 rfl ?_
        obtain ⟨vu13, evu13, hf⟩ := bnd hf
        refine r_callS [.int (p0 + 1), .int z3_4, .int z4_14] d_Mo_withMore_42 lk_Mo_74 (cm_Mo_pairOf evu13) (by decide) rfl rfl (Nat.le_of_ble_eq_true rfl) ?_
        refine r_ishl d_Mo_withMore_45 ?_
        refine r_goto 50 d_Mo_withMore_46 (by decide) ?_
        refine r_weak [2] (lv' := [some (.int p0), some (.int p1), none, some (.int z3_4), some (.int z4_14)]) rfl ?_
        exact Kju8 ((1 : Int32) <<< (vu13 &&& 31))  hf
theorem l_Mo_withMore_4 {G : GT} {ru : Int32} (Nu : Nat) (p0 : Int32) (p1 : Int32) (Mu : Mm)    : ∀ (nu : Nat) (z2_4 : Int32) (z3_4 : Int32), L_Mo_withMore_4 Nu p0 p1 nu z2_4 z3_4 = some ru → SW G 2 c_Mo_withMore R_Mo 5 (some .int) (some (.int ru), Mu) Mu 4 [some (.int p0), some (.int p1), some (.int z2_4), some (.int z3_4), none] []
  | 0, _, _, hf => by cases hf
  | nu + 1, z2_4, z3_4, hf => by
    have ih := l_Mo_withMore_4 (G := G) (ru := ru) Nu p0 p1 Mu   nu
    rw [L_Mo_withMore_4] at hf
    refine r_iload_n 3 d_Mo_withMore_4 rfl rfl ?_
    refine r_iload_n 0 d_Mo_withMore_5 rfl rfl ?_
    refine r_icmp_ge 64 d_Mo_withMore_6 (by decide) (fun qu1 => ?_) (fun qu1 => ?_)
    · replace hf := ip qu1 hf
      refine r_iload_n 2 d_Mo_withMore_64 rfl rfl ?_
      obtain rfl := Option.some.inj hf
      exact r_ireturn d_Mo_withMore_65 rfl rfl
    · replace hf := im qu1 hf
      refine r_iload_n 3 d_Mo_withMore_9 rfl rfl ?_
      refine r_iconst (v := 1) d_Mo_withMore_10 (by decide) ?_
      refine r_iadd d_Mo_withMore_11 ?_
      refine nmI (fun xu2 hxu2 => ?_)
      replace hf := lt_of hxu2 hf
      refine r_istore (lv' := [some (.int p0), some (.int p1), some (.int z2_4), some (.int z3_4), some (.int xu2)]) d_Mo_withMore_12 (by decide) rfl ?_
      obtain ⟨ju3, hju3, hf⟩ := lt_ex hf
      have Kju3 : ∀ (xu4 : Int32), ju3 xu4 = some ru → SW G 2 c_Mo_withMore R_Mo 5 (some .int) (some (.int ru), Mu) Mu 58 [some (.int p0), some (.int p1), some (.int xu4), some (.int z3_4), none] [] := by
        intro xu4 hf
        rw [hju3] at hf
        obtain ⟨xu5, hxu5⟩ : ∃ y : Int32, y = z3_4 + 1 := ⟨_, rfl⟩
        replace hf := lt_of hxu5 hf
        refine r_iinc (lv' := [some (.int p0), some (.int p1), some (.int xu4), some (.int xu5), none]) d_Mo_withMore_58 rfl (by rw [hxu5]; rfl) (by decide) rfl ?_
        refine r_goto 4 d_Mo_withMore_61 (by decide) ?_
        exact ih xu4 xu5  hf
      exact l_Mo_withMore_14 (G := G) (ru := ru) Nu p0 p1 z3_4 ju3 Mu  Kju3 Nu z2_4 xu2 hf
theorem cm_Mo_withMore {G : GT} {Nu : Nat} {p0 : Int32} {p1 : Int32} {Mu : Mm} {ru : Int32}  (hf : f_Mo_withMore Nu p0 p1 = some ru) : CM G 2 y_Mo_withMore c_Mo_withMore 5 (some .int) (some (.int ru), Mu) Mu [.int p0, .int p1] := by
  unfold f_Mo_withMore at hf
  refine CM.of (own := R_Mo) (lv := [some (.int p0), some (.int p1), none, none, none]) (by decide) rfl (Nat.le_of_ble_eq_true rfl) rfl ?_
  refine r_iconst (v := 0) d_Mo_withMore_0 (by decide) ?_
  refine r_istore_n (lv' := [some (.int p0), some (.int p1), some (.int 0), none, none]) 2 d_Mo_withMore_1 rfl (by decide) rfl ?_
  refine r_iconst (v := 0) d_Mo_withMore_2 (by decide) ?_
  refine r_istore_n (lv' := [some (.int p0), some (.int p1), some (.int 0), some (.int 0), none]) 3 d_Mo_withMore_3 rfl (by decide) rfl ?_
  exact l_Mo_withMore_4 (G := G) (ru := ru) Nu p0 p1 Mu   Nu 0 0 hf
def L_Mo_without_17 (Nu : Nat) (p0 : Int32) (p1 : Int32) (p2 : Int32) (z4_5 : Int32) (ju3 : Int32 → Option (Int32)) : Nat → Int32 → Int32 → Option (Int32)
  | 0, _, _ => none
  | nu + 1, z3_17, z5_17 => if p0 ≤ z5_17 then ju3 z3_17 else lt (fun (xu8 : Int32) => lt (fun (xu10 : Int32) => lt (fun (xu12 : Int32) => lt (fun (xu14 : Int32) => lt (z3_17 ||| xu14) fun xu15 => lt (z5_17 + 1) fun xu16 => L_Mo_without_17 Nu p0 p1 p2 z4_5 ju3 nu xu15 xu16) fun ju13 => if xu12 = 0 then ju13 0 else (f_Mo_pairOf Nu (p0 - 1) xu8 xu10).bind fun vu18 => ju13 ((1 : Int32) <<< (vu18 &&& 31))) fun ju11 => lt (fun (_ : Unit) => ju11 0) fun ju19 => if z4_5 = p2 then ju19 () else if z5_17 = p2 then ju19 () else (f_Mo_pairOf Nu p0 z4_5 z5_17).bind fun vu22 => if (f_Mo_has p1 vu22) = 0 then ju19 () else ju11 1) fun ju9 => if z5_17 ≤ p2 then ju9 z5_17 else ju9 (z5_17 - 1)) fun ju7 => if z4_5 ≤ p2 then ju7 z4_5 else ju7 (z4_5 - 1)
def L_Mo_without_5 (Nu : Nat) (p0 : Int32) (p1 : Int32) (p2 : Int32) : Nat → Int32 → Int32 → Option (Int32)
  | 0, _, _ => none
  | nu + 1, z3_5, z4_5 => if p0 ≤ z4_5 then some z3_5 else lt (z4_5 + 1) fun xu2 => lt (fun (xu4 : Int32) => lt (z4_5 + 1) fun xu5 => L_Mo_without_5 Nu p0 p1 p2 nu xu4 xu5) fun ju3 => L_Mo_without_17 Nu p0 p1 p2 z4_5 ju3 Nu z3_5 xu2
def f_Mo_without (Nu : Nat) (p0 : Int32) (p1 : Int32) (p2 : Int32) : Option (Int32) := L_Mo_without_5 Nu p0 p1 p2 Nu 0 0
theorem l_Mo_without_17 {G : GT} {ru : Int32} (Nu : Nat) (p0 : Int32) (p1 : Int32) (p2 : Int32) (z4_5 : Int32) (ju3 : Int32 → Option (Int32)) (Mu : Mm)  (Kju3 : ∀ (w3 : Int32), ju3 w3 = some ru → SW G 2 c_Mo_without R_Mo 9 (some .int) (some (.int ru), Mu) Mu 121 [some (.int p0), some (.int p1), some (.int p2), some (.int w3), some (.int z4_5), none, none, none, none] [])  : ∀ (nu : Nat) (z3_17 : Int32) (z5_17 : Int32), L_Mo_without_17 Nu p0 p1 p2 z4_5 ju3 nu z3_17 z5_17 = some ru → SW G 2 c_Mo_without R_Mo 9 (some .int) (some (.int ru), Mu) Mu 17 [some (.int p0), some (.int p1), some (.int p2), some (.int z3_17), some (.int z4_5), some (.int z5_17), none, none, none] []
  | 0, _, _, hf => by cases hf
  | nu + 1, z3_17, z5_17, hf => by
    have ih := l_Mo_without_17 (G := G) (ru := ru) Nu p0 p1 p2 z4_5 ju3 Mu  Kju3 nu
    rw [L_Mo_without_17] at hf
    refine r_iload d_Mo_without_17 rfl ?_
    refine r_iload_n 0 d_Mo_without_19 rfl rfl ?_
    refine r_icmp_ge 121 d_Mo_without_20 (by decide) (fun qu6 => ?_) (fun qu6 => ?_)
    · replace hf := ip qu6 hf
      refine r_weak [5] (lv' := [some (.int p0), some (.int p1), some (.int p2), some (.int z3_17), some (.int z4_5), none, none, none, none]) rfl ?_
      exact Kju3 z3_17  hf
    · replace hf := im qu6 hf
      refine r_iload d_Mo_without_23 rfl ?_
      refine r_iload_n 2 d_Mo_without_25 rfl rfl ?_
      obtain ⟨ju7, hju7, hf⟩ := lt_ex hf
      have Kju7 : ∀ (xu8 : Int32), ju7 xu8 = some ru → SW G 2 c_Mo_without R_Mo 9 (some .int) (some (.int ru), Mu) Mu 38 [some (.int p0), some (.int p1), some (.int p2), some (.int z3_17), some (.int z4_5), some (.int z5_17), none, none, none] [.int xu8] := by
        intro xu8 hf
        rw [hju7] at hf
        refine r_istore (lv' := [some (.int p0), some (.int p1), some (.int p2), some (.int z3_17), some (.int z4_5), some (.int z5_17), some (.int xu8), none, none]) d_Mo_without_38 (by decide) rfl ?_
        refine r_iload d_Mo_without_40 rfl ?_
        refine r_iload_n 2 d_Mo_without_42 rfl rfl ?_
        obtain ⟨ju9, hju9, hf⟩ := lt_ex hf
        have Kju9 : ∀ (xu10 : Int32), ju9 xu10 = some ru → SW G 2 c_Mo_without R_Mo 9 (some .int) (some (.int ru), Mu) Mu 55 [some (.int p0), some (.int p1), some (.int p2), some (.int z3_17), some (.int z4_5), some (.int z5_17), some (.int xu8), none, none] [.int xu10] := by
          intro xu10 hf
          rw [hju9] at hf
          refine r_istore (lv' := [some (.int p0), some (.int p1), some (.int p2), some (.int z3_17), some (.int z4_5), some (.int z5_17), some (.int xu8), some (.int xu10), none]) d_Mo_without_55 (by decide) rfl ?_
          refine r_iload d_Mo_without_57 rfl ?_
          refine r_iload_n 2 d_Mo_without_59 rfl rfl ?_
          obtain ⟨ju11, hju11, hf⟩ := lt_ex hf
          have Kju11 : ∀ (xu12 : Int32), ju11 xu12 = some ru → SW G 2 c_Mo_without R_Mo 9 (some .int) (some (.int ru), Mu) Mu 89 [some (.int p0), some (.int p1), some (.int p2), some (.int z3_17), some (.int z4_5), some (.int z5_17), some (.int xu8), some (.int xu10), none] [.int xu12] := by
            intro xu12 hf
            rw [hju11] at hf
            refine r_istore (lv' := [some (.int p0), some (.int p1), some (.int p2), some (.int z3_17), some (.int z4_5), some (.int z5_17), some (.int xu8), some (.int xu10), some (.int xu12)]) d_Mo_without_89 (by decide) rfl ?_
            refine r_iload_n 3 d_Mo_without_91 rfl rfl ?_
            refine r_iload d_Mo_without_92 rfl ?_
            obtain ⟨ju13, hju13, hf⟩ := lt_ex hf
            have Kju13 : ∀ (xu14 : Int32), ju13 xu14 = some ru → SW G 2 c_Mo_without R_Mo 9 (some .int) (some (.int ru), Mu) Mu 113 [some (.int p0), some (.int p1), some (.int p2), none, some (.int z4_5), some (.int z5_17), none, none, none] [.int xu14, .int z3_17] := by
              intro xu14 hf
              rw [hju13] at hf
              refine r_ior d_Mo_without_113 ?_
              refine nmI (fun xu15 hxu15 => ?_)
              replace hf := lt_of hxu15 hf
              refine r_istore_n (lv' := [some (.int p0), some (.int p1), some (.int p2), some (.int xu15), some (.int z4_5), some (.int z5_17), none, none, none]) 3 d_Mo_without_114 rfl (by decide) rfl ?_
              obtain ⟨xu16, hxu16⟩ : ∃ y : Int32, y = z5_17 + 1 := ⟨_, rfl⟩
              replace hf := lt_of hxu16 hf
              refine r_iinc (lv' := [some (.int p0), some (.int p1), some (.int p2), some (.int xu15), some (.int z4_5), some (.int xu16), none, none, none]) d_Mo_without_115 rfl (by rw [hxu16]; rfl) (by decide) rfl ?_
              refine r_goto 17 d_Mo_without_118 (by decide) ?_
              exact ih xu15 xu16  hf
            refine r_if_eq 112 d_Mo_without_94 (by decide) (fun qu17 => ?_) (fun qu17 => ?_)
            · replace hf := ip qu17 hf
              refine r_iconst (v := 0) d_Mo_without_112 (by decide) ?_
              refine r_weak [3, 6, 7, 8] (lv' := [some (.int p0), some (.int p1), some (.int p2), none, some (.int z4_5), some (.int z5_17), none, none, none]) rfl ?_
              exact Kju13 0  hf
            · replace hf := im qu17 hf
              refine r_iconst (v := 1) d_Mo_without_97 (by decide) ?_
              refine r_iload_n 0 d_Mo_without_98 rfl rfl ?_
              refine r_iconst (v := 1) d_Mo_without_99 (by decide) ?_
              refine r_isub d_Mo_without_100 ?_
              refine r_iload d_Mo_without_101 rfl ?_
              refine r_iload d_Mo_without_103 rfl ?_
              obtain ⟨vu18, evu18, hf⟩ := bnd hf
              refine r_callS [.int (p0 - 1), .int xu8, .int xu10] d_Mo_without_105 lk_Mo_74 (cm_Mo_pairOf evu18) (by decide) rfl rfl (Nat.le_of_ble_eq_true rfl) ?_
              refine r_ishl d_Mo_without_108 ?_
              refine r_goto 113 d_Mo_without_109 (by decide) ?_
              refine r_weak [3, 6, 7, 8] (lv' := [some (.int p0), some (.int p1), some (.int p2), none, some (.int z4_5), some (.int z5_17), none, none, none]) rfl ?_
              exact Kju13 ((1 : Int32) <<< (vu18 &&& 31))  hf
          obtain ⟨ju19, hju19, hf⟩ := lt_ex hf
          have Kju19 : ∀ (_ : Unit), ju19 () = some ru → SW G 2 c_Mo_without R_Mo 9 (some .int) (some (.int ru), Mu) Mu 88 [some (.int p0), some (.int p1), some (.int p2), some (.int z3_17), some (.int z4_5), some (.int z5_17), some (.int xu8), some (.int xu10), none] [] := by
            intro _ hf
            rw [hju19] at hf
            refine r_iconst (v := 0) d_Mo_without_88 (by decide) ?_
            exact Kju11 0  hf
          refine r_icmp_eq 88 d_Mo_without_60 (by decide) (fun qu20 => ?_) (fun qu20 => ?_)
          · replace hf := ip qu20 hf
            exact Kju19 ()  hf
          · replace hf := im qu20 hf
            refine r_iload d_Mo_without_63 rfl ?_
            refine r_iload_n 2 d_Mo_without_65 rfl rfl ?_
            refine r_icmp_eq 88 d_Mo_without_66 (by decide) (fun qu21 => ?_) (fun qu21 => ?_)
            · replace hf := ip qu21 hf
              exact Kju19 ()  hf
            · replace hf := im qu21 hf
              refine r_iload_n 1 d_Mo_without_69 rfl rfl ?_
              refine r_iload_n 0 d_Mo_without_70 rfl rfl ?_
              refine r_iload d_Mo_without_71 rfl ?_
              refine r_iload d_Mo_without_73 rfl ?_
              obtain ⟨vu22, evu22, hf⟩ := bnd hf
              refine r_callS [.int p0, .int z4_5, .int z5_17] d_Mo_without_75 lk_Mo_74 (cm_Mo_pairOf evu22) (by decide) rfl rfl (Nat.le_of_ble_eq_true rfl) ?_
              refine r_callS [.int p1, .int vu22] d_Mo_without_78 lk_Mo_78 (cm_Mo_has p1 vu22 Mu) (by decide) rfl rfl (Nat.le_of_ble_eq_true rfl) ?_
              refine r_if_eq 88 d_Mo_without_81 (by decide) (fun qu23 => ?_) (fun qu23 => ?_)
              · replace hf := ip qu23 hf
                exact Kju19 ()  hf
              · replace hf := im qu23 hf
                refine r_iconst (v := 1) d_Mo_without_84 (by decide) ?_
                refine r_goto 89 d_Mo_without_85 (by decide) ?_
                exact Kju11 1  hf
        refine r_icmp_le 53 d_Mo_without_43 (by decide) (fun qu24 => ?_) (fun qu24 => ?_)
        · replace hf := ip qu24 hf
          refine r_iload d_Mo_without_53 rfl ?_
          exact Kju9 z5_17  hf
        · replace hf := im qu24 hf
          refine r_iload d_Mo_without_46 rfl ?_
          refine r_iconst (v := 1) d_Mo_without_48 (by decide) ?_
          refine r_isub d_Mo_without_49 ?_
          refine r_goto 55 d_Mo_without_50 (by decide) ?_
          exact Kju9 (z5_17 - 1)  hf
      refine r_icmp_le 36 d_Mo_without_26 (by decide) (fun qu25 => ?_) (fun qu25 => ?_)
      · replace hf := ip qu25 hf
        refine r_iload d_Mo_without_36 rfl ?_
        exact Kju7 z4_5  hf
      · replace hf := im qu25 hf
        refine r_iload d_Mo_without_29 rfl ?_
        refine r_iconst (v := 1) d_Mo_without_31 (by decide) ?_
        refine r_isub d_Mo_without_32 ?_
        refine r_goto 38 d_Mo_without_33 (by decide) ?_
        exact Kju7 (z4_5 - 1)  hf
theorem l_Mo_without_5 {G : GT} {ru : Int32} (Nu : Nat) (p0 : Int32) (p1 : Int32) (p2 : Int32) (Mu : Mm)    : ∀ (nu : Nat) (z3_5 : Int32) (z4_5 : Int32), L_Mo_without_5 Nu p0 p1 p2 nu z3_5 z4_5 = some ru → SW G 2 c_Mo_without R_Mo 9 (some .int) (some (.int ru), Mu) Mu 5 [some (.int p0), some (.int p1), some (.int p2), some (.int z3_5), some (.int z4_5), none, none, none, none] []
  | 0, _, _, hf => by cases hf
  | nu + 1, z3_5, z4_5, hf => by
    have ih := l_Mo_without_5 (G := G) (ru := ru) Nu p0 p1 p2 Mu   nu
    rw [L_Mo_without_5] at hf
    refine r_iload d_Mo_without_5 rfl ?_
    refine r_iload_n 0 d_Mo_without_7 rfl rfl ?_
    refine r_icmp_ge 127 d_Mo_without_8 (by decide) (fun qu1 => ?_) (fun qu1 => ?_)
    · replace hf := ip qu1 hf
      refine r_iload_n 3 d_Mo_without_127 rfl rfl ?_
      obtain rfl := Option.some.inj hf
      exact r_ireturn d_Mo_without_128 rfl rfl
    · replace hf := im qu1 hf
      refine r_iload d_Mo_without_11 rfl ?_
      refine r_iconst (v := 1) d_Mo_without_13 (by decide) ?_
      refine r_iadd d_Mo_without_14 ?_
      refine nmI (fun xu2 hxu2 => ?_)
      replace hf := lt_of hxu2 hf
      refine r_istore (lv' := [some (.int p0), some (.int p1), some (.int p2), some (.int z3_5), some (.int z4_5), some (.int xu2), none, none, none]) d_Mo_without_15 (by decide) rfl ?_
      obtain ⟨ju3, hju3, hf⟩ := lt_ex hf
      have Kju3 : ∀ (xu4 : Int32), ju3 xu4 = some ru → SW G 2 c_Mo_without R_Mo 9 (some .int) (some (.int ru), Mu) Mu 121 [some (.int p0), some (.int p1), some (.int p2), some (.int xu4), some (.int z4_5), none, none, none, none] [] := by
        intro xu4 hf
        rw [hju3] at hf
        obtain ⟨xu5, hxu5⟩ : ∃ y : Int32, y = z4_5 + 1 := ⟨_, rfl⟩
        replace hf := lt_of hxu5 hf
        refine r_iinc (lv' := [some (.int p0), some (.int p1), some (.int p2), some (.int xu4), some (.int xu5), none, none, none, none]) d_Mo_without_121 rfl (by rw [hxu5]; rfl) (by decide) rfl ?_
        refine r_goto 5 d_Mo_without_124 (by decide) ?_
        exact ih xu4 xu5  hf
      exact l_Mo_without_17 (G := G) (ru := ru) Nu p0 p1 p2 z4_5 ju3 Mu  Kju3 Nu z3_5 xu2 hf
theorem cm_Mo_without {G : GT} {Nu : Nat} {p0 : Int32} {p1 : Int32} {p2 : Int32} {Mu : Mm} {ru : Int32}  (hf : f_Mo_without Nu p0 p1 p2 = some ru) : CM G 2 y_Mo_without c_Mo_without 9 (some .int) (some (.int ru), Mu) Mu [.int p0, .int p1, .int p2] := by
  unfold f_Mo_without at hf
  refine CM.of (own := R_Mo) (lv := [some (.int p0), some (.int p1), some (.int p2), none, none, none, none, none, none]) (by decide) rfl (Nat.le_of_ble_eq_true rfl) rfl ?_
  refine r_iconst (v := 0) d_Mo_without_0 (by decide) ?_
  refine r_istore_n (lv' := [some (.int p0), some (.int p1), some (.int p2), some (.int 0), none, none, none, none, none]) 3 d_Mo_without_1 rfl (by decide) rfl ?_
  refine r_iconst (v := 0) d_Mo_without_2 (by decide) ?_
  refine r_istore (lv' := [some (.int p0), some (.int p1), some (.int p2), some (.int 0), some (.int 0), none, none, none, none]) d_Mo_without_3 (by decide) rfl ?_
  exact l_Mo_without_5 (G := G) (ru := ru) Nu p0 p1 p2 Mu   Nu 0 0 hf
def f_Mo_birth (Nu : Nat) (Mu : Mm) : Option (Int32 × Mm) := if (Mu.1 49 0) = 8 then some ((-1000000004), Mu) else (f_Mo_withMore Nu (Mu.1 49 0) (Mu.1 49 1)).bind fun vu2 => lt (si Mu 49 1 vu2) fun Mu3 => (f_Mo_withMore Nu (Mu3.1 49 0) (Mu3.1 49 2)).bind fun vu4 => lt (si Mu3 49 2 vu4) fun Mu5 => (f_Mo_withMore Nu (Mu5.1 49 0) (Mu5.1 49 3)).bind fun vu6 => lt (si Mu5 49 3 vu6) fun Mu7 => lt (si Mu7 49 0 ((Mu7.1 49 0) + 1)) fun Mu8 => (f_Mo_tellCounts Nu Mu8).bind fun vu9 => some ((vu9.1 49 0) - 1, vu9)
theorem cm_Mo_birth {G : GT} {Nu : Nat} {Mu : Mm}  {ru : Int32 × Mm}  (hf : f_Mo_birth Nu Mu = some ru) : CM G 4 y_Mo_birth c_Mo_birth 1 (some .int) (some (.int ru.1), ru.2) Mu [.ref 49] := by
  unfold f_Mo_birth at hf
  refine CM.of (own := R_Mo) (lv := [some (.ref 49)]) (by decide) rfl (Nat.le_of_ble_eq_true rfl) rfl ?_
  refine r_aload_n 0 d_Mo_birth_0 rfl rfl ?_
  refine r_getI d_Mo_birth_1 fl_Mo_63 sh_49 (by decide) ?_
  refine r_bipush (v := 8) d_Mo_birth_4 (by decide) ?_
  refine r_icmp_ne 12 d_Mo_birth_6 (by decide) (fun qu1 => ?_) (fun qu1 => ?_)
  · replace hf := im qu1 hf
    refine r_aload_n 0 d_Mo_birth_12 rfl rfl ?_
    refine r_aload_n 0 d_Mo_birth_13 rfl rfl ?_
    refine r_getI d_Mo_birth_14 fl_Mo_63 sh_49 (by decide) ?_
    refine r_aload_n 0 d_Mo_birth_17 rfl rfl ?_
    refine r_getI d_Mo_birth_18 fl_Mo_86 sh_49 (by decide) ?_
    obtain ⟨vu2, evu2, hf⟩ := bnd hf
    refine r_callS [.int (Mu.1 49 0), .int (Mu.1 49 1)] d_Mo_birth_21 lk_Mo_213 (cm_Mo_withMore evu2) (by decide) rfl rfl (Nat.le_of_ble_eq_true rfl) ?_
    refine r_putI d_Mo_birth_24 fl_Mo_86 sh_49 (Or.inl rfl) rfl ?_
    refine nmM (fun Mu3 hMu3 => ?_)
    replace hf := lt_of hMu3 hf
    refine r_aload_n 0 d_Mo_birth_27 rfl rfl ?_
    refine r_aload_n 0 d_Mo_birth_28 rfl rfl ?_
    refine r_getI d_Mo_birth_29 fl_Mo_63 sh_49 (by decide) ?_
    refine r_aload_n 0 d_Mo_birth_32 rfl rfl ?_
    refine r_getI d_Mo_birth_33 fl_Mo_185 sh_49 (by decide) ?_
    obtain ⟨vu4, evu4, hf⟩ := bnd hf
    refine r_callS [.int (Mu3.1 49 0), .int (Mu3.1 49 2)] d_Mo_birth_36 lk_Mo_213 (cm_Mo_withMore evu4) (by decide) rfl rfl (Nat.le_of_ble_eq_true rfl) ?_
    refine r_putI d_Mo_birth_39 fl_Mo_185 sh_49 (Or.inl rfl) rfl ?_
    refine nmM (fun Mu5 hMu5 => ?_)
    replace hf := lt_of hMu5 hf
    refine r_aload_n 0 d_Mo_birth_42 rfl rfl ?_
    refine r_aload_n 0 d_Mo_birth_43 rfl rfl ?_
    refine r_getI d_Mo_birth_44 fl_Mo_63 sh_49 (by decide) ?_
    refine r_aload_n 0 d_Mo_birth_47 rfl rfl ?_
    refine r_getI d_Mo_birth_48 fl_Mo_188 sh_49 (by decide) ?_
    obtain ⟨vu6, evu6, hf⟩ := bnd hf
    refine r_callS [.int (Mu5.1 49 0), .int (Mu5.1 49 3)] d_Mo_birth_51 lk_Mo_213 (cm_Mo_withMore evu6) (by decide) rfl rfl (Nat.le_of_ble_eq_true rfl) ?_
    refine r_putI d_Mo_birth_54 fl_Mo_188 sh_49 (Or.inl rfl) rfl ?_
    refine nmM (fun Mu7 hMu7 => ?_)
    replace hf := lt_of hMu7 hf
    refine r_aload_n 0 d_Mo_birth_57 rfl rfl ?_
    refine r_dup d_Mo_birth_58 rfl ?_
    refine r_getI d_Mo_birth_59 fl_Mo_63 sh_49 (by decide) ?_
    refine r_iconst (v := 1) d_Mo_birth_62 (by decide) ?_
    refine r_iadd d_Mo_birth_63 ?_
    refine r_putI d_Mo_birth_64 fl_Mo_63 sh_49 (Or.inl rfl) rfl ?_
    refine nmM (fun Mu8 hMu8 => ?_)
    replace hf := lt_of hMu8 hf
    refine r_aload_n 0 d_Mo_birth_67 rfl rfl ?_
    obtain ⟨vu9, evu9, hf⟩ := bnd hf
    refine r_callV [] d_Mo_birth_68 lk_Mo_191 sh_49 (cm_Mo_tellCounts evu9) (by decide) rfl rfl (Nat.le_of_ble_eq_true rfl) ?_
    refine r_aload_n 0 d_Mo_birth_71 rfl rfl ?_
    refine r_getI d_Mo_birth_72 fl_Mo_63 sh_49 (by decide) ?_
    refine r_iconst (v := 1) d_Mo_birth_75 (by decide) ?_
    refine r_isub d_Mo_birth_76 ?_
    obtain rfl := Option.some.inj hf
    exact r_ireturn d_Mo_birth_77 rfl rfl
  · replace hf := ip qu1 hf
    refine r_ldc d_Mo_birth_9 k_Mo_98 ?_
    obtain rfl := Option.some.inj hf
    exact r_ireturn d_Mo_birth_11 rfl rfl
def f_Mo_death (Nu : Nat) (p0 : Int32) (Mu : Mm) : Option (Int32 × Mm) := if (f_Mo_isPerson p0 Mu) = 0 then some ((-1000000001), Mu) else (f_Mo_without Nu (Mu.1 49 0) (Mu.1 49 1) p0).bind fun vu2 => lt (si Mu 49 1 vu2) fun Mu3 => (f_Mo_without Nu (Mu3.1 49 0) (Mu3.1 49 2) p0).bind fun vu4 => lt (si Mu3 49 2 vu4) fun Mu5 => (f_Mo_without Nu (Mu5.1 49 0) (Mu5.1 49 3) p0).bind fun vu6 => lt (si Mu5 49 3 vu6) fun Mu7 => lt (si Mu7 49 0 ((Mu7.1 49 0) - 1)) fun Mu8 => (f_Mo_tellCounts Nu Mu8).bind fun vu9 => some (vu9.1 49 0, vu9)
theorem cm_Mo_death {G : GT} {Nu : Nat} {p0 : Int32} {Mu : Mm}  {ru : Int32 × Mm}  (hf : f_Mo_death Nu p0 Mu = some ru) : CM G 4 y_Mo_death c_Mo_death 2 (some .int) (some (.int ru.1), ru.2) Mu [.ref 49, .int p0] := by
  unfold f_Mo_death at hf
  refine CM.of (own := R_Mo) (lv := [some (.ref 49), some (.int p0)]) (by decide) rfl (Nat.le_of_ble_eq_true rfl) rfl ?_
  refine r_aload_n 0 d_Mo_death_0 rfl rfl ?_
  refine r_iload_n 1 d_Mo_death_1 rfl rfl ?_
  refine r_callV [.int p0] d_Mo_death_2 lk_Mo_70 sh_49 (cm_Mo_isPerson p0 Mu) (by decide) rfl rfl (Nat.le_of_ble_eq_true rfl) ?_
  refine r_if_ne 11 d_Mo_death_5 (by decide) (fun qu1 => ?_) (fun qu1 => ?_)
  · replace hf := im qu1 hf
    refine r_aload_n 0 d_Mo_death_11 rfl rfl ?_
    refine r_aload_n 0 d_Mo_death_12 rfl rfl ?_
    refine r_getI d_Mo_death_13 fl_Mo_63 sh_49 (by decide) ?_
    refine r_aload_n 0 d_Mo_death_16 rfl rfl ?_
    refine r_getI d_Mo_death_17 fl_Mo_86 sh_49 (by decide) ?_
    refine r_iload_n 1 d_Mo_death_20 rfl rfl ?_
    obtain ⟨vu2, evu2, hf⟩ := bnd hf
    refine r_callS [.int (Mu.1 49 0), .int (Mu.1 49 1), .int p0] d_Mo_death_21 lk_Mo_216 (cm_Mo_without evu2) (by decide) rfl rfl (Nat.le_of_ble_eq_true rfl) ?_
    refine r_putI d_Mo_death_24 fl_Mo_86 sh_49 (Or.inl rfl) rfl ?_
    refine nmM (fun Mu3 hMu3 => ?_)
    replace hf := lt_of hMu3 hf
    refine r_aload_n 0 d_Mo_death_27 rfl rfl ?_
    refine r_aload_n 0 d_Mo_death_28 rfl rfl ?_
    refine r_getI d_Mo_death_29 fl_Mo_63 sh_49 (by decide) ?_
    refine r_aload_n 0 d_Mo_death_32 rfl rfl ?_
    refine r_getI d_Mo_death_33 fl_Mo_185 sh_49 (by decide) ?_
    refine r_iload_n 1 d_Mo_death_36 rfl rfl ?_
    obtain ⟨vu4, evu4, hf⟩ := bnd hf
    refine r_callS [.int (Mu3.1 49 0), .int (Mu3.1 49 2), .int p0] d_Mo_death_37 lk_Mo_216 (cm_Mo_without evu4) (by decide) rfl rfl (Nat.le_of_ble_eq_true rfl) ?_
    refine r_putI d_Mo_death_40 fl_Mo_185 sh_49 (Or.inl rfl) rfl ?_
    refine nmM (fun Mu5 hMu5 => ?_)
    replace hf := lt_of hMu5 hf
    refine r_aload_n 0 d_Mo_death_43 rfl rfl ?_
    refine r_aload_n 0 d_Mo_death_44 rfl rfl ?_
    refine r_getI d_Mo_death_45 fl_Mo_63 sh_49 (by decide) ?_
    refine r_aload_n 0 d_Mo_death_48 rfl rfl ?_
    refine r_getI d_Mo_death_49 fl_Mo_188 sh_49 (by decide) ?_
    refine r_iload_n 1 d_Mo_death_52 rfl rfl ?_
    obtain ⟨vu6, evu6, hf⟩ := bnd hf
    refine r_callS [.int (Mu5.1 49 0), .int (Mu5.1 49 3), .int p0] d_Mo_death_53 lk_Mo_216 (cm_Mo_without evu6) (by decide) rfl rfl (Nat.le_of_ble_eq_true rfl) ?_
    refine r_putI d_Mo_death_56 fl_Mo_188 sh_49 (Or.inl rfl) rfl ?_
    refine nmM (fun Mu7 hMu7 => ?_)
    replace hf := lt_of hMu7 hf
    refine r_aload_n 0 d_Mo_death_59 rfl rfl ?_
    refine r_dup d_Mo_death_60 rfl ?_
    refine r_getI d_Mo_death_61 fl_Mo_63 sh_49 (by decide) ?_
    refine r_iconst (v := 1) d_Mo_death_64 (by decide) ?_
    refine r_isub d_Mo_death_65 ?_
    refine r_putI d_Mo_death_66 fl_Mo_63 sh_49 (Or.inl rfl) rfl ?_
    refine nmM (fun Mu8 hMu8 => ?_)
    replace hf := lt_of hMu8 hf
    refine r_aload_n 0 d_Mo_death_69 rfl rfl ?_
    obtain ⟨vu9, evu9, hf⟩ := bnd hf
    refine r_callV [] d_Mo_death_70 lk_Mo_191 sh_49 (cm_Mo_tellCounts evu9) (by decide) rfl rfl (Nat.le_of_ble_eq_true rfl) ?_
    refine r_aload_n 0 d_Mo_death_73 rfl rfl ?_
    refine r_getI d_Mo_death_74 fl_Mo_63 sh_49 (by decide) ?_
    obtain rfl := Option.some.inj hf
    exact r_ireturn d_Mo_death_77 rfl rfl
  · replace hf := ip qu1 hf
    refine r_ldc d_Mo_death_8 k_Mo_203 ?_
    obtain rfl := Option.some.inj hf
    exact r_ireturn d_Mo_death_10 rfl rfl
def f_Mo_isMade (p0 : Int32) (p1 : Int32) (p2 : Int32) (p3 : Int32) : Int32 := if p1 = 0 then if (p2 + p3) < p0 then 0 else 1 else if p0 ≤ (p2 + p3) then 0 else 1
theorem cm_Mo_isMade {G : GT} (p0 : Int32) (p1 : Int32) (p2 : Int32) (p3 : Int32) (Mu : Mm)  : CM G 1 y_Mo_isMade c_Mo_isMade 4 (some .boolean) (some (.int (f_Mo_isMade p0 p1 p2 p3)), Mu) Mu [.int p0, .int p1, .int p2, .int p3] := by
  generalize hf : f_Mo_isMade p0 p1 p2 p3 = ru
  unfold f_Mo_isMade at hf
  refine CM.of (own := R_Mo) (lv := [some (.int p0), some (.int p1), some (.int p2), some (.int p3)]) (by decide) rfl (Nat.le_of_ble_eq_true rfl) rfl ?_
  refine r_iload_n 1 d_Mo_isMade_0 rfl rfl ?_
  refine r_if_ne 19 d_Mo_isMade_1 (by decide) (fun qu1 => ?_) (fun qu1 => ?_)
  · replace hf := im qu1 hf
    refine r_iload_n 2 d_Mo_isMade_19 rfl rfl ?_
    refine r_iload_n 3 d_Mo_isMade_20 rfl rfl ?_
    refine r_iadd d_Mo_isMade_21 ?_
    refine r_iload_n 0 d_Mo_isMade_22 rfl rfl ?_
    refine r_icmp_ge 30 d_Mo_isMade_23 (by decide) (fun qu2 => ?_) (fun qu2 => ?_)
    · replace hf := ip qu2 hf
      refine r_iconst (v := 0) d_Mo_isMade_30 (by decide) ?_
      subst hf
      exact r_zreturn d_Mo_isMade_31 rfl (Or.inl rfl) rfl
    · replace hf := im qu2 hf
      refine r_iconst (v := 1) d_Mo_isMade_26 (by decide) ?_
      refine r_goto 31 d_Mo_isMade_27 (by decide) ?_
      subst hf
      exact r_zreturn d_Mo_isMade_31 rfl (Or.inr rfl) rfl
  · replace hf := ip qu1 hf
    refine r_iload_n 2 d_Mo_isMade_4 rfl rfl ?_
    refine r_iload_n 3 d_Mo_isMade_5 rfl rfl ?_
    refine r_iadd d_Mo_isMade_6 ?_
    refine r_iload_n 0 d_Mo_isMade_7 rfl rfl ?_
    refine r_icmp_lt 15 d_Mo_isMade_8 (by decide) (fun qu3 => ?_) (fun qu3 => ?_)
    · replace hf := ip qu3 hf
      refine r_iconst (v := 0) d_Mo_isMade_15 (by decide) ?_
      refine r_goto 31 d_Mo_isMade_16 (by decide) ?_
      subst hf
      exact r_zreturn d_Mo_isMade_31 rfl (Or.inl rfl) rfl
    · replace hf := im qu3 hf
      refine r_iconst (v := 1) d_Mo_isMade_11 (by decide) ?_
      refine r_goto 31 d_Mo_isMade_12 (by decide) ?_
      subst hf
      exact r_zreturn d_Mo_isMade_31 rfl (Or.inr rfl) rfl
theorem z_Mo_isMade (p0 : Int32) (p1 : Int32) (p2 : Int32) (p3 : Int32) : f_Mo_isMade p0 p1 p2 p3 = 0 ∨ f_Mo_isMade p0 p1 p2 p3 = 1 := by unfold f_Mo_isMade; repeat (first | (with_reducible refine z_ite ?_ ?_) | exact Or.inl rfl | exact Or.inr rfl)
def f_Mo_made (p0 : Int32) (p1 : Int32) (p2 : Int32) (p3 : Int32) : Int32 := if (f_Mo_in p0.toInt64 2 8) = 0 then (-1000000002) else if (f_Mo_in p1.toInt64 0 1) = 0 then (-1000000002) else if (f_Mo_in p2.toInt64 0 ((p0 - 1).toInt64)) = 0 then (-1000000002) else if (f_Mo_in p3.toInt64 0 ((p0 - 1).toInt64)) = 0 then (-1000000002) else if p2 = p3 then (-1000000002) else if (f_Mo_isMade p0 p1 p2 p3) = 0 then 0 else 1
theorem cm_Mo_made {G : GT} (p0 : Int32) (p1 : Int32) (p2 : Int32) (p3 : Int32) (Mu : Mm)  : CM G 2 y_Mo_made c_Mo_made 5 (some .int) (some (.int (f_Mo_made p0 p1 p2 p3)), Mu) Mu [.ref 49, .int p0, .int p1, .int p2, .int p3] := by
  generalize hf : f_Mo_made p0 p1 p2 p3 = ru
  unfold f_Mo_made at hf
  refine CM.of (own := R_Mo) (lv := [some (.ref 49), some (.int p0), some (.int p1), some (.int p2), some (.int p3)]) (by decide) rfl (Nat.le_of_ble_eq_true rfl) rfl ?_
  refine r_iload_n 1 d_Mo_made_0 rfl rfl ?_
  refine r_i2l d_Mo_made_1 ?_
  refine r_ldc2_w d_Mo_made_2 k_Mo_211 ?_
  refine r_ldc2_w d_Mo_made_5 k_Mo_92 ?_
  refine r_callS [.long p0.toInt64, .long 2, .long 8] d_Mo_made_8 lk_Mo_66 (cm_Mo_in p0.toInt64 2 8 Mu) (by decide) rfl rfl (Nat.le_of_ble_eq_true rfl) ?_
  refine r_if_eq 57 d_Mo_made_11 (by decide) (fun qu1 => ?_) (fun qu1 => ?_)
  · replace hf := ip qu1 hf
    refine r_ldc d_Mo_made_57 k_Mo_94 ?_
    subst hf
    exact r_ireturn d_Mo_made_59 rfl rfl
  · replace hf := im qu1 hf
    refine r_iload_n 2 d_Mo_made_14 rfl rfl ?_
    refine r_i2l d_Mo_made_15 ?_
    refine r_lconst (v := 0) d_Mo_made_16 (by decide) ?_
    refine r_lconst (v := 1) d_Mo_made_17 (by decide) ?_
    refine r_callS [.long p1.toInt64, .long 0, .long 1] d_Mo_made_18 lk_Mo_66 (cm_Mo_in p1.toInt64 0 1 Mu) (by decide) rfl rfl (Nat.le_of_ble_eq_true rfl) ?_
    refine r_if_eq 57 d_Mo_made_21 (by decide) (fun qu2 => ?_) (fun qu2 => ?_)
    · replace hf := ip qu2 hf
      refine r_ldc d_Mo_made_57 k_Mo_94 ?_
      subst hf
      exact r_ireturn d_Mo_made_59 rfl rfl
    · replace hf := im qu2 hf
      refine r_iload_n 3 d_Mo_made_24 rfl rfl ?_
      refine r_i2l d_Mo_made_25 ?_
      refine r_lconst (v := 0) d_Mo_made_26 (by decide) ?_
      refine r_iload_n 1 d_Mo_made_27 rfl rfl ?_
      refine r_iconst (v := 1) d_Mo_made_28 (by decide) ?_
      refine r_isub d_Mo_made_29 ?_
      refine r_i2l d_Mo_made_30 ?_
      refine r_callS [.long p2.toInt64, .long 0, .long ((p0 - 1).toInt64)] d_Mo_made_31 lk_Mo_66 (cm_Mo_in p2.toInt64 0 ((p0 - 1).toInt64) Mu) (by decide) rfl rfl (Nat.le_of_ble_eq_true rfl) ?_
      refine r_if_eq 57 d_Mo_made_34 (by decide) (fun qu3 => ?_) (fun qu3 => ?_)
      · replace hf := ip qu3 hf
        refine r_ldc d_Mo_made_57 k_Mo_94 ?_
        subst hf
        exact r_ireturn d_Mo_made_59 rfl rfl
      · replace hf := im qu3 hf
        refine r_iload d_Mo_made_37 rfl ?_
        refine r_i2l d_Mo_made_39 ?_
        refine r_lconst (v := 0) d_Mo_made_40 (by decide) ?_
        refine r_iload_n 1 d_Mo_made_41 rfl rfl ?_
        refine r_iconst (v := 1) d_Mo_made_42 (by decide) ?_
        refine r_isub d_Mo_made_43 ?_
        refine r_i2l d_Mo_made_44 ?_
        refine r_callS [.long p3.toInt64, .long 0, .long ((p0 - 1).toInt64)] d_Mo_made_45 lk_Mo_66 (cm_Mo_in p3.toInt64 0 ((p0 - 1).toInt64) Mu) (by decide) rfl rfl (Nat.le_of_ble_eq_true rfl) ?_
        refine r_if_eq 57 d_Mo_made_48 (by decide) (fun qu4 => ?_) (fun qu4 => ?_)
        · replace hf := ip qu4 hf
          refine r_ldc d_Mo_made_57 k_Mo_94 ?_
          subst hf
          exact r_ireturn d_Mo_made_59 rfl rfl
        · replace hf := im qu4 hf
          refine r_iload_n 3 d_Mo_made_51 rfl rfl ?_
          refine r_iload d_Mo_made_52 rfl ?_
          refine r_icmp_ne 60 d_Mo_made_54 (by decide) (fun qu5 => ?_) (fun qu5 => ?_)
          · replace hf := im qu5 hf
            refine r_iload_n 1 d_Mo_made_60 rfl rfl ?_
            refine r_iload_n 2 d_Mo_made_61 rfl rfl ?_
            refine r_iload_n 3 d_Mo_made_62 rfl rfl ?_
            refine r_iload d_Mo_made_63 rfl ?_
            refine r_callS [.int p0, .int p1, .int p2, .int p3] d_Mo_made_65 lk_Mo_219 (cm_Mo_isMade p0 p1 p2 p3 Mu) (by decide) rfl rfl (Nat.le_of_ble_eq_true rfl) ?_
            refine r_if_eq 75 d_Mo_made_68 (by decide) (fun qu6 => ?_) (fun qu6 => ?_)
            · replace hf := ip qu6 hf
              refine r_iconst (v := 0) d_Mo_made_75 (by decide) ?_
              subst hf
              exact r_ireturn d_Mo_made_76 rfl rfl
            · replace hf := im qu6 hf
              refine r_iconst (v := 1) d_Mo_made_71 (by decide) ?_
              refine r_goto 76 d_Mo_made_72 (by decide) ?_
              subst hf
              exact r_ireturn d_Mo_made_76 rfl rfl
          · replace hf := ip qu5 hf
            refine r_ldc d_Mo_made_57 k_Mo_94 ?_
            subst hf
            exact r_ireturn d_Mo_made_59 rfl rfl
def f_Mo_priceOf (Nu : Nat) (p0 : Int32) (p1 : Int32) (Mu : Mm) : Option (Int32) := (f_Mo_bits Nu (p1 &&& (p0 ^^^ (-1)))).bind fun vu1 => (f_Mo_bits Nu (p0 &&& (p1 ^^^ (-1)))).bind fun vu2 => some (((Mu.1 49 4) * vu1) + ((Mu.1 49 5) * vu2))
theorem cm_Mo_priceOf {G : GT} {Nu : Nat} {p0 : Int32} {p1 : Int32} {Mu : Mm}  {ru : Int32}  (hf : f_Mo_priceOf Nu p0 p1 Mu = some ru) : CM G 2 y_Mo_priceOf c_Mo_priceOf 3 (some .int) (some (.int ru), Mu) Mu [.ref 49, .int p0, .int p1] := by
  unfold f_Mo_priceOf at hf
  refine CM.of (own := R_Mo) (lv := [some (.ref 49), some (.int p0), some (.int p1)]) (by decide) rfl (Nat.le_of_ble_eq_true rfl) rfl ?_
  refine r_aload_n 0 d_Mo_priceOf_0 rfl rfl ?_
  refine r_getI d_Mo_priceOf_1 fl_Mo_7 sh_49 (by decide) ?_
  refine r_iload_n 2 d_Mo_priceOf_4 rfl rfl ?_
  refine r_iload_n 1 d_Mo_priceOf_5 rfl rfl ?_
  refine r_iconst (v := (-1)) d_Mo_priceOf_6 (by decide) ?_
  refine r_ixor d_Mo_priceOf_7 ?_
  refine r_iand d_Mo_priceOf_8 ?_
  obtain ⟨vu1, evu1, hf⟩ := bnd hf
  refine r_callS [.int (p1 &&& (p0 ^^^ (-1)))] d_Mo_priceOf_9 lk_Mo_197 (cm_Mo_bits evu1) (by decide) rfl rfl (Nat.le_of_ble_eq_true rfl) ?_
  refine r_imul d_Mo_priceOf_12 ?_
  refine r_aload_n 0 d_Mo_priceOf_13 rfl rfl ?_
  refine r_getI d_Mo_priceOf_14 fl_Mo_13 sh_49 (by decide) ?_
  refine r_iload_n 1 d_Mo_priceOf_17 rfl rfl ?_
  refine r_iload_n 2 d_Mo_priceOf_18 rfl rfl ?_
  refine r_iconst (v := (-1)) d_Mo_priceOf_19 (by decide) ?_
  refine r_ixor d_Mo_priceOf_20 ?_
  refine r_iand d_Mo_priceOf_21 ?_
  obtain ⟨vu2, evu2, hf⟩ := bnd hf
  refine r_callS [.int (p0 &&& (p1 ^^^ (-1)))] d_Mo_priceOf_22 lk_Mo_197 (cm_Mo_bits evu2) (by decide) rfl rfl (Nat.le_of_ble_eq_true rfl) ?_
  refine r_imul d_Mo_priceOf_25 ?_
  refine r_iadd d_Mo_priceOf_26 ?_
  obtain rfl := Option.some.inj hf
  exact r_ireturn d_Mo_priceOf_27 rfl rfl
def L_Mo_priceAt_6 (Nu : Nat) (p0 : Int32) (p1 : Int32) (p2 : Int32) (p3 : Int32) (p4 : Int32) (p5 : Int32) (Mu : Mm) : Nat → Int32 → Int32 → Option (Int32)
  | 0, _, _ => none
  | nu + 1, z7_6, z8_6 => if p5 ≤ z8_6 then some z7_6 else (f_Mo_pairOf Nu p0 z8_6 p5).bind fun vu2 => if inb p5 8 = true then if inb z8_6 8 = true then lt (f_Mo_isMade p0 p4 (Mu.1 53 (Int32.toNatClampNeg p5)) (Mu.1 53 (Int32.toNatClampNeg z8_6))) fun xu5 => lt (fun (xu7 : Int32) => lt (fun (xu9 : Int32) => lt (z7_6 + xu9) fun xu10 => lt (z8_6 + 1) fun xu11 => L_Mo_priceAt_6 Nu p0 p1 p2 p3 p4 p5 Mu nu xu10 xu11) fun ju8 => if xu7 = 0 then if xu5 = (f_Mo_has p1 vu2) then ju8 0 else if xu5 = 0 then ju8 (Mu.1 49 5) else ju8 (Mu.1 49 4) else ju8 1000000) fun ju6 => if xu5 = 0 then ju6 (f_Mo_has p3 vu2) else ju6 (f_Mo_has p2 vu2) else none else none
def f_Mo_priceAt (Nu : Nat) (p0 : Int32) (p1 : Int32) (p2 : Int32) (p3 : Int32) (p4 : Int32) (p5 : Int32) (Mu : Mm) : Option (Int32) := L_Mo_priceAt_6 Nu p0 p1 p2 p3 p4 p5 Mu Nu 0 0
theorem l_Mo_priceAt_6 {G : GT} {ru : Int32} (Nu : Nat) (p0 : Int32) (p1 : Int32) (p2 : Int32) (p3 : Int32) (p4 : Int32) (p5 : Int32) (Mu : Mm)    : ∀ (nu : Nat) (z7_6 : Int32) (z8_6 : Int32), L_Mo_priceAt_6 Nu p0 p1 p2 p3 p4 p5 Mu nu z7_6 z8_6 = some ru → SW G 2 c_Mo_priceAt R_Mo 12 (some .int) (some (.int ru), Mu) Mu 6 [some (.ref 49), some (.int p0), some (.int p1), some (.int p2), some (.int p3), some (.int p4), some (.int p5), some (.int z7_6), some (.int z8_6), none, none, none] []
  | 0, _, _, hf => by cases hf
  | nu + 1, z7_6, z8_6, hf => by
    have ih := l_Mo_priceAt_6 (G := G) (ru := ru) Nu p0 p1 p2 p3 p4 p5 Mu   nu
    rw [L_Mo_priceAt_6] at hf
    refine r_iload d_Mo_priceAt_6 rfl ?_
    refine r_iload d_Mo_priceAt_8 rfl ?_
    refine r_icmp_ge 120 d_Mo_priceAt_10 (by decide) (fun qu1 => ?_) (fun qu1 => ?_)
    · replace hf := ip qu1 hf
      refine r_iload d_Mo_priceAt_120 rfl ?_
      obtain rfl := Option.some.inj hf
      exact r_ireturn d_Mo_priceAt_122 rfl rfl
    · replace hf := im qu1 hf
      refine r_iload_n 1 d_Mo_priceAt_13 rfl rfl ?_
      refine r_iload d_Mo_priceAt_14 rfl ?_
      refine r_iload d_Mo_priceAt_16 rfl ?_
      obtain ⟨vu2, evu2, hf⟩ := bnd hf
      refine r_callS [.int p0, .int z8_6, .int p5] d_Mo_priceAt_18 lk_Mo_74 (cm_Mo_pairOf evu2) (by decide) rfl rfl (Nat.le_of_ble_eq_true rfl) ?_
      refine r_istore (lv' := [some (.ref 49), some (.int p0), some (.int p1), some (.int p2), some (.int p3), some (.int p4), some (.int p5), some (.int z7_6), some (.int z8_6), some (.int vu2), none, none]) d_Mo_priceAt_21 (by decide) rfl ?_
      refine r_iload_n 1 d_Mo_priceAt_23 rfl rfl ?_
      refine r_iload d_Mo_priceAt_24 rfl ?_
      refine r_aload_n 0 d_Mo_priceAt_26 rfl rfl ?_
      refine r_getR 53 d_Mo_priceAt_27 fl_Mo_29 sh_49 rfl rf_49_23 ?_
      refine r_iload d_Mo_priceAt_30 rfl ?_
      obtain ⟨qu3, hf⟩ := ck hf
      refine r_iald d_Mo_priceAt_32 sh_53 qu3 ?_
      refine r_aload_n 0 d_Mo_priceAt_33 rfl rfl ?_
      refine r_getR 53 d_Mo_priceAt_34 fl_Mo_29 sh_49 rfl rf_49_23 ?_
      refine r_iload d_Mo_priceAt_37 rfl ?_
      obtain ⟨qu4, hf⟩ := ck hf
      refine r_iald d_Mo_priceAt_39 sh_53 qu4 ?_
      refine r_callS [.int p0, .int p4, .int (Mu.1 53 (Int32.toNatClampNeg p5)), .int (Mu.1 53 (Int32.toNatClampNeg z8_6))] d_Mo_priceAt_40 lk_Mo_219 (cm_Mo_isMade p0 p4 (Mu.1 53 (Int32.toNatClampNeg p5)) (Mu.1 53 (Int32.toNatClampNeg z8_6)) Mu) (by decide) rfl rfl (Nat.le_of_ble_eq_true rfl) ?_
      refine nmI (fun xu5 hxu5 => ?_)
      replace hf := lt_of hxu5 hf
      refine r_istore (lv' := [some (.ref 49), some (.int p0), some (.int p1), some (.int p2), some (.int p3), some (.int p4), some (.int p5), some (.int z7_6), some (.int z8_6), some (.int vu2), some (.int xu5), none]) d_Mo_priceAt_43 (by decide) rfl ?_
      refine r_iload d_Mo_priceAt_45 rfl ?_
      obtain ⟨ju6, hju6, hf⟩ := lt_ex hf
      have Kju6 : ∀ (xu7 : Int32), ju6 xu7 = some ru → SW G 2 c_Mo_priceAt R_Mo 12 (some .int) (some (.int ru), Mu) Mu 66 [some (.ref 49), some (.int p0), some (.int p1), some (.int p2), some (.int p3), some (.int p4), some (.int p5), some (.int z7_6), some (.int z8_6), some (.int vu2), some (.int xu5), none] [.int xu7] := by
        intro xu7 hf
        rw [hju6] at hf
        refine r_istore (lv' := [some (.ref 49), some (.int p0), some (.int p1), some (.int p2), some (.int p3), some (.int p4), some (.int p5), some (.int z7_6), some (.int z8_6), some (.int vu2), some (.int xu5), some (.int xu7)]) d_Mo_priceAt_66 (by decide) rfl ?_
        refine r_iload d_Mo_priceAt_68 rfl ?_
        refine r_iload d_Mo_priceAt_70 rfl ?_
        obtain ⟨ju8, hju8, hf⟩ := lt_ex hf
        have Kju8 : ∀ (xu9 : Int32), ju8 xu9 = some ru → SW G 2 c_Mo_priceAt R_Mo 12 (some .int) (some (.int ru), Mu) Mu 111 [some (.ref 49), some (.int p0), some (.int p1), some (.int p2), some (.int p3), some (.int p4), some (.int p5), none, some (.int z8_6), none, none, none] [.int xu9, .int z7_6] := by
          intro xu9 hf
          rw [hju8] at hf
          refine r_iadd d_Mo_priceAt_111 ?_
          refine nmI (fun xu10 hxu10 => ?_)
          replace hf := lt_of hxu10 hf
          refine r_istore (lv' := [some (.ref 49), some (.int p0), some (.int p1), some (.int p2), some (.int p3), some (.int p4), some (.int p5), some (.int xu10), some (.int z8_6), none, none, none]) d_Mo_priceAt_112 (by decide) rfl ?_
          obtain ⟨xu11, hxu11⟩ : ∃ y : Int32, y = z8_6 + 1 := ⟨_, rfl⟩
          replace hf := lt_of hxu11 hf
          refine r_iinc (lv' := [some (.ref 49), some (.int p0), some (.int p1), some (.int p2), some (.int p3), some (.int p4), some (.int p5), some (.int xu10), some (.int xu11), none, none, none]) d_Mo_priceAt_114 rfl (by rw [hxu11]; rfl) (by decide) rfl ?_
          refine r_goto 6 d_Mo_priceAt_117 (by decide) ?_
          exact ih xu10 xu11  hf
        refine r_if_eq 80 d_Mo_priceAt_72 (by decide) (fun qu12 => ?_) (fun qu12 => ?_)
        · replace hf := ip qu12 hf
          refine r_iload d_Mo_priceAt_80 rfl ?_
          refine r_iload_n 2 d_Mo_priceAt_82 rfl rfl ?_
          refine r_iload d_Mo_priceAt_83 rfl ?_
          refine r_callS [.int p1, .int vu2] d_Mo_priceAt_85 lk_Mo_78 (cm_Mo_has p1 vu2 Mu) (by decide) rfl rfl (Nat.le_of_ble_eq_true rfl) ?_
          refine r_icmp_ne 95 d_Mo_priceAt_88 (by decide) (fun qu13 => ?_) (fun qu13 => ?_)
          · replace hf := im qu13 hf
            refine r_iload d_Mo_priceAt_95 rfl ?_
            refine r_if_eq 107 d_Mo_priceAt_97 (by decide) (fun qu14 => ?_) (fun qu14 => ?_)
            · replace hf := ip qu14 hf
              refine r_aload_n 0 d_Mo_priceAt_107 rfl rfl ?_
              refine r_getI d_Mo_priceAt_108 fl_Mo_13 sh_49 (by decide) ?_
              refine r_weak [7, 9, 10, 11] (lv' := [some (.ref 49), some (.int p0), some (.int p1), some (.int p2), some (.int p3), some (.int p4), some (.int p5), none, some (.int z8_6), none, none, none]) rfl ?_
              exact Kju8 (Mu.1 49 5)  hf
            · replace hf := im qu14 hf
              refine r_aload_n 0 d_Mo_priceAt_100 rfl rfl ?_
              refine r_getI d_Mo_priceAt_101 fl_Mo_7 sh_49 (by decide) ?_
              refine r_goto 111 d_Mo_priceAt_104 (by decide) ?_
              refine r_weak [7, 9, 10, 11] (lv' := [some (.ref 49), some (.int p0), some (.int p1), some (.int p2), some (.int p3), some (.int p4), some (.int p5), none, some (.int z8_6), none, none, none]) rfl ?_
              exact Kju8 (Mu.1 49 4)  hf
          · replace hf := ip qu13 hf
            refine r_iconst (v := 0) d_Mo_priceAt_91 (by decide) ?_
            refine r_goto 111 d_Mo_priceAt_92 (by decide) ?_
            refine r_weak [7, 9, 10, 11] (lv' := [some (.ref 49), some (.int p0), some (.int p1), some (.int p2), some (.int p3), some (.int p4), some (.int p5), none, some (.int z8_6), none, none, none]) rfl ?_
            exact Kju8 0  hf
        · replace hf := im qu12 hf
          refine r_ldc d_Mo_priceAt_75 k_Mo_223 ?_
          refine r_goto 111 d_Mo_priceAt_77 (by decide) ?_
          refine r_weak [7, 9, 10, 11] (lv' := [some (.ref 49), some (.int p0), some (.int p1), some (.int p2), some (.int p3), some (.int p4), some (.int p5), none, some (.int z8_6), none, none, none]) rfl ?_
          exact Kju8 1000000  hf
      refine r_if_eq 59 d_Mo_priceAt_47 (by decide) (fun qu15 => ?_) (fun qu15 => ?_)
      · replace hf := ip qu15 hf
        refine r_iload d_Mo_priceAt_59 rfl ?_
        refine r_iload d_Mo_priceAt_61 rfl ?_
        refine r_callS [.int p3, .int vu2] d_Mo_priceAt_63 lk_Mo_78 (cm_Mo_has p3 vu2 Mu) (by decide) rfl rfl (Nat.le_of_ble_eq_true rfl) ?_
        exact Kju6 (f_Mo_has p3 vu2)  hf
      · replace hf := im qu15 hf
        refine r_iload_n 3 d_Mo_priceAt_50 rfl rfl ?_
        refine r_iload d_Mo_priceAt_51 rfl ?_
        refine r_callS [.int p2, .int vu2] d_Mo_priceAt_53 lk_Mo_78 (cm_Mo_has p2 vu2 Mu) (by decide) rfl rfl (Nat.le_of_ble_eq_true rfl) ?_
        refine r_goto 66 d_Mo_priceAt_56 (by decide) ?_
        exact Kju6 (f_Mo_has p2 vu2)  hf
theorem cm_Mo_priceAt {G : GT} {Nu : Nat} {p0 : Int32} {p1 : Int32} {p2 : Int32} {p3 : Int32} {p4 : Int32} {p5 : Int32} {Mu : Mm}  {ru : Int32}  (hf : f_Mo_priceAt Nu p0 p1 p2 p3 p4 p5 Mu = some ru) : CM G 2 y_Mo_priceAt c_Mo_priceAt 12 (some .int) (some (.int ru), Mu) Mu [.ref 49, .int p0, .int p1, .int p2, .int p3, .int p4, .int p5] := by
  unfold f_Mo_priceAt at hf
  refine CM.of (own := R_Mo) (lv := [some (.ref 49), some (.int p0), some (.int p1), some (.int p2), some (.int p3), some (.int p4), some (.int p5), none, none, none, none, none]) (by decide) rfl (Nat.le_of_ble_eq_true rfl) rfl ?_
  refine r_iconst (v := 0) d_Mo_priceAt_0 (by decide) ?_
  refine r_istore (lv' := [some (.ref 49), some (.int p0), some (.int p1), some (.int p2), some (.int p3), some (.int p4), some (.int p5), some (.int 0), none, none, none, none]) d_Mo_priceAt_1 (by decide) rfl ?_
  refine r_iconst (v := 0) d_Mo_priceAt_3 (by decide) ?_
  refine r_istore (lv' := [some (.ref 49), some (.int p0), some (.int p1), some (.int p2), some (.int p3), some (.int p4), some (.int p5), some (.int 0), some (.int 0), none, none, none]) d_Mo_priceAt_4 (by decide) rfl ?_
  exact l_Mo_priceAt_6 (G := G) (ru := ru) Nu p0 p1 p2 p3 p4 p5 Mu   Nu 0 0 hf
def L_Mo_isTaken_4 (Nu : Nat) (p0 : Int32) (Mu : Mm) : Nat → Int32 → Int32 → Option (Int32)
  | 0, _, _ => none
  | nu + 1, z2_4, z3_4 => if p0 ≤ z3_4 then if (z2_4 = 0 ∨ z2_4 = 1) then some z2_4 else none else lt (fun (xu4 : Int32) => lt (z3_4 + 1) fun xu5 => L_Mo_isTaken_4 Nu p0 Mu nu xu4 xu5) fun ju3 => lt (fun (_ : Unit) => ju3 1) fun ju6 => if z2_4 = 0 then if inb z3_4 8 = true then if inb p0 8 = true then if (Mu.1 53 (Int32.toNatClampNeg z3_4)) = (Mu.1 53 (Int32.toNatClampNeg p0)) then ju6 () else ju3 0 else none else none else ju6 ()
def f_Mo_isTaken (Nu : Nat) (p0 : Int32) (Mu : Mm) : Option (Int32) := L_Mo_isTaken_4 Nu p0 Mu Nu 0 0
theorem l_Mo_isTaken_4 {G : GT} {ru : Int32} (Nu : Nat) (p0 : Int32) (Mu : Mm)    : ∀ (nu : Nat) (z2_4 : Int32) (z3_4 : Int32), L_Mo_isTaken_4 Nu p0 Mu nu z2_4 z3_4 = some ru → SW G 1 c_Mo_isTaken R_Mo 4 (some .boolean) (some (.int ru), Mu) Mu 4 [some (.ref 49), some (.int p0), some (.int z2_4), some (.int z3_4)] []
  | 0, _, _, hf => by cases hf
  | nu + 1, z2_4, z3_4, hf => by
    have ih := l_Mo_isTaken_4 (G := G) (ru := ru) Nu p0 Mu   nu
    rw [L_Mo_isTaken_4] at hf
    refine r_iload_n 3 d_Mo_isTaken_4 rfl rfl ?_
    refine r_iload_n 1 d_Mo_isTaken_5 rfl rfl ?_
    refine r_icmp_ge 40 d_Mo_isTaken_6 (by decide) (fun qu1 => ?_) (fun qu1 => ?_)
    · replace hf := ip qu1 hf
      refine r_iload_n 2 d_Mo_isTaken_40 rfl rfl ?_
      obtain ⟨qu2, hf⟩ := ckp hf
      obtain rfl := Option.some.inj hf
      exact r_zreturn d_Mo_isTaken_41 rfl qu2 rfl
    · replace hf := im qu1 hf
      refine r_iload_n 2 d_Mo_isTaken_9 rfl rfl ?_
      obtain ⟨ju3, hju3, hf⟩ := lt_ex hf
      have Kju3 : ∀ (xu4 : Int32), ju3 xu4 = some ru → SW G 1 c_Mo_isTaken R_Mo 4 (some .boolean) (some (.int ru), Mu) Mu 33 [some (.ref 49), some (.int p0), none, some (.int z3_4)] [.int xu4] := by
        intro xu4 hf
        rw [hju3] at hf
        refine r_istore_n (lv' := [some (.ref 49), some (.int p0), some (.int xu4), some (.int z3_4)]) 2 d_Mo_isTaken_33 rfl (by decide) rfl ?_
        obtain ⟨xu5, hxu5⟩ : ∃ y : Int32, y = z3_4 + 1 := ⟨_, rfl⟩
        replace hf := lt_of hxu5 hf
        refine r_iinc (lv' := [some (.ref 49), some (.int p0), some (.int xu4), some (.int xu5)]) d_Mo_isTaken_34 rfl (by rw [hxu5]; rfl) (by decide) rfl ?_
        refine r_goto 4 d_Mo_isTaken_37 (by decide) ?_
        exact ih xu4 xu5  hf
      obtain ⟨ju6, hju6, hf⟩ := lt_ex hf
      have Kju6 : ∀ (_ : Unit), ju6 () = some ru → SW G 1 c_Mo_isTaken R_Mo 4 (some .boolean) (some (.int ru), Mu) Mu 28 [some (.ref 49), some (.int p0), none, some (.int z3_4)] [] := by
        intro _ hf
        rw [hju6] at hf
        refine r_iconst (v := 1) d_Mo_isTaken_28 (by decide) ?_
        refine r_goto 33 d_Mo_isTaken_29 (by decide) ?_
        exact Kju3 1  hf
      refine r_if_ne 28 d_Mo_isTaken_10 (by decide) (fun qu7 => ?_) (fun qu7 => ?_)
      · replace hf := im qu7 hf
        refine r_weak [2] (lv' := [some (.ref 49), some (.int p0), none, some (.int z3_4)]) rfl ?_
        exact Kju6 ()  hf
      · replace hf := ip qu7 hf
        refine r_aload_n 0 d_Mo_isTaken_13 rfl rfl ?_
        refine r_getR 53 d_Mo_isTaken_14 fl_Mo_29 sh_49 rfl rf_49_23 ?_
        refine r_iload_n 3 d_Mo_isTaken_17 rfl rfl ?_
        obtain ⟨qu8, hf⟩ := ck hf
        refine r_iald d_Mo_isTaken_18 sh_53 qu8 ?_
        refine r_aload_n 0 d_Mo_isTaken_19 rfl rfl ?_
        refine r_getR 53 d_Mo_isTaken_20 fl_Mo_29 sh_49 rfl rf_49_23 ?_
        refine r_iload_n 1 d_Mo_isTaken_23 rfl rfl ?_
        obtain ⟨qu9, hf⟩ := ck hf
        refine r_iald d_Mo_isTaken_24 sh_53 qu9 ?_
        refine r_icmp_ne 32 d_Mo_isTaken_25 (by decide) (fun qu10 => ?_) (fun qu10 => ?_)
        · replace hf := im qu10 hf
          refine r_iconst (v := 0) d_Mo_isTaken_32 (by decide) ?_
          refine r_weak [2] (lv' := [some (.ref 49), some (.int p0), none, some (.int z3_4)]) rfl ?_
          exact Kju3 0  hf
        · replace hf := ip qu10 hf
          refine r_weak [2] (lv' := [some (.ref 49), some (.int p0), none, some (.int z3_4)]) rfl ?_
          exact Kju6 ()  hf
theorem cm_Mo_isTaken {G : GT} {Nu : Nat} {p0 : Int32} {Mu : Mm}  {ru : Int32}  (hf : f_Mo_isTaken Nu p0 Mu = some ru) : CM G 1 y_Mo_isTaken c_Mo_isTaken 4 (some .boolean) (some (.int ru), Mu) Mu [.ref 49, .int p0] := by
  unfold f_Mo_isTaken at hf
  refine CM.of (own := R_Mo) (lv := [some (.ref 49), some (.int p0), none, none]) (by decide) rfl (Nat.le_of_ble_eq_true rfl) rfl ?_
  refine r_iconst (v := 0) d_Mo_isTaken_0 (by decide) ?_
  refine r_istore_n (lv' := [some (.ref 49), some (.int p0), some (.int 0), none]) 2 d_Mo_isTaken_1 rfl (by decide) rfl ?_
  refine r_iconst (v := 0) d_Mo_isTaken_2 (by decide) ?_
  refine r_istore_n (lv' := [some (.ref 49), some (.int p0), some (.int 0), some (.int 0)]) 3 d_Mo_isTaken_3 rfl (by decide) rfl ?_
  exact l_Mo_isTaken_4 (G := G) (ru := ru) Nu p0 Mu   Nu 0 0 hf
def L_Mo_findPlaces_114 (Nu : Nat) (p0 : Int32) (ju28 : Mm → Option (Mm)) : Nat → Int32 → Mm → Option (Mm)
  | 0, _, _ => none
  | nu + 1, z8_114, M_114 => if p0 ≤ z8_114 then ju28 M_114 else if inb z8_114 8 = true then if inb z8_114 8 = true then lt (si M_114 55 (Int32.toNatClampNeg z8_114) (M_114.1 53 (Int32.toNatClampNeg z8_114))) fun Mu33 => lt (z8_114 + 1) fun xu34 => L_Mo_findPlaces_114 Nu p0 ju28 nu xu34 Mu33 else none else none
def L_Mo_findPlaces_17 (Nu : Nat) (p0 : Int32) (p1 : Int32) (p2 : Int32) (p3 : Int32) (p4 : Int32) : Nat → Int32 → Mm → Option (Mm)
  | 0, _, _ => none
  | nu + 1, z6_17, M_17 => if z6_17 < 0 then some M_17 else if inb z6_17 8 = true then if inb z6_17 8 = true then lt (si M_17 53 (Int32.toNatClampNeg z6_17) ((M_17.1 53 (Int32.toNatClampNeg z6_17)) + 1)) fun Mu6 => if inb z6_17 8 = true then if (Mu6.1 53 (Int32.toNatClampNeg z6_17)) < p0 then (f_Mo_isTaken Nu z6_17 Mu6).bind fun vu9 => if vu9 = 0 then if inb z6_17 9 = true then (f_Mo_priceAt Nu p0 p1 p2 p3 p4 z6_17 Mu6).bind fun vu12 => lt ((Mu6.1 54 (Int32.toNatClampNeg z6_17)) + vu12) fun xu13 => lt (fun (xu15 : Int32) (Mu16 : Mm) => L_Mo_findPlaces_17 Nu p0 p1 p2 p3 p4 nu xu15 Mu16) fun ju14 => lt (fun (_ : Unit) => if (Mu6.1 49 27) ≤ xu13 then ju14 z6_17 Mu6 else lt (z6_17 + 1) fun xu19 => if inb xu19 9 = true then lt (si Mu6 54 (Int32.toNatClampNeg xu19) xu13) fun Mu21 => if inb xu19 8 = true then lt (si Mu21 53 (Int32.toNatClampNeg xu19) (-1)) fun Mu23 => ju14 xu19 Mu23 else none else none) fun ju17 => if (Mu6.1 49 27) ≤ xu13 then ju17 () else if z6_17 = (p0 - 1) then lt (si Mu6 49 27 xu13) fun Mu26 => lt (si Mu26 49 26 p4) fun Mu27 => lt (fun (Mu29 : Mm) => ju14 z6_17 Mu29) fun ju28 => L_Mo_findPlaces_114 Nu p0 ju28 Nu 0 Mu27 else ju17 () else none else L_Mo_findPlaces_17 Nu p0 p1 p2 p3 p4 nu z6_17 Mu6 else lt (z6_17 + (-1)) fun xu35 => L_Mo_findPlaces_17 Nu p0 p1 p2 p3 p4 nu xu35 Mu6 else none else none else none
def f_Mo_findPlaces (Nu : Nat) (p0 : Int32) (p1 : Int32) (p2 : Int32) (p3 : Int32) (p4 : Int32) (Mu : Mm) : Option (Mm) := lt (si Mu 54 (Int32.toNatClampNeg 0) 0) fun Mu1 => lt (si Mu1 53 (Int32.toNatClampNeg 0) (-1)) fun Mu2 => L_Mo_findPlaces_17 Nu p0 p1 p2 p3 p4 Nu 0 Mu2
theorem l_Mo_findPlaces_114 {G : GT} {ru : Mm} (Nu : Nat) (p0 : Int32) (ju28 : Mm → Option (Mm)) (p1 : Int32) (p2 : Int32) (p3 : Int32) (p4 : Int32) (z6_17 : Int32)  (Kju28 : ∀ (Mw : Mm), ju28 Mw = some ru → SW G 3 c_Mo_findPlaces R_Mo 9 none (none, ru) Mw 140 [some (.ref 49), some (.int p0), some (.int p1), some (.int p2), some (.int p3), some (.int p4), some (.int z6_17), none, none] [])  : ∀ (nu : Nat) (z8_114 : Int32) (M_114 : Mm), L_Mo_findPlaces_114 Nu p0 ju28 nu z8_114 M_114 = some ru → SW G 3 c_Mo_findPlaces R_Mo 9 none (none, ru) M_114 114 [some (.ref 49), some (.int p0), some (.int p1), some (.int p2), some (.int p3), some (.int p4), some (.int z6_17), none, some (.int z8_114)] []
  | 0, _, _, hf => by cases hf
  | nu + 1, z8_114, M_114, hf => by
    have ih := l_Mo_findPlaces_114 (G := G) (ru := ru) Nu p0 ju28 p1 p2 p3 p4 z6_17  Kju28 nu
    rw [L_Mo_findPlaces_114] at hf
    refine r_iload d_Mo_findPlaces_114 rfl ?_
    refine r_iload_n 1 d_Mo_findPlaces_116 rfl rfl ?_
    refine r_icmp_ge 140 d_Mo_findPlaces_117 (by decide) (fun qu30 => ?_) (fun qu30 => ?_)
    · replace hf := ip qu30 hf
      refine r_weak [8] (lv' := [some (.ref 49), some (.int p0), some (.int p1), some (.int p2), some (.int p3), some (.int p4), some (.int z6_17), none, none]) rfl ?_
      exact Kju28 M_114  hf
    · replace hf := im qu30 hf
      refine r_aload_n 0 d_Mo_findPlaces_120 rfl rfl ?_
      refine r_getR 55 d_Mo_findPlaces_121 fl_Mo_35 sh_49 rfl rf_49_25 ?_
      refine r_iload d_Mo_findPlaces_124 rfl ?_
      refine r_aload_n 0 d_Mo_findPlaces_126 rfl rfl ?_
      refine r_getR 53 d_Mo_findPlaces_127 fl_Mo_29 sh_49 rfl rf_49_23 ?_
      refine r_iload d_Mo_findPlaces_130 rfl ?_
      obtain ⟨qu31, hf⟩ := ck hf
      refine r_iald d_Mo_findPlaces_132 sh_53 qu31 ?_
      obtain ⟨qu32, hf⟩ := ck hf
      refine r_iast d_Mo_findPlaces_133 sh_55 qu32 ?_
      refine nmM (fun Mu33 hMu33 => ?_)
      replace hf := lt_of hMu33 hf
      obtain ⟨xu34, hxu34⟩ : ∃ y : Int32, y = z8_114 + 1 := ⟨_, rfl⟩
      replace hf := lt_of hxu34 hf
      refine r_iinc (lv' := [some (.ref 49), some (.int p0), some (.int p1), some (.int p2), some (.int p3), some (.int p4), some (.int z6_17), none, some (.int xu34)]) d_Mo_findPlaces_134 rfl (by rw [hxu34]; rfl) (by decide) rfl ?_
      refine r_goto 114 d_Mo_findPlaces_137 (by decide) ?_
      exact ih xu34 Mu33  hf
theorem l_Mo_findPlaces_17 {G : GT} {ru : Mm} (Nu : Nat) (p0 : Int32) (p1 : Int32) (p2 : Int32) (p3 : Int32) (p4 : Int32)    : ∀ (nu : Nat) (z6_17 : Int32) (M_17 : Mm), L_Mo_findPlaces_17 Nu p0 p1 p2 p3 p4 nu z6_17 M_17 = some ru → SW G 3 c_Mo_findPlaces R_Mo 9 none (none, ru) M_17 17 [some (.ref 49), some (.int p0), some (.int p1), some (.int p2), some (.int p3), some (.int p4), some (.int z6_17), none, none] []
  | 0, _, _, hf => by cases hf
  | nu + 1, z6_17, M_17, hf => by
    have ih := l_Mo_findPlaces_17 (G := G) (ru := ru) Nu p0 p1 p2 p3 p4   nu
    rw [L_Mo_findPlaces_17] at hf
    refine r_iload d_Mo_findPlaces_17 rfl ?_
    refine r_if_lt 175 d_Mo_findPlaces_19 (by decide) (fun qu3 => ?_) (fun qu3 => ?_)
    · replace hf := ip qu3 hf
      obtain rfl := Option.some.inj hf
      exact r_return d_Mo_findPlaces_175 rfl rfl
    · replace hf := im qu3 hf
      refine r_aload_n 0 d_Mo_findPlaces_22 rfl rfl ?_
      refine r_getR 53 d_Mo_findPlaces_23 fl_Mo_29 sh_49 rfl rf_49_23 ?_
      refine r_iload d_Mo_findPlaces_26 rfl ?_
      refine r_dup2 d_Mo_findPlaces_28 rfl rfl ?_
      obtain ⟨qu4, hf⟩ := ck hf
      refine r_iald d_Mo_findPlaces_29 sh_53 qu4 ?_
      refine r_iconst (v := 1) d_Mo_findPlaces_30 (by decide) ?_
      refine r_iadd d_Mo_findPlaces_31 ?_
      obtain ⟨qu5, hf⟩ := ck hf
      refine r_iast d_Mo_findPlaces_32 sh_53 qu5 ?_
      refine nmM (fun Mu6 hMu6 => ?_)
      replace hf := lt_of hMu6 hf
      refine r_aload_n 0 d_Mo_findPlaces_33 rfl rfl ?_
      refine r_getR 53 d_Mo_findPlaces_34 fl_Mo_29 sh_49 rfl rf_49_23 ?_
      refine r_iload d_Mo_findPlaces_37 rfl ?_
      obtain ⟨qu7, hf⟩ := ck hf
      refine r_iald d_Mo_findPlaces_39 sh_53 qu7 ?_
      refine r_iload_n 1 d_Mo_findPlaces_40 rfl rfl ?_
      refine r_icmp_lt 50 d_Mo_findPlaces_41 (by decide) (fun qu8 => ?_) (fun qu8 => ?_)
      · replace hf := ip qu8 hf
        refine r_aload_n 0 d_Mo_findPlaces_50 rfl rfl ?_
        refine r_iload d_Mo_findPlaces_51 rfl ?_
        obtain ⟨vu9, evu9, hf⟩ := bnd hf
        refine r_callV [.int z6_17] d_Mo_findPlaces_53 lk_Mo_224 sh_49 (cm_Mo_isTaken evu9) (by decide) rfl rfl (Nat.le_of_ble_eq_true rfl) ?_
        refine r_if_ne 17 d_Mo_findPlaces_56 (by decide) (fun qu10 => ?_) (fun qu10 => ?_)
        · replace hf := im qu10 hf
          exact ih z6_17 Mu6  hf
        · replace hf := ip qu10 hf
          refine r_aload_n 0 d_Mo_findPlaces_59 rfl rfl ?_
          refine r_getR 54 d_Mo_findPlaces_60 fl_Mo_32 sh_49 rfl rf_49_24 ?_
          refine r_iload d_Mo_findPlaces_63 rfl ?_
          obtain ⟨qu11, hf⟩ := ck hf
          refine r_iald d_Mo_findPlaces_65 sh_54 qu11 ?_
          refine r_aload_n 0 d_Mo_findPlaces_66 rfl rfl ?_
          refine r_iload_n 1 d_Mo_findPlaces_67 rfl rfl ?_
          refine r_iload_n 2 d_Mo_findPlaces_68 rfl rfl ?_
          refine r_iload_n 3 d_Mo_findPlaces_69 rfl rfl ?_
          refine r_iload d_Mo_findPlaces_70 rfl ?_
          refine r_iload d_Mo_findPlaces_72 rfl ?_
          refine r_iload d_Mo_findPlaces_74 rfl ?_
          obtain ⟨vu12, evu12, hf⟩ := bnd hf
          refine r_callV [.int p0, .int p1, .int p2, .int p3, .int p4, .int z6_17] d_Mo_findPlaces_76 lk_Mo_227 sh_49 (cm_Mo_priceAt evu12) (by decide) rfl rfl (Nat.le_of_ble_eq_true rfl) ?_
          refine r_iadd d_Mo_findPlaces_79 ?_
          refine nmI (fun xu13 hxu13 => ?_)
          replace hf := lt_of hxu13 hf
          refine r_istore (lv' := [some (.ref 49), some (.int p0), some (.int p1), some (.int p2), some (.int p3), some (.int p4), some (.int z6_17), some (.int xu13), none]) d_Mo_findPlaces_80 (by decide) rfl ?_
          refine r_iload d_Mo_findPlaces_82 rfl ?_
          refine r_aload_n 0 d_Mo_findPlaces_84 rfl rfl ?_
          refine r_getI d_Mo_findPlaces_85 fl_Mo_231 sh_49 (by decide) ?_
          obtain ⟨ju14, hju14, hf⟩ := lt_ex hf
          have Kju14 : ∀ (xu15 : Int32) (Mu16 : Mm), ju14 xu15 Mu16 = some ru → SW G 3 c_Mo_findPlaces R_Mo 9 none (none, ru) Mu16 172 [some (.ref 49), some (.int p0), some (.int p1), some (.int p2), some (.int p3), some (.int p4), some (.int xu15), none, none] [] := by
            intro xu15 Mu16 hf
            rw [hju14] at hf
            refine r_goto 17 d_Mo_findPlaces_172 (by decide) ?_
            exact ih xu15 Mu16  hf
          obtain ⟨ju17, hju17, hf⟩ := lt_ex hf
          have Kju17 : ∀ (_ : Unit), ju17 () = some ru → SW G 3 c_Mo_findPlaces R_Mo 9 none (none, ru) Mu6 143 [some (.ref 49), some (.int p0), some (.int p1), some (.int p2), some (.int p3), some (.int p4), some (.int z6_17), some (.int xu13), none] [] := by
            intro _ hf
            rw [hju17] at hf
            refine r_iload d_Mo_findPlaces_143 rfl ?_
            refine r_aload_n 0 d_Mo_findPlaces_145 rfl rfl ?_
            refine r_getI d_Mo_findPlaces_146 fl_Mo_231 sh_49 (by decide) ?_
            refine r_icmp_ge 172 d_Mo_findPlaces_149 (by decide) (fun qu18 => ?_) (fun qu18 => ?_)
            · replace hf := ip qu18 hf
              refine r_weak [7] (lv' := [some (.ref 49), some (.int p0), some (.int p1), some (.int p2), some (.int p3), some (.int p4), some (.int z6_17), none, none]) rfl ?_
              exact Kju14 z6_17 Mu6  hf
            · replace hf := im qu18 hf
              obtain ⟨xu19, hxu19⟩ : ∃ y : Int32, y = z6_17 + 1 := ⟨_, rfl⟩
              replace hf := lt_of hxu19 hf
              refine r_iinc (lv' := [some (.ref 49), some (.int p0), some (.int p1), some (.int p2), some (.int p3), some (.int p4), some (.int xu19), some (.int xu13), none]) d_Mo_findPlaces_152 rfl (by rw [hxu19]; rfl) (by decide) rfl ?_
              refine r_aload_n 0 d_Mo_findPlaces_155 rfl rfl ?_
              refine r_getR 54 d_Mo_findPlaces_156 fl_Mo_32 sh_49 rfl rf_49_24 ?_
              refine r_iload d_Mo_findPlaces_159 rfl ?_
              refine r_iload d_Mo_findPlaces_161 rfl ?_
              obtain ⟨qu20, hf⟩ := ck hf
              refine r_iast d_Mo_findPlaces_163 sh_54 qu20 ?_
              refine nmM (fun Mu21 hMu21 => ?_)
              replace hf := lt_of hMu21 hf
              refine r_aload_n 0 d_Mo_findPlaces_164 rfl rfl ?_
              refine r_getR 53 d_Mo_findPlaces_165 fl_Mo_29 sh_49 rfl rf_49_23 ?_
              refine r_iload d_Mo_findPlaces_168 rfl ?_
              refine r_iconst (v := (-1)) d_Mo_findPlaces_170 (by decide) ?_
              obtain ⟨qu22, hf⟩ := ck hf
              refine r_iast d_Mo_findPlaces_171 sh_53 qu22 ?_
              refine nmM (fun Mu23 hMu23 => ?_)
              replace hf := lt_of hMu23 hf
              refine r_weak [7] (lv' := [some (.ref 49), some (.int p0), some (.int p1), some (.int p2), some (.int p3), some (.int p4), some (.int xu19), none, none]) rfl ?_
              exact Kju14 xu19 Mu23  hf
          refine r_icmp_ge 143 d_Mo_findPlaces_88 (by decide) (fun qu24 => ?_) (fun qu24 => ?_)
          · replace hf := ip qu24 hf
            exact Kju17 ()  hf
          · replace hf := im qu24 hf
            refine r_iload d_Mo_findPlaces_91 rfl ?_
            refine r_iload_n 1 d_Mo_findPlaces_93 rfl rfl ?_
            refine r_iconst (v := 1) d_Mo_findPlaces_94 (by decide) ?_
            refine r_isub d_Mo_findPlaces_95 ?_
            refine r_icmp_ne 143 d_Mo_findPlaces_96 (by decide) (fun qu25 => ?_) (fun qu25 => ?_)
            · replace hf := im qu25 hf
              exact Kju17 ()  hf
            · replace hf := ip qu25 hf
              refine r_aload_n 0 d_Mo_findPlaces_99 rfl rfl ?_
              refine r_iload d_Mo_findPlaces_100 rfl ?_
              refine r_putI d_Mo_findPlaces_102 fl_Mo_231 sh_49 (Or.inl rfl) rfl ?_
              refine nmM (fun Mu26 hMu26 => ?_)
              replace hf := lt_of hMu26 hf
              refine r_aload_n 0 d_Mo_findPlaces_105 rfl rfl ?_
              refine r_iload d_Mo_findPlaces_106 rfl ?_
              refine r_putI d_Mo_findPlaces_108 fl_Mo_234 sh_49 (Or.inl rfl) rfl ?_
              refine nmM (fun Mu27 hMu27 => ?_)
              replace hf := lt_of hMu27 hf
              refine r_iconst (v := 0) d_Mo_findPlaces_111 (by decide) ?_
              refine r_istore (lv' := [some (.ref 49), some (.int p0), some (.int p1), some (.int p2), some (.int p3), some (.int p4), some (.int z6_17), some (.int xu13), some (.int 0)]) d_Mo_findPlaces_112 (by decide) rfl ?_
              obtain ⟨ju28, hju28, hf⟩ := lt_ex hf
              have Kju28 : ∀ (Mu29 : Mm), ju28 Mu29 = some ru → SW G 3 c_Mo_findPlaces R_Mo 9 none (none, ru) Mu29 140 [some (.ref 49), some (.int p0), some (.int p1), some (.int p2), some (.int p3), some (.int p4), some (.int z6_17), none, none] [] := by
                intro Mu29 hf
                rw [hju28] at hf
                refine r_goto 172 d_Mo_findPlaces_140 (by decide) ?_
                exact Kju14 z6_17 Mu29  hf
              refine r_weak [7] (lv' := [some (.ref 49), some (.int p0), some (.int p1), some (.int p2), some (.int p3), some (.int p4), some (.int z6_17), none, some (.int 0)]) rfl ?_
              exact l_Mo_findPlaces_114 (G := G) (ru := ru) Nu p0 ju28 p1 p2 p3 p4 z6_17  Kju28 Nu 0 Mu27 hf
      · replace hf := im qu8 hf
        obtain ⟨xu35, hxu35⟩ : ∃ y : Int32, y = z6_17 + (-1) := ⟨_, rfl⟩
        replace hf := lt_of hxu35 hf
        refine r_iinc (lv' := [some (.ref 49), some (.int p0), some (.int p1), some (.int p2), some (.int p3), some (.int p4), some (.int xu35), none, none]) d_Mo_findPlaces_44 rfl (by rw [hxu35]; rfl) (by decide) rfl ?_
        refine r_goto 17 d_Mo_findPlaces_47 (by decide) ?_
        exact ih xu35 Mu6  hf
theorem cm_Mo_findPlaces {G : GT} {Nu : Nat} {p0 : Int32} {p1 : Int32} {p2 : Int32} {p3 : Int32} {p4 : Int32} {Mu : Mm}  {ru : Mm}  (hf : f_Mo_findPlaces Nu p0 p1 p2 p3 p4 Mu = some ru) : CM G 3 y_Mo_findPlaces c_Mo_findPlaces 9 none (none, ru) Mu [.ref 49, .int p0, .int p1, .int p2, .int p3, .int p4] := by
  unfold f_Mo_findPlaces at hf
  refine CM.of (own := R_Mo) (lv := [some (.ref 49), some (.int p0), some (.int p1), some (.int p2), some (.int p3), some (.int p4), none, none, none]) (by decide) rfl (Nat.le_of_ble_eq_true rfl) rfl ?_
  refine r_iconst (v := 0) d_Mo_findPlaces_0 (by decide) ?_
  refine r_istore (lv' := [some (.ref 49), some (.int p0), some (.int p1), some (.int p2), some (.int p3), some (.int p4), some (.int 0), none, none]) d_Mo_findPlaces_1 (by decide) rfl ?_
  refine r_aload_n 0 d_Mo_findPlaces_3 rfl rfl ?_
  refine r_getR 54 d_Mo_findPlaces_4 fl_Mo_32 sh_49 rfl rf_49_24 ?_
  refine r_iconst (v := 0) d_Mo_findPlaces_7 (by decide) ?_
  refine r_iconst (v := 0) d_Mo_findPlaces_8 (by decide) ?_
  refine r_iast d_Mo_findPlaces_9 sh_54 (inb_iff.mp (by decide)) ?_
  refine nmM (fun Mu1 hMu1 => ?_)
  replace hf := lt_of hMu1 hf
  refine r_aload_n 0 d_Mo_findPlaces_10 rfl rfl ?_
  refine r_getR 53 d_Mo_findPlaces_11 fl_Mo_29 sh_49 rfl rf_49_23 ?_
  refine r_iconst (v := 0) d_Mo_findPlaces_14 (by decide) ?_
  refine r_iconst (v := (-1)) d_Mo_findPlaces_15 (by decide) ?_
  refine r_iast d_Mo_findPlaces_16 sh_53 (inb_iff.mp (by decide)) ?_
  refine nmM (fun Mu2 hMu2 => ?_)
  replace hf := lt_of hMu2 hf
  exact l_Mo_findPlaces_17 (G := G) (ru := ru) Nu p0 p1 p2 p3 p4   Nu 0 Mu2 hf
def f_Mo_makeGood (Nu : Nat) (p0 : Int32) (p1 : Int32) (p2 : Int32) (p3 : Int32) (Mu : Mm) : Option (Int32 × Mm) := lt (si Mu 49 27 1000000) fun Mu1 => (f_Mo_findPlaces Nu p0 p1 p2 p3 0 Mu1).bind fun vu2 => (f_Mo_findPlaces Nu p0 p1 p2 p3 1 vu2).bind fun vu3 => if (vu3.1 49 27) < 1000000 then some (vu3.1 49 27, vu3) else some ((-1), vu3)
theorem cm_Mo_makeGood {G : GT} {Nu : Nat} {p0 : Int32} {p1 : Int32} {p2 : Int32} {p3 : Int32} {Mu : Mm}  {ru : Int32 × Mm}  (hf : f_Mo_makeGood Nu p0 p1 p2 p3 Mu = some ru) : CM G 4 y_Mo_makeGood c_Mo_makeGood 5 (some .int) (some (.int ru.1), ru.2) Mu [.ref 49, .int p0, .int p1, .int p2, .int p3] := by
  unfold f_Mo_makeGood at hf
  refine CM.of (own := R_Mo) (lv := [some (.ref 49), some (.int p0), some (.int p1), some (.int p2), some (.int p3)]) (by decide) rfl (Nat.le_of_ble_eq_true rfl) rfl ?_
  refine r_aload_n 0 d_Mo_makeGood_0 rfl rfl ?_
  refine r_ldc d_Mo_makeGood_1 k_Mo_223 ?_
  refine r_putI d_Mo_makeGood_3 fl_Mo_231 sh_49 (Or.inl rfl) rfl ?_
  refine nmM (fun Mu1 hMu1 => ?_)
  replace hf := lt_of hMu1 hf
  refine r_aload_n 0 d_Mo_makeGood_6 rfl rfl ?_
  refine r_iload_n 1 d_Mo_makeGood_7 rfl rfl ?_
  refine r_iload_n 2 d_Mo_makeGood_8 rfl rfl ?_
  refine r_iload_n 3 d_Mo_makeGood_9 rfl rfl ?_
  refine r_iload d_Mo_makeGood_10 rfl ?_
  refine r_iconst (v := 0) d_Mo_makeGood_12 (by decide) ?_
  obtain ⟨vu2, evu2, hf⟩ := bnd hf
  refine r_callV [.int p0, .int p1, .int p2, .int p3, .int 0] d_Mo_makeGood_13 lk_Mo_237 sh_49 (cm_Mo_findPlaces evu2) (by decide) rfl rfl (Nat.le_of_ble_eq_true rfl) ?_
  refine r_aload_n 0 d_Mo_makeGood_16 rfl rfl ?_
  refine r_iload_n 1 d_Mo_makeGood_17 rfl rfl ?_
  refine r_iload_n 2 d_Mo_makeGood_18 rfl rfl ?_
  refine r_iload_n 3 d_Mo_makeGood_19 rfl rfl ?_
  refine r_iload d_Mo_makeGood_20 rfl ?_
  refine r_iconst (v := 1) d_Mo_makeGood_22 (by decide) ?_
  obtain ⟨vu3, evu3, hf⟩ := bnd hf
  refine r_callV [.int p0, .int p1, .int p2, .int p3, .int 1] d_Mo_makeGood_23 lk_Mo_237 sh_49 (cm_Mo_findPlaces evu3) (by decide) rfl rfl (Nat.le_of_ble_eq_true rfl) ?_
  refine r_aload_n 0 d_Mo_makeGood_26 rfl rfl ?_
  refine r_getI d_Mo_makeGood_27 fl_Mo_231 sh_49 (by decide) ?_
  refine r_ldc d_Mo_makeGood_30 k_Mo_223 ?_
  refine r_icmp_lt 39 d_Mo_makeGood_32 (by decide) (fun qu4 => ?_) (fun qu4 => ?_)
  · replace hf := ip qu4 hf
    refine r_aload_n 0 d_Mo_makeGood_39 rfl rfl ?_
    refine r_getI d_Mo_makeGood_40 fl_Mo_231 sh_49 (by decide) ?_
    obtain rfl := Option.some.inj hf
    exact r_ireturn d_Mo_makeGood_43 rfl rfl
  · replace hf := im qu4 hf
    refine r_iconst (v := (-1)) d_Mo_makeGood_35 (by decide) ?_
    refine r_goto 43 d_Mo_makeGood_36 (by decide) ?_
    obtain rfl := Option.some.inj hf
    exact r_ireturn d_Mo_makeGood_43 rfl rfl
def L_Mo_bestTown_16 (Nu : Nat) (Mu : Mm) (z2_4 : Int32) (ju3 : Int32 → Option (Int32)) : Nat → Int32 → Int32 → Option (Int32)
  | 0, _, _ => none
  | nu + 1, z1_16, z3_16 => if (Mu.1 49 0) ≤ z3_16 then ju3 z1_16 else if inb z2_4 8 = true then if inb z3_16 8 = true then lt (fun (xu10 : Int32) => lt (z1_16 ||| xu10) fun xu11 => lt (z3_16 + 1) fun xu12 => L_Mo_bestTown_16 Nu Mu z2_4 ju3 nu xu11 xu12) fun ju9 => if (f_Mo_isMade (Mu.1 49 0) (Mu.1 49 26) (Mu.1 55 (Int32.toNatClampNeg z2_4)) (Mu.1 55 (Int32.toNatClampNeg z3_16))) = 0 then ju9 0 else (f_Mo_pairOf Nu (Mu.1 49 0) z2_4 z3_16).bind fun vu14 => ju9 ((1 : Int32) <<< (vu14 &&& 31)) else none else none
def L_Mo_bestTown_4 (Nu : Nat) (Mu : Mm) : Nat → Int32 → Int32 → Option (Int32)
  | 0, _, _ => none
  | nu + 1, z1_4, z2_4 => if (Mu.1 49 0) ≤ z2_4 then some z1_4 else lt (z2_4 + 1) fun xu2 => lt (fun (xu4 : Int32) => lt (z2_4 + 1) fun xu5 => L_Mo_bestTown_4 Nu Mu nu xu4 xu5) fun ju3 => L_Mo_bestTown_16 Nu Mu z2_4 ju3 Nu z1_4 xu2
def f_Mo_bestTown (Nu : Nat) (Mu : Mm) : Option (Int32) := L_Mo_bestTown_4 Nu Mu Nu 0 0
theorem l_Mo_bestTown_16 {G : GT} {ru : Int32} (Nu : Nat) (Mu : Mm) (z2_4 : Int32) (ju3 : Int32 → Option (Int32))  (Kju3 : ∀ (w1 : Int32), ju3 w1 = some ru → SW G 2 c_Mo_bestTown R_Mo 4 (some .int) (some (.int ru), Mu) Mu 74 [some (.ref 49), some (.int w1), some (.int z2_4), none] [])  : ∀ (nu : Nat) (z1_16 : Int32) (z3_16 : Int32), L_Mo_bestTown_16 Nu Mu z2_4 ju3 nu z1_16 z3_16 = some ru → SW G 2 c_Mo_bestTown R_Mo 4 (some .int) (some (.int ru), Mu) Mu 16 [some (.ref 49), some (.int z1_16), some (.int z2_4), some (.int z3_16)] []
  | 0, _, _, hf => by cases hf
  | nu + 1, z1_16, z3_16, hf => by
    have ih := l_Mo_bestTown_16 (G := G) (ru := ru) Nu Mu z2_4 ju3  Kju3 nu
    rw [L_Mo_bestTown_16] at hf
    refine r_iload_n 3 d_Mo_bestTown_16 rfl rfl ?_
    refine r_aload_n 0 d_Mo_bestTown_17 rfl rfl ?_
    refine r_getI d_Mo_bestTown_18 fl_Mo_63 sh_49 (by decide) ?_
    refine r_icmp_ge 74 d_Mo_bestTown_21 (by decide) (fun qu6 => ?_) (fun qu6 => ?_)
    · replace hf := ip qu6 hf
      refine r_weak [3] (lv' := [some (.ref 49), some (.int z1_16), some (.int z2_4), none]) rfl ?_
      exact Kju3 z1_16  hf
    · replace hf := im qu6 hf
      refine r_iload_n 1 d_Mo_bestTown_24 rfl rfl ?_
      refine r_aload_n 0 d_Mo_bestTown_25 rfl rfl ?_
      refine r_getI d_Mo_bestTown_26 fl_Mo_63 sh_49 (by decide) ?_
      refine r_aload_n 0 d_Mo_bestTown_29 rfl rfl ?_
      refine r_getI d_Mo_bestTown_30 fl_Mo_234 sh_49 (by decide) ?_
      refine r_aload_n 0 d_Mo_bestTown_33 rfl rfl ?_
      refine r_getR 55 d_Mo_bestTown_34 fl_Mo_35 sh_49 rfl rf_49_25 ?_
      refine r_iload_n 2 d_Mo_bestTown_37 rfl rfl ?_
      obtain ⟨qu7, hf⟩ := ck hf
      refine r_iald d_Mo_bestTown_38 sh_55 qu7 ?_
      refine r_aload_n 0 d_Mo_bestTown_39 rfl rfl ?_
      refine r_getR 55 d_Mo_bestTown_40 fl_Mo_35 sh_49 rfl rf_49_25 ?_
      refine r_iload_n 3 d_Mo_bestTown_43 rfl rfl ?_
      obtain ⟨qu8, hf⟩ := ck hf
      refine r_iald d_Mo_bestTown_44 sh_55 qu8 ?_
      refine r_callS [.int (Mu.1 49 0), .int (Mu.1 49 26), .int (Mu.1 55 (Int32.toNatClampNeg z2_4)), .int (Mu.1 55 (Int32.toNatClampNeg z3_16))] d_Mo_bestTown_45 lk_Mo_219 (cm_Mo_isMade (Mu.1 49 0) (Mu.1 49 26) (Mu.1 55 (Int32.toNatClampNeg z2_4)) (Mu.1 55 (Int32.toNatClampNeg z3_16)) Mu) (by decide) rfl rfl (Nat.le_of_ble_eq_true rfl) ?_
      obtain ⟨ju9, hju9, hf⟩ := lt_ex hf
      have Kju9 : ∀ (xu10 : Int32), ju9 xu10 = some ru → SW G 2 c_Mo_bestTown R_Mo 4 (some .int) (some (.int ru), Mu) Mu 66 [some (.ref 49), none, some (.int z2_4), some (.int z3_16)] [.int xu10, .int z1_16] := by
        intro xu10 hf
        rw [hju9] at hf
        refine r_ior d_Mo_bestTown_66 ?_
        refine nmI (fun xu11 hxu11 => ?_)
        replace hf := lt_of hxu11 hf
        refine r_istore_n (lv' := [some (.ref 49), some (.int xu11), some (.int z2_4), some (.int z3_16)]) 1 d_Mo_bestTown_67 rfl (by decide) rfl ?_
        obtain ⟨xu12, hxu12⟩ : ∃ y : Int32, y = z3_16 + 1 := ⟨_, rfl⟩
        replace hf := lt_of hxu12 hf
        refine r_iinc (lv' := [some (.ref 49), some (.int xu11), some (.int z2_4), some (.int xu12)]) d_Mo_bestTown_68 rfl (by rw [hxu12]; rfl) (by decide) rfl ?_
        refine r_goto 16 d_Mo_bestTown_71 (by decide) ?_
        exact ih xu11 xu12  hf
      refine r_if_eq 65 d_Mo_bestTown_48 (by decide) (fun qu13 => ?_) (fun qu13 => ?_)
      · replace hf := ip qu13 hf
        refine r_iconst (v := 0) d_Mo_bestTown_65 (by decide) ?_
        refine r_weak [1] (lv' := [some (.ref 49), none, some (.int z2_4), some (.int z3_16)]) rfl ?_
        exact Kju9 0  hf
      · replace hf := im qu13 hf
        refine r_iconst (v := 1) d_Mo_bestTown_51 (by decide) ?_
        refine r_aload_n 0 d_Mo_bestTown_52 rfl rfl ?_
        refine r_getI d_Mo_bestTown_53 fl_Mo_63 sh_49 (by decide) ?_
        refine r_iload_n 2 d_Mo_bestTown_56 rfl rfl ?_
        refine r_iload_n 3 d_Mo_bestTown_57 rfl rfl ?_
        obtain ⟨vu14, evu14, hf⟩ := bnd hf
        refine r_callS [.int (Mu.1 49 0), .int z2_4, .int z3_16] d_Mo_bestTown_58 lk_Mo_74 (cm_Mo_pairOf evu14) (by decide) rfl rfl (Nat.le_of_ble_eq_true rfl) ?_
        refine r_ishl d_Mo_bestTown_61 ?_
        refine r_goto 66 d_Mo_bestTown_62 (by decide) ?_
        refine r_weak [1] (lv' := [some (.ref 49), none, some (.int z2_4), some (.int z3_16)]) rfl ?_
        exact Kju9 ((1 : Int32) <<< (vu14 &&& 31))  hf
theorem l_Mo_bestTown_4 {G : GT} {ru : Int32} (Nu : Nat) (Mu : Mm)    : ∀ (nu : Nat) (z1_4 : Int32) (z2_4 : Int32), L_Mo_bestTown_4 Nu Mu nu z1_4 z2_4 = some ru → SW G 2 c_Mo_bestTown R_Mo 4 (some .int) (some (.int ru), Mu) Mu 4 [some (.ref 49), some (.int z1_4), some (.int z2_4), none] []
  | 0, _, _, hf => by cases hf
  | nu + 1, z1_4, z2_4, hf => by
    have ih := l_Mo_bestTown_4 (G := G) (ru := ru) Nu Mu   nu
    rw [L_Mo_bestTown_4] at hf
    refine r_iload_n 2 d_Mo_bestTown_4 rfl rfl ?_
    refine r_aload_n 0 d_Mo_bestTown_5 rfl rfl ?_
    refine r_getI d_Mo_bestTown_6 fl_Mo_63 sh_49 (by decide) ?_
    refine r_icmp_ge 80 d_Mo_bestTown_9 (by decide) (fun qu1 => ?_) (fun qu1 => ?_)
    · replace hf := ip qu1 hf
      refine r_iload_n 1 d_Mo_bestTown_80 rfl rfl ?_
      obtain rfl := Option.some.inj hf
      exact r_ireturn d_Mo_bestTown_81 rfl rfl
    · replace hf := im qu1 hf
      refine r_iload_n 2 d_Mo_bestTown_12 rfl rfl ?_
      refine r_iconst (v := 1) d_Mo_bestTown_13 (by decide) ?_
      refine r_iadd d_Mo_bestTown_14 ?_
      refine nmI (fun xu2 hxu2 => ?_)
      replace hf := lt_of hxu2 hf
      refine r_istore_n (lv' := [some (.ref 49), some (.int z1_4), some (.int z2_4), some (.int xu2)]) 3 d_Mo_bestTown_15 rfl (by decide) rfl ?_
      obtain ⟨ju3, hju3, hf⟩ := lt_ex hf
      have Kju3 : ∀ (xu4 : Int32), ju3 xu4 = some ru → SW G 2 c_Mo_bestTown R_Mo 4 (some .int) (some (.int ru), Mu) Mu 74 [some (.ref 49), some (.int xu4), some (.int z2_4), none] [] := by
        intro xu4 hf
        rw [hju3] at hf
        obtain ⟨xu5, hxu5⟩ : ∃ y : Int32, y = z2_4 + 1 := ⟨_, rfl⟩
        replace hf := lt_of hxu5 hf
        refine r_iinc (lv' := [some (.ref 49), some (.int xu4), some (.int xu5), none]) d_Mo_bestTown_74 rfl (by rw [hxu5]; rfl) (by decide) rfl ?_
        refine r_goto 4 d_Mo_bestTown_77 (by decide) ?_
        exact ih xu4 xu5  hf
      exact l_Mo_bestTown_16 (G := G) (ru := ru) Nu Mu z2_4 ju3  Kju3 Nu z1_4 xu2 hf
theorem cm_Mo_bestTown {G : GT} {Nu : Nat} {Mu : Mm}  {ru : Int32}  (hf : f_Mo_bestTown Nu Mu = some ru) : CM G 2 y_Mo_bestTown c_Mo_bestTown 4 (some .int) (some (.int ru), Mu) Mu [.ref 49] := by
  unfold f_Mo_bestTown at hf
  refine CM.of (own := R_Mo) (lv := [some (.ref 49), none, none, none]) (by decide) rfl (Nat.le_of_ble_eq_true rfl) rfl ?_
  refine r_iconst (v := 0) d_Mo_bestTown_0 (by decide) ?_
  refine r_istore_n (lv' := [some (.ref 49), some (.int 0), none, none]) 1 d_Mo_bestTown_1 rfl (by decide) rfl ?_
  refine r_iconst (v := 0) d_Mo_bestTown_2 (by decide) ?_
  refine r_istore_n (lv' := [some (.ref 49), some (.int 0), some (.int 0), none]) 2 d_Mo_bestTown_3 rfl (by decide) rfl ?_
  exact l_Mo_bestTown_4 (G := G) (ru := ru) Nu Mu   Nu 0 0 hf
def f_Mo_good (Nu : Nat) (p0 : Int32) (Mu : Mm) : Option (Int32 × Mm) := lt (fun (_ : Unit) => if 2 ≤ (Mu.1 49 0) then (f_Mo_makeGood Nu (Mu.1 49 0) (Mu.1 49 1) (Mu.1 49 2) (Mu.1 49 3) Mu).bind fun vu3 => lt vu3.1 fun vu4 => lt vu3.2 fun Mu5 => lt (fun (_ : Unit) => some (vu4, Mu5)) fun ju6 => if vu4 < 0 then ju6 () else if p0 = (-1) then ju6 () else if p0 = (-2) then some (Mu5.1 49 26, Mu5) else if p0 = (-3) then (f_Mo_bestTown Nu Mu5).bind fun vu12 => some (vu12, Mu5) else if inb p0 8 = true then some (Mu5.1 55 (Int32.toNatClampNeg p0), Mu5) else none else some ((-1000000003), Mu)) fun ju1 => if (f_Mo_in p0.toInt64 (-3) (-1)) = 0 then if (f_Mo_isPerson p0 Mu) = 0 then some ((-1000000001), Mu) else ju1 () else ju1 ()
theorem cm_Mo_good {G : GT} {Nu : Nat} {p0 : Int32} {Mu : Mm}  {ru : Int32 × Mm}  (hf : f_Mo_good Nu p0 Mu = some ru) : CM G 5 y_Mo_good c_Mo_good 3 (some .int) (some (.int ru.1), ru.2) Mu [.ref 49, .int p0] := by
  unfold f_Mo_good at hf
  refine CM.of (own := R_Mo) (lv := [some (.ref 49), some (.int p0), none]) (by decide) rfl (Nat.le_of_ble_eq_true rfl) rfl ?_
  refine r_iload_n 1 d_Mo_good_0 rfl rfl ?_
  refine r_i2l d_Mo_good_1 ?_
  refine r_ldc2_w d_Mo_good_2 k_Mo_241 ?_
  refine r_ldc2_w d_Mo_good_5 k_Mo_243 ?_
  refine r_callS [.long p0.toInt64, .long (-3), .long (-1)] d_Mo_good_8 lk_Mo_66 (cm_Mo_in p0.toInt64 (-3) (-1) Mu) (by decide) rfl rfl (Nat.le_of_ble_eq_true rfl) ?_
  obtain ⟨ju1, hju1, hf⟩ := lt_ex hf
  have Kju1 : ∀ (_ : Unit), ju1 () = some ru → SW G 5 c_Mo_good R_Mo 3 (some .int) (some (.int ru.1), ru.2) Mu 25 [some (.ref 49), some (.int p0), none] [] := by
    intro _ hf
    rw [hju1] at hf
    refine r_aload_n 0 d_Mo_good_25 rfl rfl ?_
    refine r_getI d_Mo_good_26 fl_Mo_63 sh_49 (by decide) ?_
    refine r_iconst (v := 2) d_Mo_good_29 (by decide) ?_
    refine r_icmp_ge 36 d_Mo_good_30 (by decide) (fun qu2 => ?_) (fun qu2 => ?_)
    · replace hf := ip qu2 hf
      refine r_aload_n 0 d_Mo_good_36 rfl rfl ?_
      refine r_aload_n 0 d_Mo_good_37 rfl rfl ?_
      refine r_getI d_Mo_good_38 fl_Mo_63 sh_49 (by decide) ?_
      refine r_aload_n 0 d_Mo_good_41 rfl rfl ?_
      refine r_getI d_Mo_good_42 fl_Mo_86 sh_49 (by decide) ?_
      refine r_aload_n 0 d_Mo_good_45 rfl rfl ?_
      refine r_getI d_Mo_good_46 fl_Mo_185 sh_49 (by decide) ?_
      refine r_aload_n 0 d_Mo_good_49 rfl rfl ?_
      refine r_getI d_Mo_good_50 fl_Mo_188 sh_49 (by decide) ?_
      obtain ⟨vu3, evu3, hf⟩ := bnd hf
      obtain ⟨vu4, Mu5⟩ := vu3
      replace hf := lt_of (rfl : vu4 = (vu4, Mu5).1) hf
      replace hf := lt_of (rfl : Mu5 = (vu4, Mu5).2) hf
      refine r_callV [.int (Mu.1 49 0), .int (Mu.1 49 1), .int (Mu.1 49 2), .int (Mu.1 49 3)] d_Mo_good_53 lk_Mo_245 sh_49 (cm_Mo_makeGood evu3) (by decide) rfl rfl (Nat.le_of_ble_eq_true rfl) ?_
      refine r_istore_n (lv' := [some (.ref 49), some (.int p0), some (.int vu4)]) 2 d_Mo_good_56 rfl (by decide) rfl ?_
      refine r_iload_n 2 d_Mo_good_57 rfl rfl ?_
      obtain ⟨ju6, hju6, hf⟩ := lt_ex hf
      have Kju6 : ∀ (_ : Unit), ju6 () = some ru → SW G 5 c_Mo_good R_Mo 3 (some .int) (some (.int ru.1), ru.2) Mu5 66 [none, none, some (.int vu4)] [] := by
        intro _ hf
        rw [hju6] at hf
        refine r_iload_n 2 d_Mo_good_66 rfl rfl ?_
        obtain rfl := Option.some.inj hf
        exact r_ireturn d_Mo_good_67 rfl rfl
      refine r_if_lt 66 d_Mo_good_58 (by decide) (fun qu7 => ?_) (fun qu7 => ?_)
      · replace hf := ip qu7 hf
        refine r_weak [0, 1] (lv' := [none, none, some (.int vu4)]) rfl ?_
        exact Kju6 ()  hf
      · replace hf := im qu7 hf
        refine r_iload_n 1 d_Mo_good_61 rfl rfl ?_
        refine r_iconst (v := (-1)) d_Mo_good_62 (by decide) ?_
        refine r_icmp_ne 68 d_Mo_good_63 (by decide) (fun qu8 => ?_) (fun qu8 => ?_)
        · replace hf := im qu8 hf
          refine r_iload_n 1 d_Mo_good_68 rfl rfl ?_
          refine r_bipush (v := (-2)) d_Mo_good_69 (by decide) ?_
          refine r_icmp_ne 81 d_Mo_good_71 (by decide) (fun qu9 => ?_) (fun qu9 => ?_)
          · replace hf := im qu9 hf
            refine r_iload_n 1 d_Mo_good_81 rfl rfl ?_
            refine r_bipush (v := (-3)) d_Mo_good_82 (by decide) ?_
            refine r_icmp_ne 94 d_Mo_good_84 (by decide) (fun qu10 => ?_) (fun qu10 => ?_)
            · replace hf := im qu10 hf
              refine r_aload_n 0 d_Mo_good_94 rfl rfl ?_
              refine r_getR 55 d_Mo_good_95 fl_Mo_35 sh_49 rfl rf_49_25 ?_
              refine r_iload_n 1 d_Mo_good_98 rfl rfl ?_
              obtain ⟨qu11, hf⟩ := ck hf
              refine r_iald d_Mo_good_99 sh_55 qu11 ?_
              obtain rfl := Option.some.inj hf
              exact r_ireturn d_Mo_good_100 rfl rfl
            · replace hf := ip qu10 hf
              refine r_aload_n 0 d_Mo_good_87 rfl rfl ?_
              obtain ⟨vu12, evu12, hf⟩ := bnd hf
              refine r_callV [] d_Mo_good_88 lk_Mo_249 sh_49 (cm_Mo_bestTown evu12) (by decide) rfl rfl (Nat.le_of_ble_eq_true rfl) ?_
              refine r_goto 100 d_Mo_good_91 (by decide) ?_
              obtain rfl := Option.some.inj hf
              exact r_ireturn d_Mo_good_100 rfl rfl
          · replace hf := ip qu9 hf
            refine r_aload_n 0 d_Mo_good_74 rfl rfl ?_
            refine r_getI d_Mo_good_75 fl_Mo_234 sh_49 (by decide) ?_
            refine r_goto 100 d_Mo_good_78 (by decide) ?_
            obtain rfl := Option.some.inj hf
            exact r_ireturn d_Mo_good_100 rfl rfl
        · replace hf := ip qu8 hf
          refine r_weak [0, 1] (lv' := [none, none, some (.int vu4)]) rfl ?_
          exact Kju6 ()  hf
    · replace hf := im qu2 hf
      refine r_ldc d_Mo_good_33 k_Mo_210 ?_
      obtain rfl := Option.some.inj hf
      exact r_ireturn d_Mo_good_35 rfl rfl
  refine r_if_ne 25 d_Mo_good_11 (by decide) (fun qu13 => ?_) (fun qu13 => ?_)
  · replace hf := im qu13 hf
    exact Kju1 ()  hf
  · replace hf := ip qu13 hf
    refine r_aload_n 0 d_Mo_good_14 rfl rfl ?_
    refine r_iload_n 1 d_Mo_good_15 rfl rfl ?_
    refine r_callV [.int p0] d_Mo_good_16 lk_Mo_70 sh_49 (cm_Mo_isPerson p0 Mu) (by decide) rfl rfl (Nat.le_of_ble_eq_true rfl) ?_
    refine r_if_ne 25 d_Mo_good_19 (by decide) (fun qu14 => ?_) (fun qu14 => ?_)
    · replace hf := im qu14 hf
      exact Kju1 ()  hf
    · replace hf := ip qu14 hf
      refine r_ldc d_Mo_good_22 k_Mo_203 ?_
      obtain rfl := Option.some.inj hf
      exact r_ireturn d_Mo_good_24 rfl rfl
def f_Mo_born (Nu : Nat) (Mu : Mm) : Option (Int32 × Mm) := if (f_Mo_in ((Mu.1 49 0).toInt64) 1 7) = 0 then some ((-1000000003), Mu) else (f_Mo_withMore Nu (Mu.1 49 0) (Mu.1 49 1)).bind fun vu2 => (f_Mo_withMore Nu (Mu.1 49 0) (Mu.1 49 2)).bind fun vu3 => (f_Mo_withMore Nu (Mu.1 49 0) (Mu.1 49 3)).bind fun vu4 => (f_Mo_makeGood Nu ((Mu.1 49 0) + 1) vu2 vu3 vu4 Mu).bind fun vu5 => lt vu5.1 fun vu6 => lt vu5.2 fun Mu7 => some (vu6, Mu7)
theorem cm_Mo_born {G : GT} {Nu : Nat} {Mu : Mm}  {ru : Int32 × Mm}  (hf : f_Mo_born Nu Mu = some ru) : CM G 5 y_Mo_born c_Mo_born 1 (some .int) (some (.int ru.1), ru.2) Mu [.ref 49] := by
  unfold f_Mo_born at hf
  refine CM.of (own := R_Mo) (lv := [some (.ref 49)]) (by decide) rfl (Nat.le_of_ble_eq_true rfl) rfl ?_
  refine r_aload_n 0 d_Mo_born_0 rfl rfl ?_
  refine r_getI d_Mo_born_1 fl_Mo_63 sh_49 (by decide) ?_
  refine r_i2l d_Mo_born_4 ?_
  refine r_lconst (v := 1) d_Mo_born_5 (by decide) ?_
  refine r_ldc2_w d_Mo_born_6 k_Mo_252 ?_
  refine r_callS [.long ((Mu.1 49 0).toInt64), .long 1, .long 7] d_Mo_born_9 lk_Mo_66 (cm_Mo_in ((Mu.1 49 0).toInt64) 1 7 Mu) (by decide) rfl rfl (Nat.le_of_ble_eq_true rfl) ?_
  refine r_if_ne 18 d_Mo_born_12 (by decide) (fun qu1 => ?_) (fun qu1 => ?_)
  · replace hf := im qu1 hf
    refine r_aload_n 0 d_Mo_born_18 rfl rfl ?_
    refine r_aload_n 0 d_Mo_born_19 rfl rfl ?_
    refine r_getI d_Mo_born_20 fl_Mo_63 sh_49 (by decide) ?_
    refine r_iconst (v := 1) d_Mo_born_23 (by decide) ?_
    refine r_iadd d_Mo_born_24 ?_
    refine r_aload_n 0 d_Mo_born_25 rfl rfl ?_
    refine r_getI d_Mo_born_26 fl_Mo_63 sh_49 (by decide) ?_
    refine r_aload_n 0 d_Mo_born_29 rfl rfl ?_
    refine r_getI d_Mo_born_30 fl_Mo_86 sh_49 (by decide) ?_
    obtain ⟨vu2, evu2, hf⟩ := bnd hf
    refine r_callS [.int (Mu.1 49 0), .int (Mu.1 49 1)] d_Mo_born_33 lk_Mo_213 (cm_Mo_withMore evu2) (by decide) rfl rfl (Nat.le_of_ble_eq_true rfl) ?_
    refine r_aload_n 0 d_Mo_born_36 rfl rfl ?_
    refine r_getI d_Mo_born_37 fl_Mo_63 sh_49 (by decide) ?_
    refine r_aload_n 0 d_Mo_born_40 rfl rfl ?_
    refine r_getI d_Mo_born_41 fl_Mo_185 sh_49 (by decide) ?_
    obtain ⟨vu3, evu3, hf⟩ := bnd hf
    refine r_callS [.int (Mu.1 49 0), .int (Mu.1 49 2)] d_Mo_born_44 lk_Mo_213 (cm_Mo_withMore evu3) (by decide) rfl rfl (Nat.le_of_ble_eq_true rfl) ?_
    refine r_aload_n 0 d_Mo_born_47 rfl rfl ?_
    refine r_getI d_Mo_born_48 fl_Mo_63 sh_49 (by decide) ?_
    refine r_aload_n 0 d_Mo_born_51 rfl rfl ?_
    refine r_getI d_Mo_born_52 fl_Mo_188 sh_49 (by decide) ?_
    obtain ⟨vu4, evu4, hf⟩ := bnd hf
    refine r_callS [.int (Mu.1 49 0), .int (Mu.1 49 3)] d_Mo_born_55 lk_Mo_213 (cm_Mo_withMore evu4) (by decide) rfl rfl (Nat.le_of_ble_eq_true rfl) ?_
    obtain ⟨vu5, evu5, hf⟩ := bnd hf
    obtain ⟨vu6, Mu7⟩ := vu5
    replace hf := lt_of (rfl : vu6 = (vu6, Mu7).1) hf
    replace hf := lt_of (rfl : Mu7 = (vu6, Mu7).2) hf
    refine r_callV [.int ((Mu.1 49 0) + 1), .int vu2, .int vu3, .int vu4] d_Mo_born_58 lk_Mo_245 sh_49 (cm_Mo_makeGood evu5) (by decide) rfl rfl (Nat.le_of_ble_eq_true rfl) ?_
    obtain rfl := Option.some.inj hf
    exact r_ireturn d_Mo_born_61 rfl rfl
  · replace hf := ip qu1 hf
    refine r_ldc d_Mo_born_15 k_Mo_210 ?_
    obtain rfl := Option.some.inj hf
    exact r_ireturn d_Mo_born_17 rfl rfl
def f_Mo_dies (Nu : Nat) (p0 : Int32) (Mu : Mm) : Option (Int32 × Mm) := if (f_Mo_isPerson p0 Mu) = 0 then some ((-1000000001), Mu) else if 3 ≤ (Mu.1 49 0) then (f_Mo_without Nu (Mu.1 49 0) (Mu.1 49 1) p0).bind fun vu3 => (f_Mo_without Nu (Mu.1 49 0) (Mu.1 49 2) p0).bind fun vu4 => (f_Mo_without Nu (Mu.1 49 0) (Mu.1 49 3) p0).bind fun vu5 => (f_Mo_makeGood Nu ((Mu.1 49 0) - 1) vu3 vu4 vu5 Mu).bind fun vu6 => lt vu6.1 fun vu7 => lt vu6.2 fun Mu8 => some (vu7, Mu8) else some ((-1000000003), Mu)
theorem cm_Mo_dies {G : GT} {Nu : Nat} {p0 : Int32} {Mu : Mm}  {ru : Int32 × Mm}  (hf : f_Mo_dies Nu p0 Mu = some ru) : CM G 5 y_Mo_dies c_Mo_dies 2 (some .int) (some (.int ru.1), ru.2) Mu [.ref 49, .int p0] := by
  unfold f_Mo_dies at hf
  refine CM.of (own := R_Mo) (lv := [some (.ref 49), some (.int p0)]) (by decide) rfl (Nat.le_of_ble_eq_true rfl) rfl ?_
  refine r_aload_n 0 d_Mo_dies_0 rfl rfl ?_
  refine r_iload_n 1 d_Mo_dies_1 rfl rfl ?_
  refine r_callV [.int p0] d_Mo_dies_2 lk_Mo_70 sh_49 (cm_Mo_isPerson p0 Mu) (by decide) rfl rfl (Nat.le_of_ble_eq_true rfl) ?_
  refine r_if_ne 11 d_Mo_dies_5 (by decide) (fun qu1 => ?_) (fun qu1 => ?_)
  · replace hf := im qu1 hf
    refine r_aload_n 0 d_Mo_dies_11 rfl rfl ?_
    refine r_getI d_Mo_dies_12 fl_Mo_63 sh_49 (by decide) ?_
    refine r_iconst (v := 3) d_Mo_dies_15 (by decide) ?_
    refine r_icmp_ge 22 d_Mo_dies_16 (by decide) (fun qu2 => ?_) (fun qu2 => ?_)
    · replace hf := ip qu2 hf
      refine r_aload_n 0 d_Mo_dies_22 rfl rfl ?_
      refine r_aload_n 0 d_Mo_dies_23 rfl rfl ?_
      refine r_getI d_Mo_dies_24 fl_Mo_63 sh_49 (by decide) ?_
      refine r_iconst (v := 1) d_Mo_dies_27 (by decide) ?_
      refine r_isub d_Mo_dies_28 ?_
      refine r_aload_n 0 d_Mo_dies_29 rfl rfl ?_
      refine r_getI d_Mo_dies_30 fl_Mo_63 sh_49 (by decide) ?_
      refine r_aload_n 0 d_Mo_dies_33 rfl rfl ?_
      refine r_getI d_Mo_dies_34 fl_Mo_86 sh_49 (by decide) ?_
      refine r_iload_n 1 d_Mo_dies_37 rfl rfl ?_
      obtain ⟨vu3, evu3, hf⟩ := bnd hf
      refine r_callS [.int (Mu.1 49 0), .int (Mu.1 49 1), .int p0] d_Mo_dies_38 lk_Mo_216 (cm_Mo_without evu3) (by decide) rfl rfl (Nat.le_of_ble_eq_true rfl) ?_
      refine r_aload_n 0 d_Mo_dies_41 rfl rfl ?_
      refine r_getI d_Mo_dies_42 fl_Mo_63 sh_49 (by decide) ?_
      refine r_aload_n 0 d_Mo_dies_45 rfl rfl ?_
      refine r_getI d_Mo_dies_46 fl_Mo_185 sh_49 (by decide) ?_
      refine r_iload_n 1 d_Mo_dies_49 rfl rfl ?_
      obtain ⟨vu4, evu4, hf⟩ := bnd hf
      refine r_callS [.int (Mu.1 49 0), .int (Mu.1 49 2), .int p0] d_Mo_dies_50 lk_Mo_216 (cm_Mo_without evu4) (by decide) rfl rfl (Nat.le_of_ble_eq_true rfl) ?_
      refine r_aload_n 0 d_Mo_dies_53 rfl rfl ?_
      refine r_getI d_Mo_dies_54 fl_Mo_63 sh_49 (by decide) ?_
      refine r_aload_n 0 d_Mo_dies_57 rfl rfl ?_
      refine r_getI d_Mo_dies_58 fl_Mo_188 sh_49 (by decide) ?_
      refine r_iload_n 1 d_Mo_dies_61 rfl rfl ?_
      obtain ⟨vu5, evu5, hf⟩ := bnd hf
      refine r_callS [.int (Mu.1 49 0), .int (Mu.1 49 3), .int p0] d_Mo_dies_62 lk_Mo_216 (cm_Mo_without evu5) (by decide) rfl rfl (Nat.le_of_ble_eq_true rfl) ?_
      obtain ⟨vu6, evu6, hf⟩ := bnd hf
      obtain ⟨vu7, Mu8⟩ := vu6
      replace hf := lt_of (rfl : vu7 = (vu7, Mu8).1) hf
      replace hf := lt_of (rfl : Mu8 = (vu7, Mu8).2) hf
      refine r_callV [.int ((Mu.1 49 0) - 1), .int vu3, .int vu4, .int vu5] d_Mo_dies_65 lk_Mo_245 sh_49 (cm_Mo_makeGood evu6) (by decide) rfl rfl (Nat.le_of_ble_eq_true rfl) ?_
      obtain rfl := Option.some.inj hf
      exact r_ireturn d_Mo_dies_68 rfl rfl
    · replace hf := im qu2 hf
      refine r_ldc d_Mo_dies_19 k_Mo_210 ?_
      obtain rfl := Option.some.inj hf
      exact r_ireturn d_Mo_dies_21 rfl rfl
  · replace hf := ip qu1 hf
    refine r_ldc d_Mo_dies_8 k_Mo_203 ?_
    obtain rfl := Option.some.inj hf
    exact r_ireturn d_Mo_dies_10 rfl rfl
def f_Mo_keepsBars (p0 : Int32) (Mu : Mm) : Int32 := if (p0 &&& (Mu.1 49 2)) = 0 then if ((Mu.1 49 3) &&& (p0 ^^^ (-1))) = 0 then 1 else 0 else 0
theorem cm_Mo_keepsBars {G : GT} (p0 : Int32) (Mu : Mm)   : CM G 1 y_Mo_keepsBars c_Mo_keepsBars 2 (some .boolean) (some (.int (f_Mo_keepsBars p0 Mu)), Mu) Mu [.ref 49, .int p0] := by
  generalize hf : f_Mo_keepsBars p0 Mu = ru
  unfold f_Mo_keepsBars at hf
  refine CM.of (own := R_Mo) (lv := [some (.ref 49), some (.int p0)]) (by decide) rfl (Nat.le_of_ble_eq_true rfl) rfl ?_
  refine r_iload_n 1 d_Mo_keepsBars_0 rfl rfl ?_
  refine r_aload_n 0 d_Mo_keepsBars_1 rfl rfl ?_
  refine r_getI d_Mo_keepsBars_2 fl_Mo_185 sh_49 (by decide) ?_
  refine r_iand d_Mo_keepsBars_5 ?_
  refine r_if_ne 24 d_Mo_keepsBars_6 (by decide) (fun qu1 => ?_) (fun qu1 => ?_)
  · replace hf := im qu1 hf
    refine r_iconst (v := 0) d_Mo_keepsBars_24 (by decide) ?_
    subst hf
    exact r_zreturn d_Mo_keepsBars_25 rfl (Or.inl rfl) rfl
  · replace hf := ip qu1 hf
    refine r_aload_n 0 d_Mo_keepsBars_9 rfl rfl ?_
    refine r_getI d_Mo_keepsBars_10 fl_Mo_188 sh_49 (by decide) ?_
    refine r_iload_n 1 d_Mo_keepsBars_13 rfl rfl ?_
    refine r_iconst (v := (-1)) d_Mo_keepsBars_14 (by decide) ?_
    refine r_ixor d_Mo_keepsBars_15 ?_
    refine r_iand d_Mo_keepsBars_16 ?_
    refine r_if_ne 24 d_Mo_keepsBars_17 (by decide) (fun qu2 => ?_) (fun qu2 => ?_)
    · replace hf := im qu2 hf
      refine r_iconst (v := 0) d_Mo_keepsBars_24 (by decide) ?_
      subst hf
      exact r_zreturn d_Mo_keepsBars_25 rfl (Or.inl rfl) rfl
    · replace hf := ip qu2 hf
      refine r_iconst (v := 1) d_Mo_keepsBars_20 (by decide) ?_
      refine r_goto 25 d_Mo_keepsBars_21 (by decide) ?_
      subst hf
      exact r_zreturn d_Mo_keepsBars_25 rfl (Or.inr rfl) rfl
theorem z_Mo_keepsBars (p0 : Int32) (Mu : Mm) : f_Mo_keepsBars p0 Mu = 0 ∨ f_Mo_keepsBars p0 Mu = 1 := by unfold f_Mo_keepsBars; repeat (first | (with_reducible refine z_ite ?_ ?_) | exact Or.inl rfl | exact Or.inr rfl)
def L_Mo_nearest_37 (Nu : Nat) (ju3 : Int32 → Int32 → Int32 → Mm → Option (Int32 × Mm)) : Nat → Int32 → Int32 → Int32 → Int32 → Mm → Option (Int32 × Mm)
  | 0, _, _, _, _, _ => none
  | nu + 1, z2_37, z3_37, z4_37, z5_37, M_37 => if ((1 : Int32) <<< ((f_Mo_pairs (M_37.1 49 0)) &&& 31)) ≤ z5_37 then ju3 z2_37 z3_37 z4_37 M_37 else lt (fun (xu12 : Int32) (xu13 : Int32) (xu14 : Int32) (Mu15 : Mm) => lt (z5_37 + 1) fun xu16 => L_Mo_nearest_37 Nu ju3 nu xu12 xu13 xu14 xu16 Mu15) fun ju11 => if (f_Mo_keepsBars z5_37 M_37) = 0 then ju11 z2_37 z3_37 z4_37 M_37 else (f_Mo_alikeIn Nu (M_37.1 49 0) z5_37 M_37).bind fun vu18 => lt vu18.1 fun vu19 => lt vu18.2 fun Mu20 => lt (fun (xu22 : Int32) => lt (fun (xu24 : Int32) => lt (fun (xu26 : Int32) => lt (fun (xu28 : Int32) => lt (fun (xu30 : Int32) => ju11 xu26 xu28 xu30 Mu20) fun ju29 => if xu24 = 0 then ju29 z4_37 else ju29 xu22) fun ju27 => if xu24 = 0 then ju27 z3_37 else ju27 vu19) fun ju25 => if xu24 = 0 then ju25 z2_37 else ju25 z5_37) fun ju23 => lt (fun (_ : Unit) => ju23 1) fun ju34 => if z2_37 < 0 then ju34 () else if vu19 < z3_37 then ju34 () else lt (fun (_ : Unit) => ju23 0) fun ju37 => if vu19 = z3_37 then if z4_37 ≤ xu22 then ju37 () else ju34 () else ju37 ()) fun ju21 => lt (fun (_ : Unit) => (f_Mo_priceOf Nu (Mu20.1 49 1) z5_37 Mu20).bind fun vu41 => ju21 vu41) fun ju40 => if z2_37 < 0 then ju40 () else if vu19 ≤ z3_37 then ju40 () else ju21 0
def f_Mo_nearest (Nu : Nat) (p0 : Int32) (Mu : Mm) : Option (Int32 × Mm) := if (f_Mo_in p0.toInt64 0 2) = 0 then some ((-1000000002), Mu) else if (Mu.1 49 0) ≤ 6 then lt (fun (xu4 : Int32) (xu5 : Int32) (xu6 : Int32) (Mu7 : Mm) => if p0 = 0 then some (xu5, Mu7) else if p0 = 1 then some (xu6, Mu7) else some (xu4, Mu7)) fun ju3 => L_Mo_nearest_37 Nu ju3 Nu (-1) 0 0 0 Mu else some ((-1000000003), Mu)
theorem l_Mo_nearest_37 {G : GT} {ru : Int32 × Mm} (Nu : Nat) (ju3 : Int32 → Int32 → Int32 → Mm → Option (Int32 × Mm)) (p0 : Int32)  (Kju3 : ∀ (w2 : Int32) (w3 : Int32) (w4 : Int32) (Mw : Mm), ju3 w2 w3 w4 Mw = some ru → SW G 3 c_Mo_nearest R_Mo 9 (some .int) (some (.int ru.1), ru.2) Mw 172 [none, some (.int p0), some (.int w2), some (.int w3), some (.int w4), none, none, none, none] [])  : ∀ (nu : Nat) (z2_37 : Int32) (z3_37 : Int32) (z4_37 : Int32) (z5_37 : Int32) (M_37 : Mm), L_Mo_nearest_37 Nu ju3 nu z2_37 z3_37 z4_37 z5_37 M_37 = some ru → SW G 3 c_Mo_nearest R_Mo 9 (some .int) (some (.int ru.1), ru.2) M_37 37 [some (.ref 49), some (.int p0), some (.int z2_37), some (.int z3_37), some (.int z4_37), some (.int z5_37), none, none, none] []
  | 0, _, _, _, _, _, hf => by cases hf
  | nu + 1, z2_37, z3_37, z4_37, z5_37, M_37, hf => by
    have ih := l_Mo_nearest_37 (G := G) (ru := ru) Nu ju3 p0  Kju3 nu
    rw [L_Mo_nearest_37] at hf
    refine r_iload d_Mo_nearest_37 rfl ?_
    refine r_iconst (v := 1) d_Mo_nearest_39 (by decide) ?_
    refine r_aload_n 0 d_Mo_nearest_40 rfl rfl ?_
    refine r_getI d_Mo_nearest_41 fl_Mo_63 sh_49 (by decide) ?_
    refine r_callS [.int (M_37.1 49 0)] d_Mo_nearest_44 lk_Mo_254 (cm_Mo_pairs (M_37.1 49 0) M_37) (by decide) rfl rfl (Nat.le_of_ble_eq_true rfl) ?_
    refine r_ishl d_Mo_nearest_47 ?_
    refine r_icmp_ge 172 d_Mo_nearest_48 (by decide) (fun qu10 => ?_) (fun qu10 => ?_)
    · replace hf := ip qu10 hf
      refine r_weak [0, 5] (lv' := [none, some (.int p0), some (.int z2_37), some (.int z3_37), some (.int z4_37), none, none, none, none]) rfl ?_
      exact Kju3 z2_37 z3_37 z4_37 M_37  hf
    · replace hf := im qu10 hf
      refine r_aload_n 0 d_Mo_nearest_51 rfl rfl ?_
      refine r_iload d_Mo_nearest_52 rfl ?_
      refine r_callV [.int z5_37] d_Mo_nearest_54 lk_Mo_257 sh_49 (cm_Mo_keepsBars z5_37 M_37) (by decide) rfl rfl (Nat.le_of_ble_eq_true rfl) ?_
      obtain ⟨ju11, hju11, hf⟩ := lt_ex hf
      have Kju11 : ∀ (xu12 : Int32) (xu13 : Int32) (xu14 : Int32) (Mu15 : Mm), ju11 xu12 xu13 xu14 Mu15 = some ru → SW G 3 c_Mo_nearest R_Mo 9 (some .int) (some (.int ru.1), ru.2) Mu15 166 [some (.ref 49), some (.int p0), some (.int xu12), some (.int xu13), some (.int xu14), some (.int z5_37), none, none, none] [] := by
        intro xu12 xu13 xu14 Mu15 hf
        rw [hju11] at hf
        obtain ⟨xu16, hxu16⟩ : ∃ y : Int32, y = z5_37 + 1 := ⟨_, rfl⟩
        replace hf := lt_of hxu16 hf
        refine r_iinc (lv' := [some (.ref 49), some (.int p0), some (.int xu12), some (.int xu13), some (.int xu14), some (.int xu16), none, none, none]) d_Mo_nearest_166 rfl (by rw [hxu16]; rfl) (by decide) rfl ?_
        refine r_goto 37 d_Mo_nearest_169 (by decide) ?_
        exact ih xu12 xu13 xu14 xu16 Mu15  hf
      refine r_if_eq 166 d_Mo_nearest_57 (by decide) (fun qu17 => ?_) (fun qu17 => ?_)
      · replace hf := ip qu17 hf
        exact Kju11 z2_37 z3_37 z4_37 M_37  hf
      · replace hf := im qu17 hf
        refine r_aload_n 0 d_Mo_nearest_60 rfl rfl ?_
        refine r_aload_n 0 d_Mo_nearest_61 rfl rfl ?_
        refine r_getI d_Mo_nearest_62 fl_Mo_63 sh_49 (by decide) ?_
        refine r_iload d_Mo_nearest_65 rfl ?_
        obtain ⟨vu18, evu18, hf⟩ := bnd hf
        obtain ⟨vu19, Mu20⟩ := vu18
        replace hf := lt_of (rfl : vu19 = (vu19, Mu20).1) hf
        replace hf := lt_of (rfl : Mu20 = (vu19, Mu20).2) hf
        refine r_callV [.int (M_37.1 49 0), .int z5_37] d_Mo_nearest_67 lk_Mo_200 sh_49 (cm_Mo_alikeIn evu18) (by decide) rfl rfl (Nat.le_of_ble_eq_true rfl) ?_
        refine r_istore (lv' := [some (.ref 49), some (.int p0), some (.int z2_37), some (.int z3_37), some (.int z4_37), some (.int z5_37), some (.int vu19), none, none]) d_Mo_nearest_70 (by decide) rfl ?_
        refine r_iload_n 2 d_Mo_nearest_72 rfl rfl ?_
        obtain ⟨ju21, hju21, hf⟩ := lt_ex hf
        have Kju21 : ∀ (xu22 : Int32), ju21 xu22 = some ru → SW G 3 c_Mo_nearest R_Mo 9 (some .int) (some (.int ru.1), ru.2) Mu20 96 [some (.ref 49), some (.int p0), some (.int z2_37), some (.int z3_37), some (.int z4_37), some (.int z5_37), some (.int vu19), none, none] [.int xu22] := by
          intro xu22 hf
          rw [hju21] at hf
          refine r_istore (lv' := [some (.ref 49), some (.int p0), some (.int z2_37), some (.int z3_37), some (.int z4_37), some (.int z5_37), some (.int vu19), some (.int xu22), none]) d_Mo_nearest_96 (by decide) rfl ?_
          refine r_iload_n 2 d_Mo_nearest_98 rfl rfl ?_
          obtain ⟨ju23, hju23, hf⟩ := lt_ex hf
          have Kju23 : ∀ (xu24 : Int32), ju23 xu24 = some ru → SW G 3 c_Mo_nearest R_Mo 9 (some .int) (some (.int ru.1), ru.2) Mu20 126 [some (.ref 49), some (.int p0), some (.int z2_37), some (.int z3_37), some (.int z4_37), some (.int z5_37), some (.int vu19), some (.int xu22), none] [.int xu24] := by
            intro xu24 hf
            rw [hju23] at hf
            refine r_istore (lv' := [some (.ref 49), some (.int p0), some (.int z2_37), some (.int z3_37), some (.int z4_37), some (.int z5_37), some (.int vu19), some (.int xu22), some (.int xu24)]) d_Mo_nearest_126 (by decide) rfl ?_
            refine r_iload d_Mo_nearest_128 rfl ?_
            obtain ⟨ju25, hju25, hf⟩ := lt_ex hf
            have Kju25 : ∀ (xu26 : Int32), ju25 xu26 = some ru → SW G 3 c_Mo_nearest R_Mo 9 (some .int) (some (.int ru.1), ru.2) Mu20 139 [some (.ref 49), some (.int p0), none, some (.int z3_37), some (.int z4_37), some (.int z5_37), some (.int vu19), some (.int xu22), some (.int xu24)] [.int xu26] := by
              intro xu26 hf
              rw [hju25] at hf
              refine r_istore_n (lv' := [some (.ref 49), some (.int p0), some (.int xu26), some (.int z3_37), some (.int z4_37), some (.int z5_37), some (.int vu19), some (.int xu22), some (.int xu24)]) 2 d_Mo_nearest_139 rfl (by decide) rfl ?_
              refine r_iload d_Mo_nearest_140 rfl ?_
              obtain ⟨ju27, hju27, hf⟩ := lt_ex hf
              have Kju27 : ∀ (xu28 : Int32), ju27 xu28 = some ru → SW G 3 c_Mo_nearest R_Mo 9 (some .int) (some (.int ru.1), ru.2) Mu20 151 [some (.ref 49), some (.int p0), some (.int xu26), none, some (.int z4_37), some (.int z5_37), none, some (.int xu22), some (.int xu24)] [.int xu28] := by
                intro xu28 hf
                rw [hju27] at hf
                refine r_istore_n (lv' := [some (.ref 49), some (.int p0), some (.int xu26), some (.int xu28), some (.int z4_37), some (.int z5_37), none, some (.int xu22), some (.int xu24)]) 3 d_Mo_nearest_151 rfl (by decide) rfl ?_
                refine r_iload d_Mo_nearest_152 rfl ?_
                obtain ⟨ju29, hju29, hf⟩ := lt_ex hf
                have Kju29 : ∀ (xu30 : Int32), ju29 xu30 = some ru → SW G 3 c_Mo_nearest R_Mo 9 (some .int) (some (.int ru.1), ru.2) Mu20 164 [some (.ref 49), some (.int p0), some (.int xu26), some (.int xu28), none, some (.int z5_37), none, none, none] [.int xu30] := by
                  intro xu30 hf
                  rw [hju29] at hf
                  refine r_istore (lv' := [some (.ref 49), some (.int p0), some (.int xu26), some (.int xu28), some (.int xu30), some (.int z5_37), none, none, none]) d_Mo_nearest_164 (by decide) rfl ?_
                  exact Kju11 xu26 xu28 xu30 Mu20  hf
                refine r_if_eq 162 d_Mo_nearest_154 (by decide) (fun qu31 => ?_) (fun qu31 => ?_)
                · replace hf := ip qu31 hf
                  refine r_iload d_Mo_nearest_162 rfl ?_
                  refine r_weak [4, 7, 8] (lv' := [some (.ref 49), some (.int p0), some (.int xu26), some (.int xu28), none, some (.int z5_37), none, none, none]) rfl ?_
                  exact Kju29 z4_37  hf
                · replace hf := im qu31 hf
                  refine r_iload d_Mo_nearest_157 rfl ?_
                  refine r_goto 164 d_Mo_nearest_159 (by decide) ?_
                  refine r_weak [4, 7, 8] (lv' := [some (.ref 49), some (.int p0), some (.int xu26), some (.int xu28), none, some (.int z5_37), none, none, none]) rfl ?_
                  exact Kju29 xu22  hf
              refine r_if_eq 150 d_Mo_nearest_142 (by decide) (fun qu32 => ?_) (fun qu32 => ?_)
              · replace hf := ip qu32 hf
                refine r_iload_n 3 d_Mo_nearest_150 rfl rfl ?_
                refine r_weak [3, 6] (lv' := [some (.ref 49), some (.int p0), some (.int xu26), none, some (.int z4_37), some (.int z5_37), none, some (.int xu22), some (.int xu24)]) rfl ?_
                exact Kju27 z3_37  hf
              · replace hf := im qu32 hf
                refine r_iload d_Mo_nearest_145 rfl ?_
                refine r_goto 151 d_Mo_nearest_147 (by decide) ?_
                refine r_weak [3, 6] (lv' := [some (.ref 49), some (.int p0), some (.int xu26), none, some (.int z4_37), some (.int z5_37), none, some (.int xu22), some (.int xu24)]) rfl ?_
                exact Kju27 vu19  hf
            refine r_if_eq 138 d_Mo_nearest_130 (by decide) (fun qu33 => ?_) (fun qu33 => ?_)
            · replace hf := ip qu33 hf
              refine r_iload_n 2 d_Mo_nearest_138 rfl rfl ?_
              refine r_weak [2] (lv' := [some (.ref 49), some (.int p0), none, some (.int z3_37), some (.int z4_37), some (.int z5_37), some (.int vu19), some (.int xu22), some (.int xu24)]) rfl ?_
              exact Kju25 z2_37  hf
            · replace hf := im qu33 hf
              refine r_iload d_Mo_nearest_133 rfl ?_
              refine r_goto 139 d_Mo_nearest_135 (by decide) ?_
              refine r_weak [2] (lv' := [some (.ref 49), some (.int p0), none, some (.int z3_37), some (.int z4_37), some (.int z5_37), some (.int vu19), some (.int xu22), some (.int xu24)]) rfl ?_
              exact Kju25 z5_37  hf
          obtain ⟨ju34, hju34, hf⟩ := lt_ex hf
          have Kju34 : ∀ (_ : Unit), ju34 () = some ru → SW G 3 c_Mo_nearest R_Mo 9 (some .int) (some (.int ru.1), ru.2) Mu20 121 [some (.ref 49), some (.int p0), some (.int z2_37), some (.int z3_37), some (.int z4_37), some (.int z5_37), some (.int vu19), some (.int xu22), none] [] := by
            intro _ hf
            rw [hju34] at hf
            refine r_iconst (v := 1) d_Mo_nearest_121 (by decide) ?_
            refine r_goto 126 d_Mo_nearest_122 (by decide) ?_
            exact Kju23 1  hf
          refine r_if_lt 121 d_Mo_nearest_99 (by decide) (fun qu35 => ?_) (fun qu35 => ?_)
          · replace hf := ip qu35 hf
            exact Kju34 ()  hf
          · replace hf := im qu35 hf
            refine r_iload d_Mo_nearest_102 rfl ?_
            refine r_iload_n 3 d_Mo_nearest_104 rfl rfl ?_
            refine r_icmp_lt 121 d_Mo_nearest_105 (by decide) (fun qu36 => ?_) (fun qu36 => ?_)
            · replace hf := ip qu36 hf
              exact Kju34 ()  hf
            · replace hf := im qu36 hf
              refine r_iload d_Mo_nearest_108 rfl ?_
              refine r_iload_n 3 d_Mo_nearest_110 rfl rfl ?_
              obtain ⟨ju37, hju37, hf⟩ := lt_ex hf
              have Kju37 : ∀ (_ : Unit), ju37 () = some ru → SW G 3 c_Mo_nearest R_Mo 9 (some .int) (some (.int ru.1), ru.2) Mu20 125 [some (.ref 49), some (.int p0), some (.int z2_37), some (.int z3_37), some (.int z4_37), some (.int z5_37), some (.int vu19), some (.int xu22), none] [] := by
                intro _ hf
                rw [hju37] at hf
                refine r_iconst (v := 0) d_Mo_nearest_125 (by decide) ?_
                exact Kju23 0  hf
              refine r_icmp_ne 125 d_Mo_nearest_111 (by decide) (fun qu38 => ?_) (fun qu38 => ?_)
              · replace hf := im qu38 hf
                exact Kju37 ()  hf
              · replace hf := ip qu38 hf
                refine r_iload d_Mo_nearest_114 rfl ?_
                refine r_iload d_Mo_nearest_116 rfl ?_
                refine r_icmp_ge 125 d_Mo_nearest_118 (by decide) (fun qu39 => ?_) (fun qu39 => ?_)
                · replace hf := ip qu39 hf
                  exact Kju37 ()  hf
                · replace hf := im qu39 hf
                  exact Kju34 ()  hf
        obtain ⟨ju40, hju40, hf⟩ := lt_ex hf
        have Kju40 : ∀ (_ : Unit), ju40 () = some ru → SW G 3 c_Mo_nearest R_Mo 9 (some .int) (some (.int ru.1), ru.2) Mu20 86 [some (.ref 49), some (.int p0), some (.int z2_37), some (.int z3_37), some (.int z4_37), some (.int z5_37), some (.int vu19), none, none] [] := by
          intro _ hf
          rw [hju40] at hf
          refine r_aload_n 0 d_Mo_nearest_86 rfl rfl ?_
          refine r_aload_n 0 d_Mo_nearest_87 rfl rfl ?_
          refine r_getI d_Mo_nearest_88 fl_Mo_86 sh_49 (by decide) ?_
          refine r_iload d_Mo_nearest_91 rfl ?_
          obtain ⟨vu41, evu41, hf⟩ := bnd hf
          refine r_callV [.int (Mu20.1 49 1), .int z5_37] d_Mo_nearest_93 lk_Mo_260 sh_49 (cm_Mo_priceOf evu41) (by decide) rfl rfl (Nat.le_of_ble_eq_true rfl) ?_
          exact Kju21 vu41  hf
        refine r_if_lt 86 d_Mo_nearest_73 (by decide) (fun qu42 => ?_) (fun qu42 => ?_)
        · replace hf := ip qu42 hf
          exact Kju40 ()  hf
        · replace hf := im qu42 hf
          refine r_iload d_Mo_nearest_76 rfl ?_
          refine r_iload_n 3 d_Mo_nearest_78 rfl rfl ?_
          refine r_icmp_le 86 d_Mo_nearest_79 (by decide) (fun qu43 => ?_) (fun qu43 => ?_)
          · replace hf := ip qu43 hf
            exact Kju40 ()  hf
          · replace hf := im qu43 hf
            refine r_iconst (v := 0) d_Mo_nearest_82 (by decide) ?_
            refine r_goto 96 d_Mo_nearest_83 (by decide) ?_
            exact Kju21 0  hf
theorem cm_Mo_nearest {G : GT} {Nu : Nat} {p0 : Int32} {Mu : Mm}  {ru : Int32 × Mm}  (hf : f_Mo_nearest Nu p0 Mu = some ru) : CM G 3 y_Mo_nearest c_Mo_nearest 9 (some .int) (some (.int ru.1), ru.2) Mu [.ref 49, .int p0] := by
  unfold f_Mo_nearest at hf
  refine CM.of (own := R_Mo) (lv := [some (.ref 49), some (.int p0), none, none, none, none, none, none, none]) (by decide) rfl (Nat.le_of_ble_eq_true rfl) rfl ?_
  refine r_iload_n 1 d_Mo_nearest_0 rfl rfl ?_
  refine r_i2l d_Mo_nearest_1 ?_
  refine r_lconst (v := 0) d_Mo_nearest_2 (by decide) ?_
  refine r_ldc2_w d_Mo_nearest_3 k_Mo_211 ?_
  refine r_callS [.long p0.toInt64, .long 0, .long 2] d_Mo_nearest_6 lk_Mo_66 (cm_Mo_in p0.toInt64 0 2 Mu) (by decide) rfl rfl (Nat.le_of_ble_eq_true rfl) ?_
  refine r_if_ne 15 d_Mo_nearest_9 (by decide) (fun qu1 => ?_) (fun qu1 => ?_)
  · replace hf := im qu1 hf
    refine r_aload_n 0 d_Mo_nearest_15 rfl rfl ?_
    refine r_getI d_Mo_nearest_16 fl_Mo_63 sh_49 (by decide) ?_
    refine r_bipush (v := 6) d_Mo_nearest_19 (by decide) ?_
    refine r_icmp_le 27 d_Mo_nearest_21 (by decide) (fun qu2 => ?_) (fun qu2 => ?_)
    · replace hf := ip qu2 hf
      refine r_iconst (v := (-1)) d_Mo_nearest_27 (by decide) ?_
      refine r_istore_n (lv' := [some (.ref 49), some (.int p0), some (.int (-1)), none, none, none, none, none, none]) 2 d_Mo_nearest_28 rfl (by decide) rfl ?_
      refine r_iconst (v := 0) d_Mo_nearest_29 (by decide) ?_
      refine r_istore_n (lv' := [some (.ref 49), some (.int p0), some (.int (-1)), some (.int 0), none, none, none, none, none]) 3 d_Mo_nearest_30 rfl (by decide) rfl ?_
      refine r_iconst (v := 0) d_Mo_nearest_31 (by decide) ?_
      refine r_istore (lv' := [some (.ref 49), some (.int p0), some (.int (-1)), some (.int 0), some (.int 0), none, none, none, none]) d_Mo_nearest_32 (by decide) rfl ?_
      refine r_iconst (v := 0) d_Mo_nearest_34 (by decide) ?_
      refine r_istore (lv' := [some (.ref 49), some (.int p0), some (.int (-1)), some (.int 0), some (.int 0), some (.int 0), none, none, none]) d_Mo_nearest_35 (by decide) rfl ?_
      obtain ⟨ju3, hju3, hf⟩ := lt_ex hf
      have Kju3 : ∀ (xu4 : Int32) (xu5 : Int32) (xu6 : Int32) (Mu7 : Mm), ju3 xu4 xu5 xu6 Mu7 = some ru → SW G 3 c_Mo_nearest R_Mo 9 (some .int) (some (.int ru.1), ru.2) Mu7 172 [none, some (.int p0), some (.int xu4), some (.int xu5), some (.int xu6), none, none, none, none] [] := by
        intro xu4 xu5 xu6 Mu7 hf
        rw [hju3] at hf
        refine r_iload_n 1 d_Mo_nearest_172 rfl rfl ?_
        refine r_if_ne 180 d_Mo_nearest_173 (by decide) (fun qu8 => ?_) (fun qu8 => ?_)
        · replace hf := im qu8 hf
          refine r_iload_n 1 d_Mo_nearest_180 rfl rfl ?_
          refine r_iconst (v := 1) d_Mo_nearest_181 (by decide) ?_
          refine r_icmp_ne 190 d_Mo_nearest_182 (by decide) (fun qu9 => ?_) (fun qu9 => ?_)
          · replace hf := im qu9 hf
            refine r_iload_n 2 d_Mo_nearest_190 rfl rfl ?_
            obtain rfl := Option.some.inj hf
            exact r_ireturn d_Mo_nearest_191 rfl rfl
          · replace hf := ip qu9 hf
            refine r_iload d_Mo_nearest_185 rfl ?_
            refine r_goto 191 d_Mo_nearest_187 (by decide) ?_
            obtain rfl := Option.some.inj hf
            exact r_ireturn d_Mo_nearest_191 rfl rfl
        · replace hf := ip qu8 hf
          refine r_iload_n 3 d_Mo_nearest_176 rfl rfl ?_
          refine r_goto 191 d_Mo_nearest_177 (by decide) ?_
          obtain rfl := Option.some.inj hf
          exact r_ireturn d_Mo_nearest_191 rfl rfl
      exact l_Mo_nearest_37 (G := G) (ru := ru) Nu ju3 p0  Kju3 Nu (-1) 0 0 0 Mu hf
    · replace hf := im qu2 hf
      refine r_ldc d_Mo_nearest_24 k_Mo_210 ?_
      obtain rfl := Option.some.inj hf
      exact r_ireturn d_Mo_nearest_26 rfl rfl
  · replace hf := ip qu1 hf
    refine r_ldc d_Mo_nearest_12 k_Mo_94 ?_
    obtain rfl := Option.some.inj hf
    exact r_ireturn d_Mo_nearest_14 rfl rfl
def L_Mo_even_84 (Nu : Nat) (p0 : Int32) (vu17 : Mm) (ju18 : Int32 → Option (Int32 × Mm)) : Nat → Int32 → Int32 → Option (Int32 × Mm)
  | 0, _, _ => none
  | nu + 1, z6_84, z7_84 => if (vu17.1 49 0) ≤ z7_84 then ju18 z6_84 else lt (fun (xu39 : Int32) => lt (z7_84 + 1) fun xu40 => L_Mo_even_84 Nu p0 vu17 ju18 nu xu39 xu40) fun ju38 => lt (fun (_ : Unit) => ju38 0) fun ju41 => if z6_84 = 0 then ju41 () else if inb z7_84 8 = true then if (vu17.1 51 (Int32.toNatClampNeg z7_84)) = p0 then ju38 1 else ju41 () else none
def L_Mo_even_45 (Nu : Nat) (p0 : Int32) (ju4 : Int32 → Int32 → Mm → Option (Int32 × Mm)) : Nat → Int32 → Int32 → Int32 → Mm → Option (Int32 × Mm)
  | 0, _, _, _, _ => none
  | nu + 1, z3_45, z4_45, z5_45, M_45 => if ((1 : Int32) <<< ((f_Mo_pairs (M_45.1 49 0)) &&& 31)) ≤ z5_45 then ju4 z3_45 z4_45 M_45 else lt (fun (xu12 : Int32) (xu13 : Int32) (Mu14 : Mm) => lt (z5_45 + 1) fun xu15 => L_Mo_even_45 Nu p0 ju4 nu xu12 xu13 xu15 Mu14) fun ju11 => if (f_Mo_keepsBars z5_45 M_45) = 0 then ju11 z3_45 z4_45 M_45 else (f_Mo_findCounts Nu (M_45.1 49 0) z5_45 M_45).bind fun vu17 => lt (fun (xu19 : Int32) => lt (fun (xu21 : Int32) => lt (fun (xu23 : Int32) => lt (fun (xu25 : Int32) => lt (fun (xu27 : Int32) => ju11 xu25 xu27 vu17) fun ju26 => if xu23 = 0 then ju26 z4_45 else ju26 xu21) fun ju24 => if xu23 = 0 then ju24 z3_45 else ju24 z5_45) fun ju22 => lt (fun (_ : Unit) => ju22 0) fun ju30 => if xu19 = 0 then ju30 () else lt (fun (_ : Unit) => ju22 1) fun ju32 => if z3_45 < 0 then ju32 () else if z4_45 ≤ xu21 then ju30 () else ju32 ()) fun ju20 => if xu19 = 0 then ju20 0 else (f_Mo_priceOf Nu (vu17.1 49 1) z5_45 vu17).bind fun vu36 => ju20 vu36) fun ju18 => L_Mo_even_84 Nu p0 vu17 ju18 Nu 1 0
def f_Mo_even (Nu : Nat) (p0 : Int32) (p1 : Int32) (Mu : Mm) : Option (Int32 × Mm) := if (f_Mo_in p0.toInt64 0 5) = 0 then some ((-1000000002), Mu) else if (f_Mo_in p1.toInt64 0 1) = 0 then some ((-1000000002), Mu) else if (Mu.1 49 0) ≤ 6 then lt (fun (xu5 : Int32) (xu6 : Int32) (Mu7 : Mm) => if 0 ≤ xu5 then if p1 = 0 then some (xu6, Mu7) else some (xu5, Mu7) else some ((-1), Mu7)) fun ju4 => L_Mo_even_45 Nu p0 ju4 Nu (-1) 0 0 Mu else some ((-1000000003), Mu)
theorem l_Mo_even_84 {G : GT} {ru : Int32 × Mm} (Nu : Nat) (p0 : Int32) (vu17 : Mm) (ju18 : Int32 → Option (Int32 × Mm)) (p1 : Int32) (z3_45 : Int32) (z4_45 : Int32) (z5_45 : Int32)  (Kju18 : ∀ (w6 : Int32), ju18 w6 = some ru → SW G 3 c_Mo_even R_Mo 9 (some .int) (some (.int ru.1), ru.2) vu17 122 [some (.ref 49), some (.int p0), some (.int p1), some (.int z3_45), some (.int z4_45), some (.int z5_45), some (.int w6), none, none] [])  : ∀ (nu : Nat) (z6_84 : Int32) (z7_84 : Int32), L_Mo_even_84 Nu p0 vu17 ju18 nu z6_84 z7_84 = some ru → SW G 3 c_Mo_even R_Mo 9 (some .int) (some (.int ru.1), ru.2) vu17 84 [some (.ref 49), some (.int p0), some (.int p1), some (.int z3_45), some (.int z4_45), some (.int z5_45), some (.int z6_84), some (.int z7_84), none] []
  | 0, _, _, hf => by cases hf
  | nu + 1, z6_84, z7_84, hf => by
    have ih := l_Mo_even_84 (G := G) (ru := ru) Nu p0 vu17 ju18 p1 z3_45 z4_45 z5_45  Kju18 nu
    rw [L_Mo_even_84] at hf
    refine r_iload d_Mo_even_84 rfl ?_
    refine r_aload_n 0 d_Mo_even_86 rfl rfl ?_
    refine r_getI d_Mo_even_87 fl_Mo_63 sh_49 (by decide) ?_
    refine r_icmp_ge 122 d_Mo_even_90 (by decide) (fun qu37 => ?_) (fun qu37 => ?_)
    · replace hf := ip qu37 hf
      refine r_weak [7] (lv' := [some (.ref 49), some (.int p0), some (.int p1), some (.int z3_45), some (.int z4_45), some (.int z5_45), some (.int z6_84), none, none]) rfl ?_
      exact Kju18 z6_84  hf
    · replace hf := im qu37 hf
      refine r_iload d_Mo_even_93 rfl ?_
      obtain ⟨ju38, hju38, hf⟩ := lt_ex hf
      have Kju38 : ∀ (xu39 : Int32), ju38 xu39 = some ru → SW G 3 c_Mo_even R_Mo 9 (some .int) (some (.int ru.1), ru.2) vu17 114 [some (.ref 49), some (.int p0), some (.int p1), some (.int z3_45), some (.int z4_45), some (.int z5_45), none, some (.int z7_84), none] [.int xu39] := by
        intro xu39 hf
        rw [hju38] at hf
        refine r_istore (lv' := [some (.ref 49), some (.int p0), some (.int p1), some (.int z3_45), some (.int z4_45), some (.int z5_45), some (.int xu39), some (.int z7_84), none]) d_Mo_even_114 (by decide) rfl ?_
        obtain ⟨xu40, hxu40⟩ : ∃ y : Int32, y = z7_84 + 1 := ⟨_, rfl⟩
        replace hf := lt_of hxu40 hf
        refine r_iinc (lv' := [some (.ref 49), some (.int p0), some (.int p1), some (.int z3_45), some (.int z4_45), some (.int z5_45), some (.int xu39), some (.int xu40), none]) d_Mo_even_116 rfl (by rw [hxu40]; rfl) (by decide) rfl ?_
        refine r_goto 84 d_Mo_even_119 (by decide) ?_
        exact ih xu39 xu40  hf
      obtain ⟨ju41, hju41, hf⟩ := lt_ex hf
      have Kju41 : ∀ (_ : Unit), ju41 () = some ru → SW G 3 c_Mo_even R_Mo 9 (some .int) (some (.int ru.1), ru.2) vu17 113 [some (.ref 49), some (.int p0), some (.int p1), some (.int z3_45), some (.int z4_45), some (.int z5_45), none, some (.int z7_84), none] [] := by
        intro _ hf
        rw [hju41] at hf
        refine r_iconst (v := 0) d_Mo_even_113 (by decide) ?_
        exact Kju38 0  hf
      refine r_if_eq 113 d_Mo_even_95 (by decide) (fun qu42 => ?_) (fun qu42 => ?_)
      · replace hf := ip qu42 hf
        refine r_weak [6] (lv' := [some (.ref 49), some (.int p0), some (.int p1), some (.int z3_45), some (.int z4_45), some (.int z5_45), none, some (.int z7_84), none]) rfl ?_
        exact Kju41 ()  hf
      · replace hf := im qu42 hf
        refine r_aload_n 0 d_Mo_even_98 rfl rfl ?_
        refine r_getR 51 d_Mo_even_99 fl_Mo_20 sh_49 rfl rf_49_8 ?_
        refine r_iload d_Mo_even_102 rfl ?_
        obtain ⟨qu43, hf⟩ := ck hf
        refine r_iald d_Mo_even_104 sh_51 qu43 ?_
        refine r_iload_n 1 d_Mo_even_105 rfl rfl ?_
        refine r_icmp_ne 113 d_Mo_even_106 (by decide) (fun qu44 => ?_) (fun qu44 => ?_)
        · replace hf := im qu44 hf
          refine r_weak [6] (lv' := [some (.ref 49), some (.int p0), some (.int p1), some (.int z3_45), some (.int z4_45), some (.int z5_45), none, some (.int z7_84), none]) rfl ?_
          exact Kju41 ()  hf
        · replace hf := ip qu44 hf
          refine r_iconst (v := 1) d_Mo_even_109 (by decide) ?_
          refine r_goto 114 d_Mo_even_110 (by decide) ?_
          refine r_weak [6] (lv' := [some (.ref 49), some (.int p0), some (.int p1), some (.int z3_45), some (.int z4_45), some (.int z5_45), none, some (.int z7_84), none]) rfl ?_
          exact Kju38 1  hf
theorem l_Mo_even_45 {G : GT} {ru : Int32 × Mm} (Nu : Nat) (p0 : Int32) (ju4 : Int32 → Int32 → Mm → Option (Int32 × Mm)) (p1 : Int32)  (Kju4 : ∀ (w3 : Int32) (w4 : Int32) (Mw : Mm), ju4 w3 w4 Mw = some ru → SW G 3 c_Mo_even R_Mo 9 (some .int) (some (.int ru.1), ru.2) Mw 198 [none, none, some (.int p1), some (.int w3), some (.int w4), none, none, none, none] [])  : ∀ (nu : Nat) (z3_45 : Int32) (z4_45 : Int32) (z5_45 : Int32) (M_45 : Mm), L_Mo_even_45 Nu p0 ju4 nu z3_45 z4_45 z5_45 M_45 = some ru → SW G 3 c_Mo_even R_Mo 9 (some .int) (some (.int ru.1), ru.2) M_45 45 [some (.ref 49), some (.int p0), some (.int p1), some (.int z3_45), some (.int z4_45), some (.int z5_45), none, none, none] []
  | 0, _, _, _, _, hf => by cases hf
  | nu + 1, z3_45, z4_45, z5_45, M_45, hf => by
    have ih := l_Mo_even_45 (G := G) (ru := ru) Nu p0 ju4 p1  Kju4 nu
    rw [L_Mo_even_45] at hf
    refine r_iload d_Mo_even_45 rfl ?_
    refine r_iconst (v := 1) d_Mo_even_47 (by decide) ?_
    refine r_aload_n 0 d_Mo_even_48 rfl rfl ?_
    refine r_getI d_Mo_even_49 fl_Mo_63 sh_49 (by decide) ?_
    refine r_callS [.int (M_45.1 49 0)] d_Mo_even_52 lk_Mo_254 (cm_Mo_pairs (M_45.1 49 0) M_45) (by decide) rfl rfl (Nat.le_of_ble_eq_true rfl) ?_
    refine r_ishl d_Mo_even_55 ?_
    refine r_icmp_ge 198 d_Mo_even_56 (by decide) (fun qu10 => ?_) (fun qu10 => ?_)
    · replace hf := ip qu10 hf
      refine r_weak [0, 1, 5] (lv' := [none, none, some (.int p1), some (.int z3_45), some (.int z4_45), none, none, none, none]) rfl ?_
      exact Kju4 z3_45 z4_45 M_45  hf
    · replace hf := im qu10 hf
      refine r_aload_n 0 d_Mo_even_59 rfl rfl ?_
      refine r_iload d_Mo_even_60 rfl ?_
      refine r_callV [.int z5_45] d_Mo_even_62 lk_Mo_257 sh_49 (cm_Mo_keepsBars z5_45 M_45) (by decide) rfl rfl (Nat.le_of_ble_eq_true rfl) ?_
      obtain ⟨ju11, hju11, hf⟩ := lt_ex hf
      have Kju11 : ∀ (xu12 : Int32) (xu13 : Int32) (Mu14 : Mm), ju11 xu12 xu13 Mu14 = some ru → SW G 3 c_Mo_even R_Mo 9 (some .int) (some (.int ru.1), ru.2) Mu14 192 [some (.ref 49), some (.int p0), some (.int p1), some (.int xu12), some (.int xu13), some (.int z5_45), none, none, none] [] := by
        intro xu12 xu13 Mu14 hf
        rw [hju11] at hf
        obtain ⟨xu15, hxu15⟩ : ∃ y : Int32, y = z5_45 + 1 := ⟨_, rfl⟩
        replace hf := lt_of hxu15 hf
        refine r_iinc (lv' := [some (.ref 49), some (.int p0), some (.int p1), some (.int xu12), some (.int xu13), some (.int xu15), none, none, none]) d_Mo_even_192 rfl (by rw [hxu15]; rfl) (by decide) rfl ?_
        refine r_goto 45 d_Mo_even_195 (by decide) ?_
        exact ih xu12 xu13 xu15 Mu14  hf
      refine r_if_eq 192 d_Mo_even_65 (by decide) (fun qu16 => ?_) (fun qu16 => ?_)
      · replace hf := ip qu16 hf
        exact Kju11 z3_45 z4_45 M_45  hf
      · replace hf := im qu16 hf
        refine r_aload_n 0 d_Mo_even_68 rfl rfl ?_
        refine r_aload_n 0 d_Mo_even_69 rfl rfl ?_
        refine r_getI d_Mo_even_70 fl_Mo_63 sh_49 (by decide) ?_
        refine r_iload d_Mo_even_73 rfl ?_
        obtain ⟨vu17, evu17, hf⟩ := bnd hf
        refine r_callV [.int (M_45.1 49 0), .int z5_45] d_Mo_even_75 lk_Mo_82 sh_49 (cm_Mo_findCounts evu17) (by decide) rfl rfl (Nat.le_of_ble_eq_true rfl) ?_
        refine r_iconst (v := 1) d_Mo_even_78 (by decide) ?_
        refine r_istore (lv' := [some (.ref 49), some (.int p0), some (.int p1), some (.int z3_45), some (.int z4_45), some (.int z5_45), some (.int 1), none, none]) d_Mo_even_79 (by decide) rfl ?_
        refine r_iconst (v := 0) d_Mo_even_81 (by decide) ?_
        refine r_istore (lv' := [some (.ref 49), some (.int p0), some (.int p1), some (.int z3_45), some (.int z4_45), some (.int z5_45), some (.int 1), some (.int 0), none]) d_Mo_even_82 (by decide) rfl ?_
        obtain ⟨ju18, hju18, hf⟩ := lt_ex hf
        have Kju18 : ∀ (xu19 : Int32), ju18 xu19 = some ru → SW G 3 c_Mo_even R_Mo 9 (some .int) (some (.int ru.1), ru.2) vu17 122 [some (.ref 49), some (.int p0), some (.int p1), some (.int z3_45), some (.int z4_45), some (.int z5_45), some (.int xu19), none, none] [] := by
          intro xu19 hf
          rw [hju18] at hf
          refine r_iload d_Mo_even_122 rfl ?_
          obtain ⟨ju20, hju20, hf⟩ := lt_ex hf
          have Kju20 : ∀ (xu21 : Int32), ju20 xu21 = some ru → SW G 3 c_Mo_even R_Mo 9 (some .int) (some (.int ru.1), ru.2) vu17 141 [some (.ref 49), some (.int p0), some (.int p1), some (.int z3_45), some (.int z4_45), some (.int z5_45), some (.int xu19), none, none] [.int xu21] := by
            intro xu21 hf
            rw [hju20] at hf
            refine r_istore (lv' := [some (.ref 49), some (.int p0), some (.int p1), some (.int z3_45), some (.int z4_45), some (.int z5_45), some (.int xu19), some (.int xu21), none]) d_Mo_even_141 (by decide) rfl ?_
            refine r_iload d_Mo_even_143 rfl ?_
            obtain ⟨ju22, hju22, hf⟩ := lt_ex hf
            have Kju22 : ∀ (xu23 : Int32), ju22 xu23 = some ru → SW G 3 c_Mo_even R_Mo 9 (some .int) (some (.int ru.1), ru.2) vu17 164 [some (.ref 49), some (.int p0), some (.int p1), some (.int z3_45), some (.int z4_45), some (.int z5_45), none, some (.int xu21), none] [.int xu23] := by
              intro xu23 hf
              rw [hju22] at hf
              refine r_istore (lv' := [some (.ref 49), some (.int p0), some (.int p1), some (.int z3_45), some (.int z4_45), some (.int z5_45), none, some (.int xu21), some (.int xu23)]) d_Mo_even_164 (by decide) rfl ?_
              refine r_iload d_Mo_even_166 rfl ?_
              obtain ⟨ju24, hju24, hf⟩ := lt_ex hf
              have Kju24 : ∀ (xu25 : Int32), ju24 xu25 = some ru → SW G 3 c_Mo_even R_Mo 9 (some .int) (some (.int ru.1), ru.2) vu17 177 [some (.ref 49), some (.int p0), some (.int p1), none, some (.int z4_45), some (.int z5_45), none, some (.int xu21), some (.int xu23)] [.int xu25] := by
                intro xu25 hf
                rw [hju24] at hf
                refine r_istore_n (lv' := [some (.ref 49), some (.int p0), some (.int p1), some (.int xu25), some (.int z4_45), some (.int z5_45), none, some (.int xu21), some (.int xu23)]) 3 d_Mo_even_177 rfl (by decide) rfl ?_
                refine r_iload d_Mo_even_178 rfl ?_
                obtain ⟨ju26, hju26, hf⟩ := lt_ex hf
                have Kju26 : ∀ (xu27 : Int32), ju26 xu27 = some ru → SW G 3 c_Mo_even R_Mo 9 (some .int) (some (.int ru.1), ru.2) vu17 190 [some (.ref 49), some (.int p0), some (.int p1), some (.int xu25), none, some (.int z5_45), none, none, none] [.int xu27] := by
                  intro xu27 hf
                  rw [hju26] at hf
                  refine r_istore (lv' := [some (.ref 49), some (.int p0), some (.int p1), some (.int xu25), some (.int xu27), some (.int z5_45), none, none, none]) d_Mo_even_190 (by decide) rfl ?_
                  exact Kju11 xu25 xu27 vu17  hf
                refine r_if_eq 188 d_Mo_even_180 (by decide) (fun qu28 => ?_) (fun qu28 => ?_)
                · replace hf := ip qu28 hf
                  refine r_iload d_Mo_even_188 rfl ?_
                  refine r_weak [4, 7, 8] (lv' := [some (.ref 49), some (.int p0), some (.int p1), some (.int xu25), none, some (.int z5_45), none, none, none]) rfl ?_
                  exact Kju26 z4_45  hf
                · replace hf := im qu28 hf
                  refine r_iload d_Mo_even_183 rfl ?_
                  refine r_goto 190 d_Mo_even_185 (by decide) ?_
                  refine r_weak [4, 7, 8] (lv' := [some (.ref 49), some (.int p0), some (.int p1), some (.int xu25), none, some (.int z5_45), none, none, none]) rfl ?_
                  exact Kju26 xu21  hf
              refine r_if_eq 176 d_Mo_even_168 (by decide) (fun qu29 => ?_) (fun qu29 => ?_)
              · replace hf := ip qu29 hf
                refine r_iload_n 3 d_Mo_even_176 rfl rfl ?_
                refine r_weak [3] (lv' := [some (.ref 49), some (.int p0), some (.int p1), none, some (.int z4_45), some (.int z5_45), none, some (.int xu21), some (.int xu23)]) rfl ?_
                exact Kju24 z3_45  hf
              · replace hf := im qu29 hf
                refine r_iload d_Mo_even_171 rfl ?_
                refine r_goto 177 d_Mo_even_173 (by decide) ?_
                refine r_weak [3] (lv' := [some (.ref 49), some (.int p0), some (.int p1), none, some (.int z4_45), some (.int z5_45), none, some (.int xu21), some (.int xu23)]) rfl ?_
                exact Kju24 z5_45  hf
            obtain ⟨ju30, hju30, hf⟩ := lt_ex hf
            have Kju30 : ∀ (_ : Unit), ju30 () = some ru → SW G 3 c_Mo_even R_Mo 9 (some .int) (some (.int ru.1), ru.2) vu17 163 [some (.ref 49), some (.int p0), some (.int p1), some (.int z3_45), some (.int z4_45), some (.int z5_45), none, some (.int xu21), none] [] := by
              intro _ hf
              rw [hju30] at hf
              refine r_iconst (v := 0) d_Mo_even_163 (by decide) ?_
              exact Kju22 0  hf
            refine r_if_eq 163 d_Mo_even_145 (by decide) (fun qu31 => ?_) (fun qu31 => ?_)
            · replace hf := ip qu31 hf
              refine r_weak [6] (lv' := [some (.ref 49), some (.int p0), some (.int p1), some (.int z3_45), some (.int z4_45), some (.int z5_45), none, some (.int xu21), none]) rfl ?_
              exact Kju30 ()  hf
            · replace hf := im qu31 hf
              refine r_iload_n 3 d_Mo_even_148 rfl rfl ?_
              obtain ⟨ju32, hju32, hf⟩ := lt_ex hf
              have Kju32 : ∀ (_ : Unit), ju32 () = some ru → SW G 3 c_Mo_even R_Mo 9 (some .int) (some (.int ru.1), ru.2) vu17 159 [some (.ref 49), some (.int p0), some (.int p1), some (.int z3_45), some (.int z4_45), some (.int z5_45), none, some (.int xu21), none] [] := by
                intro _ hf
                rw [hju32] at hf
                refine r_iconst (v := 1) d_Mo_even_159 (by decide) ?_
                refine r_goto 164 d_Mo_even_160 (by decide) ?_
                exact Kju22 1  hf
              refine r_if_lt 159 d_Mo_even_149 (by decide) (fun qu33 => ?_) (fun qu33 => ?_)
              · replace hf := ip qu33 hf
                refine r_weak [6] (lv' := [some (.ref 49), some (.int p0), some (.int p1), some (.int z3_45), some (.int z4_45), some (.int z5_45), none, some (.int xu21), none]) rfl ?_
                exact Kju32 ()  hf
              · replace hf := im qu33 hf
                refine r_iload d_Mo_even_152 rfl ?_
                refine r_iload d_Mo_even_154 rfl ?_
                refine r_icmp_ge 163 d_Mo_even_156 (by decide) (fun qu34 => ?_) (fun qu34 => ?_)
                · replace hf := ip qu34 hf
                  refine r_weak [6] (lv' := [some (.ref 49), some (.int p0), some (.int p1), some (.int z3_45), some (.int z4_45), some (.int z5_45), none, some (.int xu21), none]) rfl ?_
                  exact Kju30 ()  hf
                · replace hf := im qu34 hf
                  refine r_weak [6] (lv' := [some (.ref 49), some (.int p0), some (.int p1), some (.int z3_45), some (.int z4_45), some (.int z5_45), none, some (.int xu21), none]) rfl ?_
                  exact Kju32 ()  hf
          refine r_if_eq 140 d_Mo_even_124 (by decide) (fun qu35 => ?_) (fun qu35 => ?_)
          · replace hf := ip qu35 hf
            refine r_iconst (v := 0) d_Mo_even_140 (by decide) ?_
            exact Kju20 0  hf
          · replace hf := im qu35 hf
            refine r_aload_n 0 d_Mo_even_127 rfl rfl ?_
            refine r_aload_n 0 d_Mo_even_128 rfl rfl ?_
            refine r_getI d_Mo_even_129 fl_Mo_86 sh_49 (by decide) ?_
            refine r_iload d_Mo_even_132 rfl ?_
            obtain ⟨vu36, evu36, hf⟩ := bnd hf
            refine r_callV [.int (vu17.1 49 1), .int z5_45] d_Mo_even_134 lk_Mo_260 sh_49 (cm_Mo_priceOf evu36) (by decide) rfl rfl (Nat.le_of_ble_eq_true rfl) ?_
            refine r_goto 141 d_Mo_even_137 (by decide) ?_
            exact Kju20 vu36  hf
        exact l_Mo_even_84 (G := G) (ru := ru) Nu p0 vu17 ju18 p1 z3_45 z4_45 z5_45  Kju18 Nu 1 0 hf
theorem cm_Mo_even {G : GT} {Nu : Nat} {p0 : Int32} {p1 : Int32} {Mu : Mm}  {ru : Int32 × Mm}  (hf : f_Mo_even Nu p0 p1 Mu = some ru) : CM G 3 y_Mo_even c_Mo_even 9 (some .int) (some (.int ru.1), ru.2) Mu [.ref 49, .int p0, .int p1] := by
  unfold f_Mo_even at hf
  refine CM.of (own := R_Mo) (lv := [some (.ref 49), some (.int p0), some (.int p1), none, none, none, none, none, none]) (by decide) rfl (Nat.le_of_ble_eq_true rfl) rfl ?_
  refine r_iload_n 1 d_Mo_even_0 rfl rfl ?_
  refine r_i2l d_Mo_even_1 ?_
  refine r_lconst (v := 0) d_Mo_even_2 (by decide) ?_
  refine r_ldc2_w d_Mo_even_3 k_Mo_263 ?_
  refine r_callS [.long p0.toInt64, .long 0, .long 5] d_Mo_even_6 lk_Mo_66 (cm_Mo_in p0.toInt64 0 5 Mu) (by decide) rfl rfl (Nat.le_of_ble_eq_true rfl) ?_
  refine r_if_eq 22 d_Mo_even_9 (by decide) (fun qu1 => ?_) (fun qu1 => ?_)
  · replace hf := ip qu1 hf
    refine r_ldc d_Mo_even_22 k_Mo_94 ?_
    obtain rfl := Option.some.inj hf
    exact r_ireturn d_Mo_even_24 rfl rfl
  · replace hf := im qu1 hf
    refine r_iload_n 2 d_Mo_even_12 rfl rfl ?_
    refine r_i2l d_Mo_even_13 ?_
    refine r_lconst (v := 0) d_Mo_even_14 (by decide) ?_
    refine r_lconst (v := 1) d_Mo_even_15 (by decide) ?_
    refine r_callS [.long p1.toInt64, .long 0, .long 1] d_Mo_even_16 lk_Mo_66 (cm_Mo_in p1.toInt64 0 1 Mu) (by decide) rfl rfl (Nat.le_of_ble_eq_true rfl) ?_
    refine r_if_ne 25 d_Mo_even_19 (by decide) (fun qu2 => ?_) (fun qu2 => ?_)
    · replace hf := im qu2 hf
      refine r_aload_n 0 d_Mo_even_25 rfl rfl ?_
      refine r_getI d_Mo_even_26 fl_Mo_63 sh_49 (by decide) ?_
      refine r_bipush (v := 6) d_Mo_even_29 (by decide) ?_
      refine r_icmp_le 37 d_Mo_even_31 (by decide) (fun qu3 => ?_) (fun qu3 => ?_)
      · replace hf := ip qu3 hf
        refine r_iconst (v := (-1)) d_Mo_even_37 (by decide) ?_
        refine r_istore_n (lv' := [some (.ref 49), some (.int p0), some (.int p1), some (.int (-1)), none, none, none, none, none]) 3 d_Mo_even_38 rfl (by decide) rfl ?_
        refine r_iconst (v := 0) d_Mo_even_39 (by decide) ?_
        refine r_istore (lv' := [some (.ref 49), some (.int p0), some (.int p1), some (.int (-1)), some (.int 0), none, none, none, none]) d_Mo_even_40 (by decide) rfl ?_
        refine r_iconst (v := 0) d_Mo_even_42 (by decide) ?_
        refine r_istore (lv' := [some (.ref 49), some (.int p0), some (.int p1), some (.int (-1)), some (.int 0), some (.int 0), none, none, none]) d_Mo_even_43 (by decide) rfl ?_
        obtain ⟨ju4, hju4, hf⟩ := lt_ex hf
        have Kju4 : ∀ (xu5 : Int32) (xu6 : Int32) (Mu7 : Mm), ju4 xu5 xu6 Mu7 = some ru → SW G 3 c_Mo_even R_Mo 9 (some .int) (some (.int ru.1), ru.2) Mu7 198 [none, none, some (.int p1), some (.int xu5), some (.int xu6), none, none, none, none] [] := by
          intro xu5 xu6 Mu7 hf
          rw [hju4] at hf
          refine r_iload_n 3 d_Mo_even_198 rfl rfl ?_
          refine r_if_ge 206 d_Mo_even_199 (by decide) (fun qu8 => ?_) (fun qu8 => ?_)
          · replace hf := ip qu8 hf
            refine r_iload_n 2 d_Mo_even_206 rfl rfl ?_
            refine r_if_ne 215 d_Mo_even_207 (by decide) (fun qu9 => ?_) (fun qu9 => ?_)
            · replace hf := im qu9 hf
              refine r_iload_n 3 d_Mo_even_215 rfl rfl ?_
              obtain rfl := Option.some.inj hf
              exact r_ireturn d_Mo_even_216 rfl rfl
            · replace hf := ip qu9 hf
              refine r_iload d_Mo_even_210 rfl ?_
              refine r_goto 216 d_Mo_even_212 (by decide) ?_
              obtain rfl := Option.some.inj hf
              exact r_ireturn d_Mo_even_216 rfl rfl
          · replace hf := im qu8 hf
            refine r_iconst (v := (-1)) d_Mo_even_202 (by decide) ?_
            refine r_goto 216 d_Mo_even_203 (by decide) ?_
            obtain rfl := Option.some.inj hf
            exact r_ireturn d_Mo_even_216 rfl rfl
        exact l_Mo_even_45 (G := G) (ru := ru) Nu p0 ju4 p1  Kju4 Nu (-1) 0 0 Mu hf
      · replace hf := im qu3 hf
        refine r_ldc d_Mo_even_34 k_Mo_210 ?_
        obtain rfl := Option.some.inj hf
        exact r_ireturn d_Mo_even_36 rfl rfl
    · replace hf := ip qu2 hf
      refine r_ldc d_Mo_even_22 k_Mo_94 ?_
      obtain rfl := Option.some.inj hf
      exact r_ireturn d_Mo_even_24 rfl rfl
def f_Mo_tell (p0 : Int32) (p1 : Int32) (Mu : Mm) : Option (Int32 × Mm) := if (f_Mo_isPerson p0 Mu) = 0 then some ((-1000000001), Mu) else if (f_Mo_in p1.toInt64 0 7) = 0 then some ((-1000000002), Mu) else if inb p0 8 = true then lt (Mu.1 50 (Int32.toNatClampNeg p0)) fun xu4 => if inb p0 8 = true then lt (si Mu 50 (Int32.toNatClampNeg p0) p1) fun Mu6 => some (xu4, Mu6) else none else none
theorem cm_Mo_tell {G : GT} {p0 : Int32} {p1 : Int32} {Mu : Mm}  {ru : Int32 × Mm}  (hf : f_Mo_tell p0 p1 Mu = some ru) : CM G 3 y_Mo_tell c_Mo_tell 4 (some .int) (some (.int ru.1), ru.2) Mu [.ref 49, .int p0, .int p1] := by
  unfold f_Mo_tell at hf
  refine CM.of (own := R_Mo) (lv := [some (.ref 49), some (.int p0), some (.int p1), none]) (by decide) rfl (Nat.le_of_ble_eq_true rfl) rfl ?_
  refine r_aload_n 0 d_Mo_tell_0 rfl rfl ?_
  refine r_iload_n 1 d_Mo_tell_1 rfl rfl ?_
  refine r_callV [.int p0] d_Mo_tell_2 lk_Mo_70 sh_49 (cm_Mo_isPerson p0 Mu) (by decide) rfl rfl (Nat.le_of_ble_eq_true rfl) ?_
  refine r_if_ne 11 d_Mo_tell_5 (by decide) (fun qu1 => ?_) (fun qu1 => ?_)
  · replace hf := im qu1 hf
    refine r_iload_n 2 d_Mo_tell_11 rfl rfl ?_
    refine r_i2l d_Mo_tell_12 ?_
    refine r_lconst (v := 0) d_Mo_tell_13 (by decide) ?_
    refine r_ldc2_w d_Mo_tell_14 k_Mo_252 ?_
    refine r_callS [.long p1.toInt64, .long 0, .long 7] d_Mo_tell_17 lk_Mo_66 (cm_Mo_in p1.toInt64 0 7 Mu) (by decide) rfl rfl (Nat.le_of_ble_eq_true rfl) ?_
    refine r_if_ne 26 d_Mo_tell_20 (by decide) (fun qu2 => ?_) (fun qu2 => ?_)
    · replace hf := im qu2 hf
      refine r_aload_n 0 d_Mo_tell_26 rfl rfl ?_
      refine r_getR 50 d_Mo_tell_27 fl_Mo_16 sh_49 rfl rf_49_6 ?_
      refine r_iload_n 1 d_Mo_tell_30 rfl rfl ?_
      obtain ⟨qu3, hf⟩ := ck hf
      refine r_iald d_Mo_tell_31 sh_50 qu3 ?_
      refine nmI (fun xu4 hxu4 => ?_)
      replace hf := lt_of hxu4 hf
      refine r_istore_n (lv' := [some (.ref 49), some (.int p0), some (.int p1), some (.int xu4)]) 3 d_Mo_tell_32 rfl (by decide) rfl ?_
      refine r_aload_n 0 d_Mo_tell_33 rfl rfl ?_
      refine r_getR 50 d_Mo_tell_34 fl_Mo_16 sh_49 rfl rf_49_6 ?_
      refine r_iload_n 1 d_Mo_tell_37 rfl rfl ?_
      refine r_iload_n 2 d_Mo_tell_38 rfl rfl ?_
      obtain ⟨qu5, hf⟩ := ck hf
      refine r_iast d_Mo_tell_39 sh_50 qu5 ?_
      refine nmM (fun Mu6 hMu6 => ?_)
      replace hf := lt_of hMu6 hf
      refine r_iload_n 3 d_Mo_tell_40 rfl rfl ?_
      obtain rfl := Option.some.inj hf
      exact r_ireturn d_Mo_tell_41 rfl rfl
    · replace hf := ip qu2 hf
      refine r_ldc d_Mo_tell_23 k_Mo_94 ?_
      obtain rfl := Option.some.inj hf
      exact r_ireturn d_Mo_tell_25 rfl rfl
  · replace hf := ip qu1 hf
    refine r_ldc d_Mo_tell_8 k_Mo_203 ?_
    obtain rfl := Option.some.inj hf
    exact r_ireturn d_Mo_tell_10 rfl rfl
def L_Mo_countTowns_41 (Nu : Nat) (vu4 : Mm) (ju5 : Int32 → Option (Int32 × Mm)) : Nat → Int32 → Int32 → Option (Int32 × Mm)
  | 0, _, _ => none
  | nu + 1, z3_41, z4_41 => if (vu4.1 49 0) ≤ z4_41 then ju5 z3_41 else lt (fun (xu22 : Int32) => lt (z4_41 + 1) fun xu23 => L_Mo_countTowns_41 Nu vu4 ju5 nu xu22 xu23) fun ju21 => lt (fun (_ : Unit) => ju21 0) fun ju24 => if z3_41 = 0 then ju24 () else if inb z4_41 8 = true then if inb z4_41 8 = true then if (vu4.1 51 (Int32.toNatClampNeg z4_41)) = (vu4.1 50 (Int32.toNatClampNeg z4_41)) then ju21 1 else ju24 () else none else none
def L_Mo_countTowns_14 (Nu : Nat) : Nat → Int32 → Int32 → Mm → Option (Int32 × Mm)
  | 0, _, _, _ => none
  | nu + 1, z1_14, z2_14, M_14 => if ((1 : Int32) <<< ((f_Mo_pairs (M_14.1 49 0)) &&& 31)) ≤ z2_14 then some (z1_14, M_14) else (f_Mo_findCounts Nu (M_14.1 49 0) z2_14 M_14).bind fun vu4 => lt (fun (xu6 : Int32) => lt (fun (xu8 : Int32) => lt (z1_14 + xu8) fun xu9 => lt (fun (xu11 : Int32) => lt (si vu4 49 28 ((vu4.1 49 28) ||| xu11)) fun Mu12 => lt (fun (xu14 : Int32) => lt (si Mu12 49 29 ((Mu12.1 49 29) &&& xu14)) fun Mu15 => lt (z2_14 + 1) fun xu16 => L_Mo_countTowns_14 Nu nu xu9 xu16 Mu15) fun ju13 => if xu6 = 0 then ju13 (-1) else ju13 z2_14) fun ju10 => if xu6 = 0 then ju10 0 else ju10 z2_14) fun ju7 => if xu6 = 0 then ju7 0 else ju7 1) fun ju5 => L_Mo_countTowns_41 Nu vu4 ju5 Nu 1 0
def f_Mo_countTowns (Nu : Nat) (Mu : Mm) : Option (Int32 × Mm) := lt (si Mu 49 28 0) fun Mu1 => lt (si Mu1 49 29 (-1)) fun Mu2 => L_Mo_countTowns_14 Nu Nu 0 0 Mu2
theorem l_Mo_countTowns_41 {G : GT} {ru : Int32 × Mm} (Nu : Nat) (vu4 : Mm) (ju5 : Int32 → Option (Int32 × Mm)) (z1_14 : Int32) (z2_14 : Int32)  (Kju5 : ∀ (w3 : Int32), ju5 w3 = some ru → SW G 2 c_Mo_countTowns R_Mo 5 (some .int) (some (.int ru.1), ru.2) vu4 83 [some (.ref 49), some (.int z1_14), some (.int z2_14), some (.int w3), none] [])  : ∀ (nu : Nat) (z3_41 : Int32) (z4_41 : Int32), L_Mo_countTowns_41 Nu vu4 ju5 nu z3_41 z4_41 = some ru → SW G 2 c_Mo_countTowns R_Mo 5 (some .int) (some (.int ru.1), ru.2) vu4 41 [some (.ref 49), some (.int z1_14), some (.int z2_14), some (.int z3_41), some (.int z4_41)] []
  | 0, _, _, hf => by cases hf
  | nu + 1, z3_41, z4_41, hf => by
    have ih := l_Mo_countTowns_41 (G := G) (ru := ru) Nu vu4 ju5 z1_14 z2_14  Kju5 nu
    rw [L_Mo_countTowns_41] at hf
    refine r_iload d_Mo_countTowns_41 rfl ?_
    refine r_aload_n 0 d_Mo_countTowns_43 rfl rfl ?_
    refine r_getI d_Mo_countTowns_44 fl_Mo_63 sh_49 (by decide) ?_
    refine r_icmp_ge 83 d_Mo_countTowns_47 (by decide) (fun qu20 => ?_) (fun qu20 => ?_)
    · replace hf := ip qu20 hf
      refine r_weak [4] (lv' := [some (.ref 49), some (.int z1_14), some (.int z2_14), some (.int z3_41), none]) rfl ?_
      exact Kju5 z3_41  hf
    · replace hf := im qu20 hf
      refine r_iload_n 3 d_Mo_countTowns_50 rfl rfl ?_
      obtain ⟨ju21, hju21, hf⟩ := lt_ex hf
      have Kju21 : ∀ (xu22 : Int32), ju21 xu22 = some ru → SW G 2 c_Mo_countTowns R_Mo 5 (some .int) (some (.int ru.1), ru.2) vu4 76 [some (.ref 49), some (.int z1_14), some (.int z2_14), none, some (.int z4_41)] [.int xu22] := by
        intro xu22 hf
        rw [hju21] at hf
        refine r_istore_n (lv' := [some (.ref 49), some (.int z1_14), some (.int z2_14), some (.int xu22), some (.int z4_41)]) 3 d_Mo_countTowns_76 rfl (by decide) rfl ?_
        obtain ⟨xu23, hxu23⟩ : ∃ y : Int32, y = z4_41 + 1 := ⟨_, rfl⟩
        replace hf := lt_of hxu23 hf
        refine r_iinc (lv' := [some (.ref 49), some (.int z1_14), some (.int z2_14), some (.int xu22), some (.int xu23)]) d_Mo_countTowns_77 rfl (by rw [hxu23]; rfl) (by decide) rfl ?_
        refine r_goto 41 d_Mo_countTowns_80 (by decide) ?_
        exact ih xu22 xu23  hf
      obtain ⟨ju24, hju24, hf⟩ := lt_ex hf
      have Kju24 : ∀ (_ : Unit), ju24 () = some ru → SW G 2 c_Mo_countTowns R_Mo 5 (some .int) (some (.int ru.1), ru.2) vu4 75 [some (.ref 49), some (.int z1_14), some (.int z2_14), none, some (.int z4_41)] [] := by
        intro _ hf
        rw [hju24] at hf
        refine r_iconst (v := 0) d_Mo_countTowns_75 (by decide) ?_
        exact Kju21 0  hf
      refine r_if_eq 75 d_Mo_countTowns_51 (by decide) (fun qu25 => ?_) (fun qu25 => ?_)
      · replace hf := ip qu25 hf
        refine r_weak [3] (lv' := [some (.ref 49), some (.int z1_14), some (.int z2_14), none, some (.int z4_41)]) rfl ?_
        exact Kju24 ()  hf
      · replace hf := im qu25 hf
        refine r_aload_n 0 d_Mo_countTowns_54 rfl rfl ?_
        refine r_getR 51 d_Mo_countTowns_55 fl_Mo_20 sh_49 rfl rf_49_8 ?_
        refine r_iload d_Mo_countTowns_58 rfl ?_
        obtain ⟨qu26, hf⟩ := ck hf
        refine r_iald d_Mo_countTowns_60 sh_51 qu26 ?_
        refine r_aload_n 0 d_Mo_countTowns_61 rfl rfl ?_
        refine r_getR 50 d_Mo_countTowns_62 fl_Mo_16 sh_49 rfl rf_49_6 ?_
        refine r_iload d_Mo_countTowns_65 rfl ?_
        obtain ⟨qu27, hf⟩ := ck hf
        refine r_iald d_Mo_countTowns_67 sh_50 qu27 ?_
        refine r_icmp_ne 75 d_Mo_countTowns_68 (by decide) (fun qu28 => ?_) (fun qu28 => ?_)
        · replace hf := im qu28 hf
          refine r_weak [3] (lv' := [some (.ref 49), some (.int z1_14), some (.int z2_14), none, some (.int z4_41)]) rfl ?_
          exact Kju24 ()  hf
        · replace hf := ip qu28 hf
          refine r_iconst (v := 1) d_Mo_countTowns_71 (by decide) ?_
          refine r_goto 76 d_Mo_countTowns_72 (by decide) ?_
          refine r_weak [3] (lv' := [some (.ref 49), some (.int z1_14), some (.int z2_14), none, some (.int z4_41)]) rfl ?_
          exact Kju21 1  hf
theorem l_Mo_countTowns_14 {G : GT} {ru : Int32 × Mm} (Nu : Nat)    : ∀ (nu : Nat) (z1_14 : Int32) (z2_14 : Int32) (M_14 : Mm), L_Mo_countTowns_14 Nu nu z1_14 z2_14 M_14 = some ru → SW G 2 c_Mo_countTowns R_Mo 5 (some .int) (some (.int ru.1), ru.2) M_14 14 [some (.ref 49), some (.int z1_14), some (.int z2_14), none, none] []
  | 0, _, _, _, hf => by cases hf
  | nu + 1, z1_14, z2_14, M_14, hf => by
    have ih := l_Mo_countTowns_14 (G := G) (ru := ru) Nu   nu
    rw [L_Mo_countTowns_14] at hf
    refine r_iload_n 2 d_Mo_countTowns_14 rfl rfl ?_
    refine r_iconst (v := 1) d_Mo_countTowns_15 (by decide) ?_
    refine r_aload_n 0 d_Mo_countTowns_16 rfl rfl ?_
    refine r_getI d_Mo_countTowns_17 fl_Mo_63 sh_49 (by decide) ?_
    refine r_callS [.int (M_14.1 49 0)] d_Mo_countTowns_20 lk_Mo_254 (cm_Mo_pairs (M_14.1 49 0) M_14) (by decide) rfl rfl (Nat.le_of_ble_eq_true rfl) ?_
    refine r_ishl d_Mo_countTowns_23 ?_
    refine r_icmp_ge 137 d_Mo_countTowns_24 (by decide) (fun qu3 => ?_) (fun qu3 => ?_)
    · replace hf := ip qu3 hf
      refine r_iload_n 1 d_Mo_countTowns_137 rfl rfl ?_
      obtain rfl := Option.some.inj hf
      exact r_ireturn d_Mo_countTowns_138 rfl rfl
    · replace hf := im qu3 hf
      refine r_aload_n 0 d_Mo_countTowns_27 rfl rfl ?_
      refine r_aload_n 0 d_Mo_countTowns_28 rfl rfl ?_
      refine r_getI d_Mo_countTowns_29 fl_Mo_63 sh_49 (by decide) ?_
      refine r_iload_n 2 d_Mo_countTowns_32 rfl rfl ?_
      obtain ⟨vu4, evu4, hf⟩ := bnd hf
      refine r_callV [.int (M_14.1 49 0), .int z2_14] d_Mo_countTowns_33 lk_Mo_82 sh_49 (cm_Mo_findCounts evu4) (by decide) rfl rfl (Nat.le_of_ble_eq_true rfl) ?_
      refine r_iconst (v := 1) d_Mo_countTowns_36 (by decide) ?_
      refine r_istore_n (lv' := [some (.ref 49), some (.int z1_14), some (.int z2_14), some (.int 1), none]) 3 d_Mo_countTowns_37 rfl (by decide) rfl ?_
      refine r_iconst (v := 0) d_Mo_countTowns_38 (by decide) ?_
      refine r_istore (lv' := [some (.ref 49), some (.int z1_14), some (.int z2_14), some (.int 1), some (.int 0)]) d_Mo_countTowns_39 (by decide) rfl ?_
      obtain ⟨ju5, hju5, hf⟩ := lt_ex hf
      have Kju5 : ∀ (xu6 : Int32), ju5 xu6 = some ru → SW G 2 c_Mo_countTowns R_Mo 5 (some .int) (some (.int ru.1), ru.2) vu4 83 [some (.ref 49), some (.int z1_14), some (.int z2_14), some (.int xu6), none] [] := by
        intro xu6 hf
        rw [hju5] at hf
        refine r_iload_n 1 d_Mo_countTowns_83 rfl rfl ?_
        refine r_iload_n 3 d_Mo_countTowns_84 rfl rfl ?_
        obtain ⟨ju7, hju7, hf⟩ := lt_ex hf
        have Kju7 : ∀ (xu8 : Int32), ju7 xu8 = some ru → SW G 2 c_Mo_countTowns R_Mo 5 (some .int) (some (.int ru.1), ru.2) vu4 93 [some (.ref 49), none, some (.int z2_14), some (.int xu6), none] [.int xu8, .int z1_14] := by
          intro xu8 hf
          rw [hju7] at hf
          refine r_iadd d_Mo_countTowns_93 ?_
          refine nmI (fun xu9 hxu9 => ?_)
          replace hf := lt_of hxu9 hf
          refine r_istore_n (lv' := [some (.ref 49), some (.int xu9), some (.int z2_14), some (.int xu6), none]) 1 d_Mo_countTowns_94 rfl (by decide) rfl ?_
          refine r_aload_n 0 d_Mo_countTowns_95 rfl rfl ?_
          refine r_dup d_Mo_countTowns_96 rfl ?_
          refine r_getI d_Mo_countTowns_97 fl_Mo_265 sh_49 (by decide) ?_
          refine r_iload_n 3 d_Mo_countTowns_100 rfl rfl ?_
          obtain ⟨ju10, hju10, hf⟩ := lt_ex hf
          have Kju10 : ∀ (xu11 : Int32), ju10 xu11 = some ru → SW G 2 c_Mo_countTowns R_Mo 5 (some .int) (some (.int ru.1), ru.2) vu4 109 [some (.ref 49), some (.int xu9), some (.int z2_14), some (.int xu6), none] [.int xu11, .int (vu4.1 49 28), .ref 49] := by
            intro xu11 hf
            rw [hju10] at hf
            refine r_ior d_Mo_countTowns_109 ?_
            refine r_putI d_Mo_countTowns_110 fl_Mo_265 sh_49 (Or.inl rfl) rfl ?_
            refine nmM (fun Mu12 hMu12 => ?_)
            replace hf := lt_of hMu12 hf
            refine r_aload_n 0 d_Mo_countTowns_113 rfl rfl ?_
            refine r_dup d_Mo_countTowns_114 rfl ?_
            refine r_getI d_Mo_countTowns_115 fl_Mo_268 sh_49 (by decide) ?_
            refine r_iload_n 3 d_Mo_countTowns_118 rfl rfl ?_
            obtain ⟨ju13, hju13, hf⟩ := lt_ex hf
            have Kju13 : ∀ (xu14 : Int32), ju13 xu14 = some ru → SW G 2 c_Mo_countTowns R_Mo 5 (some .int) (some (.int ru.1), ru.2) Mu12 127 [some (.ref 49), some (.int xu9), some (.int z2_14), none, none] [.int xu14, .int (Mu12.1 49 29), .ref 49] := by
              intro xu14 hf
              rw [hju13] at hf
              refine r_iand d_Mo_countTowns_127 ?_
              refine r_putI d_Mo_countTowns_128 fl_Mo_268 sh_49 (Or.inl rfl) rfl ?_
              refine nmM (fun Mu15 hMu15 => ?_)
              replace hf := lt_of hMu15 hf
              obtain ⟨xu16, hxu16⟩ : ∃ y : Int32, y = z2_14 + 1 := ⟨_, rfl⟩
              replace hf := lt_of hxu16 hf
              refine r_iinc (lv' := [some (.ref 49), some (.int xu9), some (.int xu16), none, none]) d_Mo_countTowns_131 rfl (by rw [hxu16]; rfl) (by decide) rfl ?_
              refine r_goto 14 d_Mo_countTowns_134 (by decide) ?_
              exact ih xu9 xu16 Mu15  hf
            refine r_if_eq 126 d_Mo_countTowns_119 (by decide) (fun qu17 => ?_) (fun qu17 => ?_)
            · replace hf := ip qu17 hf
              refine r_iconst (v := (-1)) d_Mo_countTowns_126 (by decide) ?_
              refine r_weak [3] (lv' := [some (.ref 49), some (.int xu9), some (.int z2_14), none, none]) rfl ?_
              exact Kju13 (-1)  hf
            · replace hf := im qu17 hf
              refine r_iload_n 2 d_Mo_countTowns_122 rfl rfl ?_
              refine r_goto 127 d_Mo_countTowns_123 (by decide) ?_
              refine r_weak [3] (lv' := [some (.ref 49), some (.int xu9), some (.int z2_14), none, none]) rfl ?_
              exact Kju13 z2_14  hf
          refine r_if_eq 108 d_Mo_countTowns_101 (by decide) (fun qu18 => ?_) (fun qu18 => ?_)
          · replace hf := ip qu18 hf
            refine r_iconst (v := 0) d_Mo_countTowns_108 (by decide) ?_
            exact Kju10 0  hf
          · replace hf := im qu18 hf
            refine r_iload_n 2 d_Mo_countTowns_104 rfl rfl ?_
            refine r_goto 109 d_Mo_countTowns_105 (by decide) ?_
            exact Kju10 z2_14  hf
        refine r_if_eq 92 d_Mo_countTowns_85 (by decide) (fun qu19 => ?_) (fun qu19 => ?_)
        · replace hf := ip qu19 hf
          refine r_iconst (v := 0) d_Mo_countTowns_92 (by decide) ?_
          refine r_weak [1] (lv' := [some (.ref 49), none, some (.int z2_14), some (.int xu6), none]) rfl ?_
          exact Kju7 0  hf
        · replace hf := im qu19 hf
          refine r_iconst (v := 1) d_Mo_countTowns_88 (by decide) ?_
          refine r_goto 93 d_Mo_countTowns_89 (by decide) ?_
          refine r_weak [1] (lv' := [some (.ref 49), none, some (.int z2_14), some (.int xu6), none]) rfl ?_
          exact Kju7 1  hf
      exact l_Mo_countTowns_41 (G := G) (ru := ru) Nu vu4 ju5 z1_14 z2_14  Kju5 Nu 1 0 hf
theorem cm_Mo_countTowns {G : GT} {Nu : Nat} {Mu : Mm}  {ru : Int32 × Mm}  (hf : f_Mo_countTowns Nu Mu = some ru) : CM G 2 y_Mo_countTowns c_Mo_countTowns 5 (some .int) (some (.int ru.1), ru.2) Mu [.ref 49] := by
  unfold f_Mo_countTowns at hf
  refine CM.of (own := R_Mo) (lv := [some (.ref 49), none, none, none, none]) (by decide) rfl (Nat.le_of_ble_eq_true rfl) rfl ?_
  refine r_iconst (v := 0) d_Mo_countTowns_0 (by decide) ?_
  refine r_istore_n (lv' := [some (.ref 49), some (.int 0), none, none, none]) 1 d_Mo_countTowns_1 rfl (by decide) rfl ?_
  refine r_aload_n 0 d_Mo_countTowns_2 rfl rfl ?_
  refine r_iconst (v := 0) d_Mo_countTowns_3 (by decide) ?_
  refine r_putI d_Mo_countTowns_4 fl_Mo_265 sh_49 (Or.inl rfl) rfl ?_
  refine nmM (fun Mu1 hMu1 => ?_)
  replace hf := lt_of hMu1 hf
  refine r_aload_n 0 d_Mo_countTowns_7 rfl rfl ?_
  refine r_iconst (v := (-1)) d_Mo_countTowns_8 (by decide) ?_
  refine r_putI d_Mo_countTowns_9 fl_Mo_268 sh_49 (Or.inl rfl) rfl ?_
  refine nmM (fun Mu2 hMu2 => ?_)
  replace hf := lt_of hMu2 hf
  refine r_iconst (v := 0) d_Mo_countTowns_12 (by decide) ?_
  refine r_istore_n (lv' := [some (.ref 49), some (.int 0), some (.int 0), none, none]) 2 d_Mo_countTowns_13 rfl (by decide) rfl ?_
  exact l_Mo_countTowns_14 (G := G) (ru := ru) Nu   Nu 0 0 Mu2 hf
def f_Mo_canBe (Nu : Nat) (Mu : Mm) : Option (Int32 × Mm) := if (Mu.1 49 0) ≤ 6 then (f_Mo_countTowns Nu Mu).bind fun vu2 => lt vu2.1 fun vu3 => lt vu2.2 fun Mu4 => some (vu3, Mu4) else some ((-1000000003), Mu)
theorem cm_Mo_canBe {G : GT} {Nu : Nat} {Mu : Mm}  {ru : Int32 × Mm}  (hf : f_Mo_canBe Nu Mu = some ru) : CM G 3 y_Mo_canBe c_Mo_canBe 1 (some .int) (some (.int ru.1), ru.2) Mu [.ref 49] := by
  unfold f_Mo_canBe at hf
  refine CM.of (own := R_Mo) (lv := [some (.ref 49)]) (by decide) rfl (Nat.le_of_ble_eq_true rfl) rfl ?_
  refine r_aload_n 0 d_Mo_canBe_0 rfl rfl ?_
  refine r_getI d_Mo_canBe_1 fl_Mo_63 sh_49 (by decide) ?_
  refine r_bipush (v := 6) d_Mo_canBe_4 (by decide) ?_
  refine r_icmp_le 14 d_Mo_canBe_6 (by decide) (fun qu1 => ?_) (fun qu1 => ?_)
  · replace hf := ip qu1 hf
    refine r_aload_n 0 d_Mo_canBe_14 rfl rfl ?_
    obtain ⟨vu2, evu2, hf⟩ := bnd hf
    obtain ⟨vu3, Mu4⟩ := vu2
    replace hf := lt_of (rfl : vu3 = (vu3, Mu4).1) hf
    replace hf := lt_of (rfl : Mu4 = (vu3, Mu4).2) hf
    refine r_callV [] d_Mo_canBe_15 lk_Mo_271 sh_49 (cm_Mo_countTowns evu2) (by decide) rfl rfl (Nat.le_of_ble_eq_true rfl) ?_
    obtain rfl := Option.some.inj hf
    exact r_ireturn d_Mo_canBe_18 rfl rfl
  · replace hf := im qu1 hf
    refine r_ldc d_Mo_canBe_9 k_Mo_210 ?_
    refine r_goto 18 d_Mo_canBe_11 (by decide) ?_
    obtain rfl := Option.some.inj hf
    exact r_ireturn d_Mo_canBe_18 rfl rfl
def f_Mo_sure (Nu : Nat) (p0 : Int32) (p1 : Int32) (Mu : Mm) : Option (Int32 × Mm) := if (f_Mo_isPerson p0 Mu) = 0 then some ((-1000000001), Mu) else if (f_Mo_in p1.toInt64 0 1) = 0 then some ((-1000000002), Mu) else if (Mu.1 49 0) ≤ 6 then (f_Mo_countTowns Nu Mu).bind fun vu4 => lt vu4.1 fun vu5 => lt vu4.2 fun Mu6 => if vu5 = 0 then some (0, Mu6) else lt (fun (xu9 : Int32) => (f_Mo_friendsIn Nu (Mu6.1 49 0) xu9 p0).bind fun vu10 => some (vu10, Mu6)) fun ju8 => if p1 = 0 then ju8 (Mu6.1 49 29) else ju8 (Mu6.1 49 28) else some ((-1000000003), Mu)
theorem cm_Mo_sure {G : GT} {Nu : Nat} {p0 : Int32} {p1 : Int32} {Mu : Mm}  {ru : Int32 × Mm}  (hf : f_Mo_sure Nu p0 p1 Mu = some ru) : CM G 3 y_Mo_sure c_Mo_sure 4 (some .int) (some (.int ru.1), ru.2) Mu [.ref 49, .int p0, .int p1] := by
  unfold f_Mo_sure at hf
  refine CM.of (own := R_Mo) (lv := [some (.ref 49), some (.int p0), some (.int p1), none]) (by decide) rfl (Nat.le_of_ble_eq_true rfl) rfl ?_
  refine r_aload_n 0 d_Mo_sure_0 rfl rfl ?_
  refine r_iload_n 1 d_Mo_sure_1 rfl rfl ?_
  refine r_callV [.int p0] d_Mo_sure_2 lk_Mo_70 sh_49 (cm_Mo_isPerson p0 Mu) (by decide) rfl rfl (Nat.le_of_ble_eq_true rfl) ?_
  refine r_if_ne 11 d_Mo_sure_5 (by decide) (fun qu1 => ?_) (fun qu1 => ?_)
  · replace hf := im qu1 hf
    refine r_iload_n 2 d_Mo_sure_11 rfl rfl ?_
    refine r_i2l d_Mo_sure_12 ?_
    refine r_lconst (v := 0) d_Mo_sure_13 (by decide) ?_
    refine r_lconst (v := 1) d_Mo_sure_14 (by decide) ?_
    refine r_callS [.long p1.toInt64, .long 0, .long 1] d_Mo_sure_15 lk_Mo_66 (cm_Mo_in p1.toInt64 0 1 Mu) (by decide) rfl rfl (Nat.le_of_ble_eq_true rfl) ?_
    refine r_if_ne 24 d_Mo_sure_18 (by decide) (fun qu2 => ?_) (fun qu2 => ?_)
    · replace hf := im qu2 hf
      refine r_aload_n 0 d_Mo_sure_24 rfl rfl ?_
      refine r_getI d_Mo_sure_25 fl_Mo_63 sh_49 (by decide) ?_
      refine r_bipush (v := 6) d_Mo_sure_28 (by decide) ?_
      refine r_icmp_le 36 d_Mo_sure_30 (by decide) (fun qu3 => ?_) (fun qu3 => ?_)
      · replace hf := ip qu3 hf
        refine r_aload_n 0 d_Mo_sure_36 rfl rfl ?_
        obtain ⟨vu4, evu4, hf⟩ := bnd hf
        obtain ⟨vu5, Mu6⟩ := vu4
        replace hf := lt_of (rfl : vu5 = (vu5, Mu6).1) hf
        replace hf := lt_of (rfl : Mu6 = (vu5, Mu6).2) hf
        refine r_callV [] d_Mo_sure_37 lk_Mo_271 sh_49 (cm_Mo_countTowns evu4) (by decide) rfl rfl (Nat.le_of_ble_eq_true rfl) ?_
        refine r_istore_n (lv' := [some (.ref 49), some (.int p0), some (.int p1), some (.int vu5)]) 3 d_Mo_sure_40 rfl (by decide) rfl ?_
        refine r_iload_n 3 d_Mo_sure_41 rfl rfl ?_
        refine r_if_ne 49 d_Mo_sure_42 (by decide) (fun qu7 => ?_) (fun qu7 => ?_)
        · replace hf := im qu7 hf
          refine r_aload_n 0 d_Mo_sure_49 rfl rfl ?_
          refine r_aload_n 0 d_Mo_sure_50 rfl rfl ?_
          refine r_getI d_Mo_sure_51 fl_Mo_63 sh_49 (by decide) ?_
          refine r_iload_n 2 d_Mo_sure_54 rfl rfl ?_
          obtain ⟨ju8, hju8, hf⟩ := lt_ex hf
          have Kju8 : ∀ (xu9 : Int32), ju8 xu9 = some ru → SW G 3 c_Mo_sure R_Mo 4 (some .int) (some (.int ru.1), ru.2) Mu6 69 [none, some (.int p0), none, none] [.int xu9, .int (Mu6.1 49 0), .ref 49] := by
            intro xu9 hf
            rw [hju8] at hf
            refine r_iload_n 1 d_Mo_sure_69 rfl rfl ?_
            obtain ⟨vu10, evu10, hf⟩ := bnd hf
            refine r_callV [.int (Mu6.1 49 0), .int xu9, .int p0] d_Mo_sure_70 lk_Mo_204 sh_49 (cm_Mo_friendsIn evu10) (by decide) rfl rfl (Nat.le_of_ble_eq_true rfl) ?_
            obtain rfl := Option.some.inj hf
            exact r_ireturn d_Mo_sure_73 rfl rfl
          refine r_if_ne 65 d_Mo_sure_55 (by decide) (fun qu11 => ?_) (fun qu11 => ?_)
          · replace hf := im qu11 hf
            refine r_aload_n 0 d_Mo_sure_65 rfl rfl ?_
            refine r_getI d_Mo_sure_66 fl_Mo_265 sh_49 (by decide) ?_
            refine r_weak [0, 2, 3] (lv' := [none, some (.int p0), none, none]) rfl ?_
            exact Kju8 (Mu6.1 49 28)  hf
          · replace hf := ip qu11 hf
            refine r_aload_n 0 d_Mo_sure_58 rfl rfl ?_
            refine r_getI d_Mo_sure_59 fl_Mo_268 sh_49 (by decide) ?_
            refine r_goto 69 d_Mo_sure_62 (by decide) ?_
            refine r_weak [0, 2, 3] (lv' := [none, some (.int p0), none, none]) rfl ?_
            exact Kju8 (Mu6.1 49 29)  hf
        · replace hf := ip qu7 hf
          refine r_iconst (v := 0) d_Mo_sure_45 (by decide) ?_
          refine r_goto 73 d_Mo_sure_46 (by decide) ?_
          obtain rfl := Option.some.inj hf
          exact r_ireturn d_Mo_sure_73 rfl rfl
      · replace hf := im qu3 hf
        refine r_ldc d_Mo_sure_33 k_Mo_210 ?_
        obtain rfl := Option.some.inj hf
        exact r_ireturn d_Mo_sure_35 rfl rfl
    · replace hf := ip qu2 hf
      refine r_ldc d_Mo_sure_21 k_Mo_94 ?_
      obtain rfl := Option.some.inj hf
      exact r_ireturn d_Mo_sure_23 rfl rfl
  · replace hf := ip qu1 hf
    refine r_ldc d_Mo_sure_8 k_Mo_203 ?_
    obtain rfl := Option.some.inj hf
    exact r_ireturn d_Mo_sure_10 rfl rfl
def L_Mo_liarIn_13 (Nu : Nat) (vu1 : Mm) (ju2 : Int32 → Option (Int32 × Mm)) : Nat → Int32 → Int32 → Option (Int32 × Mm)
  | 0, _, _ => none
  | nu + 1, z2_13, z3_13 => if (vu1.1 49 0) ≤ z3_13 then ju2 z2_13 else if inb z3_13 8 = true then if inb z3_13 8 = true then lt (fun (xu10 : Int32) => lt (z2_13 ||| xu10) fun xu11 => lt (z3_13 + 1) fun xu12 => L_Mo_liarIn_13 Nu vu1 ju2 nu xu11 xu12) fun ju9 => if (vu1.1 51 (Int32.toNatClampNeg z3_13)) = (vu1.1 50 (Int32.toNatClampNeg z3_13)) then ju9 0 else ju9 ((1 : Int32) <<< (z3_13 &&& 31)) else none else none
def f_Mo_liarIn (Nu : Nat) (p0 : Int32) (Mu : Mm) : Option (Int32 × Mm) := (f_Mo_findCounts Nu (Mu.1 49 0) p0 Mu).bind fun vu1 => lt (fun (xu3 : Int32) => (f_Mo_bits Nu xu3).bind fun vu4 => if vu4 = 1 then some (xu3, vu1) else some (0, vu1)) fun ju2 => L_Mo_liarIn_13 Nu vu1 ju2 Nu 0 0
theorem l_Mo_liarIn_13 {G : GT} {ru : Int32 × Mm} (Nu : Nat) (vu1 : Mm) (ju2 : Int32 → Option (Int32 × Mm))  (Kju2 : ∀ (w2 : Int32), ju2 w2 = some ru → SW G 2 c_Mo_liarIn R_Mo 4 (some .int) (some (.int ru.1), ru.2) vu1 52 [none, none, some (.int w2), none] [])  : ∀ (nu : Nat) (z2_13 : Int32) (z3_13 : Int32), L_Mo_liarIn_13 Nu vu1 ju2 nu z2_13 z3_13 = some ru → SW G 2 c_Mo_liarIn R_Mo 4 (some .int) (some (.int ru.1), ru.2) vu1 13 [some (.ref 49), none, some (.int z2_13), some (.int z3_13)] []
  | 0, _, _, hf => by cases hf
  | nu + 1, z2_13, z3_13, hf => by
    have ih := l_Mo_liarIn_13 (G := G) (ru := ru) Nu vu1 ju2  Kju2 nu
    rw [L_Mo_liarIn_13] at hf
    refine r_iload_n 3 d_Mo_liarIn_13 rfl rfl ?_
    refine r_aload_n 0 d_Mo_liarIn_14 rfl rfl ?_
    refine r_getI d_Mo_liarIn_15 fl_Mo_63 sh_49 (by decide) ?_
    refine r_icmp_ge 52 d_Mo_liarIn_18 (by decide) (fun qu6 => ?_) (fun qu6 => ?_)
    · replace hf := ip qu6 hf
      refine r_weak [0, 3] (lv' := [none, none, some (.int z2_13), none]) rfl ?_
      exact Kju2 z2_13  hf
    · replace hf := im qu6 hf
      refine r_iload_n 2 d_Mo_liarIn_21 rfl rfl ?_
      refine r_aload_n 0 d_Mo_liarIn_22 rfl rfl ?_
      refine r_getR 51 d_Mo_liarIn_23 fl_Mo_20 sh_49 rfl rf_49_8 ?_
      refine r_iload_n 3 d_Mo_liarIn_26 rfl rfl ?_
      obtain ⟨qu7, hf⟩ := ck hf
      refine r_iald d_Mo_liarIn_27 sh_51 qu7 ?_
      refine r_aload_n 0 d_Mo_liarIn_28 rfl rfl ?_
      refine r_getR 50 d_Mo_liarIn_29 fl_Mo_16 sh_49 rfl rf_49_6 ?_
      refine r_iload_n 3 d_Mo_liarIn_32 rfl rfl ?_
      obtain ⟨qu8, hf⟩ := ck hf
      refine r_iald d_Mo_liarIn_33 sh_50 qu8 ?_
      obtain ⟨ju9, hju9, hf⟩ := lt_ex hf
      have Kju9 : ∀ (xu10 : Int32), ju9 xu10 = some ru → SW G 2 c_Mo_liarIn R_Mo 4 (some .int) (some (.int ru.1), ru.2) vu1 44 [some (.ref 49), none, none, some (.int z3_13)] [.int xu10, .int z2_13] := by
        intro xu10 hf
        rw [hju9] at hf
        refine r_ior d_Mo_liarIn_44 ?_
        refine nmI (fun xu11 hxu11 => ?_)
        replace hf := lt_of hxu11 hf
        refine r_istore_n (lv' := [some (.ref 49), none, some (.int xu11), some (.int z3_13)]) 2 d_Mo_liarIn_45 rfl (by decide) rfl ?_
        obtain ⟨xu12, hxu12⟩ : ∃ y : Int32, y = z3_13 + 1 := ⟨_, rfl⟩
        replace hf := lt_of hxu12 hf
        refine r_iinc (lv' := [some (.ref 49), none, some (.int xu11), some (.int xu12)]) d_Mo_liarIn_46 rfl (by rw [hxu12]; rfl) (by decide) rfl ?_
        refine r_goto 13 d_Mo_liarIn_49 (by decide) ?_
        exact ih xu11 xu12  hf
      refine r_icmp_ne 41 d_Mo_liarIn_34 (by decide) (fun qu13 => ?_) (fun qu13 => ?_)
      · replace hf := im qu13 hf
        refine r_iconst (v := 1) d_Mo_liarIn_41 (by decide) ?_
        refine r_iload_n 3 d_Mo_liarIn_42 rfl rfl ?_
        refine r_ishl d_Mo_liarIn_43 ?_
        refine r_weak [2] (lv' := [some (.ref 49), none, none, some (.int z3_13)]) rfl ?_
        exact Kju9 ((1 : Int32) <<< (z3_13 &&& 31))  hf
      · replace hf := ip qu13 hf
        refine r_iconst (v := 0) d_Mo_liarIn_37 (by decide) ?_
        refine r_goto 44 d_Mo_liarIn_38 (by decide) ?_
        refine r_weak [2] (lv' := [some (.ref 49), none, none, some (.int z3_13)]) rfl ?_
        exact Kju9 0  hf
theorem cm_Mo_liarIn {G : GT} {Nu : Nat} {p0 : Int32} {Mu : Mm}  {ru : Int32 × Mm}  (hf : f_Mo_liarIn Nu p0 Mu = some ru) : CM G 2 y_Mo_liarIn c_Mo_liarIn 4 (some .int) (some (.int ru.1), ru.2) Mu [.ref 49, .int p0] := by
  unfold f_Mo_liarIn at hf
  refine CM.of (own := R_Mo) (lv := [some (.ref 49), some (.int p0), none, none]) (by decide) rfl (Nat.le_of_ble_eq_true rfl) rfl ?_
  refine r_aload_n 0 d_Mo_liarIn_0 rfl rfl ?_
  refine r_aload_n 0 d_Mo_liarIn_1 rfl rfl ?_
  refine r_getI d_Mo_liarIn_2 fl_Mo_63 sh_49 (by decide) ?_
  refine r_iload_n 1 d_Mo_liarIn_5 rfl rfl ?_
  obtain ⟨vu1, evu1, hf⟩ := bnd hf
  refine r_callV [.int (Mu.1 49 0), .int p0] d_Mo_liarIn_6 lk_Mo_82 sh_49 (cm_Mo_findCounts evu1) (by decide) rfl rfl (Nat.le_of_ble_eq_true rfl) ?_
  refine r_iconst (v := 0) d_Mo_liarIn_9 (by decide) ?_
  refine r_istore_n (lv' := [some (.ref 49), some (.int p0), some (.int 0), none]) 2 d_Mo_liarIn_10 rfl (by decide) rfl ?_
  refine r_iconst (v := 0) d_Mo_liarIn_11 (by decide) ?_
  refine r_istore_n (lv' := [some (.ref 49), some (.int p0), some (.int 0), some (.int 0)]) 3 d_Mo_liarIn_12 rfl (by decide) rfl ?_
  obtain ⟨ju2, hju2, hf⟩ := lt_ex hf
  have Kju2 : ∀ (xu3 : Int32), ju2 xu3 = some ru → SW G 2 c_Mo_liarIn R_Mo 4 (some .int) (some (.int ru.1), ru.2) vu1 52 [none, none, some (.int xu3), none] [] := by
    intro xu3 hf
    rw [hju2] at hf
    refine r_iload_n 2 d_Mo_liarIn_52 rfl rfl ?_
    obtain ⟨vu4, evu4, hf⟩ := bnd hf
    refine r_callS [.int xu3] d_Mo_liarIn_53 lk_Mo_197 (cm_Mo_bits evu4) (by decide) rfl rfl (Nat.le_of_ble_eq_true rfl) ?_
    refine r_iconst (v := 1) d_Mo_liarIn_56 (by decide) ?_
    refine r_icmp_ne 64 d_Mo_liarIn_57 (by decide) (fun qu5 => ?_) (fun qu5 => ?_)
    · replace hf := im qu5 hf
      refine r_iconst (v := 0) d_Mo_liarIn_64 (by decide) ?_
      obtain rfl := Option.some.inj hf
      exact r_ireturn d_Mo_liarIn_65 rfl rfl
    · replace hf := ip qu5 hf
      refine r_iload_n 2 d_Mo_liarIn_60 rfl rfl ?_
      refine r_goto 65 d_Mo_liarIn_61 (by decide) ?_
      obtain rfl := Option.some.inj hf
      exact r_ireturn d_Mo_liarIn_65 rfl rfl
  refine r_weak [1] (lv' := [some (.ref 49), none, some (.int 0), some (.int 0)]) rfl ?_
  exact l_Mo_liarIn_13 (G := G) (ru := ru) Nu vu1 ju2  Kju2 Nu 0 0 hf
def L_Mo_liar_25 (Nu : Nat) : Nat → Int32 → Int32 → Mm → Option (Int32 × Mm)
  | 0, _, _, _ => none
  | nu + 1, z1_25, z2_25, M_25 => if ((1 : Int32) <<< ((f_Mo_pairs (M_25.1 49 0)) &&& 31)) ≤ z2_25 then some (z1_25, M_25) else (f_Mo_liarIn Nu z2_25 M_25).bind fun vu7 => lt vu7.1 fun vu8 => lt vu7.2 fun Mu9 => lt (z1_25 ||| vu8) fun xu10 => lt (z2_25 + 1) fun xu11 => L_Mo_liar_25 Nu nu xu10 xu11 Mu9
def f_Mo_liar (Nu : Nat) (Mu : Mm) : Option (Int32 × Mm) := if (Mu.1 49 0) ≤ 6 then (f_Mo_countTowns Nu Mu).bind fun vu2 => lt vu2.1 fun vu3 => lt vu2.2 fun Mu4 => if vu3 ≤ 0 then L_Mo_liar_25 Nu Nu 0 0 Mu4 else some (0, Mu4) else some ((-1000000003), Mu)
theorem l_Mo_liar_25 {G : GT} {ru : Int32 × Mm} (Nu : Nat)    : ∀ (nu : Nat) (z1_25 : Int32) (z2_25 : Int32) (M_25 : Mm), L_Mo_liar_25 Nu nu z1_25 z2_25 M_25 = some ru → SW G 3 c_Mo_liar R_Mo 3 (some .int) (some (.int ru.1), ru.2) M_25 25 [some (.ref 49), some (.int z1_25), some (.int z2_25)] []
  | 0, _, _, _, hf => by cases hf
  | nu + 1, z1_25, z2_25, M_25, hf => by
    have ih := l_Mo_liar_25 (G := G) (ru := ru) Nu   nu
    rw [L_Mo_liar_25] at hf
    refine r_iload_n 2 d_Mo_liar_25 rfl rfl ?_
    refine r_iconst (v := 1) d_Mo_liar_26 (by decide) ?_
    refine r_aload_n 0 d_Mo_liar_27 rfl rfl ?_
    refine r_getI d_Mo_liar_28 fl_Mo_63 sh_49 (by decide) ?_
    refine r_callS [.int (M_25.1 49 0)] d_Mo_liar_31 lk_Mo_254 (cm_Mo_pairs (M_25.1 49 0) M_25) (by decide) rfl rfl (Nat.le_of_ble_eq_true rfl) ?_
    refine r_ishl d_Mo_liar_34 ?_
    refine r_icmp_ge 52 d_Mo_liar_35 (by decide) (fun qu6 => ?_) (fun qu6 => ?_)
    · replace hf := ip qu6 hf
      refine r_iload_n 1 d_Mo_liar_52 rfl rfl ?_
      obtain rfl := Option.some.inj hf
      exact r_ireturn d_Mo_liar_53 rfl rfl
    · replace hf := im qu6 hf
      refine r_iload_n 1 d_Mo_liar_38 rfl rfl ?_
      refine r_aload_n 0 d_Mo_liar_39 rfl rfl ?_
      refine r_iload_n 2 d_Mo_liar_40 rfl rfl ?_
      obtain ⟨vu7, evu7, hf⟩ := bnd hf
      obtain ⟨vu8, Mu9⟩ := vu7
      replace hf := lt_of (rfl : vu8 = (vu8, Mu9).1) hf
      replace hf := lt_of (rfl : Mu9 = (vu8, Mu9).2) hf
      refine r_callV [.int z2_25] d_Mo_liar_41 lk_Mo_274 sh_49 (cm_Mo_liarIn evu7) (by decide) rfl rfl (Nat.le_of_ble_eq_true rfl) ?_
      refine r_ior d_Mo_liar_44 ?_
      refine nmI (fun xu10 hxu10 => ?_)
      replace hf := lt_of hxu10 hf
      refine r_istore_n (lv' := [some (.ref 49), some (.int xu10), some (.int z2_25)]) 1 d_Mo_liar_45 rfl (by decide) rfl ?_
      obtain ⟨xu11, hxu11⟩ : ∃ y : Int32, y = z2_25 + 1 := ⟨_, rfl⟩
      replace hf := lt_of hxu11 hf
      refine r_iinc (lv' := [some (.ref 49), some (.int xu10), some (.int xu11)]) d_Mo_liar_46 rfl (by rw [hxu11]; rfl) (by decide) rfl ?_
      refine r_goto 25 d_Mo_liar_49 (by decide) ?_
      exact ih xu10 xu11 Mu9  hf
theorem cm_Mo_liar {G : GT} {Nu : Nat} {Mu : Mm}  {ru : Int32 × Mm}  (hf : f_Mo_liar Nu Mu = some ru) : CM G 3 y_Mo_liar c_Mo_liar 3 (some .int) (some (.int ru.1), ru.2) Mu [.ref 49] := by
  unfold f_Mo_liar at hf
  refine CM.of (own := R_Mo) (lv := [some (.ref 49), none, none]) (by decide) rfl (Nat.le_of_ble_eq_true rfl) rfl ?_
  refine r_aload_n 0 d_Mo_liar_0 rfl rfl ?_
  refine r_getI d_Mo_liar_1 fl_Mo_63 sh_49 (by decide) ?_
  refine r_bipush (v := 6) d_Mo_liar_4 (by decide) ?_
  refine r_icmp_le 12 d_Mo_liar_6 (by decide) (fun qu1 => ?_) (fun qu1 => ?_)
  · replace hf := ip qu1 hf
    refine r_aload_n 0 d_Mo_liar_12 rfl rfl ?_
    obtain ⟨vu2, evu2, hf⟩ := bnd hf
    obtain ⟨vu3, Mu4⟩ := vu2
    replace hf := lt_of (rfl : vu3 = (vu3, Mu4).1) hf
    replace hf := lt_of (rfl : Mu4 = (vu3, Mu4).2) hf
    refine r_callV [] d_Mo_liar_13 lk_Mo_271 sh_49 (cm_Mo_countTowns evu2) (by decide) rfl rfl (Nat.le_of_ble_eq_true rfl) ?_
    refine r_if_le 21 d_Mo_liar_16 (by decide) (fun qu5 => ?_) (fun qu5 => ?_)
    · replace hf := ip qu5 hf
      refine r_iconst (v := 0) d_Mo_liar_21 (by decide) ?_
      refine r_istore_n (lv' := [some (.ref 49), some (.int 0), none]) 1 d_Mo_liar_22 rfl (by decide) rfl ?_
      refine r_iconst (v := 0) d_Mo_liar_23 (by decide) ?_
      refine r_istore_n (lv' := [some (.ref 49), some (.int 0), some (.int 0)]) 2 d_Mo_liar_24 rfl (by decide) rfl ?_
      exact l_Mo_liar_25 (G := G) (ru := ru) Nu   Nu 0 0 Mu4 hf
    · replace hf := im qu5 hf
      refine r_iconst (v := 0) d_Mo_liar_19 (by decide) ?_
      obtain rfl := Option.some.inj hf
      exact r_ireturn d_Mo_liar_20 rfl rfl
  · replace hf := im qu1 hf
    refine r_ldc d_Mo_liar_9 k_Mo_210 ?_
    obtain rfl := Option.some.inj hf
    exact r_ireturn d_Mo_liar_11 rfl rfl
def L_Mo_areUnlike_12 (Nu : Nat) (Mu : Mm) (z3_4 : Int32) (ju3 : Int32 → Option (Int32)) : Nat → Int32 → Int32 → Option (Int32)
  | 0, _, _ => none
  | nu + 1, z2_12, z4_12 => if z3_4 ≤ z4_12 then ju3 z2_12 else lt (fun (xu8 : Int32) => lt (z4_12 + 1) fun xu9 => L_Mo_areUnlike_12 Nu Mu z3_4 ju3 nu xu8 xu9) fun ju7 => lt (fun (_ : Unit) => ju7 0) fun ju10 => if z2_12 = 0 then ju10 () else if inb z3_4 8 = true then if inb z4_12 8 = true then if (Mu.1 56 (Int32.toNatClampNeg z3_4)) = (Mu.1 56 (Int32.toNatClampNeg z4_12)) then ju10 () else ju7 1 else none else none
def L_Mo_areUnlike_4 (Nu : Nat) (p0 : Int32) (Mu : Mm) : Nat → Int32 → Int32 → Option (Int32)
  | 0, _, _ => none
  | nu + 1, z2_4, z3_4 => if p0 ≤ z3_4 then if (z2_4 = 0 ∨ z2_4 = 1) then some z2_4 else none else lt (fun (xu4 : Int32) => lt (z3_4 + 1) fun xu5 => L_Mo_areUnlike_4 Nu p0 Mu nu xu4 xu5) fun ju3 => L_Mo_areUnlike_12 Nu Mu z3_4 ju3 Nu z2_4 0
def f_Mo_areUnlike (Nu : Nat) (p0 : Int32) (Mu : Mm) : Option (Int32) := L_Mo_areUnlike_4 Nu p0 Mu Nu 1 0
theorem l_Mo_areUnlike_12 {G : GT} {ru : Int32} (Nu : Nat) (Mu : Mm) (z3_4 : Int32) (ju3 : Int32 → Option (Int32)) (p0 : Int32)  (Kju3 : ∀ (w2 : Int32), ju3 w2 = some ru → SW G 1 c_Mo_areUnlike R_Mo 5 (some .boolean) (some (.int ru), Mu) Mu 50 [some (.ref 49), some (.int p0), some (.int w2), some (.int z3_4), none] [])  : ∀ (nu : Nat) (z2_12 : Int32) (z4_12 : Int32), L_Mo_areUnlike_12 Nu Mu z3_4 ju3 nu z2_12 z4_12 = some ru → SW G 1 c_Mo_areUnlike R_Mo 5 (some .boolean) (some (.int ru), Mu) Mu 12 [some (.ref 49), some (.int p0), some (.int z2_12), some (.int z3_4), some (.int z4_12)] []
  | 0, _, _, hf => by cases hf
  | nu + 1, z2_12, z4_12, hf => by
    have ih := l_Mo_areUnlike_12 (G := G) (ru := ru) Nu Mu z3_4 ju3 p0  Kju3 nu
    rw [L_Mo_areUnlike_12] at hf
    refine r_iload d_Mo_areUnlike_12 rfl ?_
    refine r_iload_n 3 d_Mo_areUnlike_14 rfl rfl ?_
    refine r_icmp_ge 50 d_Mo_areUnlike_15 (by decide) (fun qu6 => ?_) (fun qu6 => ?_)
    · replace hf := ip qu6 hf
      refine r_weak [4] (lv' := [some (.ref 49), some (.int p0), some (.int z2_12), some (.int z3_4), none]) rfl ?_
      exact Kju3 z2_12  hf
    · replace hf := im qu6 hf
      refine r_iload_n 2 d_Mo_areUnlike_18 rfl rfl ?_
      obtain ⟨ju7, hju7, hf⟩ := lt_ex hf
      have Kju7 : ∀ (xu8 : Int32), ju7 xu8 = some ru → SW G 1 c_Mo_areUnlike R_Mo 5 (some .boolean) (some (.int ru), Mu) Mu 43 [some (.ref 49), some (.int p0), none, some (.int z3_4), some (.int z4_12)] [.int xu8] := by
        intro xu8 hf
        rw [hju7] at hf
        refine r_istore_n (lv' := [some (.ref 49), some (.int p0), some (.int xu8), some (.int z3_4), some (.int z4_12)]) 2 d_Mo_areUnlike_43 rfl (by decide) rfl ?_
        obtain ⟨xu9, hxu9⟩ : ∃ y : Int32, y = z4_12 + 1 := ⟨_, rfl⟩
        replace hf := lt_of hxu9 hf
        refine r_iinc (lv' := [some (.ref 49), some (.int p0), some (.int xu8), some (.int z3_4), some (.int xu9)]) d_Mo_areUnlike_44 rfl (by rw [hxu9]; rfl) (by decide) rfl ?_
        refine r_goto 12 d_Mo_areUnlike_47 (by decide) ?_
        exact ih xu8 xu9  hf
      obtain ⟨ju10, hju10, hf⟩ := lt_ex hf
      have Kju10 : ∀ (_ : Unit), ju10 () = some ru → SW G 1 c_Mo_areUnlike R_Mo 5 (some .boolean) (some (.int ru), Mu) Mu 42 [some (.ref 49), some (.int p0), none, some (.int z3_4), some (.int z4_12)] [] := by
        intro _ hf
        rw [hju10] at hf
        refine r_iconst (v := 0) d_Mo_areUnlike_42 (by decide) ?_
        exact Kju7 0  hf
      refine r_if_eq 42 d_Mo_areUnlike_19 (by decide) (fun qu11 => ?_) (fun qu11 => ?_)
      · replace hf := ip qu11 hf
        refine r_weak [2] (lv' := [some (.ref 49), some (.int p0), none, some (.int z3_4), some (.int z4_12)]) rfl ?_
        exact Kju10 ()  hf
      · replace hf := im qu11 hf
        refine r_aload_n 0 d_Mo_areUnlike_22 rfl rfl ?_
        refine r_getR 56 d_Mo_areUnlike_23 fl_Mo_38 sh_49 rfl rf_49_30 ?_
        refine r_iload_n 3 d_Mo_areUnlike_26 rfl rfl ?_
        obtain ⟨qu12, hf⟩ := ck hf
        refine r_iald d_Mo_areUnlike_27 sh_56 qu12 ?_
        refine r_aload_n 0 d_Mo_areUnlike_28 rfl rfl ?_
        refine r_getR 56 d_Mo_areUnlike_29 fl_Mo_38 sh_49 rfl rf_49_30 ?_
        refine r_iload d_Mo_areUnlike_32 rfl ?_
        obtain ⟨qu13, hf⟩ := ck hf
        refine r_iald d_Mo_areUnlike_34 sh_56 qu13 ?_
        refine r_icmp_eq 42 d_Mo_areUnlike_35 (by decide) (fun qu14 => ?_) (fun qu14 => ?_)
        · replace hf := ip qu14 hf
          refine r_weak [2] (lv' := [some (.ref 49), some (.int p0), none, some (.int z3_4), some (.int z4_12)]) rfl ?_
          exact Kju10 ()  hf
        · replace hf := im qu14 hf
          refine r_iconst (v := 1) d_Mo_areUnlike_38 (by decide) ?_
          refine r_goto 43 d_Mo_areUnlike_39 (by decide) ?_
          refine r_weak [2] (lv' := [some (.ref 49), some (.int p0), none, some (.int z3_4), some (.int z4_12)]) rfl ?_
          exact Kju7 1  hf
theorem l_Mo_areUnlike_4 {G : GT} {ru : Int32} (Nu : Nat) (p0 : Int32) (Mu : Mm)    : ∀ (nu : Nat) (z2_4 : Int32) (z3_4 : Int32), L_Mo_areUnlike_4 Nu p0 Mu nu z2_4 z3_4 = some ru → SW G 1 c_Mo_areUnlike R_Mo 5 (some .boolean) (some (.int ru), Mu) Mu 4 [some (.ref 49), some (.int p0), some (.int z2_4), some (.int z3_4), none] []
  | 0, _, _, hf => by cases hf
  | nu + 1, z2_4, z3_4, hf => by
    have ih := l_Mo_areUnlike_4 (G := G) (ru := ru) Nu p0 Mu   nu
    rw [L_Mo_areUnlike_4] at hf
    refine r_iload_n 3 d_Mo_areUnlike_4 rfl rfl ?_
    refine r_iload_n 1 d_Mo_areUnlike_5 rfl rfl ?_
    refine r_icmp_ge 56 d_Mo_areUnlike_6 (by decide) (fun qu1 => ?_) (fun qu1 => ?_)
    · replace hf := ip qu1 hf
      refine r_iload_n 2 d_Mo_areUnlike_56 rfl rfl ?_
      obtain ⟨qu2, hf⟩ := ckp hf
      obtain rfl := Option.some.inj hf
      exact r_zreturn d_Mo_areUnlike_57 rfl qu2 rfl
    · replace hf := im qu1 hf
      refine r_iconst (v := 0) d_Mo_areUnlike_9 (by decide) ?_
      refine r_istore (lv' := [some (.ref 49), some (.int p0), some (.int z2_4), some (.int z3_4), some (.int 0)]) d_Mo_areUnlike_10 (by decide) rfl ?_
      obtain ⟨ju3, hju3, hf⟩ := lt_ex hf
      have Kju3 : ∀ (xu4 : Int32), ju3 xu4 = some ru → SW G 1 c_Mo_areUnlike R_Mo 5 (some .boolean) (some (.int ru), Mu) Mu 50 [some (.ref 49), some (.int p0), some (.int xu4), some (.int z3_4), none] [] := by
        intro xu4 hf
        rw [hju3] at hf
        obtain ⟨xu5, hxu5⟩ : ∃ y : Int32, y = z3_4 + 1 := ⟨_, rfl⟩
        replace hf := lt_of hxu5 hf
        refine r_iinc (lv' := [some (.ref 49), some (.int p0), some (.int xu4), some (.int xu5), none]) d_Mo_areUnlike_50 rfl (by rw [hxu5]; rfl) (by decide) rfl ?_
        refine r_goto 4 d_Mo_areUnlike_53 (by decide) ?_
        exact ih xu4 xu5  hf
      exact l_Mo_areUnlike_12 (G := G) (ru := ru) Nu Mu z3_4 ju3 p0  Kju3 Nu z2_4 0 hf
theorem cm_Mo_areUnlike {G : GT} {Nu : Nat} {p0 : Int32} {Mu : Mm}  {ru : Int32}  (hf : f_Mo_areUnlike Nu p0 Mu = some ru) : CM G 1 y_Mo_areUnlike c_Mo_areUnlike 5 (some .boolean) (some (.int ru), Mu) Mu [.ref 49, .int p0] := by
  unfold f_Mo_areUnlike at hf
  refine CM.of (own := R_Mo) (lv := [some (.ref 49), some (.int p0), none, none, none]) (by decide) rfl (Nat.le_of_ble_eq_true rfl) rfl ?_
  refine r_iconst (v := 1) d_Mo_areUnlike_0 (by decide) ?_
  refine r_istore_n (lv' := [some (.ref 49), some (.int p0), some (.int 1), none, none]) 2 d_Mo_areUnlike_1 rfl (by decide) rfl ?_
  refine r_iconst (v := 0) d_Mo_areUnlike_2 (by decide) ?_
  refine r_istore_n (lv' := [some (.ref 49), some (.int p0), some (.int 1), some (.int 0), none]) 3 d_Mo_areUnlike_3 rfl (by decide) rfl ?_
  exact l_Mo_areUnlike_4 (G := G) (ru := ru) Nu p0 Mu   Nu 1 0 hf
def L_Mo_isWeighed_88 (Nu : Nat) (z7_73 : Int32) (ju12 : Int32 → Int32 → Mm → Option (Int32 × Mm)) : Nat → Int32 → Int32 → Int32 → Mm → Option (Int32 × Mm)
  | 0, _, _, _, _ => none
  | nu + 1, z5_88, z6_88, z8_88, M_88 => if (M_88.1 49 0) ≤ z8_88 then ju12 z5_88 z6_88 M_88 else lt (fun (xu19 : Int32) (Mu20 : Mm) => lt (z5_88 + 1) fun xu21 => lt (z8_88 + 1) fun xu22 => L_Mo_isWeighed_88 Nu z7_73 ju12 nu xu21 xu19 xu22 Mu20) fun ju18 => if (f_Mo_has (M_88.1 49 1) z5_88) = 0 then ju18 z6_88 M_88 else if inb z7_73 8 = true then if inb z6_88 8 = true then if inb z7_73 8 = true then lt (si M_88 56 (Int32.toNatClampNeg z7_73) ((M_88.1 56 (Int32.toNatClampNeg z7_73)) + (M_88.1 58 (Int32.toNatClampNeg z6_88)))) fun Mu27 => if inb z8_88 8 = true then if inb z6_88 8 = true then if inb z8_88 8 = true then lt (si Mu27 56 (Int32.toNatClampNeg z8_88) ((Mu27.1 56 (Int32.toNatClampNeg z8_88)) + (Mu27.1 58 (Int32.toNatClampNeg z6_88)))) fun Mu31 => if inb z6_88 8 = true then lt (si Mu31 57 (Int32.toNatClampNeg z6_88) z5_88) fun Mu33 => lt (z6_88 + 1) fun xu34 => ju18 xu34 Mu33 else none else none else none else none else none else none else none
def L_Mo_isWeighed_73 (Nu : Nat) (ju6 : Mm → Option (Int32 × Mm)) : Nat → Int32 → Int32 → Int32 → Mm → Option (Int32 × Mm)
  | 0, _, _, _, _ => none
  | nu + 1, z5_73, z6_73, z7_73, M_73 => if (M_73.1 49 0) ≤ z7_73 then ju6 M_73 else lt (z7_73 + 1) fun xu11 => lt (fun (xu13 : Int32) (xu14 : Int32) (Mu15 : Mm) => lt (z7_73 + 1) fun xu16 => L_Mo_isWeighed_73 Nu ju6 nu xu13 xu14 xu16 Mu15) fun ju12 => L_Mo_isWeighed_88 Nu z7_73 ju12 Nu z5_73 z6_73 xu11 M_73
def L_Mo_isWeighed_41 (Nu : Nat) (ju4 : Mm → Option (Int32 × Mm)) : Nat → Int32 → Mm → Option (Int32 × Mm)
  | 0, _, _ => none
  | nu + 1, z5_41, M_41 => if (M_41.1 49 0) ≤ z5_41 then ju4 M_41 else if inb z5_41 8 = true then lt (si M_41 56 (Int32.toNatClampNeg z5_41) 0) fun Mu37 => lt (z5_41 + 1) fun xu38 => L_Mo_isWeighed_41 Nu ju4 nu xu38 Mu37 else none
def L_Mo_isWeighed_8 (Nu : Nat) (p1 : Int32) (ju2 : Mm → Option (Int32 × Mm)) : Nat → Int32 → Int32 → Mm → Option (Int32 × Mm)
  | 0, _, _, _ => none
  | nu + 1, z4_8, z5_8, M_8 => if z5_8 < 0 then ju2 M_8 else if ¬ p1 = 0 then if inb z5_8 8 = true then lt (si M_8 58 (Int32.toNatClampNeg z5_8) ((1 : Int32) + (z4_8 - z4_8 / p1 * p1))) fun Mu42 => if ¬ p1 = 0 then lt (z4_8 / p1) fun xu44 => lt (z5_8 + (-1)) fun xu45 => L_Mo_isWeighed_8 Nu p1 ju2 nu xu44 xu45 Mu42 else none else none else none
def f_Mo_isWeighed (Nu : Nat) (p0 : Int32) (p1 : Int32) (p2 : Int32) (Mu : Mm) : Option (Int32 × Mm) := lt (p0 - 1) fun xu1 => lt (fun (Mu3 : Mm) => lt (fun (Mu5 : Mm) => lt (fun (Mu7 : Mm) => (f_Mo_areUnlike Nu (Mu7.1 49 0) Mu7).bind fun vu8 => if (vu8 = 0 ∨ vu8 = 1) then some (vu8, Mu7) else none) fun ju6 => L_Mo_isWeighed_73 Nu ju6 Nu 0 0 0 Mu5) fun ju4 => L_Mo_isWeighed_41 Nu ju4 Nu 0 Mu3) fun ju2 => L_Mo_isWeighed_8 Nu p1 ju2 Nu p2 xu1 Mu
theorem l_Mo_isWeighed_88 {G : GT} {ru : Int32 × Mm} (Nu : Nat) (z7_73 : Int32) (ju12 : Int32 → Int32 → Mm → Option (Int32 × Mm))  (Kju12 : ∀ (w5 : Int32) (w6 : Int32) (Mw : Mm), ju12 w5 w6 Mw = some ru → SW G 2 c_Mo_isWeighed R_Mo 9 (some .boolean) (some (.int ru.1), ru.2) Mw 164 [some (.ref 49), none, none, none, none, some (.int w5), some (.int w6), some (.int z7_73), none] [])  : ∀ (nu : Nat) (z5_88 : Int32) (z6_88 : Int32) (z8_88 : Int32) (M_88 : Mm), L_Mo_isWeighed_88 Nu z7_73 ju12 nu z5_88 z6_88 z8_88 M_88 = some ru → SW G 2 c_Mo_isWeighed R_Mo 9 (some .boolean) (some (.int ru.1), ru.2) M_88 88 [some (.ref 49), none, none, none, none, some (.int z5_88), some (.int z6_88), some (.int z7_73), some (.int z8_88)] []
  | 0, _, _, _, _, hf => by cases hf
  | nu + 1, z5_88, z6_88, z8_88, M_88, hf => by
    have ih := l_Mo_isWeighed_88 (G := G) (ru := ru) Nu z7_73 ju12  Kju12 nu
    rw [L_Mo_isWeighed_88] at hf
    refine r_iload d_Mo_isWeighed_88 rfl ?_
    refine r_aload_n 0 d_Mo_isWeighed_90 rfl rfl ?_
    refine r_getI d_Mo_isWeighed_91 fl_Mo_63 sh_49 (by decide) ?_
    refine r_icmp_ge 164 d_Mo_isWeighed_94 (by decide) (fun qu17 => ?_) (fun qu17 => ?_)
    · replace hf := ip qu17 hf
      refine r_weak [8] (lv' := [some (.ref 49), none, none, none, none, some (.int z5_88), some (.int z6_88), some (.int z7_73), none]) rfl ?_
      exact Kju12 z5_88 z6_88 M_88  hf
    · replace hf := im qu17 hf
      refine r_aload_n 0 d_Mo_isWeighed_97 rfl rfl ?_
      refine r_getI d_Mo_isWeighed_98 fl_Mo_86 sh_49 (by decide) ?_
      refine r_iload d_Mo_isWeighed_101 rfl ?_
      refine r_callS [.int (M_88.1 49 1), .int z5_88] d_Mo_isWeighed_103 lk_Mo_78 (cm_Mo_has (M_88.1 49 1) z5_88 M_88) (by decide) rfl rfl (Nat.le_of_ble_eq_true rfl) ?_
      obtain ⟨ju18, hju18, hf⟩ := lt_ex hf
      have Kju18 : ∀ (xu19 : Int32) (Mu20 : Mm), ju18 xu19 Mu20 = some ru → SW G 2 c_Mo_isWeighed R_Mo 9 (some .boolean) (some (.int ru.1), ru.2) Mu20 155 [some (.ref 49), none, none, none, none, some (.int z5_88), some (.int xu19), some (.int z7_73), some (.int z8_88)] [] := by
        intro xu19 Mu20 hf
        rw [hju18] at hf
        obtain ⟨xu21, hxu21⟩ : ∃ y : Int32, y = z5_88 + 1 := ⟨_, rfl⟩
        replace hf := lt_of hxu21 hf
        refine r_iinc (lv' := [some (.ref 49), none, none, none, none, some (.int xu21), some (.int xu19), some (.int z7_73), some (.int z8_88)]) d_Mo_isWeighed_155 rfl (by rw [hxu21]; rfl) (by decide) rfl ?_
        obtain ⟨xu22, hxu22⟩ : ∃ y : Int32, y = z8_88 + 1 := ⟨_, rfl⟩
        replace hf := lt_of hxu22 hf
        refine r_iinc (lv' := [some (.ref 49), none, none, none, none, some (.int xu21), some (.int xu19), some (.int z7_73), some (.int xu22)]) d_Mo_isWeighed_158 rfl (by rw [hxu22]; rfl) (by decide) rfl ?_
        refine r_goto 88 d_Mo_isWeighed_161 (by decide) ?_
        exact ih xu21 xu19 xu22 Mu20  hf
      refine r_if_eq 155 d_Mo_isWeighed_106 (by decide) (fun qu23 => ?_) (fun qu23 => ?_)
      · replace hf := ip qu23 hf
        exact Kju18 z6_88 M_88  hf
      · replace hf := im qu23 hf
        refine r_aload_n 0 d_Mo_isWeighed_109 rfl rfl ?_
        refine r_getR 56 d_Mo_isWeighed_110 fl_Mo_38 sh_49 rfl rf_49_30 ?_
        refine r_iload d_Mo_isWeighed_113 rfl ?_
        refine r_dup2 d_Mo_isWeighed_115 rfl rfl ?_
        obtain ⟨qu24, hf⟩ := ck hf
        refine r_iald d_Mo_isWeighed_116 sh_56 qu24 ?_
        refine r_aload_n 0 d_Mo_isWeighed_117 rfl rfl ?_
        refine r_getR 58 d_Mo_isWeighed_118 fl_Mo_44 sh_49 rfl rf_49_32 ?_
        refine r_iload d_Mo_isWeighed_121 rfl ?_
        obtain ⟨qu25, hf⟩ := ck hf
        refine r_iald d_Mo_isWeighed_123 sh_58 qu25 ?_
        refine r_iadd d_Mo_isWeighed_124 ?_
        obtain ⟨qu26, hf⟩ := ck hf
        refine r_iast d_Mo_isWeighed_125 sh_56 qu26 ?_
        refine nmM (fun Mu27 hMu27 => ?_)
        replace hf := lt_of hMu27 hf
        refine r_aload_n 0 d_Mo_isWeighed_126 rfl rfl ?_
        refine r_getR 56 d_Mo_isWeighed_127 fl_Mo_38 sh_49 rfl rf_49_30 ?_
        refine r_iload d_Mo_isWeighed_130 rfl ?_
        refine r_dup2 d_Mo_isWeighed_132 rfl rfl ?_
        obtain ⟨qu28, hf⟩ := ck hf
        refine r_iald d_Mo_isWeighed_133 sh_56 qu28 ?_
        refine r_aload_n 0 d_Mo_isWeighed_134 rfl rfl ?_
        refine r_getR 58 d_Mo_isWeighed_135 fl_Mo_44 sh_49 rfl rf_49_32 ?_
        refine r_iload d_Mo_isWeighed_138 rfl ?_
        obtain ⟨qu29, hf⟩ := ck hf
        refine r_iald d_Mo_isWeighed_140 sh_58 qu29 ?_
        refine r_iadd d_Mo_isWeighed_141 ?_
        obtain ⟨qu30, hf⟩ := ck hf
        refine r_iast d_Mo_isWeighed_142 sh_56 qu30 ?_
        refine nmM (fun Mu31 hMu31 => ?_)
        replace hf := lt_of hMu31 hf
        refine r_aload_n 0 d_Mo_isWeighed_143 rfl rfl ?_
        refine r_getR 57 d_Mo_isWeighed_144 fl_Mo_41 sh_49 rfl rf_49_31 ?_
        refine r_iload d_Mo_isWeighed_147 rfl ?_
        refine r_iload d_Mo_isWeighed_149 rfl ?_
        obtain ⟨qu32, hf⟩ := ck hf
        refine r_iast d_Mo_isWeighed_151 sh_57 qu32 ?_
        refine nmM (fun Mu33 hMu33 => ?_)
        replace hf := lt_of hMu33 hf
        obtain ⟨xu34, hxu34⟩ : ∃ y : Int32, y = z6_88 + 1 := ⟨_, rfl⟩
        replace hf := lt_of hxu34 hf
        refine r_iinc (lv' := [some (.ref 49), none, none, none, none, some (.int z5_88), some (.int xu34), some (.int z7_73), some (.int z8_88)]) d_Mo_isWeighed_152 rfl (by rw [hxu34]; rfl) (by decide) rfl ?_
        exact Kju18 xu34 Mu33  hf
theorem l_Mo_isWeighed_73 {G : GT} {ru : Int32 × Mm} (Nu : Nat) (ju6 : Mm → Option (Int32 × Mm))  (Kju6 : ∀ (Mw : Mm), ju6 Mw = some ru → SW G 2 c_Mo_isWeighed R_Mo 9 (some .boolean) (some (.int ru.1), ru.2) Mw 170 [some (.ref 49), none, none, none, none, none, none, none, none] [])  : ∀ (nu : Nat) (z5_73 : Int32) (z6_73 : Int32) (z7_73 : Int32) (M_73 : Mm), L_Mo_isWeighed_73 Nu ju6 nu z5_73 z6_73 z7_73 M_73 = some ru → SW G 2 c_Mo_isWeighed R_Mo 9 (some .boolean) (some (.int ru.1), ru.2) M_73 73 [some (.ref 49), none, none, none, none, some (.int z5_73), some (.int z6_73), some (.int z7_73), none] []
  | 0, _, _, _, _, hf => by cases hf
  | nu + 1, z5_73, z6_73, z7_73, M_73, hf => by
    have ih := l_Mo_isWeighed_73 (G := G) (ru := ru) Nu ju6  Kju6 nu
    rw [L_Mo_isWeighed_73] at hf
    refine r_iload d_Mo_isWeighed_73 rfl ?_
    refine r_aload_n 0 d_Mo_isWeighed_75 rfl rfl ?_
    refine r_getI d_Mo_isWeighed_76 fl_Mo_63 sh_49 (by decide) ?_
    refine r_icmp_ge 170 d_Mo_isWeighed_79 (by decide) (fun qu10 => ?_) (fun qu10 => ?_)
    · replace hf := ip qu10 hf
      refine r_weak [5, 6, 7] (lv' := [some (.ref 49), none, none, none, none, none, none, none, none]) rfl ?_
      exact Kju6 M_73  hf
    · replace hf := im qu10 hf
      refine r_iload d_Mo_isWeighed_82 rfl ?_
      refine r_iconst (v := 1) d_Mo_isWeighed_84 (by decide) ?_
      refine r_iadd d_Mo_isWeighed_85 ?_
      refine nmI (fun xu11 hxu11 => ?_)
      replace hf := lt_of hxu11 hf
      refine r_istore (lv' := [some (.ref 49), none, none, none, none, some (.int z5_73), some (.int z6_73), some (.int z7_73), some (.int xu11)]) d_Mo_isWeighed_86 (by decide) rfl ?_
      obtain ⟨ju12, hju12, hf⟩ := lt_ex hf
      have Kju12 : ∀ (xu13 : Int32) (xu14 : Int32) (Mu15 : Mm), ju12 xu13 xu14 Mu15 = some ru → SW G 2 c_Mo_isWeighed R_Mo 9 (some .boolean) (some (.int ru.1), ru.2) Mu15 164 [some (.ref 49), none, none, none, none, some (.int xu13), some (.int xu14), some (.int z7_73), none] [] := by
        intro xu13 xu14 Mu15 hf
        rw [hju12] at hf
        obtain ⟨xu16, hxu16⟩ : ∃ y : Int32, y = z7_73 + 1 := ⟨_, rfl⟩
        replace hf := lt_of hxu16 hf
        refine r_iinc (lv' := [some (.ref 49), none, none, none, none, some (.int xu13), some (.int xu14), some (.int xu16), none]) d_Mo_isWeighed_164 rfl (by rw [hxu16]; rfl) (by decide) rfl ?_
        refine r_goto 73 d_Mo_isWeighed_167 (by decide) ?_
        exact ih xu13 xu14 xu16 Mu15  hf
      exact l_Mo_isWeighed_88 (G := G) (ru := ru) Nu z7_73 ju12  Kju12 Nu z5_73 z6_73 xu11 M_73 hf
theorem l_Mo_isWeighed_41 {G : GT} {ru : Int32 × Mm} (Nu : Nat) (ju4 : Mm → Option (Int32 × Mm))  (Kju4 : ∀ (Mw : Mm), ju4 Mw = some ru → SW G 2 c_Mo_isWeighed R_Mo 9 (some .boolean) (some (.int ru.1), ru.2) Mw 64 [some (.ref 49), none, none, none, none, none, none, none, none] [])  : ∀ (nu : Nat) (z5_41 : Int32) (M_41 : Mm), L_Mo_isWeighed_41 Nu ju4 nu z5_41 M_41 = some ru → SW G 2 c_Mo_isWeighed R_Mo 9 (some .boolean) (some (.int ru.1), ru.2) M_41 41 [some (.ref 49), none, none, none, none, some (.int z5_41), none, none, none] []
  | 0, _, _, hf => by cases hf
  | nu + 1, z5_41, M_41, hf => by
    have ih := l_Mo_isWeighed_41 (G := G) (ru := ru) Nu ju4  Kju4 nu
    rw [L_Mo_isWeighed_41] at hf
    refine r_iload d_Mo_isWeighed_41 rfl ?_
    refine r_aload_n 0 d_Mo_isWeighed_43 rfl rfl ?_
    refine r_getI d_Mo_isWeighed_44 fl_Mo_63 sh_49 (by decide) ?_
    refine r_icmp_ge 64 d_Mo_isWeighed_47 (by decide) (fun qu35 => ?_) (fun qu35 => ?_)
    · replace hf := ip qu35 hf
      refine r_weak [5] (lv' := [some (.ref 49), none, none, none, none, none, none, none, none]) rfl ?_
      exact Kju4 M_41  hf
    · replace hf := im qu35 hf
      refine r_aload_n 0 d_Mo_isWeighed_50 rfl rfl ?_
      refine r_getR 56 d_Mo_isWeighed_51 fl_Mo_38 sh_49 rfl rf_49_30 ?_
      refine r_iload d_Mo_isWeighed_54 rfl ?_
      refine r_iconst (v := 0) d_Mo_isWeighed_56 (by decide) ?_
      obtain ⟨qu36, hf⟩ := ck hf
      refine r_iast d_Mo_isWeighed_57 sh_56 qu36 ?_
      refine nmM (fun Mu37 hMu37 => ?_)
      replace hf := lt_of hMu37 hf
      obtain ⟨xu38, hxu38⟩ : ∃ y : Int32, y = z5_41 + 1 := ⟨_, rfl⟩
      replace hf := lt_of hxu38 hf
      refine r_iinc (lv' := [some (.ref 49), none, none, none, none, some (.int xu38), none, none, none]) d_Mo_isWeighed_58 rfl (by rw [hxu38]; rfl) (by decide) rfl ?_
      refine r_goto 41 d_Mo_isWeighed_61 (by decide) ?_
      exact ih xu38 Mu37  hf
theorem l_Mo_isWeighed_8 {G : GT} {ru : Int32 × Mm} (Nu : Nat) (p1 : Int32) (ju2 : Mm → Option (Int32 × Mm))  (Kju2 : ∀ (Mw : Mm), ju2 Mw = some ru → SW G 2 c_Mo_isWeighed R_Mo 9 (some .boolean) (some (.int ru.1), ru.2) Mw 38 [some (.ref 49), none, none, none, none, none, none, none, none] [])  : ∀ (nu : Nat) (z4_8 : Int32) (z5_8 : Int32) (M_8 : Mm), L_Mo_isWeighed_8 Nu p1 ju2 nu z4_8 z5_8 M_8 = some ru → SW G 2 c_Mo_isWeighed R_Mo 9 (some .boolean) (some (.int ru.1), ru.2) M_8 8 [some (.ref 49), none, some (.int p1), none, some (.int z4_8), some (.int z5_8), none, none, none] []
  | 0, _, _, _, hf => by cases hf
  | nu + 1, z4_8, z5_8, M_8, hf => by
    have ih := l_Mo_isWeighed_8 (G := G) (ru := ru) Nu p1 ju2  Kju2 nu
    rw [L_Mo_isWeighed_8] at hf
    refine r_iload d_Mo_isWeighed_8 rfl ?_
    refine r_if_lt 38 d_Mo_isWeighed_10 (by decide) (fun qu39 => ?_) (fun qu39 => ?_)
    · replace hf := ip qu39 hf
      refine r_weak [2, 4, 5] (lv' := [some (.ref 49), none, none, none, none, none, none, none, none]) rfl ?_
      exact Kju2 M_8  hf
    · replace hf := im qu39 hf
      refine r_aload_n 0 d_Mo_isWeighed_13 rfl rfl ?_
      refine r_getR 58 d_Mo_isWeighed_14 fl_Mo_44 sh_49 rfl rf_49_32 ?_
      refine r_iload d_Mo_isWeighed_17 rfl ?_
      refine r_iconst (v := 1) d_Mo_isWeighed_19 (by decide) ?_
      refine r_iload d_Mo_isWeighed_20 rfl ?_
      refine r_iload_n 2 d_Mo_isWeighed_22 rfl rfl ?_
      obtain ⟨qu40, hf⟩ := ckz hf
      refine r_irem d_Mo_isWeighed_23 qu40 ?_
      refine r_iadd d_Mo_isWeighed_24 ?_
      obtain ⟨qu41, hf⟩ := ck hf
      refine r_iast d_Mo_isWeighed_25 sh_58 qu41 ?_
      refine nmM (fun Mu42 hMu42 => ?_)
      replace hf := lt_of hMu42 hf
      refine r_iload d_Mo_isWeighed_26 rfl ?_
      refine r_iload_n 2 d_Mo_isWeighed_28 rfl rfl ?_
      obtain ⟨qu43, hf⟩ := ckz hf
      refine r_idiv d_Mo_isWeighed_29 qu43 ?_
      refine nmI (fun xu44 hxu44 => ?_)
      replace hf := lt_of hxu44 hf
      refine r_istore (lv' := [some (.ref 49), none, some (.int p1), none, some (.int xu44), some (.int z5_8), none, none, none]) d_Mo_isWeighed_30 (by decide) rfl ?_
      obtain ⟨xu45, hxu45⟩ : ∃ y : Int32, y = z5_8 + (-1) := ⟨_, rfl⟩
      replace hf := lt_of hxu45 hf
      refine r_iinc (lv' := [some (.ref 49), none, some (.int p1), none, some (.int xu44), some (.int xu45), none, none, none]) d_Mo_isWeighed_32 rfl (by rw [hxu45]; rfl) (by decide) rfl ?_
      refine r_goto 8 d_Mo_isWeighed_35 (by decide) ?_
      exact ih xu44 xu45 Mu42  hf
theorem cm_Mo_isWeighed {G : GT} {Nu : Nat} {p0 : Int32} {p1 : Int32} {p2 : Int32} {Mu : Mm}  {ru : Int32 × Mm}  (hf : f_Mo_isWeighed Nu p0 p1 p2 Mu = some ru) : CM G 2 y_Mo_isWeighed c_Mo_isWeighed 9 (some .boolean) (some (.int ru.1), ru.2) Mu [.ref 49, .int p0, .int p1, .int p2] := by
  unfold f_Mo_isWeighed at hf
  refine CM.of (own := R_Mo) (lv := [some (.ref 49), some (.int p0), some (.int p1), some (.int p2), none, none, none, none, none]) (by decide) rfl (Nat.le_of_ble_eq_true rfl) rfl ?_
  refine r_iload_n 3 d_Mo_isWeighed_0 rfl rfl ?_
  refine r_istore (lv' := [some (.ref 49), some (.int p0), some (.int p1), some (.int p2), some (.int p2), none, none, none, none]) d_Mo_isWeighed_1 (by decide) rfl ?_
  refine r_iload_n 1 d_Mo_isWeighed_3 rfl rfl ?_
  refine r_iconst (v := 1) d_Mo_isWeighed_4 (by decide) ?_
  refine r_isub d_Mo_isWeighed_5 ?_
  refine nmI (fun xu1 hxu1 => ?_)
  replace hf := lt_of hxu1 hf
  refine r_istore (lv' := [some (.ref 49), some (.int p0), some (.int p1), some (.int p2), some (.int p2), some (.int xu1), none, none, none]) d_Mo_isWeighed_6 (by decide) rfl ?_
  obtain ⟨ju2, hju2, hf⟩ := lt_ex hf
  have Kju2 : ∀ (Mu3 : Mm), ju2 Mu3 = some ru → SW G 2 c_Mo_isWeighed R_Mo 9 (some .boolean) (some (.int ru.1), ru.2) Mu3 38 [some (.ref 49), none, none, none, none, none, none, none, none] [] := by
    intro Mu3 hf
    rw [hju2] at hf
    refine r_iconst (v := 0) d_Mo_isWeighed_38 (by decide) ?_
    refine r_istore (lv' := [some (.ref 49), none, none, none, none, some (.int 0), none, none, none]) d_Mo_isWeighed_39 (by decide) rfl ?_
    obtain ⟨ju4, hju4, hf⟩ := lt_ex hf
    have Kju4 : ∀ (Mu5 : Mm), ju4 Mu5 = some ru → SW G 2 c_Mo_isWeighed R_Mo 9 (some .boolean) (some (.int ru.1), ru.2) Mu5 64 [some (.ref 49), none, none, none, none, none, none, none, none] [] := by
      intro Mu5 hf
      rw [hju4] at hf
      refine r_iconst (v := 0) d_Mo_isWeighed_64 (by decide) ?_
      refine r_istore (lv' := [some (.ref 49), none, none, none, none, some (.int 0), none, none, none]) d_Mo_isWeighed_65 (by decide) rfl ?_
      refine r_iconst (v := 0) d_Mo_isWeighed_67 (by decide) ?_
      refine r_istore (lv' := [some (.ref 49), none, none, none, none, some (.int 0), some (.int 0), none, none]) d_Mo_isWeighed_68 (by decide) rfl ?_
      refine r_iconst (v := 0) d_Mo_isWeighed_70 (by decide) ?_
      refine r_istore (lv' := [some (.ref 49), none, none, none, none, some (.int 0), some (.int 0), some (.int 0), none]) d_Mo_isWeighed_71 (by decide) rfl ?_
      obtain ⟨ju6, hju6, hf⟩ := lt_ex hf
      have Kju6 : ∀ (Mu7 : Mm), ju6 Mu7 = some ru → SW G 2 c_Mo_isWeighed R_Mo 9 (some .boolean) (some (.int ru.1), ru.2) Mu7 170 [some (.ref 49), none, none, none, none, none, none, none, none] [] := by
        intro Mu7 hf
        rw [hju6] at hf
        refine r_aload_n 0 d_Mo_isWeighed_170 rfl rfl ?_
        refine r_aload_n 0 d_Mo_isWeighed_171 rfl rfl ?_
        refine r_getI d_Mo_isWeighed_172 fl_Mo_63 sh_49 (by decide) ?_
        obtain ⟨vu8, evu8, hf⟩ := bnd hf
        refine r_callV [.int (Mu7.1 49 0)] d_Mo_isWeighed_175 lk_Mo_277 sh_49 (cm_Mo_areUnlike evu8) (by decide) rfl rfl (Nat.le_of_ble_eq_true rfl) ?_
        obtain ⟨qu9, hf⟩ := ckp hf
        obtain rfl := Option.some.inj hf
        exact r_zreturn d_Mo_isWeighed_178 rfl qu9 rfl
      exact l_Mo_isWeighed_73 (G := G) (ru := ru) Nu ju6  Kju6 Nu 0 0 0 Mu5 hf
    exact l_Mo_isWeighed_41 (G := G) (ru := ru) Nu ju4  Kju4 Nu 0 Mu3 hf
  refine r_weak [1, 3] (lv' := [some (.ref 49), none, some (.int p1), none, some (.int p2), some (.int xu1), none, none, none]) rfl ?_
  exact l_Mo_isWeighed_8 (G := G) (ru := ru) Nu p1 ju2  Kju2 Nu p2 xu1 Mu hf
def L_Mo_findWeights_39 (Nu : Nat) (vu1 : Int32) (z2_10 : Int32) (xu4 : Int32) (ju5 : Mm → Option (Int32 × Mm)) : Nat → Int32 → Mm → Option (Int32 × Mm)
  | 0, _, _ => none
  | nu + 1, z4_39, M_39 => if xu4 ≤ z4_39 then ju5 M_39 else (f_Mo_isWeighed Nu vu1 z2_10 z4_39 M_39).bind fun vu9 => lt vu9.1 fun vu10 => lt vu9.2 fun Mu11 => if vu10 = 0 then lt (z4_39 + 1) fun xu13 => L_Mo_findWeights_39 Nu vu1 z2_10 xu4 ju5 nu xu13 Mu11 else some (z2_10, Mu11)
def L_Mo_findWeights_20 (Nu : Nat) (vu1 : Int32) (z2_10 : Int32) (ju3 : Int32 → Option (Int32 × Mm)) : Nat → Int32 → Int32 → Option (Int32 × Mm)
  | 0, _, _ => none
  | nu + 1, z3_20, z4_20 => if vu1 ≤ z4_20 then ju3 z3_20 else lt (z3_20 * z2_10) fun xu15 => lt (z4_20 + 1) fun xu16 => L_Mo_findWeights_20 Nu vu1 z2_10 ju3 nu xu15 xu16
def L_Mo_findWeights_10 (Nu : Nat) (vu1 : Int32) : Nat → Int32 → Mm → Option (Int32 × Mm)
  | 0, _, _ => none
  | nu + 1, z2_10, M_10 => if 5 ≤ z2_10 then some ((-1), M_10) else lt (fun (xu4 : Int32) => lt (fun (Mu6 : Mm) => lt (z2_10 + 1) fun xu7 => L_Mo_findWeights_10 Nu vu1 nu xu7 Mu6) fun ju5 => L_Mo_findWeights_39 Nu vu1 z2_10 xu4 ju5 Nu 0 M_10) fun ju3 => L_Mo_findWeights_20 Nu vu1 z2_10 ju3 Nu 1 0
def f_Mo_findWeights (Nu : Nat) (Mu : Mm) : Option (Int32 × Mm) := (f_Mo_bits Nu (Mu.1 49 1)).bind fun vu1 => L_Mo_findWeights_10 Nu vu1 Nu 1 Mu
theorem l_Mo_findWeights_39 {G : GT} {ru : Int32 × Mm} (Nu : Nat) (vu1 : Int32) (z2_10 : Int32) (xu4 : Int32) (ju5 : Mm → Option (Int32 × Mm))  (Kju5 : ∀ (Mw : Mm), ju5 Mw = some ru → SW G 3 c_Mo_findWeights R_Mo 5 (some .int) (some (.int ru.1), ru.2) Mw 64 [some (.ref 49), some (.int vu1), some (.int z2_10), none, none] [])  : ∀ (nu : Nat) (z4_39 : Int32) (M_39 : Mm), L_Mo_findWeights_39 Nu vu1 z2_10 xu4 ju5 nu z4_39 M_39 = some ru → SW G 3 c_Mo_findWeights R_Mo 5 (some .int) (some (.int ru.1), ru.2) M_39 39 [some (.ref 49), some (.int vu1), some (.int z2_10), some (.int xu4), some (.int z4_39)] []
  | 0, _, _, hf => by cases hf
  | nu + 1, z4_39, M_39, hf => by
    have ih := l_Mo_findWeights_39 (G := G) (ru := ru) Nu vu1 z2_10 xu4 ju5  Kju5 nu
    rw [L_Mo_findWeights_39] at hf
    refine r_iload d_Mo_findWeights_39 rfl ?_
    refine r_iload_n 3 d_Mo_findWeights_41 rfl rfl ?_
    refine r_icmp_ge 64 d_Mo_findWeights_42 (by decide) (fun qu8 => ?_) (fun qu8 => ?_)
    · replace hf := ip qu8 hf
      refine r_weak [3, 4] (lv' := [some (.ref 49), some (.int vu1), some (.int z2_10), none, none]) rfl ?_
      exact Kju5 M_39  hf
    · replace hf := im qu8 hf
      refine r_aload_n 0 d_Mo_findWeights_45 rfl rfl ?_
      refine r_iload_n 1 d_Mo_findWeights_46 rfl rfl ?_
      refine r_iload_n 2 d_Mo_findWeights_47 rfl rfl ?_
      refine r_iload d_Mo_findWeights_48 rfl ?_
      obtain ⟨vu9, evu9, hf⟩ := bnd hf
      obtain ⟨vu10, Mu11⟩ := vu9
      replace hf := lt_of (rfl : vu10 = (vu10, Mu11).1) hf
      replace hf := lt_of (rfl : Mu11 = (vu10, Mu11).2) hf
      refine r_callV [.int vu1, .int z2_10, .int z4_39] d_Mo_findWeights_50 lk_Mo_280 sh_49 (cm_Mo_isWeighed evu9) (by decide) rfl rfl (Nat.le_of_ble_eq_true rfl) ?_
      refine r_if_eq 58 d_Mo_findWeights_53 (by decide) (fun qu12 => ?_) (fun qu12 => ?_)
      · replace hf := ip qu12 hf
        obtain ⟨xu13, hxu13⟩ : ∃ y : Int32, y = z4_39 + 1 := ⟨_, rfl⟩
        replace hf := lt_of hxu13 hf
        refine r_iinc (lv' := [some (.ref 49), some (.int vu1), some (.int z2_10), some (.int xu4), some (.int xu13)]) d_Mo_findWeights_58 rfl (by rw [hxu13]; rfl) (by decide) rfl ?_
        refine r_goto 39 d_Mo_findWeights_61 (by decide) ?_
        exact ih xu13 Mu11  hf
      · replace hf := im qu12 hf
        refine r_iload_n 2 d_Mo_findWeights_56 rfl rfl ?_
        obtain rfl := Option.some.inj hf
        exact r_ireturn d_Mo_findWeights_57 rfl rfl
theorem l_Mo_findWeights_20 {G : GT} {ru : Int32 × Mm} (Nu : Nat) (vu1 : Int32) (z2_10 : Int32) (ju3 : Int32 → Option (Int32 × Mm)) (M_10 : Mm)  (Kju3 : ∀ (w3 : Int32), ju3 w3 = some ru → SW G 3 c_Mo_findWeights R_Mo 5 (some .int) (some (.int ru.1), ru.2) M_10 36 [some (.ref 49), some (.int vu1), some (.int z2_10), some (.int w3), none] [])  : ∀ (nu : Nat) (z3_20 : Int32) (z4_20 : Int32), L_Mo_findWeights_20 Nu vu1 z2_10 ju3 nu z3_20 z4_20 = some ru → SW G 3 c_Mo_findWeights R_Mo 5 (some .int) (some (.int ru.1), ru.2) M_10 20 [some (.ref 49), some (.int vu1), some (.int z2_10), some (.int z3_20), some (.int z4_20)] []
  | 0, _, _, hf => by cases hf
  | nu + 1, z3_20, z4_20, hf => by
    have ih := l_Mo_findWeights_20 (G := G) (ru := ru) Nu vu1 z2_10 ju3 M_10  Kju3 nu
    rw [L_Mo_findWeights_20] at hf
    refine r_iload d_Mo_findWeights_20 rfl ?_
    refine r_iload_n 1 d_Mo_findWeights_22 rfl rfl ?_
    refine r_icmp_ge 36 d_Mo_findWeights_23 (by decide) (fun qu14 => ?_) (fun qu14 => ?_)
    · replace hf := ip qu14 hf
      refine r_weak [4] (lv' := [some (.ref 49), some (.int vu1), some (.int z2_10), some (.int z3_20), none]) rfl ?_
      exact Kju3 z3_20  hf
    · replace hf := im qu14 hf
      refine r_iload_n 3 d_Mo_findWeights_26 rfl rfl ?_
      refine r_iload_n 2 d_Mo_findWeights_27 rfl rfl ?_
      refine r_imul d_Mo_findWeights_28 ?_
      refine nmI (fun xu15 hxu15 => ?_)
      replace hf := lt_of hxu15 hf
      refine r_istore_n (lv' := [some (.ref 49), some (.int vu1), some (.int z2_10), some (.int xu15), some (.int z4_20)]) 3 d_Mo_findWeights_29 rfl (by decide) rfl ?_
      obtain ⟨xu16, hxu16⟩ : ∃ y : Int32, y = z4_20 + 1 := ⟨_, rfl⟩
      replace hf := lt_of hxu16 hf
      refine r_iinc (lv' := [some (.ref 49), some (.int vu1), some (.int z2_10), some (.int xu15), some (.int xu16)]) d_Mo_findWeights_30 rfl (by rw [hxu16]; rfl) (by decide) rfl ?_
      refine r_goto 20 d_Mo_findWeights_33 (by decide) ?_
      exact ih xu15 xu16  hf
theorem l_Mo_findWeights_10 {G : GT} {ru : Int32 × Mm} (Nu : Nat) (vu1 : Int32)    : ∀ (nu : Nat) (z2_10 : Int32) (M_10 : Mm), L_Mo_findWeights_10 Nu vu1 nu z2_10 M_10 = some ru → SW G 3 c_Mo_findWeights R_Mo 5 (some .int) (some (.int ru.1), ru.2) M_10 10 [some (.ref 49), some (.int vu1), some (.int z2_10), none, none] []
  | 0, _, _, hf => by cases hf
  | nu + 1, z2_10, M_10, hf => by
    have ih := l_Mo_findWeights_10 (G := G) (ru := ru) Nu vu1   nu
    rw [L_Mo_findWeights_10] at hf
    refine r_iload_n 2 d_Mo_findWeights_10 rfl rfl ?_
    refine r_iconst (v := 5) d_Mo_findWeights_11 (by decide) ?_
    refine r_icmp_ge 70 d_Mo_findWeights_12 (by decide) (fun qu2 => ?_) (fun qu2 => ?_)
    · replace hf := ip qu2 hf
      refine r_iconst (v := (-1)) d_Mo_findWeights_70 (by decide) ?_
      obtain rfl := Option.some.inj hf
      exact r_ireturn d_Mo_findWeights_71 rfl rfl
    · replace hf := im qu2 hf
      refine r_iconst (v := 1) d_Mo_findWeights_15 (by decide) ?_
      refine r_istore_n (lv' := [some (.ref 49), some (.int vu1), some (.int z2_10), some (.int 1), none]) 3 d_Mo_findWeights_16 rfl (by decide) rfl ?_
      refine r_iconst (v := 0) d_Mo_findWeights_17 (by decide) ?_
      refine r_istore (lv' := [some (.ref 49), some (.int vu1), some (.int z2_10), some (.int 1), some (.int 0)]) d_Mo_findWeights_18 (by decide) rfl ?_
      obtain ⟨ju3, hju3, hf⟩ := lt_ex hf
      have Kju3 : ∀ (xu4 : Int32), ju3 xu4 = some ru → SW G 3 c_Mo_findWeights R_Mo 5 (some .int) (some (.int ru.1), ru.2) M_10 36 [some (.ref 49), some (.int vu1), some (.int z2_10), some (.int xu4), none] [] := by
        intro xu4 hf
        rw [hju3] at hf
        refine r_iconst (v := 0) d_Mo_findWeights_36 (by decide) ?_
        refine r_istore (lv' := [some (.ref 49), some (.int vu1), some (.int z2_10), some (.int xu4), some (.int 0)]) d_Mo_findWeights_37 (by decide) rfl ?_
        obtain ⟨ju5, hju5, hf⟩ := lt_ex hf
        have Kju5 : ∀ (Mu6 : Mm), ju5 Mu6 = some ru → SW G 3 c_Mo_findWeights R_Mo 5 (some .int) (some (.int ru.1), ru.2) Mu6 64 [some (.ref 49), some (.int vu1), some (.int z2_10), none, none] [] := by
          intro Mu6 hf
          rw [hju5] at hf
          obtain ⟨xu7, hxu7⟩ : ∃ y : Int32, y = z2_10 + 1 := ⟨_, rfl⟩
          replace hf := lt_of hxu7 hf
          refine r_iinc (lv' := [some (.ref 49), some (.int vu1), some (.int xu7), none, none]) d_Mo_findWeights_64 rfl (by rw [hxu7]; rfl) (by decide) rfl ?_
          refine r_goto 10 d_Mo_findWeights_67 (by decide) ?_
          exact ih xu7 Mu6  hf
        exact l_Mo_findWeights_39 (G := G) (ru := ru) Nu vu1 z2_10 xu4 ju5  Kju5 Nu 0 M_10 hf
      exact l_Mo_findWeights_20 (G := G) (ru := ru) Nu vu1 z2_10 ju3 M_10  Kju3 Nu 1 0 hf
theorem cm_Mo_findWeights {G : GT} {Nu : Nat} {Mu : Mm}  {ru : Int32 × Mm}  (hf : f_Mo_findWeights Nu Mu = some ru) : CM G 3 y_Mo_findWeights c_Mo_findWeights 5 (some .int) (some (.int ru.1), ru.2) Mu [.ref 49] := by
  unfold f_Mo_findWeights at hf
  refine CM.of (own := R_Mo) (lv := [some (.ref 49), none, none, none, none]) (by decide) rfl (Nat.le_of_ble_eq_true rfl) rfl ?_
  refine r_aload_n 0 d_Mo_findWeights_0 rfl rfl ?_
  refine r_getI d_Mo_findWeights_1 fl_Mo_86 sh_49 (by decide) ?_
  obtain ⟨vu1, evu1, hf⟩ := bnd hf
  refine r_callS [.int (Mu.1 49 1)] d_Mo_findWeights_4 lk_Mo_197 (cm_Mo_bits evu1) (by decide) rfl rfl (Nat.le_of_ble_eq_true rfl) ?_
  refine r_istore_n (lv' := [some (.ref 49), some (.int vu1), none, none, none]) 1 d_Mo_findWeights_7 rfl (by decide) rfl ?_
  refine r_iconst (v := 1) d_Mo_findWeights_8 (by decide) ?_
  refine r_istore_n (lv' := [some (.ref 49), some (.int vu1), some (.int 1), none, none]) 2 d_Mo_findWeights_9 rfl (by decide) rfl ?_
  exact l_Mo_findWeights_10 (G := G) (ru := ru) Nu vu1   Nu 1 Mu hf
def L_Mo_weight_54 (Nu : Nat) (p0 : Int32) (p1 : Int32) (Mu6 : Mm) : Nat → Int32 → Int32 → Option (Int32 × Mm)
  | 0, _, _ => none
  | nu + 1, z4_54, z5_54 => (f_Mo_bits Nu (Mu6.1 49 1)).bind fun vu10 => if vu10 ≤ z5_54 then some (z4_54, Mu6) else if inb z5_54 8 = true then (f_Mo_pairOf Nu (Mu6.1 49 0) p0 p1).bind fun vu13 => lt (fun (xu15 : Int32) => lt (z5_54 + 1) fun xu16 => L_Mo_weight_54 Nu p0 p1 Mu6 nu xu15 xu16) fun ju14 => if (Mu6.1 57 (Int32.toNatClampNeg z5_54)) = vu13 then if inb z5_54 8 = true then ju14 (Mu6.1 58 (Int32.toNatClampNeg z5_54)) else none else ju14 z4_54 else none
def f_Mo_weight (Nu : Nat) (p0 : Int32) (p1 : Int32) (Mu : Mm) : Option (Int32 × Mm) := lt (fun (_ : Unit) => (f_Mo_bits Nu (Mu.1 49 1)).bind fun vu2 => if vu2 ≤ 8 then (f_Mo_findWeights Nu Mu).bind fun vu4 => lt vu4.1 fun vu5 => lt vu4.2 fun Mu6 => lt (fun (_ : Unit) => some (vu5, Mu6)) fun ju7 => if p0 = (-1) then ju7 () else if 0 ≤ vu5 then L_Mo_weight_54 Nu p0 p1 Mu6 Nu 0 0 else ju7 () else some ((-1000000003), Mu)) fun ju1 => if p0 = (-1) then ju1 () else if (f_Mo_areTwo p0 p1 Mu) = 0 then some ((-1000000001), Mu) else ju1 ()
theorem l_Mo_weight_54 {G : GT} {ru : Int32 × Mm} (Nu : Nat) (p0 : Int32) (p1 : Int32) (Mu6 : Mm)    : ∀ (nu : Nat) (z4_54 : Int32) (z5_54 : Int32), L_Mo_weight_54 Nu p0 p1 Mu6 nu z4_54 z5_54 = some ru → SW G 4 c_Mo_weight R_Mo 6 (some .int) (some (.int ru.1), ru.2) Mu6 54 [some (.ref 49), some (.int p0), some (.int p1), none, some (.int z4_54), some (.int z5_54)] []
  | 0, _, _, hf => by cases hf
  | nu + 1, z4_54, z5_54, hf => by
    have ih := l_Mo_weight_54 (G := G) (ru := ru) Nu p0 p1 Mu6   nu
    rw [L_Mo_weight_54] at hf
    refine r_iload d_Mo_weight_54 rfl ?_
    refine r_aload_n 0 d_Mo_weight_56 rfl rfl ?_
    refine r_getI d_Mo_weight_57 fl_Mo_86 sh_49 (by decide) ?_
    obtain ⟨vu10, evu10, hf⟩ := bnd hf
    refine r_callS [.int (Mu6.1 49 1)] d_Mo_weight_60 lk_Mo_197 (cm_Mo_bits evu10) (by decide) rfl rfl (Nat.le_of_ble_eq_true rfl) ?_
    refine r_icmp_ge 105 d_Mo_weight_63 (by decide) (fun qu11 => ?_) (fun qu11 => ?_)
    · replace hf := ip qu11 hf
      refine r_iload d_Mo_weight_105 rfl ?_
      obtain rfl := Option.some.inj hf
      exact r_ireturn d_Mo_weight_107 rfl rfl
    · replace hf := im qu11 hf
      refine r_aload_n 0 d_Mo_weight_66 rfl rfl ?_
      refine r_getR 57 d_Mo_weight_67 fl_Mo_41 sh_49 rfl rf_49_31 ?_
      refine r_iload d_Mo_weight_70 rfl ?_
      obtain ⟨qu12, hf⟩ := ck hf
      refine r_iald d_Mo_weight_72 sh_57 qu12 ?_
      refine r_aload_n 0 d_Mo_weight_73 rfl rfl ?_
      refine r_getI d_Mo_weight_74 fl_Mo_63 sh_49 (by decide) ?_
      refine r_iload_n 1 d_Mo_weight_77 rfl rfl ?_
      refine r_iload_n 2 d_Mo_weight_78 rfl rfl ?_
      obtain ⟨vu13, evu13, hf⟩ := bnd hf
      refine r_callS [.int (Mu6.1 49 0), .int p0, .int p1] d_Mo_weight_79 lk_Mo_74 (cm_Mo_pairOf evu13) (by decide) rfl rfl (Nat.le_of_ble_eq_true rfl) ?_
      obtain ⟨ju14, hju14, hf⟩ := lt_ex hf
      have Kju14 : ∀ (xu15 : Int32), ju14 xu15 = some ru → SW G 4 c_Mo_weight R_Mo 6 (some .int) (some (.int ru.1), ru.2) Mu6 97 [some (.ref 49), some (.int p0), some (.int p1), none, none, some (.int z5_54)] [.int xu15] := by
        intro xu15 hf
        rw [hju14] at hf
        refine r_istore (lv' := [some (.ref 49), some (.int p0), some (.int p1), none, some (.int xu15), some (.int z5_54)]) d_Mo_weight_97 (by decide) rfl ?_
        obtain ⟨xu16, hxu16⟩ : ∃ y : Int32, y = z5_54 + 1 := ⟨_, rfl⟩
        replace hf := lt_of hxu16 hf
        refine r_iinc (lv' := [some (.ref 49), some (.int p0), some (.int p1), none, some (.int xu15), some (.int xu16)]) d_Mo_weight_99 rfl (by rw [hxu16]; rfl) (by decide) rfl ?_
        refine r_goto 54 d_Mo_weight_102 (by decide) ?_
        exact ih xu15 xu16  hf
      refine r_icmp_ne 95 d_Mo_weight_82 (by decide) (fun qu17 => ?_) (fun qu17 => ?_)
      · replace hf := im qu17 hf
        refine r_iload d_Mo_weight_95 rfl ?_
        refine r_weak [4] (lv' := [some (.ref 49), some (.int p0), some (.int p1), none, none, some (.int z5_54)]) rfl ?_
        exact Kju14 z4_54  hf
      · replace hf := ip qu17 hf
        refine r_aload_n 0 d_Mo_weight_85 rfl rfl ?_
        refine r_getR 58 d_Mo_weight_86 fl_Mo_44 sh_49 rfl rf_49_32 ?_
        refine r_iload d_Mo_weight_89 rfl ?_
        obtain ⟨qu18, hf⟩ := ck hf
        refine r_iald d_Mo_weight_91 sh_58 qu18 ?_
        refine r_goto 97 d_Mo_weight_92 (by decide) ?_
        refine r_weak [4] (lv' := [some (.ref 49), some (.int p0), some (.int p1), none, none, some (.int z5_54)]) rfl ?_
        exact Kju14 (Mu6.1 58 (Int32.toNatClampNeg z5_54))  hf
theorem cm_Mo_weight {G : GT} {Nu : Nat} {p0 : Int32} {p1 : Int32} {Mu : Mm}  {ru : Int32 × Mm}  (hf : f_Mo_weight Nu p0 p1 Mu = some ru) : CM G 4 y_Mo_weight c_Mo_weight 6 (some .int) (some (.int ru.1), ru.2) Mu [.ref 49, .int p0, .int p1] := by
  unfold f_Mo_weight at hf
  refine CM.of (own := R_Mo) (lv := [some (.ref 49), some (.int p0), some (.int p1), none, none, none]) (by decide) rfl (Nat.le_of_ble_eq_true rfl) rfl ?_
  refine r_iload_n 1 d_Mo_weight_0 rfl rfl ?_
  refine r_iconst (v := (-1)) d_Mo_weight_1 (by decide) ?_
  obtain ⟨ju1, hju1, hf⟩ := lt_ex hf
  have Kju1 : ∀ (_ : Unit), ju1 () = some ru → SW G 4 c_Mo_weight R_Mo 6 (some .int) (some (.int ru.1), ru.2) Mu 17 [some (.ref 49), some (.int p0), some (.int p1), none, none, none] [] := by
    intro _ hf
    rw [hju1] at hf
    refine r_aload_n 0 d_Mo_weight_17 rfl rfl ?_
    refine r_getI d_Mo_weight_18 fl_Mo_86 sh_49 (by decide) ?_
    obtain ⟨vu2, evu2, hf⟩ := bnd hf
    refine r_callS [.int (Mu.1 49 1)] d_Mo_weight_21 lk_Mo_197 (cm_Mo_bits evu2) (by decide) rfl rfl (Nat.le_of_ble_eq_true rfl) ?_
    refine r_bipush (v := 8) d_Mo_weight_24 (by decide) ?_
    refine r_icmp_le 32 d_Mo_weight_26 (by decide) (fun qu3 => ?_) (fun qu3 => ?_)
    · replace hf := ip qu3 hf
      refine r_aload_n 0 d_Mo_weight_32 rfl rfl ?_
      obtain ⟨vu4, evu4, hf⟩ := bnd hf
      obtain ⟨vu5, Mu6⟩ := vu4
      replace hf := lt_of (rfl : vu5 = (vu5, Mu6).1) hf
      replace hf := lt_of (rfl : Mu6 = (vu5, Mu6).2) hf
      refine r_callV [] d_Mo_weight_33 lk_Mo_284 sh_49 (cm_Mo_findWeights evu4) (by decide) rfl rfl (Nat.le_of_ble_eq_true rfl) ?_
      refine r_istore_n (lv' := [some (.ref 49), some (.int p0), some (.int p1), some (.int vu5), none, none]) 3 d_Mo_weight_36 rfl (by decide) rfl ?_
      refine r_iload_n 1 d_Mo_weight_37 rfl rfl ?_
      refine r_iconst (v := (-1)) d_Mo_weight_38 (by decide) ?_
      obtain ⟨ju7, hju7, hf⟩ := lt_ex hf
      have Kju7 : ∀ (_ : Unit), ju7 () = some ru → SW G 4 c_Mo_weight R_Mo 6 (some .int) (some (.int ru.1), ru.2) Mu6 46 [none, none, none, some (.int vu5), none, none] [] := by
        intro _ hf
        rw [hju7] at hf
        refine r_iload_n 3 d_Mo_weight_46 rfl rfl ?_
        obtain rfl := Option.some.inj hf
        exact r_ireturn d_Mo_weight_47 rfl rfl
      refine r_icmp_eq 46 d_Mo_weight_39 (by decide) (fun qu8 => ?_) (fun qu8 => ?_)
      · replace hf := ip qu8 hf
        refine r_weak [0, 1, 2] (lv' := [none, none, none, some (.int vu5), none, none]) rfl ?_
        exact Kju7 ()  hf
      · replace hf := im qu8 hf
        refine r_iload_n 3 d_Mo_weight_42 rfl rfl ?_
        refine r_if_ge 48 d_Mo_weight_43 (by decide) (fun qu9 => ?_) (fun qu9 => ?_)
        · replace hf := ip qu9 hf
          refine r_iconst (v := 0) d_Mo_weight_48 (by decide) ?_
          refine r_istore (lv' := [some (.ref 49), some (.int p0), some (.int p1), some (.int vu5), some (.int 0), none]) d_Mo_weight_49 (by decide) rfl ?_
          refine r_iconst (v := 0) d_Mo_weight_51 (by decide) ?_
          refine r_istore (lv' := [some (.ref 49), some (.int p0), some (.int p1), some (.int vu5), some (.int 0), some (.int 0)]) d_Mo_weight_52 (by decide) rfl ?_
          refine r_weak [3] (lv' := [some (.ref 49), some (.int p0), some (.int p1), none, some (.int 0), some (.int 0)]) rfl ?_
          exact l_Mo_weight_54 (G := G) (ru := ru) Nu p0 p1 Mu6   Nu 0 0 hf
        · replace hf := im qu9 hf
          refine r_weak [0, 1, 2] (lv' := [none, none, none, some (.int vu5), none, none]) rfl ?_
          exact Kju7 ()  hf
    · replace hf := im qu3 hf
      refine r_ldc d_Mo_weight_29 k_Mo_210 ?_
      obtain rfl := Option.some.inj hf
      exact r_ireturn d_Mo_weight_31 rfl rfl
  refine r_icmp_eq 17 d_Mo_weight_2 (by decide) (fun qu19 => ?_) (fun qu19 => ?_)
  · replace hf := ip qu19 hf
    exact Kju1 ()  hf
  · replace hf := im qu19 hf
    refine r_aload_n 0 d_Mo_weight_5 rfl rfl ?_
    refine r_iload_n 1 d_Mo_weight_6 rfl rfl ?_
    refine r_iload_n 2 d_Mo_weight_7 rfl rfl ?_
    refine r_callV [.int p0, .int p1] d_Mo_weight_8 lk_Mo_207 sh_49 (cm_Mo_areTwo p0 p1 Mu) (by decide) rfl rfl (Nat.le_of_ble_eq_true rfl) ?_
    refine r_if_ne 17 d_Mo_weight_11 (by decide) (fun qu20 => ?_) (fun qu20 => ?_)
    · replace hf := im qu20 hf
      exact Kju1 ()  hf
    · replace hf := ip qu20 hf
      refine r_ldc d_Mo_weight_14 k_Mo_203 ?_
      obtain rfl := Option.some.inj hf
      exact r_ireturn d_Mo_weight_16 rfl rfl
def L_Mo_sides_147 (Nu : Nat) (p0 : Int32) (p1 : Int32) (z4_32 : Int32) (z8_135 : Int32) (ju14 : Int32 → Option (Int32)) : Nat → Int32 → Int32 → Option (Int32)
  | 0, _, _ => none
  | nu + 1, z9_147, z10_147 => if p0 ≤ z10_147 then ju14 z9_147 else lt (z9_147 + ((z4_32 >>> (((p1 * z10_147) + z8_135) &&& 31)) &&& 1)) fun xu24 => lt (z10_147 + 1) fun xu25 => L_Mo_sides_147 Nu p0 p1 z4_32 z8_135 ju14 nu xu24 xu25
def L_Mo_sides_135 (Nu : Nat) (p0 : Int32) (p1 : Int32) (z4_32 : Int32) (ju6 : Int32 → Option (Int32)) : Nat → Int32 → Int32 → Int32 → Option (Int32)
  | 0, _, _, _ => none
  | nu + 1, z6_135, z7_135, z8_135 => if p1 ≤ z8_135 then ju6 z7_135 else lt (fun (xu15 : Int32) => lt (fun (xu17 : Int32) => lt (z6_135 ||| ((1 : Int32) <<< (xu15 &&& 31))) fun xu18 => lt (z8_135 + 1) fun xu19 => L_Mo_sides_135 Nu p0 p1 z4_32 ju6 nu xu18 xu17 xu19) fun ju16 => lt (fun (_ : Unit) => ju16 0) fun ju20 => if z7_135 = 0 then ju20 () else if (f_Mo_has z6_135 xu15) = 0 then ju16 1 else ju20 ()) fun ju14 => L_Mo_sides_147 Nu p0 p1 z4_32 z8_135 ju14 Nu 0 0
def L_Mo_sides_66 (Nu : Nat) (p1 : Int32) (z4_32 : Int32) (z8_54 : Int32) (ju27 : Int32 → Option (Int32)) : Nat → Int32 → Int32 → Option (Int32)
  | 0, _, _ => none
  | nu + 1, z9_66, z10_66 => if p1 ≤ z10_66 then ju27 z9_66 else lt (z9_66 + ((z4_32 >>> (((p1 * z8_54) + z10_66) &&& 31)) &&& 1)) fun xu37 => lt (z10_66 + 1) fun xu38 => L_Mo_sides_66 Nu p1 z4_32 z8_54 ju27 nu xu37 xu38
def L_Mo_sides_54 (Nu : Nat) (p0 : Int32) (p1 : Int32) (z4_32 : Int32) (ju4 : Int32 → Option (Int32)) : Nat → Int32 → Int32 → Int32 → Option (Int32)
  | 0, _, _, _ => none
  | nu + 1, z5_54, z7_54, z8_54 => if p0 ≤ z8_54 then ju4 z7_54 else lt (fun (xu28 : Int32) => lt (fun (xu30 : Int32) => lt (z5_54 ||| ((1 : Int32) <<< (xu28 &&& 31))) fun xu31 => lt (z8_54 + 1) fun xu32 => L_Mo_sides_54 Nu p0 p1 z4_32 ju4 nu xu31 xu30 xu32) fun ju29 => lt (fun (_ : Unit) => ju29 0) fun ju33 => if z7_54 = 0 then ju33 () else if (f_Mo_has z5_54 xu28) = 0 then ju29 1 else ju33 ()) fun ju27 => L_Mo_sides_66 Nu p1 z4_32 z8_54 ju27 Nu 0 0
def L_Mo_sides_32 (Nu : Nat) (p0 : Int32) (p1 : Int32) : Nat → Int32 → Int32 → Option (Int32)
  | 0, _, _ => none
  | nu + 1, z3_32, z4_32 => if ((1 : Int32) <<< ((p0 * p1) &&& 31)) ≤ z4_32 then some z3_32 else lt (fun (xu5 : Int32) => lt (fun (xu7 : Int32) => lt (fun (xu9 : Int32) => lt (z3_32 + xu9) fun xu10 => lt (z4_32 + 1) fun xu11 => L_Mo_sides_32 Nu p0 p1 nu xu10 xu11) fun ju8 => if xu7 = 0 then ju8 0 else ju8 1) fun ju6 => L_Mo_sides_135 Nu p0 p1 z4_32 ju6 Nu 0 xu5 0) fun ju4 => L_Mo_sides_54 Nu p0 p1 z4_32 ju4 Nu 0 1 0
def f_Mo_sides (Nu : Nat) (p0 : Int32) (p1 : Int32) : Option (Int32) := if (f_Mo_in p0.toInt64 1 4) = 0 then some (-1000000002) else if (f_Mo_in p1.toInt64 1 4) = 0 then some (-1000000002) else L_Mo_sides_32 Nu p0 p1 Nu 0 0
theorem l_Mo_sides_147 {G : GT} {ru : Int32} (Nu : Nat) (p0 : Int32) (p1 : Int32) (z4_32 : Int32) (z8_135 : Int32) (ju14 : Int32 → Option (Int32)) (z3_32 : Int32) (z6_135 : Int32) (z7_135 : Int32) (Mu : Mm)  (Kju14 : ∀ (w9 : Int32), ju14 w9 = some ru → SW G 2 c_Mo_sides R_Mo 11 (some .int) (some (.int ru), Mu) Mu 176 [none, some (.int p0), some (.int p1), some (.int z3_32), some (.int z4_32), none, some (.int z6_135), some (.int z7_135), some (.int z8_135), some (.int w9), none] [])  : ∀ (nu : Nat) (z9_147 : Int32) (z10_147 : Int32), L_Mo_sides_147 Nu p0 p1 z4_32 z8_135 ju14 nu z9_147 z10_147 = some ru → SW G 2 c_Mo_sides R_Mo 11 (some .int) (some (.int ru), Mu) Mu 147 [none, some (.int p0), some (.int p1), some (.int z3_32), some (.int z4_32), none, some (.int z6_135), some (.int z7_135), some (.int z8_135), some (.int z9_147), some (.int z10_147)] []
  | 0, _, _, hf => by cases hf
  | nu + 1, z9_147, z10_147, hf => by
    have ih := l_Mo_sides_147 (G := G) (ru := ru) Nu p0 p1 z4_32 z8_135 ju14 z3_32 z6_135 z7_135 Mu  Kju14 nu
    rw [L_Mo_sides_147] at hf
    refine r_iload d_Mo_sides_147 rfl ?_
    refine r_iload_n 1 d_Mo_sides_149 rfl rfl ?_
    refine r_icmp_ge 176 d_Mo_sides_150 (by decide) (fun qu23 => ?_) (fun qu23 => ?_)
    · replace hf := ip qu23 hf
      refine r_weak [10] (lv' := [none, some (.int p0), some (.int p1), some (.int z3_32), some (.int z4_32), none, some (.int z6_135), some (.int z7_135), some (.int z8_135), some (.int z9_147), none]) rfl ?_
      exact Kju14 z9_147  hf
    · replace hf := im qu23 hf
      refine r_iload d_Mo_sides_153 rfl ?_
      refine r_iload d_Mo_sides_155 rfl ?_
      refine r_iload_n 2 d_Mo_sides_157 rfl rfl ?_
      refine r_iload d_Mo_sides_158 rfl ?_
      refine r_imul d_Mo_sides_160 ?_
      refine r_iload d_Mo_sides_161 rfl ?_
      refine r_iadd d_Mo_sides_163 ?_
      refine r_ishr d_Mo_sides_164 ?_
      refine r_iconst (v := 1) d_Mo_sides_165 (by decide) ?_
      refine r_iand d_Mo_sides_166 ?_
      refine r_iadd d_Mo_sides_167 ?_
      refine nmI (fun xu24 hxu24 => ?_)
      replace hf := lt_of hxu24 hf
      refine r_istore (lv' := [none, some (.int p0), some (.int p1), some (.int z3_32), some (.int z4_32), none, some (.int z6_135), some (.int z7_135), some (.int z8_135), some (.int xu24), some (.int z10_147)]) d_Mo_sides_168 (by decide) rfl ?_
      obtain ⟨xu25, hxu25⟩ : ∃ y : Int32, y = z10_147 + 1 := ⟨_, rfl⟩
      replace hf := lt_of hxu25 hf
      refine r_iinc (lv' := [none, some (.int p0), some (.int p1), some (.int z3_32), some (.int z4_32), none, some (.int z6_135), some (.int z7_135), some (.int z8_135), some (.int xu24), some (.int xu25)]) d_Mo_sides_170 rfl (by rw [hxu25]; rfl) (by decide) rfl ?_
      refine r_goto 147 d_Mo_sides_173 (by decide) ?_
      exact ih xu24 xu25  hf
theorem l_Mo_sides_135 {G : GT} {ru : Int32} (Nu : Nat) (p0 : Int32) (p1 : Int32) (z4_32 : Int32) (ju6 : Int32 → Option (Int32)) (z3_32 : Int32) (Mu : Mm)  (Kju6 : ∀ (w7 : Int32), ju6 w7 = some ru → SW G 2 c_Mo_sides R_Mo 11 (some .int) (some (.int ru), Mu) Mu 213 [none, some (.int p0), some (.int p1), some (.int z3_32), some (.int z4_32), none, none, some (.int w7), none, none, none] [])  : ∀ (nu : Nat) (z6_135 : Int32) (z7_135 : Int32) (z8_135 : Int32), L_Mo_sides_135 Nu p0 p1 z4_32 ju6 nu z6_135 z7_135 z8_135 = some ru → SW G 2 c_Mo_sides R_Mo 11 (some .int) (some (.int ru), Mu) Mu 135 [none, some (.int p0), some (.int p1), some (.int z3_32), some (.int z4_32), none, some (.int z6_135), some (.int z7_135), some (.int z8_135), none, none] []
  | 0, _, _, _, hf => by cases hf
  | nu + 1, z6_135, z7_135, z8_135, hf => by
    have ih := l_Mo_sides_135 (G := G) (ru := ru) Nu p0 p1 z4_32 ju6 z3_32 Mu  Kju6 nu
    rw [L_Mo_sides_135] at hf
    refine r_iload d_Mo_sides_135 rfl ?_
    refine r_iload_n 2 d_Mo_sides_137 rfl rfl ?_
    refine r_icmp_ge 213 d_Mo_sides_138 (by decide) (fun qu13 => ?_) (fun qu13 => ?_)
    · replace hf := ip qu13 hf
      refine r_weak [6, 8] (lv' := [none, some (.int p0), some (.int p1), some (.int z3_32), some (.int z4_32), none, none, some (.int z7_135), none, none, none]) rfl ?_
      exact Kju6 z7_135  hf
    · replace hf := im qu13 hf
      refine r_iconst (v := 0) d_Mo_sides_141 (by decide) ?_
      refine r_istore (lv' := [none, some (.int p0), some (.int p1), some (.int z3_32), some (.int z4_32), none, some (.int z6_135), some (.int z7_135), some (.int z8_135), some (.int 0), none]) d_Mo_sides_142 (by decide) rfl ?_
      refine r_iconst (v := 0) d_Mo_sides_144 (by decide) ?_
      refine r_istore (lv' := [none, some (.int p0), some (.int p1), some (.int z3_32), some (.int z4_32), none, some (.int z6_135), some (.int z7_135), some (.int z8_135), some (.int 0), some (.int 0)]) d_Mo_sides_145 (by decide) rfl ?_
      obtain ⟨ju14, hju14, hf⟩ := lt_ex hf
      have Kju14 : ∀ (xu15 : Int32), ju14 xu15 = some ru → SW G 2 c_Mo_sides R_Mo 11 (some .int) (some (.int ru), Mu) Mu 176 [none, some (.int p0), some (.int p1), some (.int z3_32), some (.int z4_32), none, some (.int z6_135), some (.int z7_135), some (.int z8_135), some (.int xu15), none] [] := by
        intro xu15 hf
        rw [hju14] at hf
        refine r_iload d_Mo_sides_176 rfl ?_
        obtain ⟨ju16, hju16, hf⟩ := lt_ex hf
        have Kju16 : ∀ (xu17 : Int32), ju16 xu17 = some ru → SW G 2 c_Mo_sides R_Mo 11 (some .int) (some (.int ru), Mu) Mu 196 [none, some (.int p0), some (.int p1), some (.int z3_32), some (.int z4_32), none, some (.int z6_135), none, some (.int z8_135), some (.int xu15), none] [.int xu17] := by
          intro xu17 hf
          rw [hju16] at hf
          refine r_istore (lv' := [none, some (.int p0), some (.int p1), some (.int z3_32), some (.int z4_32), none, some (.int z6_135), some (.int xu17), some (.int z8_135), some (.int xu15), none]) d_Mo_sides_196 (by decide) rfl ?_
          refine r_iload d_Mo_sides_198 rfl ?_
          refine r_iconst (v := 1) d_Mo_sides_200 (by decide) ?_
          refine r_iload d_Mo_sides_201 rfl ?_
          refine r_ishl d_Mo_sides_203 ?_
          refine r_ior d_Mo_sides_204 ?_
          refine nmI (fun xu18 hxu18 => ?_)
          replace hf := lt_of hxu18 hf
          refine r_istore (lv' := [none, some (.int p0), some (.int p1), some (.int z3_32), some (.int z4_32), none, some (.int xu18), some (.int xu17), some (.int z8_135), some (.int xu15), none]) d_Mo_sides_205 (by decide) rfl ?_
          obtain ⟨xu19, hxu19⟩ : ∃ y : Int32, y = z8_135 + 1 := ⟨_, rfl⟩
          replace hf := lt_of hxu19 hf
          refine r_iinc (lv' := [none, some (.int p0), some (.int p1), some (.int z3_32), some (.int z4_32), none, some (.int xu18), some (.int xu17), some (.int xu19), some (.int xu15), none]) d_Mo_sides_207 rfl (by rw [hxu19]; rfl) (by decide) rfl ?_
          refine r_goto 135 d_Mo_sides_210 (by decide) ?_
          refine r_weak [9] (lv' := [none, some (.int p0), some (.int p1), some (.int z3_32), some (.int z4_32), none, some (.int xu18), some (.int xu17), some (.int xu19), none, none]) rfl ?_
          exact ih xu18 xu17 xu19  hf
        obtain ⟨ju20, hju20, hf⟩ := lt_ex hf
        have Kju20 : ∀ (_ : Unit), ju20 () = some ru → SW G 2 c_Mo_sides R_Mo 11 (some .int) (some (.int ru), Mu) Mu 195 [none, some (.int p0), some (.int p1), some (.int z3_32), some (.int z4_32), none, some (.int z6_135), none, some (.int z8_135), some (.int xu15), none] [] := by
          intro _ hf
          rw [hju20] at hf
          refine r_iconst (v := 0) d_Mo_sides_195 (by decide) ?_
          exact Kju16 0  hf
        refine r_if_eq 195 d_Mo_sides_178 (by decide) (fun qu21 => ?_) (fun qu21 => ?_)
        · replace hf := ip qu21 hf
          refine r_weak [7] (lv' := [none, some (.int p0), some (.int p1), some (.int z3_32), some (.int z4_32), none, some (.int z6_135), none, some (.int z8_135), some (.int xu15), none]) rfl ?_
          exact Kju20 ()  hf
        · replace hf := im qu21 hf
          refine r_iload d_Mo_sides_181 rfl ?_
          refine r_iload d_Mo_sides_183 rfl ?_
          refine r_callS [.int z6_135, .int xu15] d_Mo_sides_185 lk_Mo_78 (cm_Mo_has z6_135 xu15 Mu) (by decide) rfl rfl (Nat.le_of_ble_eq_true rfl) ?_
          refine r_if_ne 195 d_Mo_sides_188 (by decide) (fun qu22 => ?_) (fun qu22 => ?_)
          · replace hf := im qu22 hf
            refine r_weak [7] (lv' := [none, some (.int p0), some (.int p1), some (.int z3_32), some (.int z4_32), none, some (.int z6_135), none, some (.int z8_135), some (.int xu15), none]) rfl ?_
            exact Kju20 ()  hf
          · replace hf := ip qu22 hf
            refine r_iconst (v := 1) d_Mo_sides_191 (by decide) ?_
            refine r_goto 196 d_Mo_sides_192 (by decide) ?_
            refine r_weak [7] (lv' := [none, some (.int p0), some (.int p1), some (.int z3_32), some (.int z4_32), none, some (.int z6_135), none, some (.int z8_135), some (.int xu15), none]) rfl ?_
            exact Kju16 1  hf
      exact l_Mo_sides_147 (G := G) (ru := ru) Nu p0 p1 z4_32 z8_135 ju14 z3_32 z6_135 z7_135 Mu  Kju14 Nu 0 0 hf
theorem l_Mo_sides_66 {G : GT} {ru : Int32} (Nu : Nat) (p1 : Int32) (z4_32 : Int32) (z8_54 : Int32) (ju27 : Int32 → Option (Int32)) (p0 : Int32) (z3_32 : Int32) (z5_54 : Int32) (z7_54 : Int32) (Mu : Mm)  (Kju27 : ∀ (w9 : Int32), ju27 w9 = some ru → SW G 2 c_Mo_sides R_Mo 11 (some .int) (some (.int ru), Mu) Mu 95 [none, some (.int p0), some (.int p1), some (.int z3_32), some (.int z4_32), some (.int z5_54), some (.int 0), some (.int z7_54), some (.int z8_54), some (.int w9), none] [])  : ∀ (nu : Nat) (z9_66 : Int32) (z10_66 : Int32), L_Mo_sides_66 Nu p1 z4_32 z8_54 ju27 nu z9_66 z10_66 = some ru → SW G 2 c_Mo_sides R_Mo 11 (some .int) (some (.int ru), Mu) Mu 66 [none, some (.int p0), some (.int p1), some (.int z3_32), some (.int z4_32), some (.int z5_54), some (.int 0), some (.int z7_54), some (.int z8_54), some (.int z9_66), some (.int z10_66)] []
  | 0, _, _, hf => by cases hf
  | nu + 1, z9_66, z10_66, hf => by
    have ih := l_Mo_sides_66 (G := G) (ru := ru) Nu p1 z4_32 z8_54 ju27 p0 z3_32 z5_54 z7_54 Mu  Kju27 nu
    rw [L_Mo_sides_66] at hf
    refine r_iload d_Mo_sides_66 rfl ?_
    refine r_iload_n 2 d_Mo_sides_68 rfl rfl ?_
    refine r_icmp_ge 95 d_Mo_sides_69 (by decide) (fun qu36 => ?_) (fun qu36 => ?_)
    · replace hf := ip qu36 hf
      refine r_weak [10] (lv' := [none, some (.int p0), some (.int p1), some (.int z3_32), some (.int z4_32), some (.int z5_54), some (.int 0), some (.int z7_54), some (.int z8_54), some (.int z9_66), none]) rfl ?_
      exact Kju27 z9_66  hf
    · replace hf := im qu36 hf
      refine r_iload d_Mo_sides_72 rfl ?_
      refine r_iload d_Mo_sides_74 rfl ?_
      refine r_iload_n 2 d_Mo_sides_76 rfl rfl ?_
      refine r_iload d_Mo_sides_77 rfl ?_
      refine r_imul d_Mo_sides_79 ?_
      refine r_iload d_Mo_sides_80 rfl ?_
      refine r_iadd d_Mo_sides_82 ?_
      refine r_ishr d_Mo_sides_83 ?_
      refine r_iconst (v := 1) d_Mo_sides_84 (by decide) ?_
      refine r_iand d_Mo_sides_85 ?_
      refine r_iadd d_Mo_sides_86 ?_
      refine nmI (fun xu37 hxu37 => ?_)
      replace hf := lt_of hxu37 hf
      refine r_istore (lv' := [none, some (.int p0), some (.int p1), some (.int z3_32), some (.int z4_32), some (.int z5_54), some (.int 0), some (.int z7_54), some (.int z8_54), some (.int xu37), some (.int z10_66)]) d_Mo_sides_87 (by decide) rfl ?_
      obtain ⟨xu38, hxu38⟩ : ∃ y : Int32, y = z10_66 + 1 := ⟨_, rfl⟩
      replace hf := lt_of hxu38 hf
      refine r_iinc (lv' := [none, some (.int p0), some (.int p1), some (.int z3_32), some (.int z4_32), some (.int z5_54), some (.int 0), some (.int z7_54), some (.int z8_54), some (.int xu37), some (.int xu38)]) d_Mo_sides_89 rfl (by rw [hxu38]; rfl) (by decide) rfl ?_
      refine r_goto 66 d_Mo_sides_92 (by decide) ?_
      exact ih xu37 xu38  hf
theorem l_Mo_sides_54 {G : GT} {ru : Int32} (Nu : Nat) (p0 : Int32) (p1 : Int32) (z4_32 : Int32) (ju4 : Int32 → Option (Int32)) (z3_32 : Int32) (Mu : Mm)  (Kju4 : ∀ (w7 : Int32), ju4 w7 = some ru → SW G 2 c_Mo_sides R_Mo 11 (some .int) (some (.int ru), Mu) Mu 132 [none, some (.int p0), some (.int p1), some (.int z3_32), some (.int z4_32), none, some (.int 0), some (.int w7), none, none, none] [])  : ∀ (nu : Nat) (z5_54 : Int32) (z7_54 : Int32) (z8_54 : Int32), L_Mo_sides_54 Nu p0 p1 z4_32 ju4 nu z5_54 z7_54 z8_54 = some ru → SW G 2 c_Mo_sides R_Mo 11 (some .int) (some (.int ru), Mu) Mu 54 [none, some (.int p0), some (.int p1), some (.int z3_32), some (.int z4_32), some (.int z5_54), some (.int 0), some (.int z7_54), some (.int z8_54), none, none] []
  | 0, _, _, _, hf => by cases hf
  | nu + 1, z5_54, z7_54, z8_54, hf => by
    have ih := l_Mo_sides_54 (G := G) (ru := ru) Nu p0 p1 z4_32 ju4 z3_32 Mu  Kju4 nu
    rw [L_Mo_sides_54] at hf
    refine r_iload d_Mo_sides_54 rfl ?_
    refine r_iload_n 1 d_Mo_sides_56 rfl rfl ?_
    refine r_icmp_ge 132 d_Mo_sides_57 (by decide) (fun qu26 => ?_) (fun qu26 => ?_)
    · replace hf := ip qu26 hf
      refine r_weak [5, 8] (lv' := [none, some (.int p0), some (.int p1), some (.int z3_32), some (.int z4_32), none, some (.int 0), some (.int z7_54), none, none, none]) rfl ?_
      exact Kju4 z7_54  hf
    · replace hf := im qu26 hf
      refine r_iconst (v := 0) d_Mo_sides_60 (by decide) ?_
      refine r_istore (lv' := [none, some (.int p0), some (.int p1), some (.int z3_32), some (.int z4_32), some (.int z5_54), some (.int 0), some (.int z7_54), some (.int z8_54), some (.int 0), none]) d_Mo_sides_61 (by decide) rfl ?_
      refine r_iconst (v := 0) d_Mo_sides_63 (by decide) ?_
      refine r_istore (lv' := [none, some (.int p0), some (.int p1), some (.int z3_32), some (.int z4_32), some (.int z5_54), some (.int 0), some (.int z7_54), some (.int z8_54), some (.int 0), some (.int 0)]) d_Mo_sides_64 (by decide) rfl ?_
      obtain ⟨ju27, hju27, hf⟩ := lt_ex hf
      have Kju27 : ∀ (xu28 : Int32), ju27 xu28 = some ru → SW G 2 c_Mo_sides R_Mo 11 (some .int) (some (.int ru), Mu) Mu 95 [none, some (.int p0), some (.int p1), some (.int z3_32), some (.int z4_32), some (.int z5_54), some (.int 0), some (.int z7_54), some (.int z8_54), some (.int xu28), none] [] := by
        intro xu28 hf
        rw [hju27] at hf
        refine r_iload d_Mo_sides_95 rfl ?_
        obtain ⟨ju29, hju29, hf⟩ := lt_ex hf
        have Kju29 : ∀ (xu30 : Int32), ju29 xu30 = some ru → SW G 2 c_Mo_sides R_Mo 11 (some .int) (some (.int ru), Mu) Mu 115 [none, some (.int p0), some (.int p1), some (.int z3_32), some (.int z4_32), some (.int z5_54), some (.int 0), none, some (.int z8_54), some (.int xu28), none] [.int xu30] := by
          intro xu30 hf
          rw [hju29] at hf
          refine r_istore (lv' := [none, some (.int p0), some (.int p1), some (.int z3_32), some (.int z4_32), some (.int z5_54), some (.int 0), some (.int xu30), some (.int z8_54), some (.int xu28), none]) d_Mo_sides_115 (by decide) rfl ?_
          refine r_iload d_Mo_sides_117 rfl ?_
          refine r_iconst (v := 1) d_Mo_sides_119 (by decide) ?_
          refine r_iload d_Mo_sides_120 rfl ?_
          refine r_ishl d_Mo_sides_122 ?_
          refine r_ior d_Mo_sides_123 ?_
          refine nmI (fun xu31 hxu31 => ?_)
          replace hf := lt_of hxu31 hf
          refine r_istore (lv' := [none, some (.int p0), some (.int p1), some (.int z3_32), some (.int z4_32), some (.int xu31), some (.int 0), some (.int xu30), some (.int z8_54), some (.int xu28), none]) d_Mo_sides_124 (by decide) rfl ?_
          obtain ⟨xu32, hxu32⟩ : ∃ y : Int32, y = z8_54 + 1 := ⟨_, rfl⟩
          replace hf := lt_of hxu32 hf
          refine r_iinc (lv' := [none, some (.int p0), some (.int p1), some (.int z3_32), some (.int z4_32), some (.int xu31), some (.int 0), some (.int xu30), some (.int xu32), some (.int xu28), none]) d_Mo_sides_126 rfl (by rw [hxu32]; rfl) (by decide) rfl ?_
          refine r_goto 54 d_Mo_sides_129 (by decide) ?_
          refine r_weak [9] (lv' := [none, some (.int p0), some (.int p1), some (.int z3_32), some (.int z4_32), some (.int xu31), some (.int 0), some (.int xu30), some (.int xu32), none, none]) rfl ?_
          exact ih xu31 xu30 xu32  hf
        obtain ⟨ju33, hju33, hf⟩ := lt_ex hf
        have Kju33 : ∀ (_ : Unit), ju33 () = some ru → SW G 2 c_Mo_sides R_Mo 11 (some .int) (some (.int ru), Mu) Mu 114 [none, some (.int p0), some (.int p1), some (.int z3_32), some (.int z4_32), some (.int z5_54), some (.int 0), none, some (.int z8_54), some (.int xu28), none] [] := by
          intro _ hf
          rw [hju33] at hf
          refine r_iconst (v := 0) d_Mo_sides_114 (by decide) ?_
          exact Kju29 0  hf
        refine r_if_eq 114 d_Mo_sides_97 (by decide) (fun qu34 => ?_) (fun qu34 => ?_)
        · replace hf := ip qu34 hf
          refine r_weak [7] (lv' := [none, some (.int p0), some (.int p1), some (.int z3_32), some (.int z4_32), some (.int z5_54), some (.int 0), none, some (.int z8_54), some (.int xu28), none]) rfl ?_
          exact Kju33 ()  hf
        · replace hf := im qu34 hf
          refine r_iload d_Mo_sides_100 rfl ?_
          refine r_iload d_Mo_sides_102 rfl ?_
          refine r_callS [.int z5_54, .int xu28] d_Mo_sides_104 lk_Mo_78 (cm_Mo_has z5_54 xu28 Mu) (by decide) rfl rfl (Nat.le_of_ble_eq_true rfl) ?_
          refine r_if_ne 114 d_Mo_sides_107 (by decide) (fun qu35 => ?_) (fun qu35 => ?_)
          · replace hf := im qu35 hf
            refine r_weak [7] (lv' := [none, some (.int p0), some (.int p1), some (.int z3_32), some (.int z4_32), some (.int z5_54), some (.int 0), none, some (.int z8_54), some (.int xu28), none]) rfl ?_
            exact Kju33 ()  hf
          · replace hf := ip qu35 hf
            refine r_iconst (v := 1) d_Mo_sides_110 (by decide) ?_
            refine r_goto 115 d_Mo_sides_111 (by decide) ?_
            refine r_weak [7] (lv' := [none, some (.int p0), some (.int p1), some (.int z3_32), some (.int z4_32), some (.int z5_54), some (.int 0), none, some (.int z8_54), some (.int xu28), none]) rfl ?_
            exact Kju29 1  hf
      exact l_Mo_sides_66 (G := G) (ru := ru) Nu p1 z4_32 z8_54 ju27 p0 z3_32 z5_54 z7_54 Mu  Kju27 Nu 0 0 hf
theorem l_Mo_sides_32 {G : GT} {ru : Int32} (Nu : Nat) (p0 : Int32) (p1 : Int32) (Mu : Mm)    : ∀ (nu : Nat) (z3_32 : Int32) (z4_32 : Int32), L_Mo_sides_32 Nu p0 p1 nu z3_32 z4_32 = some ru → SW G 2 c_Mo_sides R_Mo 11 (some .int) (some (.int ru), Mu) Mu 32 [none, some (.int p0), some (.int p1), some (.int z3_32), some (.int z4_32), none, none, none, none, none, none] []
  | 0, _, _, hf => by cases hf
  | nu + 1, z3_32, z4_32, hf => by
    have ih := l_Mo_sides_32 (G := G) (ru := ru) Nu p0 p1 Mu   nu
    rw [L_Mo_sides_32] at hf
    refine r_iload d_Mo_sides_32 rfl ?_
    refine r_iconst (v := 1) d_Mo_sides_34 (by decide) ?_
    refine r_iload_n 1 d_Mo_sides_35 rfl rfl ?_
    refine r_iload_n 2 d_Mo_sides_36 rfl rfl ?_
    refine r_imul d_Mo_sides_37 ?_
    refine r_ishl d_Mo_sides_38 ?_
    refine r_icmp_ge 232 d_Mo_sides_39 (by decide) (fun qu3 => ?_) (fun qu3 => ?_)
    · replace hf := ip qu3 hf
      refine r_iload_n 3 d_Mo_sides_232 rfl rfl ?_
      obtain rfl := Option.some.inj hf
      exact r_ireturn d_Mo_sides_233 rfl rfl
    · replace hf := im qu3 hf
      refine r_iconst (v := 0) d_Mo_sides_42 (by decide) ?_
      refine r_istore (lv' := [none, some (.int p0), some (.int p1), some (.int z3_32), some (.int z4_32), some (.int 0), none, none, none, none, none]) d_Mo_sides_43 (by decide) rfl ?_
      refine r_iconst (v := 0) d_Mo_sides_45 (by decide) ?_
      refine r_istore (lv' := [none, some (.int p0), some (.int p1), some (.int z3_32), some (.int z4_32), some (.int 0), some (.int 0), none, none, none, none]) d_Mo_sides_46 (by decide) rfl ?_
      refine r_iconst (v := 1) d_Mo_sides_48 (by decide) ?_
      refine r_istore (lv' := [none, some (.int p0), some (.int p1), some (.int z3_32), some (.int z4_32), some (.int 0), some (.int 0), some (.int 1), none, none, none]) d_Mo_sides_49 (by decide) rfl ?_
      refine r_iconst (v := 0) d_Mo_sides_51 (by decide) ?_
      refine r_istore (lv' := [none, some (.int p0), some (.int p1), some (.int z3_32), some (.int z4_32), some (.int 0), some (.int 0), some (.int 1), some (.int 0), none, none]) d_Mo_sides_52 (by decide) rfl ?_
      obtain ⟨ju4, hju4, hf⟩ := lt_ex hf
      have Kju4 : ∀ (xu5 : Int32), ju4 xu5 = some ru → SW G 2 c_Mo_sides R_Mo 11 (some .int) (some (.int ru), Mu) Mu 132 [none, some (.int p0), some (.int p1), some (.int z3_32), some (.int z4_32), none, some (.int 0), some (.int xu5), none, none, none] [] := by
        intro xu5 hf
        rw [hju4] at hf
        refine r_iconst (v := 0) d_Mo_sides_132 (by decide) ?_
        refine r_istore (lv' := [none, some (.int p0), some (.int p1), some (.int z3_32), some (.int z4_32), none, some (.int 0), some (.int xu5), some (.int 0), none, none]) d_Mo_sides_133 (by decide) rfl ?_
        obtain ⟨ju6, hju6, hf⟩ := lt_ex hf
        have Kju6 : ∀ (xu7 : Int32), ju6 xu7 = some ru → SW G 2 c_Mo_sides R_Mo 11 (some .int) (some (.int ru), Mu) Mu 213 [none, some (.int p0), some (.int p1), some (.int z3_32), some (.int z4_32), none, none, some (.int xu7), none, none, none] [] := by
          intro xu7 hf
          rw [hju6] at hf
          refine r_iload_n 3 d_Mo_sides_213 rfl rfl ?_
          refine r_iload d_Mo_sides_214 rfl ?_
          obtain ⟨ju8, hju8, hf⟩ := lt_ex hf
          have Kju8 : ∀ (xu9 : Int32), ju8 xu9 = some ru → SW G 2 c_Mo_sides R_Mo 11 (some .int) (some (.int ru), Mu) Mu 224 [none, some (.int p0), some (.int p1), none, some (.int z4_32), none, none, none, none, none, none] [.int xu9, .int z3_32] := by
            intro xu9 hf
            rw [hju8] at hf
            refine r_iadd d_Mo_sides_224 ?_
            refine nmI (fun xu10 hxu10 => ?_)
            replace hf := lt_of hxu10 hf
            refine r_istore_n (lv' := [none, some (.int p0), some (.int p1), some (.int xu10), some (.int z4_32), none, none, none, none, none, none]) 3 d_Mo_sides_225 rfl (by decide) rfl ?_
            obtain ⟨xu11, hxu11⟩ : ∃ y : Int32, y = z4_32 + 1 := ⟨_, rfl⟩
            replace hf := lt_of hxu11 hf
            refine r_iinc (lv' := [none, some (.int p0), some (.int p1), some (.int xu10), some (.int xu11), none, none, none, none, none, none]) d_Mo_sides_226 rfl (by rw [hxu11]; rfl) (by decide) rfl ?_
            refine r_goto 32 d_Mo_sides_229 (by decide) ?_
            exact ih xu10 xu11  hf
          refine r_if_eq 223 d_Mo_sides_216 (by decide) (fun qu12 => ?_) (fun qu12 => ?_)
          · replace hf := ip qu12 hf
            refine r_iconst (v := 0) d_Mo_sides_223 (by decide) ?_
            refine r_weak [3, 7] (lv' := [none, some (.int p0), some (.int p1), none, some (.int z4_32), none, none, none, none, none, none]) rfl ?_
            exact Kju8 0  hf
          · replace hf := im qu12 hf
            refine r_iconst (v := 1) d_Mo_sides_219 (by decide) ?_
            refine r_goto 224 d_Mo_sides_220 (by decide) ?_
            refine r_weak [3, 7] (lv' := [none, some (.int p0), some (.int p1), none, some (.int z4_32), none, none, none, none, none, none]) rfl ?_
            exact Kju8 1  hf
        exact l_Mo_sides_135 (G := G) (ru := ru) Nu p0 p1 z4_32 ju6 z3_32 Mu  Kju6 Nu 0 xu5 0 hf
      exact l_Mo_sides_54 (G := G) (ru := ru) Nu p0 p1 z4_32 ju4 z3_32 Mu  Kju4 Nu 0 1 0 hf
theorem cm_Mo_sides {G : GT} {Nu : Nat} {p0 : Int32} {p1 : Int32} {Mu : Mm} {ru : Int32}  (hf : f_Mo_sides Nu p0 p1 = some ru) : CM G 2 y_Mo_sides c_Mo_sides 11 (some .int) (some (.int ru), Mu) Mu [.ref 49, .int p0, .int p1] := by
  unfold f_Mo_sides at hf
  refine CM.of (own := R_Mo) (lv := [some (.ref 49), some (.int p0), some (.int p1), none, none, none, none, none, none, none, none]) (by decide) rfl (Nat.le_of_ble_eq_true rfl) rfl ?_
  refine r_iload_n 1 d_Mo_sides_0 rfl rfl ?_
  refine r_i2l d_Mo_sides_1 ?_
  refine r_lconst (v := 1) d_Mo_sides_2 (by decide) ?_
  refine r_ldc2_w d_Mo_sides_3 k_Mo_287 ?_
  refine r_callS [.long p0.toInt64, .long 1, .long 4] d_Mo_sides_6 lk_Mo_66 (cm_Mo_in p0.toInt64 1 4 Mu) (by decide) rfl rfl (Nat.le_of_ble_eq_true rfl) ?_
  refine r_if_eq 24 d_Mo_sides_9 (by decide) (fun qu1 => ?_) (fun qu1 => ?_)
  · replace hf := ip qu1 hf
    refine r_ldc d_Mo_sides_24 k_Mo_94 ?_
    obtain rfl := Option.some.inj hf
    exact r_ireturn d_Mo_sides_26 rfl rfl
  · replace hf := im qu1 hf
    refine r_iload_n 2 d_Mo_sides_12 rfl rfl ?_
    refine r_i2l d_Mo_sides_13 ?_
    refine r_lconst (v := 1) d_Mo_sides_14 (by decide) ?_
    refine r_ldc2_w d_Mo_sides_15 k_Mo_287 ?_
    refine r_callS [.long p1.toInt64, .long 1, .long 4] d_Mo_sides_18 lk_Mo_66 (cm_Mo_in p1.toInt64 1 4 Mu) (by decide) rfl rfl (Nat.le_of_ble_eq_true rfl) ?_
    refine r_if_ne 27 d_Mo_sides_21 (by decide) (fun qu2 => ?_) (fun qu2 => ?_)
    · replace hf := im qu2 hf
      refine r_iconst (v := 0) d_Mo_sides_27 (by decide) ?_
      refine r_istore_n (lv' := [some (.ref 49), some (.int p0), some (.int p1), some (.int 0), none, none, none, none, none, none, none]) 3 d_Mo_sides_28 rfl (by decide) rfl ?_
      refine r_iconst (v := 0) d_Mo_sides_29 (by decide) ?_
      refine r_istore (lv' := [some (.ref 49), some (.int p0), some (.int p1), some (.int 0), some (.int 0), none, none, none, none, none, none]) d_Mo_sides_30 (by decide) rfl ?_
      refine r_weak [0] (lv' := [none, some (.int p0), some (.int p1), some (.int 0), some (.int 0), none, none, none, none, none, none]) rfl ?_
      exact l_Mo_sides_32 (G := G) (ru := ru) Nu p0 p1 Mu   Nu 0 0 hf
    · replace hf := ip qu2 hf
      refine r_ldc d_Mo_sides_24 k_Mo_94 ?_
      obtain rfl := Option.some.inj hf
      exact r_ireturn d_Mo_sides_26 rfl rfl
def L_Mo_sorts_90 (Nu : Nat) (p0 : Int32) (z6_78 : Int32) (ju17 : Int32 → Mm → Option (Int32 × Mm)) : Nat → Int32 → Int32 → Mm → Option (Int32 × Mm)
  | 0, _, _, _ => none
  | nu + 1, z5_90, z7_90, M_90 => if p0 ≤ z7_90 then ju17 z5_90 M_90 else lt (fun (xu23 : Int32) => if inb z6_78 8 = true then if inb z6_78 8 = true then lt (si M_90 56 (Int32.toNatClampNeg z6_78) ((M_90.1 56 (Int32.toNatClampNeg z6_78)) + xu23)) fun Mu26 => if inb z7_90 8 = true then if inb z7_90 8 = true then lt (si Mu26 56 (Int32.toNatClampNeg z7_90) ((Mu26.1 56 (Int32.toNatClampNeg z7_90)) + xu23)) fun Mu29 => lt (z5_90 / 3) fun xu30 => lt (z7_90 + 1) fun xu31 => L_Mo_sorts_90 Nu p0 z6_78 ju17 nu xu30 xu31 Mu29 else none else none else none else none) fun ju22 => if (z5_90 - z5_90 / 3 * 3) = 0 then ju22 0 else if (z5_90 - z5_90 / 3 * 3) = 1 then ju22 1 else ju22 10
def L_Mo_sorts_78 (Nu : Nat) (p0 : Int32) (ju7 : Mm → Option (Int32 × Mm)) : Nat → Int32 → Int32 → Mm → Option (Int32 × Mm)
  | 0, _, _, _ => none
  | nu + 1, z5_78, z6_78, M_78 => if p0 ≤ z6_78 then ju7 M_78 else lt (z6_78 + 1) fun xu16 => lt (fun (xu18 : Int32) (Mu19 : Mm) => lt (z6_78 + 1) fun xu20 => L_Mo_sorts_78 Nu p0 ju7 nu xu18 xu20 Mu19) fun ju17 => L_Mo_sorts_90 Nu p0 z6_78 ju17 Nu z5_78 xu16 M_78
def L_Mo_sorts_55 (Nu : Nat) (p0 : Int32) (ju5 : Mm → Option (Int32 × Mm)) : Nat → Int32 → Mm → Option (Int32 × Mm)
  | 0, _, _ => none
  | nu + 1, z6_55, M_55 => if p0 ≤ z6_55 then ju5 M_55 else if inb z6_55 8 = true then lt (si M_55 56 (Int32.toNatClampNeg z6_55) 0) fun Mu36 => lt (z6_55 + 1) fun xu37 => L_Mo_sorts_55 Nu p0 ju5 nu xu37 Mu36 else none
def L_Mo_sorts_42 (Nu : Nat) (p0 : Int32) (xu3 : Int32) : Nat → Int32 → Int32 → Mm → Option (Int32 × Mm)
  | 0, _, _, _ => none
  | nu + 1, z3_42, z4_42, M_42 => if xu3 ≤ z4_42 then some (z3_42, M_42) else lt (fun (Mu6 : Mm) => lt (fun (Mu8 : Mm) => (f_Mo_areUnlike Nu p0 Mu8).bind fun vu9 => lt (fun (xu11 : Int32) => lt (z3_42 + xu11) fun xu12 => lt (z4_42 + 1) fun xu13 => L_Mo_sorts_42 Nu p0 xu3 nu xu12 xu13 Mu8) fun ju10 => if vu9 = 0 then ju10 0 else ju10 1) fun ju7 => L_Mo_sorts_78 Nu p0 ju7 Nu z4_42 0 Mu6) fun ju5 => L_Mo_sorts_55 Nu p0 ju5 Nu 0 M_42
def L_Mo_sorts_19 (Nu : Nat) (p0 : Int32) (ju2 : Int32 → Option (Int32 × Mm)) : Nat → Int32 → Int32 → Option (Int32 × Mm)
  | 0, _, _ => none
  | nu + 1, z2_19, z3_19 => if (f_Mo_pairs p0) ≤ z3_19 then ju2 z2_19 else lt (z2_19 * 3) fun xu39 => lt (z3_19 + 1) fun xu40 => L_Mo_sorts_19 Nu p0 ju2 nu xu39 xu40
def f_Mo_sorts (Nu : Nat) (p0 : Int32) (Mu : Mm) : Option (Int32 × Mm) := if (f_Mo_in p0.toInt64 1 5) = 0 then some ((-1000000002), Mu) else lt (fun (xu3 : Int32) => L_Mo_sorts_42 Nu p0 xu3 Nu 0 0 Mu) fun ju2 => L_Mo_sorts_19 Nu p0 ju2 Nu 1 0
theorem l_Mo_sorts_90 {G : GT} {ru : Int32 × Mm} (Nu : Nat) (p0 : Int32) (z6_78 : Int32) (ju17 : Int32 → Mm → Option (Int32 × Mm)) (xu3 : Int32) (z3_42 : Int32) (z4_42 : Int32)  (Kju17 : ∀ (w5 : Int32) (Mw : Mm), ju17 w5 Mw = some ru → SW G 2 c_Mo_sorts R_Mo 9 (some .int) (some (.int ru.1), ru.2) Mw 159 [some (.ref 49), some (.int p0), some (.int xu3), some (.int z3_42), some (.int z4_42), some (.int w5), some (.int z6_78), none, none] [])  : ∀ (nu : Nat) (z5_90 : Int32) (z7_90 : Int32) (M_90 : Mm), L_Mo_sorts_90 Nu p0 z6_78 ju17 nu z5_90 z7_90 M_90 = some ru → SW G 2 c_Mo_sorts R_Mo 9 (some .int) (some (.int ru.1), ru.2) M_90 90 [some (.ref 49), some (.int p0), some (.int xu3), some (.int z3_42), some (.int z4_42), some (.int z5_90), some (.int z6_78), some (.int z7_90), none] []
  | 0, _, _, _, hf => by cases hf
  | nu + 1, z5_90, z7_90, M_90, hf => by
    have ih := l_Mo_sorts_90 (G := G) (ru := ru) Nu p0 z6_78 ju17 xu3 z3_42 z4_42  Kju17 nu
    rw [L_Mo_sorts_90] at hf
    refine r_iload d_Mo_sorts_90 rfl ?_
    refine r_iload_n 1 d_Mo_sorts_92 rfl rfl ?_
    refine r_icmp_ge 159 d_Mo_sorts_93 (by decide) (fun qu21 => ?_) (fun qu21 => ?_)
    · replace hf := ip qu21 hf
      refine r_weak [7] (lv' := [some (.ref 49), some (.int p0), some (.int xu3), some (.int z3_42), some (.int z4_42), some (.int z5_90), some (.int z6_78), none, none]) rfl ?_
      exact Kju17 z5_90 M_90  hf
    · replace hf := im qu21 hf
      refine r_iload d_Mo_sorts_96 rfl ?_
      refine r_iconst (v := 3) d_Mo_sorts_98 (by decide) ?_
      refine r_irem d_Mo_sorts_99 (by decide) ?_
      obtain ⟨ju22, hju22, hf⟩ := lt_ex hf
      have Kju22 : ∀ (xu23 : Int32), ju22 xu23 = some ru → SW G 2 c_Mo_sorts R_Mo 9 (some .int) (some (.int ru.1), ru.2) M_90 121 [some (.ref 49), some (.int p0), some (.int xu3), some (.int z3_42), some (.int z4_42), some (.int z5_90), some (.int z6_78), some (.int z7_90), none] [.int xu23] := by
        intro xu23 hf
        rw [hju22] at hf
        refine r_istore (lv' := [some (.ref 49), some (.int p0), some (.int xu3), some (.int z3_42), some (.int z4_42), some (.int z5_90), some (.int z6_78), some (.int z7_90), some (.int xu23)]) d_Mo_sorts_121 (by decide) rfl ?_
        refine r_aload_n 0 d_Mo_sorts_123 rfl rfl ?_
        refine r_getR 56 d_Mo_sorts_124 fl_Mo_38 sh_49 rfl rf_49_30 ?_
        refine r_iload d_Mo_sorts_127 rfl ?_
        refine r_dup2 d_Mo_sorts_129 rfl rfl ?_
        obtain ⟨qu24, hf⟩ := ck hf
        refine r_iald d_Mo_sorts_130 sh_56 qu24 ?_
        refine r_iload d_Mo_sorts_131 rfl ?_
        refine r_iadd d_Mo_sorts_133 ?_
        obtain ⟨qu25, hf⟩ := ck hf
        refine r_iast d_Mo_sorts_134 sh_56 qu25 ?_
        refine nmM (fun Mu26 hMu26 => ?_)
        replace hf := lt_of hMu26 hf
        refine r_aload_n 0 d_Mo_sorts_135 rfl rfl ?_
        refine r_getR 56 d_Mo_sorts_136 fl_Mo_38 sh_49 rfl rf_49_30 ?_
        refine r_iload d_Mo_sorts_139 rfl ?_
        refine r_dup2 d_Mo_sorts_141 rfl rfl ?_
        obtain ⟨qu27, hf⟩ := ck hf
        refine r_iald d_Mo_sorts_142 sh_56 qu27 ?_
        refine r_iload d_Mo_sorts_143 rfl ?_
        refine r_iadd d_Mo_sorts_145 ?_
        obtain ⟨qu28, hf⟩ := ck hf
        refine r_iast d_Mo_sorts_146 sh_56 qu28 ?_
        refine nmM (fun Mu29 hMu29 => ?_)
        replace hf := lt_of hMu29 hf
        refine r_iload d_Mo_sorts_147 rfl ?_
        refine r_iconst (v := 3) d_Mo_sorts_149 (by decide) ?_
        refine r_idiv d_Mo_sorts_150 (by decide) ?_
        refine nmI (fun xu30 hxu30 => ?_)
        replace hf := lt_of hxu30 hf
        refine r_istore (lv' := [some (.ref 49), some (.int p0), some (.int xu3), some (.int z3_42), some (.int z4_42), some (.int xu30), some (.int z6_78), some (.int z7_90), some (.int xu23)]) d_Mo_sorts_151 (by decide) rfl ?_
        obtain ⟨xu31, hxu31⟩ : ∃ y : Int32, y = z7_90 + 1 := ⟨_, rfl⟩
        replace hf := lt_of hxu31 hf
        refine r_iinc (lv' := [some (.ref 49), some (.int p0), some (.int xu3), some (.int z3_42), some (.int z4_42), some (.int xu30), some (.int z6_78), some (.int xu31), some (.int xu23)]) d_Mo_sorts_153 rfl (by rw [hxu31]; rfl) (by decide) rfl ?_
        refine r_goto 90 d_Mo_sorts_156 (by decide) ?_
        refine r_weak [8] (lv' := [some (.ref 49), some (.int p0), some (.int xu3), some (.int z3_42), some (.int z4_42), some (.int xu30), some (.int z6_78), some (.int xu31), none]) rfl ?_
        exact ih xu30 xu31 Mu29  hf
      refine r_if_ne 107 d_Mo_sorts_100 (by decide) (fun qu32 => ?_) (fun qu32 => ?_)
      · replace hf := im qu32 hf
        refine r_iload d_Mo_sorts_107 rfl ?_
        refine r_iconst (v := 3) d_Mo_sorts_109 (by decide) ?_
        refine r_irem d_Mo_sorts_110 (by decide) ?_
        refine r_iconst (v := 1) d_Mo_sorts_111 (by decide) ?_
        refine r_icmp_ne 119 d_Mo_sorts_112 (by decide) (fun qu33 => ?_) (fun qu33 => ?_)
        · replace hf := im qu33 hf
          refine r_bipush (v := 10) d_Mo_sorts_119 (by decide) ?_
          exact Kju22 10  hf
        · replace hf := ip qu33 hf
          refine r_iconst (v := 1) d_Mo_sorts_115 (by decide) ?_
          refine r_goto 121 d_Mo_sorts_116 (by decide) ?_
          exact Kju22 1  hf
      · replace hf := ip qu32 hf
        refine r_iconst (v := 0) d_Mo_sorts_103 (by decide) ?_
        refine r_goto 121 d_Mo_sorts_104 (by decide) ?_
        exact Kju22 0  hf
theorem l_Mo_sorts_78 {G : GT} {ru : Int32 × Mm} (Nu : Nat) (p0 : Int32) (ju7 : Mm → Option (Int32 × Mm)) (xu3 : Int32) (z3_42 : Int32) (z4_42 : Int32)  (Kju7 : ∀ (Mw : Mm), ju7 Mw = some ru → SW G 2 c_Mo_sorts R_Mo 9 (some .int) (some (.int ru.1), ru.2) Mw 165 [some (.ref 49), some (.int p0), some (.int xu3), some (.int z3_42), some (.int z4_42), none, none, none, none] [])  : ∀ (nu : Nat) (z5_78 : Int32) (z6_78 : Int32) (M_78 : Mm), L_Mo_sorts_78 Nu p0 ju7 nu z5_78 z6_78 M_78 = some ru → SW G 2 c_Mo_sorts R_Mo 9 (some .int) (some (.int ru.1), ru.2) M_78 78 [some (.ref 49), some (.int p0), some (.int xu3), some (.int z3_42), some (.int z4_42), some (.int z5_78), some (.int z6_78), none, none] []
  | 0, _, _, _, hf => by cases hf
  | nu + 1, z5_78, z6_78, M_78, hf => by
    have ih := l_Mo_sorts_78 (G := G) (ru := ru) Nu p0 ju7 xu3 z3_42 z4_42  Kju7 nu
    rw [L_Mo_sorts_78] at hf
    refine r_iload d_Mo_sorts_78 rfl ?_
    refine r_iload_n 1 d_Mo_sorts_80 rfl rfl ?_
    refine r_icmp_ge 165 d_Mo_sorts_81 (by decide) (fun qu15 => ?_) (fun qu15 => ?_)
    · replace hf := ip qu15 hf
      refine r_weak [5, 6] (lv' := [some (.ref 49), some (.int p0), some (.int xu3), some (.int z3_42), some (.int z4_42), none, none, none, none]) rfl ?_
      exact Kju7 M_78  hf
    · replace hf := im qu15 hf
      refine r_iload d_Mo_sorts_84 rfl ?_
      refine r_iconst (v := 1) d_Mo_sorts_86 (by decide) ?_
      refine r_iadd d_Mo_sorts_87 ?_
      refine nmI (fun xu16 hxu16 => ?_)
      replace hf := lt_of hxu16 hf
      refine r_istore (lv' := [some (.ref 49), some (.int p0), some (.int xu3), some (.int z3_42), some (.int z4_42), some (.int z5_78), some (.int z6_78), some (.int xu16), none]) d_Mo_sorts_88 (by decide) rfl ?_
      obtain ⟨ju17, hju17, hf⟩ := lt_ex hf
      have Kju17 : ∀ (xu18 : Int32) (Mu19 : Mm), ju17 xu18 Mu19 = some ru → SW G 2 c_Mo_sorts R_Mo 9 (some .int) (some (.int ru.1), ru.2) Mu19 159 [some (.ref 49), some (.int p0), some (.int xu3), some (.int z3_42), some (.int z4_42), some (.int xu18), some (.int z6_78), none, none] [] := by
        intro xu18 Mu19 hf
        rw [hju17] at hf
        obtain ⟨xu20, hxu20⟩ : ∃ y : Int32, y = z6_78 + 1 := ⟨_, rfl⟩
        replace hf := lt_of hxu20 hf
        refine r_iinc (lv' := [some (.ref 49), some (.int p0), some (.int xu3), some (.int z3_42), some (.int z4_42), some (.int xu18), some (.int xu20), none, none]) d_Mo_sorts_159 rfl (by rw [hxu20]; rfl) (by decide) rfl ?_
        refine r_goto 78 d_Mo_sorts_162 (by decide) ?_
        exact ih xu18 xu20 Mu19  hf
      exact l_Mo_sorts_90 (G := G) (ru := ru) Nu p0 z6_78 ju17 xu3 z3_42 z4_42  Kju17 Nu z5_78 xu16 M_78 hf
theorem l_Mo_sorts_55 {G : GT} {ru : Int32 × Mm} (Nu : Nat) (p0 : Int32) (ju5 : Mm → Option (Int32 × Mm)) (xu3 : Int32) (z3_42 : Int32) (z4_42 : Int32)  (Kju5 : ∀ (Mw : Mm), ju5 Mw = some ru → SW G 2 c_Mo_sorts R_Mo 9 (some .int) (some (.int ru.1), ru.2) Mw 75 [some (.ref 49), some (.int p0), some (.int xu3), some (.int z3_42), some (.int z4_42), some (.int z4_42), none, none, none] [])  : ∀ (nu : Nat) (z6_55 : Int32) (M_55 : Mm), L_Mo_sorts_55 Nu p0 ju5 nu z6_55 M_55 = some ru → SW G 2 c_Mo_sorts R_Mo 9 (some .int) (some (.int ru.1), ru.2) M_55 55 [some (.ref 49), some (.int p0), some (.int xu3), some (.int z3_42), some (.int z4_42), some (.int z4_42), some (.int z6_55), none, none] []
  | 0, _, _, hf => by cases hf
  | nu + 1, z6_55, M_55, hf => by
    have ih := l_Mo_sorts_55 (G := G) (ru := ru) Nu p0 ju5 xu3 z3_42 z4_42  Kju5 nu
    rw [L_Mo_sorts_55] at hf
    refine r_iload d_Mo_sorts_55 rfl ?_
    refine r_iload_n 1 d_Mo_sorts_57 rfl rfl ?_
    refine r_icmp_ge 75 d_Mo_sorts_58 (by decide) (fun qu34 => ?_) (fun qu34 => ?_)
    · replace hf := ip qu34 hf
      refine r_weak [6] (lv' := [some (.ref 49), some (.int p0), some (.int xu3), some (.int z3_42), some (.int z4_42), some (.int z4_42), none, none, none]) rfl ?_
      exact Kju5 M_55  hf
    · replace hf := im qu34 hf
      refine r_aload_n 0 d_Mo_sorts_61 rfl rfl ?_
      refine r_getR 56 d_Mo_sorts_62 fl_Mo_38 sh_49 rfl rf_49_30 ?_
      refine r_iload d_Mo_sorts_65 rfl ?_
      refine r_iconst (v := 0) d_Mo_sorts_67 (by decide) ?_
      obtain ⟨qu35, hf⟩ := ck hf
      refine r_iast d_Mo_sorts_68 sh_56 qu35 ?_
      refine nmM (fun Mu36 hMu36 => ?_)
      replace hf := lt_of hMu36 hf
      obtain ⟨xu37, hxu37⟩ : ∃ y : Int32, y = z6_55 + 1 := ⟨_, rfl⟩
      replace hf := lt_of hxu37 hf
      refine r_iinc (lv' := [some (.ref 49), some (.int p0), some (.int xu3), some (.int z3_42), some (.int z4_42), some (.int z4_42), some (.int xu37), none, none]) d_Mo_sorts_69 rfl (by rw [hxu37]; rfl) (by decide) rfl ?_
      refine r_goto 55 d_Mo_sorts_72 (by decide) ?_
      exact ih xu37 Mu36  hf
theorem l_Mo_sorts_42 {G : GT} {ru : Int32 × Mm} (Nu : Nat) (p0 : Int32) (xu3 : Int32)    : ∀ (nu : Nat) (z3_42 : Int32) (z4_42 : Int32) (M_42 : Mm), L_Mo_sorts_42 Nu p0 xu3 nu z3_42 z4_42 M_42 = some ru → SW G 2 c_Mo_sorts R_Mo 9 (some .int) (some (.int ru.1), ru.2) M_42 42 [some (.ref 49), some (.int p0), some (.int xu3), some (.int z3_42), some (.int z4_42), none, none, none, none] []
  | 0, _, _, _, hf => by cases hf
  | nu + 1, z3_42, z4_42, M_42, hf => by
    have ih := l_Mo_sorts_42 (G := G) (ru := ru) Nu p0 xu3   nu
    rw [L_Mo_sorts_42] at hf
    refine r_iload d_Mo_sorts_42 rfl ?_
    refine r_iload_n 2 d_Mo_sorts_44 rfl rfl ?_
    refine r_icmp_ge 187 d_Mo_sorts_45 (by decide) (fun qu4 => ?_) (fun qu4 => ?_)
    · replace hf := ip qu4 hf
      refine r_iload_n 3 d_Mo_sorts_187 rfl rfl ?_
      obtain rfl := Option.some.inj hf
      exact r_ireturn d_Mo_sorts_188 rfl rfl
    · replace hf := im qu4 hf
      refine r_iload d_Mo_sorts_48 rfl ?_
      refine r_istore (lv' := [some (.ref 49), some (.int p0), some (.int xu3), some (.int z3_42), some (.int z4_42), some (.int z4_42), none, none, none]) d_Mo_sorts_50 (by decide) rfl ?_
      refine r_iconst (v := 0) d_Mo_sorts_52 (by decide) ?_
      refine r_istore (lv' := [some (.ref 49), some (.int p0), some (.int xu3), some (.int z3_42), some (.int z4_42), some (.int z4_42), some (.int 0), none, none]) d_Mo_sorts_53 (by decide) rfl ?_
      obtain ⟨ju5, hju5, hf⟩ := lt_ex hf
      have Kju5 : ∀ (Mu6 : Mm), ju5 Mu6 = some ru → SW G 2 c_Mo_sorts R_Mo 9 (some .int) (some (.int ru.1), ru.2) Mu6 75 [some (.ref 49), some (.int p0), some (.int xu3), some (.int z3_42), some (.int z4_42), some (.int z4_42), none, none, none] [] := by
        intro Mu6 hf
        rw [hju5] at hf
        refine r_iconst (v := 0) d_Mo_sorts_75 (by decide) ?_
        refine r_istore (lv' := [some (.ref 49), some (.int p0), some (.int xu3), some (.int z3_42), some (.int z4_42), some (.int z4_42), some (.int 0), none, none]) d_Mo_sorts_76 (by decide) rfl ?_
        obtain ⟨ju7, hju7, hf⟩ := lt_ex hf
        have Kju7 : ∀ (Mu8 : Mm), ju7 Mu8 = some ru → SW G 2 c_Mo_sorts R_Mo 9 (some .int) (some (.int ru.1), ru.2) Mu8 165 [some (.ref 49), some (.int p0), some (.int xu3), some (.int z3_42), some (.int z4_42), none, none, none, none] [] := by
          intro Mu8 hf
          rw [hju7] at hf
          refine r_iload_n 3 d_Mo_sorts_165 rfl rfl ?_
          refine r_aload_n 0 d_Mo_sorts_166 rfl rfl ?_
          refine r_iload_n 1 d_Mo_sorts_167 rfl rfl ?_
          obtain ⟨vu9, evu9, hf⟩ := bnd hf
          refine r_callV [.int p0] d_Mo_sorts_168 lk_Mo_277 sh_49 (cm_Mo_areUnlike evu9) (by decide) rfl rfl (Nat.le_of_ble_eq_true rfl) ?_
          obtain ⟨ju10, hju10, hf⟩ := lt_ex hf
          have Kju10 : ∀ (xu11 : Int32), ju10 xu11 = some ru → SW G 2 c_Mo_sorts R_Mo 9 (some .int) (some (.int ru.1), ru.2) Mu8 179 [some (.ref 49), some (.int p0), some (.int xu3), none, some (.int z4_42), none, none, none, none] [.int xu11, .int z3_42] := by
            intro xu11 hf
            rw [hju10] at hf
            refine r_iadd d_Mo_sorts_179 ?_
            refine nmI (fun xu12 hxu12 => ?_)
            replace hf := lt_of hxu12 hf
            refine r_istore_n (lv' := [some (.ref 49), some (.int p0), some (.int xu3), some (.int xu12), some (.int z4_42), none, none, none, none]) 3 d_Mo_sorts_180 rfl (by decide) rfl ?_
            obtain ⟨xu13, hxu13⟩ : ∃ y : Int32, y = z4_42 + 1 := ⟨_, rfl⟩
            replace hf := lt_of hxu13 hf
            refine r_iinc (lv' := [some (.ref 49), some (.int p0), some (.int xu3), some (.int xu12), some (.int xu13), none, none, none, none]) d_Mo_sorts_181 rfl (by rw [hxu13]; rfl) (by decide) rfl ?_
            refine r_goto 42 d_Mo_sorts_184 (by decide) ?_
            exact ih xu12 xu13 Mu8  hf
          refine r_if_eq 178 d_Mo_sorts_171 (by decide) (fun qu14 => ?_) (fun qu14 => ?_)
          · replace hf := ip qu14 hf
            refine r_iconst (v := 0) d_Mo_sorts_178 (by decide) ?_
            refine r_weak [3] (lv' := [some (.ref 49), some (.int p0), some (.int xu3), none, some (.int z4_42), none, none, none, none]) rfl ?_
            exact Kju10 0  hf
          · replace hf := im qu14 hf
            refine r_iconst (v := 1) d_Mo_sorts_174 (by decide) ?_
            refine r_goto 179 d_Mo_sorts_175 (by decide) ?_
            refine r_weak [3] (lv' := [some (.ref 49), some (.int p0), some (.int xu3), none, some (.int z4_42), none, none, none, none]) rfl ?_
            exact Kju10 1  hf
        exact l_Mo_sorts_78 (G := G) (ru := ru) Nu p0 ju7 xu3 z3_42 z4_42  Kju7 Nu z4_42 0 Mu6 hf
      exact l_Mo_sorts_55 (G := G) (ru := ru) Nu p0 ju5 xu3 z3_42 z4_42  Kju5 Nu 0 M_42 hf
theorem l_Mo_sorts_19 {G : GT} {ru : Int32 × Mm} (Nu : Nat) (p0 : Int32) (ju2 : Int32 → Option (Int32 × Mm)) (Mu : Mm)  (Kju2 : ∀ (w2 : Int32), ju2 w2 = some ru → SW G 2 c_Mo_sorts R_Mo 9 (some .int) (some (.int ru.1), ru.2) Mu 37 [some (.ref 49), some (.int p0), some (.int w2), none, none, none, none, none, none] [])  : ∀ (nu : Nat) (z2_19 : Int32) (z3_19 : Int32), L_Mo_sorts_19 Nu p0 ju2 nu z2_19 z3_19 = some ru → SW G 2 c_Mo_sorts R_Mo 9 (some .int) (some (.int ru.1), ru.2) Mu 19 [some (.ref 49), some (.int p0), some (.int z2_19), some (.int z3_19), none, none, none, none, none] []
  | 0, _, _, hf => by cases hf
  | nu + 1, z2_19, z3_19, hf => by
    have ih := l_Mo_sorts_19 (G := G) (ru := ru) Nu p0 ju2 Mu  Kju2 nu
    rw [L_Mo_sorts_19] at hf
    refine r_iload_n 3 d_Mo_sorts_19 rfl rfl ?_
    refine r_iload_n 1 d_Mo_sorts_20 rfl rfl ?_
    refine r_callS [.int p0] d_Mo_sorts_21 lk_Mo_254 (cm_Mo_pairs p0 Mu) (by decide) rfl rfl (Nat.le_of_ble_eq_true rfl) ?_
    refine r_icmp_ge 37 d_Mo_sorts_24 (by decide) (fun qu38 => ?_) (fun qu38 => ?_)
    · replace hf := ip qu38 hf
      refine r_weak [3] (lv' := [some (.ref 49), some (.int p0), some (.int z2_19), none, none, none, none, none, none]) rfl ?_
      exact Kju2 z2_19  hf
    · replace hf := im qu38 hf
      refine r_iload_n 2 d_Mo_sorts_27 rfl rfl ?_
      refine r_iconst (v := 3) d_Mo_sorts_28 (by decide) ?_
      refine r_imul d_Mo_sorts_29 ?_
      refine nmI (fun xu39 hxu39 => ?_)
      replace hf := lt_of hxu39 hf
      refine r_istore_n (lv' := [some (.ref 49), some (.int p0), some (.int xu39), some (.int z3_19), none, none, none, none, none]) 2 d_Mo_sorts_30 rfl (by decide) rfl ?_
      obtain ⟨xu40, hxu40⟩ : ∃ y : Int32, y = z3_19 + 1 := ⟨_, rfl⟩
      replace hf := lt_of hxu40 hf
      refine r_iinc (lv' := [some (.ref 49), some (.int p0), some (.int xu39), some (.int xu40), none, none, none, none, none]) d_Mo_sorts_31 rfl (by rw [hxu40]; rfl) (by decide) rfl ?_
      refine r_goto 19 d_Mo_sorts_34 (by decide) ?_
      exact ih xu39 xu40  hf
theorem cm_Mo_sorts {G : GT} {Nu : Nat} {p0 : Int32} {Mu : Mm}  {ru : Int32 × Mm}  (hf : f_Mo_sorts Nu p0 Mu = some ru) : CM G 2 y_Mo_sorts c_Mo_sorts 9 (some .int) (some (.int ru.1), ru.2) Mu [.ref 49, .int p0] := by
  unfold f_Mo_sorts at hf
  refine CM.of (own := R_Mo) (lv := [some (.ref 49), some (.int p0), none, none, none, none, none, none, none]) (by decide) rfl (Nat.le_of_ble_eq_true rfl) rfl ?_
  refine r_iload_n 1 d_Mo_sorts_0 rfl rfl ?_
  refine r_i2l d_Mo_sorts_1 ?_
  refine r_lconst (v := 1) d_Mo_sorts_2 (by decide) ?_
  refine r_ldc2_w d_Mo_sorts_3 k_Mo_263 ?_
  refine r_callS [.long p0.toInt64, .long 1, .long 5] d_Mo_sorts_6 lk_Mo_66 (cm_Mo_in p0.toInt64 1 5 Mu) (by decide) rfl rfl (Nat.le_of_ble_eq_true rfl) ?_
  refine r_if_ne 15 d_Mo_sorts_9 (by decide) (fun qu1 => ?_) (fun qu1 => ?_)
  · replace hf := im qu1 hf
    refine r_iconst (v := 1) d_Mo_sorts_15 (by decide) ?_
    refine r_istore_n (lv' := [some (.ref 49), some (.int p0), some (.int 1), none, none, none, none, none, none]) 2 d_Mo_sorts_16 rfl (by decide) rfl ?_
    refine r_iconst (v := 0) d_Mo_sorts_17 (by decide) ?_
    refine r_istore_n (lv' := [some (.ref 49), some (.int p0), some (.int 1), some (.int 0), none, none, none, none, none]) 3 d_Mo_sorts_18 rfl (by decide) rfl ?_
    obtain ⟨ju2, hju2, hf⟩ := lt_ex hf
    have Kju2 : ∀ (xu3 : Int32), ju2 xu3 = some ru → SW G 2 c_Mo_sorts R_Mo 9 (some .int) (some (.int ru.1), ru.2) Mu 37 [some (.ref 49), some (.int p0), some (.int xu3), none, none, none, none, none, none] [] := by
      intro xu3 hf
      rw [hju2] at hf
      refine r_iconst (v := 0) d_Mo_sorts_37 (by decide) ?_
      refine r_istore_n (lv' := [some (.ref 49), some (.int p0), some (.int xu3), some (.int 0), none, none, none, none, none]) 3 d_Mo_sorts_38 rfl (by decide) rfl ?_
      refine r_iconst (v := 0) d_Mo_sorts_39 (by decide) ?_
      refine r_istore (lv' := [some (.ref 49), some (.int p0), some (.int xu3), some (.int 0), some (.int 0), none, none, none, none]) d_Mo_sorts_40 (by decide) rfl ?_
      exact l_Mo_sorts_42 (G := G) (ru := ru) Nu p0 xu3   Nu 0 0 Mu hf
    exact l_Mo_sorts_19 (G := G) (ru := ru) Nu p0 ju2 Mu  Kju2 Nu 1 0 hf
  · replace hf := ip qu1 hf
    refine r_ldc d_Mo_sorts_12 k_Mo_94 ?_
    obtain rfl := Option.some.inj hf
    exact r_ireturn d_Mo_sorts_14 rfl rfl
def f_Mo_write (p0 : Int32) (p1 : Int32) (p2 : Int32) (Mu : Mm) : Option (Int32 × Mm) := if (f_Mo_areTwo p0 p1 Mu) = 0 then some ((-1000000001), Mu) else if (Mu.1 49 33) = 30 then some ((-1000000004), Mu) else if inb (Mu.1 49 33) 30 = true then lt (si Mu 59 (Int32.toNatClampNeg (Mu.1 49 33)) p0) fun Mu4 => if inb (Mu4.1 49 33) 30 = true then lt (si Mu4 60 (Int32.toNatClampNeg (Mu4.1 49 33)) p1) fun Mu6 => if inb (Mu6.1 49 33) 30 = true then lt (si Mu6 61 (Int32.toNatClampNeg (Mu6.1 49 33)) (vp_nar .boolean p2)) fun Mu8 => lt (si Mu8 49 33 ((Mu8.1 49 33) + 1)) fun Mu9 => some (Mu9.1 49 33, Mu9) else none else none else none
theorem cm_Mo_write {G : GT} {p0 : Int32} {p1 : Int32} {p2 : Int32} {Mu : Mm}  {ru : Int32 × Mm}  (hf : f_Mo_write p0 p1 p2 Mu = some ru) : CM G 4 y_Mo_write c_Mo_write 4 (some .int) (some (.int ru.1), ru.2) Mu [.ref 49, .int p0, .int p1, .int p2] := by
  unfold f_Mo_write at hf
  refine CM.of (own := R_Mo) (lv := [some (.ref 49), some (.int p0), some (.int p1), some (.int p2)]) (by decide) rfl (Nat.le_of_ble_eq_true rfl) rfl ?_
  refine r_aload_n 0 d_Mo_write_0 rfl rfl ?_
  refine r_iload_n 1 d_Mo_write_1 rfl rfl ?_
  refine r_iload_n 2 d_Mo_write_2 rfl rfl ?_
  refine r_callV [.int p0, .int p1] d_Mo_write_3 lk_Mo_207 sh_49 (cm_Mo_areTwo p0 p1 Mu) (by decide) rfl rfl (Nat.le_of_ble_eq_true rfl) ?_
  refine r_if_ne 12 d_Mo_write_6 (by decide) (fun qu1 => ?_) (fun qu1 => ?_)
  · replace hf := im qu1 hf
    refine r_aload_n 0 d_Mo_write_12 rfl rfl ?_
    refine r_getI d_Mo_write_13 fl_Mo_194 sh_49 (by decide) ?_
    refine r_bipush (v := 30) d_Mo_write_16 (by decide) ?_
    refine r_icmp_ne 24 d_Mo_write_18 (by decide) (fun qu2 => ?_) (fun qu2 => ?_)
    · replace hf := im qu2 hf
      refine r_aload_n 0 d_Mo_write_24 rfl rfl ?_
      refine r_getR 59 d_Mo_write_25 fl_Mo_47 sh_49 rfl rf_49_34 ?_
      refine r_aload_n 0 d_Mo_write_28 rfl rfl ?_
      refine r_getI d_Mo_write_29 fl_Mo_194 sh_49 (by decide) ?_
      refine r_iload_n 1 d_Mo_write_32 rfl rfl ?_
      obtain ⟨qu3, hf⟩ := ck hf
      refine r_iast d_Mo_write_33 sh_59 qu3 ?_
      refine nmM (fun Mu4 hMu4 => ?_)
      replace hf := lt_of hMu4 hf
      refine r_aload_n 0 d_Mo_write_34 rfl rfl ?_
      refine r_getR 60 d_Mo_write_35 fl_Mo_50 sh_49 rfl rf_49_35 ?_
      refine r_aload_n 0 d_Mo_write_38 rfl rfl ?_
      refine r_getI d_Mo_write_39 fl_Mo_194 sh_49 (by decide) ?_
      refine r_iload_n 2 d_Mo_write_42 rfl rfl ?_
      obtain ⟨qu5, hf⟩ := ck hf
      refine r_iast d_Mo_write_43 sh_60 qu5 ?_
      refine nmM (fun Mu6 hMu6 => ?_)
      replace hf := lt_of hMu6 hf
      refine r_aload_n 0 d_Mo_write_44 rfl rfl ?_
      refine r_getR 61 d_Mo_write_45 fl_Mo_53 sh_49 rfl rf_49_36 ?_
      refine r_aload_n 0 d_Mo_write_48 rfl rfl ?_
      refine r_getI d_Mo_write_49 fl_Mo_194 sh_49 (by decide) ?_
      refine r_iload_n 3 d_Mo_write_52 rfl rfl ?_
      obtain ⟨qu7, hf⟩ := ck hf
      refine r_zast d_Mo_write_53 sh_61 qu7 ?_
      refine nmM (fun Mu8 hMu8 => ?_)
      replace hf := lt_of hMu8 hf
      refine r_aload_n 0 d_Mo_write_54 rfl rfl ?_
      refine r_dup d_Mo_write_55 rfl ?_
      refine r_getI d_Mo_write_56 fl_Mo_194 sh_49 (by decide) ?_
      refine r_iconst (v := 1) d_Mo_write_59 (by decide) ?_
      refine r_iadd d_Mo_write_60 ?_
      refine r_putI d_Mo_write_61 fl_Mo_194 sh_49 (Or.inl rfl) rfl ?_
      refine nmM (fun Mu9 hMu9 => ?_)
      replace hf := lt_of hMu9 hf
      refine r_aload_n 0 d_Mo_write_64 rfl rfl ?_
      refine r_getI d_Mo_write_65 fl_Mo_194 sh_49 (by decide) ?_
      obtain rfl := Option.some.inj hf
      exact r_ireturn d_Mo_write_68 rfl rfl
    · replace hf := ip qu2 hf
      refine r_ldc d_Mo_write_21 k_Mo_98 ?_
      obtain rfl := Option.some.inj hf
      exact r_ireturn d_Mo_write_23 rfl rfl
  · replace hf := ip qu1 hf
    refine r_ldc d_Mo_write_9 k_Mo_203 ?_
    obtain rfl := Option.some.inj hf
    exact r_ireturn d_Mo_write_11 rfl rfl
def f_Mo_tear (Mu : Mm) : Int32 × Mm := lt (Mu.1 49 33) fun xu1 => lt (si Mu 49 33 0) fun Mu2 => (xu1, Mu2)
theorem cm_Mo_tear {G : GT} (Mu : Mm)   : CM G 1 y_Mo_tear c_Mo_tear 2 (some .int) (some (.int (f_Mo_tear Mu).1), (f_Mo_tear Mu).2) Mu [.ref 49] := by
  generalize hf : f_Mo_tear Mu = ru
  unfold f_Mo_tear at hf
  refine CM.of (own := R_Mo) (lv := [some (.ref 49), none]) (by decide) rfl (Nat.le_of_ble_eq_true rfl) rfl ?_
  refine r_aload_n 0 d_Mo_tear_0 rfl rfl ?_
  refine r_getI d_Mo_tear_1 fl_Mo_194 sh_49 (by decide) ?_
  refine nmI (fun xu1 hxu1 => ?_)
  replace hf := lt_of hxu1 hf
  refine r_istore_n (lv' := [some (.ref 49), some (.int xu1)]) 1 d_Mo_tear_4 rfl (by decide) rfl ?_
  refine r_aload_n 0 d_Mo_tear_5 rfl rfl ?_
  refine r_iconst (v := 0) d_Mo_tear_6 (by decide) ?_
  refine r_putI d_Mo_tear_7 fl_Mo_194 sh_49 (Or.inl rfl) rfl ?_
  refine nmM (fun Mu2 hMu2 => ?_)
  replace hf := lt_of hMu2 hf
  refine r_iload_n 1 d_Mo_tear_10 rfl rfl ?_
  subst hf
  exact r_ireturn d_Mo_tear_11 rfl rfl
def L_Mo_judge_23 (Nu : Nat) (Mu : Mm) (ju3 : Int32 → Int32 → Option (Int32 × Mm)) : Nat → Int32 → Int32 → Int32 → Option (Int32 × Mm)
  | 0, _, _, _ => none
  | nu + 1, z2_23, z3_23, z4_23 => if (Mu.1 49 33) ≤ z4_23 then ju3 z2_23 z3_23 else if 0 ≤ z3_23 then ju3 z2_23 z3_23 else if inb z4_23 30 = true then lt (fun (xu14 : Int32) => lt (fun (xu16 : Int32) => lt (fun (xu18 : Int32) => lt (fun (xu20 : Int32) => lt (fun (xu22 : Int32) => lt (z4_23 + 1) fun xu23 => L_Mo_judge_23 Nu Mu ju3 nu xu22 xu20 xu23) fun ju21 => if xu18 = 0 then ju21 z2_23 else if inb z4_23 30 = true then if (Mu.1 61 (Int32.toNatClampNeg z4_23)) = 0 then ju21 (z2_23 &&& (((1 : Int32) <<< (xu16 &&& 31)) ^^^ (-1))) else ju21 (z2_23 ||| ((1 : Int32) <<< (xu16 &&& 31))) else none) fun ju19 => if xu18 = 0 then ju19 z4_23 else ju19 (-1)) fun ju17 => lt (fun (_ : Unit) => ju17 0) fun ju28 => if xu14 = 0 then ju28 () else if inb z4_23 30 = true then lt (fun (_ : Unit) => ju17 1) fun ju31 => if (Mu.1 61 (Int32.toNatClampNeg z4_23)) = 0 then if (f_Mo_has (Mu.1 49 3) xu16) = 0 then ju31 () else ju28 () else if (f_Mo_has (Mu.1 49 2) xu16) = 0 then ju31 () else ju28 () else none) fun ju15 => if xu14 = 0 then ju15 0 else if inb z4_23 30 = true then if inb z4_23 30 = true then (f_Mo_pairOf Nu (Mu.1 49 0) (Mu.1 59 (Int32.toNatClampNeg z4_23)) (Mu.1 60 (Int32.toNatClampNeg z4_23))).bind fun vu38 => ju15 vu38 else none else none) fun ju13 => lt (fun (_ : Unit) => ju13 0) fun ju39 => if (f_Mo_isPerson (Mu.1 59 (Int32.toNatClampNeg z4_23)) Mu) = 0 then ju39 () else if inb z4_23 30 = true then if (f_Mo_isPerson (Mu.1 60 (Int32.toNatClampNeg z4_23)) Mu) = 0 then ju39 () else ju13 1 else none else none
def f_Mo_judge (Nu : Nat) (p0 : Int32) (Mu : Mm) : Option (Int32 × Mm) := if (f_Mo_in p0.toInt64 0 1) = 0 then some ((-1000000002), Mu) else lt (Mu.1 49 1) fun xu2 => lt (fun (xu4 : Int32) (xu5 : Int32) => if p0 = 0 then some (xu5, Mu) else (f_Mo_alikeIn Nu (Mu.1 49 0) xu4 Mu).bind fun vu7 => lt vu7.1 fun vu8 => lt vu7.2 fun Mu9 => some (vu8, Mu9)) fun ju3 => L_Mo_judge_23 Nu Mu ju3 Nu xu2 (-1) 0
theorem l_Mo_judge_23 {G : GT} {ru : Int32 × Mm} (Nu : Nat) (Mu : Mm) (ju3 : Int32 → Int32 → Option (Int32 × Mm)) (p0 : Int32)  (Kju3 : ∀ (w2 : Int32) (w3 : Int32), ju3 w2 w3 = some ru → SW G 3 c_Mo_judge R_Mo 8 (some .int) (some (.int ru.1), ru.2) Mu 207 [some (.ref 49), some (.int p0), some (.int w2), some (.int w3), none, none, none, none] [])  : ∀ (nu : Nat) (z2_23 : Int32) (z3_23 : Int32) (z4_23 : Int32), L_Mo_judge_23 Nu Mu ju3 nu z2_23 z3_23 z4_23 = some ru → SW G 3 c_Mo_judge R_Mo 8 (some .int) (some (.int ru.1), ru.2) Mu 23 [some (.ref 49), some (.int p0), some (.int z2_23), some (.int z3_23), some (.int z4_23), none, none, none] []
  | 0, _, _, _, hf => by cases hf
  | nu + 1, z2_23, z3_23, z4_23, hf => by
    have ih := l_Mo_judge_23 (G := G) (ru := ru) Nu Mu ju3 p0  Kju3 nu
    rw [L_Mo_judge_23] at hf
    refine r_iload d_Mo_judge_23 rfl ?_
    refine r_aload_n 0 d_Mo_judge_25 rfl rfl ?_
    refine r_getI d_Mo_judge_26 fl_Mo_194 sh_49 (by decide) ?_
    refine r_icmp_ge 207 d_Mo_judge_29 (by decide) (fun qu10 => ?_) (fun qu10 => ?_)
    · replace hf := ip qu10 hf
      refine r_weak [4] (lv' := [some (.ref 49), some (.int p0), some (.int z2_23), some (.int z3_23), none, none, none, none]) rfl ?_
      exact Kju3 z2_23 z3_23  hf
    · replace hf := im qu10 hf
      refine r_iload_n 3 d_Mo_judge_32 rfl rfl ?_
      refine r_if_ge 207 d_Mo_judge_33 (by decide) (fun qu11 => ?_) (fun qu11 => ?_)
      · replace hf := ip qu11 hf
        refine r_weak [4] (lv' := [some (.ref 49), some (.int p0), some (.int z2_23), some (.int z3_23), none, none, none, none]) rfl ?_
        exact Kju3 z2_23 z3_23  hf
      · replace hf := im qu11 hf
        refine r_aload_n 0 d_Mo_judge_36 rfl rfl ?_
        refine r_aload_n 0 d_Mo_judge_37 rfl rfl ?_
        refine r_getR 59 d_Mo_judge_38 fl_Mo_47 sh_49 rfl rf_49_34 ?_
        refine r_iload d_Mo_judge_41 rfl ?_
        obtain ⟨qu12, hf⟩ := ck hf
        refine r_iald d_Mo_judge_43 sh_59 qu12 ?_
        refine r_callV [.int (Mu.1 59 (Int32.toNatClampNeg z4_23))] d_Mo_judge_44 lk_Mo_70 sh_49 (cm_Mo_isPerson (Mu.1 59 (Int32.toNatClampNeg z4_23)) Mu) (by decide) rfl rfl (Nat.le_of_ble_eq_true rfl) ?_
        obtain ⟨ju13, hju13, hf⟩ := lt_ex hf
        have Kju13 : ∀ (xu14 : Int32), ju13 xu14 = some ru → SW G 3 c_Mo_judge R_Mo 8 (some .int) (some (.int ru.1), ru.2) Mu 69 [some (.ref 49), some (.int p0), some (.int z2_23), none, some (.int z4_23), none, none, none] [.int xu14] := by
          intro xu14 hf
          rw [hju13] at hf
          refine r_istore (lv' := [some (.ref 49), some (.int p0), some (.int z2_23), none, some (.int z4_23), some (.int xu14), none, none]) d_Mo_judge_69 (by decide) rfl ?_
          refine r_iload d_Mo_judge_71 rfl ?_
          obtain ⟨ju15, hju15, hf⟩ := lt_ex hf
          have Kju15 : ∀ (xu16 : Int32), ju15 xu16 = some ru → SW G 3 c_Mo_judge R_Mo 8 (some .int) (some (.int ru.1), ru.2) Mu 101 [some (.ref 49), some (.int p0), some (.int z2_23), none, some (.int z4_23), some (.int xu14), none, none] [.int xu16] := by
            intro xu16 hf
            rw [hju15] at hf
            refine r_istore (lv' := [some (.ref 49), some (.int p0), some (.int z2_23), none, some (.int z4_23), some (.int xu14), some (.int xu16), none]) d_Mo_judge_101 (by decide) rfl ?_
            refine r_iload d_Mo_judge_103 rfl ?_
            obtain ⟨ju17, hju17, hf⟩ := lt_ex hf
            have Kju17 : ∀ (xu18 : Int32), ju17 xu18 = some ru → SW G 3 c_Mo_judge R_Mo 8 (some .int) (some (.int ru.1), ru.2) Mu 150 [some (.ref 49), some (.int p0), some (.int z2_23), none, some (.int z4_23), none, some (.int xu16), none] [.int xu18] := by
              intro xu18 hf
              rw [hju17] at hf
              refine r_istore (lv' := [some (.ref 49), some (.int p0), some (.int z2_23), none, some (.int z4_23), none, some (.int xu16), some (.int xu18)]) d_Mo_judge_150 (by decide) rfl ?_
              refine r_iload d_Mo_judge_152 rfl ?_
              obtain ⟨ju19, hju19, hf⟩ := lt_ex hf
              have Kju19 : ∀ (xu20 : Int32), ju19 xu20 = some ru → SW G 3 c_Mo_judge R_Mo 8 (some .int) (some (.int ru.1), ru.2) Mu 163 [some (.ref 49), some (.int p0), some (.int z2_23), none, some (.int z4_23), none, some (.int xu16), some (.int xu18)] [.int xu20] := by
                intro xu20 hf
                rw [hju19] at hf
                refine r_istore_n (lv' := [some (.ref 49), some (.int p0), some (.int z2_23), some (.int xu20), some (.int z4_23), none, some (.int xu16), some (.int xu18)]) 3 d_Mo_judge_163 rfl (by decide) rfl ?_
                refine r_iload d_Mo_judge_164 rfl ?_
                obtain ⟨ju21, hju21, hf⟩ := lt_ex hf
                have Kju21 : ∀ (xu22 : Int32), ju21 xu22 = some ru → SW G 3 c_Mo_judge R_Mo 8 (some .int) (some (.int ru.1), ru.2) Mu 200 [some (.ref 49), some (.int p0), none, some (.int xu20), some (.int z4_23), none, none, none] [.int xu22] := by
                  intro xu22 hf
                  rw [hju21] at hf
                  refine r_istore_n (lv' := [some (.ref 49), some (.int p0), some (.int xu22), some (.int xu20), some (.int z4_23), none, none, none]) 2 d_Mo_judge_200 rfl (by decide) rfl ?_
                  obtain ⟨xu23, hxu23⟩ : ∃ y : Int32, y = z4_23 + 1 := ⟨_, rfl⟩
                  replace hf := lt_of hxu23 hf
                  refine r_iinc (lv' := [some (.ref 49), some (.int p0), some (.int xu22), some (.int xu20), some (.int xu23), none, none, none]) d_Mo_judge_201 rfl (by rw [hxu23]; rfl) (by decide) rfl ?_
                  refine r_goto 23 d_Mo_judge_204 (by decide) ?_
                  exact ih xu22 xu20 xu23  hf
                refine r_if_ne 173 d_Mo_judge_166 (by decide) (fun qu24 => ?_) (fun qu24 => ?_)
                · replace hf := im qu24 hf
                  refine r_aload_n 0 d_Mo_judge_173 rfl rfl ?_
                  refine r_getR 61 d_Mo_judge_174 fl_Mo_53 sh_49 rfl rf_49_36 ?_
                  refine r_iload d_Mo_judge_177 rfl ?_
                  obtain ⟨qu25, hf⟩ := ck hf
                  refine r_zald d_Mo_judge_179 sh_61 qu25 ?_
                  refine r_if_eq 192 d_Mo_judge_180 (by decide) (fun qu26 => ?_) (fun qu26 => ?_)
                  · replace hf := ip qu26 hf
                    refine r_iload_n 2 d_Mo_judge_192 rfl rfl ?_
                    refine r_iconst (v := 1) d_Mo_judge_193 (by decide) ?_
                    refine r_iload d_Mo_judge_194 rfl ?_
                    refine r_ishl d_Mo_judge_196 ?_
                    refine r_iconst (v := (-1)) d_Mo_judge_197 (by decide) ?_
                    refine r_ixor d_Mo_judge_198 ?_
                    refine r_iand d_Mo_judge_199 ?_
                    refine r_weak [2, 6, 7] (lv' := [some (.ref 49), some (.int p0), none, some (.int xu20), some (.int z4_23), none, none, none]) rfl ?_
                    exact Kju21 (z2_23 &&& (((1 : Int32) <<< (xu16 &&& 31)) ^^^ (-1)))  hf
                  · replace hf := im qu26 hf
                    refine r_iload_n 2 d_Mo_judge_183 rfl rfl ?_
                    refine r_iconst (v := 1) d_Mo_judge_184 (by decide) ?_
                    refine r_iload d_Mo_judge_185 rfl ?_
                    refine r_ishl d_Mo_judge_187 ?_
                    refine r_ior d_Mo_judge_188 ?_
                    refine r_goto 200 d_Mo_judge_189 (by decide) ?_
                    refine r_weak [2, 6, 7] (lv' := [some (.ref 49), some (.int p0), none, some (.int xu20), some (.int z4_23), none, none, none]) rfl ?_
                    exact Kju21 (z2_23 ||| ((1 : Int32) <<< (xu16 &&& 31)))  hf
                · replace hf := ip qu24 hf
                  refine r_iload_n 2 d_Mo_judge_169 rfl rfl ?_
                  refine r_goto 200 d_Mo_judge_170 (by decide) ?_
                  refine r_weak [2, 6, 7] (lv' := [some (.ref 49), some (.int p0), none, some (.int xu20), some (.int z4_23), none, none, none]) rfl ?_
                  exact Kju21 z2_23  hf
              refine r_if_eq 161 d_Mo_judge_154 (by decide) (fun qu27 => ?_) (fun qu27 => ?_)
              · replace hf := ip qu27 hf
                refine r_iload d_Mo_judge_161 rfl ?_
                exact Kju19 z4_23  hf
              · replace hf := im qu27 hf
                refine r_iconst (v := (-1)) d_Mo_judge_157 (by decide) ?_
                refine r_goto 163 d_Mo_judge_158 (by decide) ?_
                exact Kju19 (-1)  hf
            obtain ⟨ju28, hju28, hf⟩ := lt_ex hf
            have Kju28 : ∀ (_ : Unit), ju28 () = some ru → SW G 3 c_Mo_judge R_Mo 8 (some .int) (some (.int ru.1), ru.2) Mu 149 [some (.ref 49), some (.int p0), some (.int z2_23), none, some (.int z4_23), none, some (.int xu16), none] [] := by
              intro _ hf
              rw [hju28] at hf
              refine r_iconst (v := 0) d_Mo_judge_149 (by decide) ?_
              exact Kju17 0  hf
            refine r_if_eq 149 d_Mo_judge_105 (by decide) (fun qu29 => ?_) (fun qu29 => ?_)
            · replace hf := ip qu29 hf
              refine r_weak [5] (lv' := [some (.ref 49), some (.int p0), some (.int z2_23), none, some (.int z4_23), none, some (.int xu16), none]) rfl ?_
              exact Kju28 ()  hf
            · replace hf := im qu29 hf
              refine r_aload_n 0 d_Mo_judge_108 rfl rfl ?_
              refine r_getR 61 d_Mo_judge_109 fl_Mo_53 sh_49 rfl rf_49_36 ?_
              refine r_iload d_Mo_judge_112 rfl ?_
              obtain ⟨qu30, hf⟩ := ck hf
              refine r_zald d_Mo_judge_114 sh_61 qu30 ?_
              obtain ⟨ju31, hju31, hf⟩ := lt_ex hf
              have Kju31 : ∀ (_ : Unit), ju31 () = some ru → SW G 3 c_Mo_judge R_Mo 8 (some .int) (some (.int ru.1), ru.2) Mu 145 [some (.ref 49), some (.int p0), some (.int z2_23), none, some (.int z4_23), none, some (.int xu16), none] [] := by
                intro _ hf
                rw [hju31] at hf
                refine r_iconst (v := 1) d_Mo_judge_145 (by decide) ?_
                refine r_goto 150 d_Mo_judge_146 (by decide) ?_
                exact Kju17 1  hf
              refine r_if_eq 133 d_Mo_judge_115 (by decide) (fun qu32 => ?_) (fun qu32 => ?_)
              · replace hf := ip qu32 hf
                refine r_aload_n 0 d_Mo_judge_133 rfl rfl ?_
                refine r_getI d_Mo_judge_134 fl_Mo_188 sh_49 (by decide) ?_
                refine r_iload d_Mo_judge_137 rfl ?_
                refine r_callS [.int (Mu.1 49 3), .int xu16] d_Mo_judge_139 lk_Mo_78 (cm_Mo_has (Mu.1 49 3) xu16 Mu) (by decide) rfl rfl (Nat.le_of_ble_eq_true rfl) ?_
                refine r_if_ne 149 d_Mo_judge_142 (by decide) (fun qu33 => ?_) (fun qu33 => ?_)
                · replace hf := im qu33 hf
                  refine r_weak [5] (lv' := [some (.ref 49), some (.int p0), some (.int z2_23), none, some (.int z4_23), none, some (.int xu16), none]) rfl ?_
                  exact Kju28 ()  hf
                · replace hf := ip qu33 hf
                  refine r_weak [5] (lv' := [some (.ref 49), some (.int p0), some (.int z2_23), none, some (.int z4_23), none, some (.int xu16), none]) rfl ?_
                  exact Kju31 ()  hf
              · replace hf := im qu32 hf
                refine r_aload_n 0 d_Mo_judge_118 rfl rfl ?_
                refine r_getI d_Mo_judge_119 fl_Mo_185 sh_49 (by decide) ?_
                refine r_iload d_Mo_judge_122 rfl ?_
                refine r_callS [.int (Mu.1 49 2), .int xu16] d_Mo_judge_124 lk_Mo_78 (cm_Mo_has (Mu.1 49 2) xu16 Mu) (by decide) rfl rfl (Nat.le_of_ble_eq_true rfl) ?_
                refine r_if_eq 145 d_Mo_judge_127 (by decide) (fun qu34 => ?_) (fun qu34 => ?_)
                · replace hf := ip qu34 hf
                  refine r_weak [5] (lv' := [some (.ref 49), some (.int p0), some (.int z2_23), none, some (.int z4_23), none, some (.int xu16), none]) rfl ?_
                  exact Kju31 ()  hf
                · replace hf := im qu34 hf
                  refine r_goto 149 d_Mo_judge_130 (by decide) ?_
                  refine r_weak [5] (lv' := [some (.ref 49), some (.int p0), some (.int z2_23), none, some (.int z4_23), none, some (.int xu16), none]) rfl ?_
                  exact Kju28 ()  hf
          refine r_if_eq 100 d_Mo_judge_73 (by decide) (fun qu35 => ?_) (fun qu35 => ?_)
          · replace hf := ip qu35 hf
            refine r_iconst (v := 0) d_Mo_judge_100 (by decide) ?_
            exact Kju15 0  hf
          · replace hf := im qu35 hf
            refine r_aload_n 0 d_Mo_judge_76 rfl rfl ?_
            refine r_getI d_Mo_judge_77 fl_Mo_63 sh_49 (by decide) ?_
            refine r_aload_n 0 d_Mo_judge_80 rfl rfl ?_
            refine r_getR 59 d_Mo_judge_81 fl_Mo_47 sh_49 rfl rf_49_34 ?_
            refine r_iload d_Mo_judge_84 rfl ?_
            obtain ⟨qu36, hf⟩ := ck hf
            refine r_iald d_Mo_judge_86 sh_59 qu36 ?_
            refine r_aload_n 0 d_Mo_judge_87 rfl rfl ?_
            refine r_getR 60 d_Mo_judge_88 fl_Mo_50 sh_49 rfl rf_49_35 ?_
            refine r_iload d_Mo_judge_91 rfl ?_
            obtain ⟨qu37, hf⟩ := ck hf
            refine r_iald d_Mo_judge_93 sh_60 qu37 ?_
            obtain ⟨vu38, evu38, hf⟩ := bnd hf
            refine r_callS [.int (Mu.1 49 0), .int (Mu.1 59 (Int32.toNatClampNeg z4_23)), .int (Mu.1 60 (Int32.toNatClampNeg z4_23))] d_Mo_judge_94 lk_Mo_74 (cm_Mo_pairOf evu38) (by decide) rfl rfl (Nat.le_of_ble_eq_true rfl) ?_
            refine r_goto 101 d_Mo_judge_97 (by decide) ?_
            exact Kju15 vu38  hf
        obtain ⟨ju39, hju39, hf⟩ := lt_ex hf
        have Kju39 : ∀ (_ : Unit), ju39 () = some ru → SW G 3 c_Mo_judge R_Mo 8 (some .int) (some (.int ru.1), ru.2) Mu 68 [some (.ref 49), some (.int p0), some (.int z2_23), none, some (.int z4_23), none, none, none] [] := by
          intro _ hf
          rw [hju39] at hf
          refine r_iconst (v := 0) d_Mo_judge_68 (by decide) ?_
          exact Kju13 0  hf
        refine r_if_eq 68 d_Mo_judge_47 (by decide) (fun qu40 => ?_) (fun qu40 => ?_)
        · replace hf := ip qu40 hf
          refine r_weak [3] (lv' := [some (.ref 49), some (.int p0), some (.int z2_23), none, some (.int z4_23), none, none, none]) rfl ?_
          exact Kju39 ()  hf
        · replace hf := im qu40 hf
          refine r_aload_n 0 d_Mo_judge_50 rfl rfl ?_
          refine r_aload_n 0 d_Mo_judge_51 rfl rfl ?_
          refine r_getR 60 d_Mo_judge_52 fl_Mo_50 sh_49 rfl rf_49_35 ?_
          refine r_iload d_Mo_judge_55 rfl ?_
          obtain ⟨qu41, hf⟩ := ck hf
          refine r_iald d_Mo_judge_57 sh_60 qu41 ?_
          refine r_callV [.int (Mu.1 60 (Int32.toNatClampNeg z4_23))] d_Mo_judge_58 lk_Mo_70 sh_49 (cm_Mo_isPerson (Mu.1 60 (Int32.toNatClampNeg z4_23)) Mu) (by decide) rfl rfl (Nat.le_of_ble_eq_true rfl) ?_
          refine r_if_eq 68 d_Mo_judge_61 (by decide) (fun qu42 => ?_) (fun qu42 => ?_)
          · replace hf := ip qu42 hf
            refine r_weak [3] (lv' := [some (.ref 49), some (.int p0), some (.int z2_23), none, some (.int z4_23), none, none, none]) rfl ?_
            exact Kju39 ()  hf
          · replace hf := im qu42 hf
            refine r_iconst (v := 1) d_Mo_judge_64 (by decide) ?_
            refine r_goto 69 d_Mo_judge_65 (by decide) ?_
            refine r_weak [3] (lv' := [some (.ref 49), some (.int p0), some (.int z2_23), none, some (.int z4_23), none, none, none]) rfl ?_
            exact Kju13 1  hf
theorem cm_Mo_judge {G : GT} {Nu : Nat} {p0 : Int32} {Mu : Mm}  {ru : Int32 × Mm}  (hf : f_Mo_judge Nu p0 Mu = some ru) : CM G 3 y_Mo_judge c_Mo_judge 8 (some .int) (some (.int ru.1), ru.2) Mu [.ref 49, .int p0] := by
  unfold f_Mo_judge at hf
  refine CM.of (own := R_Mo) (lv := [some (.ref 49), some (.int p0), none, none, none, none, none, none]) (by decide) rfl (Nat.le_of_ble_eq_true rfl) rfl ?_
  refine r_iload_n 1 d_Mo_judge_0 rfl rfl ?_
  refine r_i2l d_Mo_judge_1 ?_
  refine r_lconst (v := 0) d_Mo_judge_2 (by decide) ?_
  refine r_lconst (v := 1) d_Mo_judge_3 (by decide) ?_
  refine r_callS [.long p0.toInt64, .long 0, .long 1] d_Mo_judge_4 lk_Mo_66 (cm_Mo_in p0.toInt64 0 1 Mu) (by decide) rfl rfl (Nat.le_of_ble_eq_true rfl) ?_
  refine r_if_ne 13 d_Mo_judge_7 (by decide) (fun qu1 => ?_) (fun qu1 => ?_)
  · replace hf := im qu1 hf
    refine r_aload_n 0 d_Mo_judge_13 rfl rfl ?_
    refine r_getI d_Mo_judge_14 fl_Mo_86 sh_49 (by decide) ?_
    refine nmI (fun xu2 hxu2 => ?_)
    replace hf := lt_of hxu2 hf
    refine r_istore_n (lv' := [some (.ref 49), some (.int p0), some (.int xu2), none, none, none, none, none]) 2 d_Mo_judge_17 rfl (by decide) rfl ?_
    refine r_iconst (v := (-1)) d_Mo_judge_18 (by decide) ?_
    refine r_istore_n (lv' := [some (.ref 49), some (.int p0), some (.int xu2), some (.int (-1)), none, none, none, none]) 3 d_Mo_judge_19 rfl (by decide) rfl ?_
    refine r_iconst (v := 0) d_Mo_judge_20 (by decide) ?_
    refine r_istore (lv' := [some (.ref 49), some (.int p0), some (.int xu2), some (.int (-1)), some (.int 0), none, none, none]) d_Mo_judge_21 (by decide) rfl ?_
    obtain ⟨ju3, hju3, hf⟩ := lt_ex hf
    have Kju3 : ∀ (xu4 : Int32) (xu5 : Int32), ju3 xu4 xu5 = some ru → SW G 3 c_Mo_judge R_Mo 8 (some .int) (some (.int ru.1), ru.2) Mu 207 [some (.ref 49), some (.int p0), some (.int xu4), some (.int xu5), none, none, none, none] [] := by
      intro xu4 xu5 hf
      rw [hju3] at hf
      refine r_iload_n 1 d_Mo_judge_207 rfl rfl ?_
      refine r_if_ne 215 d_Mo_judge_208 (by decide) (fun qu6 => ?_) (fun qu6 => ?_)
      · replace hf := im qu6 hf
        refine r_aload_n 0 d_Mo_judge_215 rfl rfl ?_
        refine r_aload_n 0 d_Mo_judge_216 rfl rfl ?_
        refine r_getI d_Mo_judge_217 fl_Mo_63 sh_49 (by decide) ?_
        refine r_iload_n 2 d_Mo_judge_220 rfl rfl ?_
        obtain ⟨vu7, evu7, hf⟩ := bnd hf
        obtain ⟨vu8, Mu9⟩ := vu7
        replace hf := lt_of (rfl : vu8 = (vu8, Mu9).1) hf
        replace hf := lt_of (rfl : Mu9 = (vu8, Mu9).2) hf
        refine r_callV [.int (Mu.1 49 0), .int xu4] d_Mo_judge_221 lk_Mo_200 sh_49 (cm_Mo_alikeIn evu7) (by decide) rfl rfl (Nat.le_of_ble_eq_true rfl) ?_
        obtain rfl := Option.some.inj hf
        exact r_ireturn d_Mo_judge_224 rfl rfl
      · replace hf := ip qu6 hf
        refine r_iload_n 3 d_Mo_judge_211 rfl rfl ?_
        refine r_goto 224 d_Mo_judge_212 (by decide) ?_
        obtain rfl := Option.some.inj hf
        exact r_ireturn d_Mo_judge_224 rfl rfl
    exact l_Mo_judge_23 (G := G) (ru := ru) Nu Mu ju3 p0  Kju3 Nu xu2 (-1) 0 hf
  · replace hf := ip qu1 hf
    refine r_ldc d_Mo_judge_10 k_Mo_94 ?_
    obtain rfl := Option.some.inj hf
    exact r_ireturn d_Mo_judge_12 rfl rfl
def f_Mo_draw (p0 : Int32) (Mu : Mm) : Option (Int32 × Mm) := lt (si Mu 49 7 ((((((Mu.1 49 7).toInt64) * 1103515245) + 12345) - ((((Mu.1 49 7).toInt64) * 1103515245) + 12345) / 2147483648 * 2147483648).toInt32)) fun Mu1 => if ¬ p0 = 0 then some (((Mu1.1 49 7) / 65536) - ((Mu1.1 49 7) / 65536) / p0 * p0, Mu1) else none
theorem cm_Mo_draw {G : GT} {p0 : Int32} {Mu : Mm}  {ru : Int32 × Mm}  (hf : f_Mo_draw p0 Mu = some ru) : CM G 1 y_Mo_draw c_Mo_draw 2 (some .int) (some (.int ru.1), ru.2) Mu [.ref 49, .int p0] := by
  unfold f_Mo_draw at hf
  refine CM.of (own := R_Mo) (lv := [some (.ref 49), some (.int p0)]) (by decide) rfl (Nat.le_of_ble_eq_true rfl) rfl ?_
  refine r_aload_n 0 d_Mo_draw_0 rfl rfl ?_
  refine r_aload_n 0 d_Mo_draw_1 rfl rfl ?_
  refine r_getI d_Mo_draw_2 fl_Mo_289 sh_49 (by decide) ?_
  refine r_i2l d_Mo_draw_5 ?_
  refine r_ldc2_w d_Mo_draw_6 k_Mo_292 ?_
  refine r_lmul d_Mo_draw_9 ?_
  refine r_ldc2_w d_Mo_draw_10 k_Mo_294 ?_
  refine r_ladd d_Mo_draw_13 ?_
  refine r_ldc2_w d_Mo_draw_14 k_Mo_296 ?_
  refine r_lrem d_Mo_draw_17 (by decide) ?_
  refine r_l2i d_Mo_draw_18 ?_
  refine r_putI d_Mo_draw_19 fl_Mo_289 sh_49 (Or.inl rfl) rfl ?_
  refine nmM (fun Mu1 hMu1 => ?_)
  replace hf := lt_of hMu1 hf
  refine r_aload_n 0 d_Mo_draw_22 rfl rfl ?_
  refine r_getI d_Mo_draw_23 fl_Mo_289 sh_49 (by decide) ?_
  refine r_ldc_w d_Mo_draw_26 k_Mo_298 ?_
  refine r_idiv d_Mo_draw_29 (by decide) ?_
  refine r_iload_n 1 d_Mo_draw_30 rfl rfl ?_
  obtain ⟨qu2, hf⟩ := ckz hf
  refine r_irem d_Mo_draw_31 qu2 ?_
  obtain rfl := Option.some.inj hf
  exact r_ireturn d_Mo_draw_32 rfl rfl
def f_Mo_weekNow (Nu : Nat) (Mu : Mm) : Option (Mm) := (f_Mo_draw 8 Mu).bind fun vu1 => lt vu1.1 fun vu2 => lt vu1.2 fun Mu3 => if vu2 = 0 then (f_Mo_birth Nu Mu3).bind fun vu29 => lt vu29.1 fun vu30 => lt vu29.2 fun Mu31 => some Mu31 else if vu2 = 1 then lt (fun (xu20 : Int32) (Mu21 : Mm) => some Mu21) fun ju19 => if (Mu3.1 49 0) ≤ 1 then ju19 0 Mu3 else (f_Mo_draw (Mu3.1 49 0) Mu3).bind fun vu23 => lt vu23.1 fun vu24 => lt vu23.2 fun Mu25 => (f_Mo_death Nu vu24 Mu25).bind fun vu26 => lt vu26.1 fun vu27 => lt vu26.2 fun Mu28 => ju19 vu27 Mu28 else if (Mu3.1 49 0) ≤ 1 then some Mu3 else (f_Mo_draw (f_Mo_pairs (Mu3.1 49 0)) Mu3).bind fun vu7 => lt vu7.1 fun vu8 => lt vu7.2 fun Mu9 => lt (fun (xu11 : Int32) => lt (fun (xu13 : Int32) => lt (si Mu9 49 1 ((Mu9.1 49 1) ^^^ xu13)) fun Mu14 => some Mu14) fun ju12 => if xu11 = 0 then ju12 0 else ju12 ((1 : Int32) <<< (vu8 &&& 31))) fun ju10 => if (f_Mo_has (Mu9.1 49 1) vu8) = 0 then if (f_Mo_has (Mu9.1 49 2) vu8) = 0 then ju10 1 else ju10 0 else if (f_Mo_has (Mu9.1 49 3) vu8) = 0 then ju10 1 else ju10 0
theorem cm_Mo_weekNow {G : GT} {Nu : Nat} {Mu : Mm}  {ru : Mm}  (hf : f_Mo_weekNow Nu Mu = some ru) : CM G 5 y_Mo_weekNow c_Mo_weekNow 4 none (none, ru) Mu [.ref 49] := by
  unfold f_Mo_weekNow at hf
  refine CM.of (own := R_Mo) (lv := [some (.ref 49), none, none, none]) (by decide) rfl (Nat.le_of_ble_eq_true rfl) rfl ?_
  refine r_aload_n 0 d_Mo_weekNow_0 rfl rfl ?_
  refine r_bipush (v := 8) d_Mo_weekNow_1 (by decide) ?_
  obtain ⟨vu1, evu1, hf⟩ := bnd hf
  obtain ⟨vu2, Mu3⟩ := vu1
  replace hf := lt_of (rfl : vu2 = (vu2, Mu3).1) hf
  replace hf := lt_of (rfl : Mu3 = (vu2, Mu3).2) hf
  refine r_callV [.int 8] d_Mo_weekNow_3 lk_Mo_299 sh_49 (cm_Mo_draw evu1) (by decide) rfl rfl (Nat.le_of_ble_eq_true rfl) ?_
  refine r_istore_n (lv' := [some (.ref 49), some (.int vu2), none, none]) 1 d_Mo_weekNow_6 rfl (by decide) rfl ?_
  refine r_iload_n 1 d_Mo_weekNow_7 rfl rfl ?_
  refine r_if_ne 19 d_Mo_weekNow_8 (by decide) (fun qu4 => ?_) (fun qu4 => ?_)
  · replace hf := im qu4 hf
    refine r_iload_n 1 d_Mo_weekNow_19 rfl rfl ?_
    refine r_iconst (v := 1) d_Mo_weekNow_20 (by decide) ?_
    refine r_icmp_ne 52 d_Mo_weekNow_21 (by decide) (fun qu5 => ?_) (fun qu5 => ?_)
    · replace hf := im qu5 hf
      refine r_aload_n 0 d_Mo_weekNow_52 rfl rfl ?_
      refine r_getI d_Mo_weekNow_53 fl_Mo_63 sh_49 (by decide) ?_
      refine r_iconst (v := 1) d_Mo_weekNow_56 (by decide) ?_
      refine r_icmp_le 139 d_Mo_weekNow_57 (by decide) (fun qu6 => ?_) (fun qu6 => ?_)
      · replace hf := ip qu6 hf
        obtain rfl := Option.some.inj hf
        exact r_return d_Mo_weekNow_139 rfl rfl
      · replace hf := im qu6 hf
        refine r_aload_n 0 d_Mo_weekNow_60 rfl rfl ?_
        refine r_aload_n 0 d_Mo_weekNow_61 rfl rfl ?_
        refine r_getI d_Mo_weekNow_62 fl_Mo_63 sh_49 (by decide) ?_
        refine r_callS [.int (Mu3.1 49 0)] d_Mo_weekNow_65 lk_Mo_254 (cm_Mo_pairs (Mu3.1 49 0) Mu3) (by decide) rfl rfl (Nat.le_of_ble_eq_true rfl) ?_
        obtain ⟨vu7, evu7, hf⟩ := bnd hf
        obtain ⟨vu8, Mu9⟩ := vu7
        replace hf := lt_of (rfl : vu8 = (vu8, Mu9).1) hf
        replace hf := lt_of (rfl : Mu9 = (vu8, Mu9).2) hf
        refine r_callV [.int (f_Mo_pairs (Mu3.1 49 0))] d_Mo_weekNow_68 lk_Mo_299 sh_49 (cm_Mo_draw evu7) (by decide) rfl rfl (Nat.le_of_ble_eq_true rfl) ?_
        refine r_istore_n (lv' := [some (.ref 49), some (.int vu2), some (.int vu8), none]) 2 d_Mo_weekNow_71 rfl (by decide) rfl ?_
        refine r_aload_n 0 d_Mo_weekNow_72 rfl rfl ?_
        refine r_getI d_Mo_weekNow_73 fl_Mo_86 sh_49 (by decide) ?_
        refine r_iload_n 2 d_Mo_weekNow_76 rfl rfl ?_
        refine r_callS [.int (Mu9.1 49 1), .int vu8] d_Mo_weekNow_77 lk_Mo_78 (cm_Mo_has (Mu9.1 49 1) vu8 Mu9) (by decide) rfl rfl (Nat.le_of_ble_eq_true rfl) ?_
        obtain ⟨ju10, hju10, hf⟩ := lt_ex hf
        have Kju10 : ∀ (xu11 : Int32), ju10 xu11 = some ru → SW G 5 c_Mo_weekNow R_Mo 4 none (none, ru) Mu9 118 [some (.ref 49), none, some (.int vu8), none] [.int xu11] := by
          intro xu11 hf
          rw [hju10] at hf
          refine r_istore_n (lv' := [some (.ref 49), none, some (.int vu8), some (.int xu11)]) 3 d_Mo_weekNow_118 rfl (by decide) rfl ?_
          refine r_aload_n 0 d_Mo_weekNow_119 rfl rfl ?_
          refine r_dup d_Mo_weekNow_120 rfl ?_
          refine r_getI d_Mo_weekNow_121 fl_Mo_86 sh_49 (by decide) ?_
          refine r_iload_n 3 d_Mo_weekNow_124 rfl rfl ?_
          obtain ⟨ju12, hju12, hf⟩ := lt_ex hf
          have Kju12 : ∀ (xu13 : Int32), ju12 xu13 = some ru → SW G 5 c_Mo_weekNow R_Mo 4 none (none, ru) Mu9 135 [none, none, none, none] [.int xu13, .int (Mu9.1 49 1), .ref 49] := by
            intro xu13 hf
            rw [hju12] at hf
            refine r_ixor d_Mo_weekNow_135 ?_
            refine r_putI d_Mo_weekNow_136 fl_Mo_86 sh_49 (Or.inl rfl) rfl ?_
            refine nmM (fun Mu14 hMu14 => ?_)
            replace hf := lt_of hMu14 hf
            obtain rfl := Option.some.inj hf
            exact r_return d_Mo_weekNow_139 rfl rfl
          refine r_if_eq 134 d_Mo_weekNow_125 (by decide) (fun qu15 => ?_) (fun qu15 => ?_)
          · replace hf := ip qu15 hf
            refine r_iconst (v := 0) d_Mo_weekNow_134 (by decide) ?_
            refine r_weak [0, 2, 3] (lv' := [none, none, none, none]) rfl ?_
            exact Kju12 0  hf
          · replace hf := im qu15 hf
            refine r_iconst (v := 1) d_Mo_weekNow_128 (by decide) ?_
            refine r_iload_n 2 d_Mo_weekNow_129 rfl rfl ?_
            refine r_ishl d_Mo_weekNow_130 ?_
            refine r_goto 135 d_Mo_weekNow_131 (by decide) ?_
            refine r_weak [0, 2, 3] (lv' := [none, none, none, none]) rfl ?_
            exact Kju12 ((1 : Int32) <<< (vu8 &&& 31))  hf
        refine r_if_eq 102 d_Mo_weekNow_80 (by decide) (fun qu16 => ?_) (fun qu16 => ?_)
        · replace hf := ip qu16 hf
          refine r_aload_n 0 d_Mo_weekNow_102 rfl rfl ?_
          refine r_getI d_Mo_weekNow_103 fl_Mo_185 sh_49 (by decide) ?_
          refine r_iload_n 2 d_Mo_weekNow_106 rfl rfl ?_
          refine r_callS [.int (Mu9.1 49 2), .int vu8] d_Mo_weekNow_107 lk_Mo_78 (cm_Mo_has (Mu9.1 49 2) vu8 Mu9) (by decide) rfl rfl (Nat.le_of_ble_eq_true rfl) ?_
          refine r_if_ne 117 d_Mo_weekNow_110 (by decide) (fun qu17 => ?_) (fun qu17 => ?_)
          · replace hf := im qu17 hf
            refine r_iconst (v := 0) d_Mo_weekNow_117 (by decide) ?_
            refine r_weak [1] (lv' := [some (.ref 49), none, some (.int vu8), none]) rfl ?_
            exact Kju10 0  hf
          · replace hf := ip qu17 hf
            refine r_iconst (v := 1) d_Mo_weekNow_113 (by decide) ?_
            refine r_goto 118 d_Mo_weekNow_114 (by decide) ?_
            refine r_weak [1] (lv' := [some (.ref 49), none, some (.int vu8), none]) rfl ?_
            exact Kju10 1  hf
        · replace hf := im qu16 hf
          refine r_aload_n 0 d_Mo_weekNow_83 rfl rfl ?_
          refine r_getI d_Mo_weekNow_84 fl_Mo_188 sh_49 (by decide) ?_
          refine r_iload_n 2 d_Mo_weekNow_87 rfl rfl ?_
          refine r_callS [.int (Mu9.1 49 3), .int vu8] d_Mo_weekNow_88 lk_Mo_78 (cm_Mo_has (Mu9.1 49 3) vu8 Mu9) (by decide) rfl rfl (Nat.le_of_ble_eq_true rfl) ?_
          refine r_if_ne 98 d_Mo_weekNow_91 (by decide) (fun qu18 => ?_) (fun qu18 => ?_)
          · replace hf := im qu18 hf
            refine r_iconst (v := 0) d_Mo_weekNow_98 (by decide) ?_
            refine r_goto 118 d_Mo_weekNow_99 (by decide) ?_
            refine r_weak [1] (lv' := [some (.ref 49), none, some (.int vu8), none]) rfl ?_
            exact Kju10 0  hf
          · replace hf := ip qu18 hf
            refine r_iconst (v := 1) d_Mo_weekNow_94 (by decide) ?_
            refine r_goto 118 d_Mo_weekNow_95 (by decide) ?_
            refine r_weak [1] (lv' := [some (.ref 49), none, some (.int vu8), none]) rfl ?_
            exact Kju10 1  hf
    · replace hf := ip qu5 hf
      refine r_aload_n 0 d_Mo_weekNow_24 rfl rfl ?_
      refine r_getI d_Mo_weekNow_25 fl_Mo_63 sh_49 (by decide) ?_
      refine r_iconst (v := 1) d_Mo_weekNow_28 (by decide) ?_
      obtain ⟨ju19, hju19, hf⟩ := lt_ex hf
      have Kju19 : ∀ (xu20 : Int32) (Mu21 : Mm), ju19 xu20 Mu21 = some ru → SW G 5 c_Mo_weekNow R_Mo 4 none (none, ru) Mu21 48 [none, none, none, none] [.int xu20] := by
        intro xu20 Mu21 hf
        rw [hju19] at hf
        refine r_istore_n (lv' := [none, none, some (.int xu20), none]) 2 d_Mo_weekNow_48 rfl (by decide) rfl ?_
        refine r_goto 139 d_Mo_weekNow_49 (by decide) ?_
        obtain rfl := Option.some.inj hf
        exact r_return d_Mo_weekNow_139 rfl rfl
      refine r_icmp_le 47 d_Mo_weekNow_29 (by decide) (fun qu22 => ?_) (fun qu22 => ?_)
      · replace hf := ip qu22 hf
        refine r_iconst (v := 0) d_Mo_weekNow_47 (by decide) ?_
        refine r_weak [0, 1] (lv' := [none, none, none, none]) rfl ?_
        exact Kju19 0 Mu3  hf
      · replace hf := im qu22 hf
        refine r_aload_n 0 d_Mo_weekNow_32 rfl rfl ?_
        refine r_aload_n 0 d_Mo_weekNow_33 rfl rfl ?_
        refine r_aload_n 0 d_Mo_weekNow_34 rfl rfl ?_
        refine r_getI d_Mo_weekNow_35 fl_Mo_63 sh_49 (by decide) ?_
        obtain ⟨vu23, evu23, hf⟩ := bnd hf
        obtain ⟨vu24, Mu25⟩ := vu23
        replace hf := lt_of (rfl : vu24 = (vu24, Mu25).1) hf
        replace hf := lt_of (rfl : Mu25 = (vu24, Mu25).2) hf
        refine r_callV [.int (Mu3.1 49 0)] d_Mo_weekNow_38 lk_Mo_299 sh_49 (cm_Mo_draw evu23) (by decide) rfl rfl (Nat.le_of_ble_eq_true rfl) ?_
        obtain ⟨vu26, evu26, hf⟩ := bnd hf
        obtain ⟨vu27, Mu28⟩ := vu26
        replace hf := lt_of (rfl : vu27 = (vu27, Mu28).1) hf
        replace hf := lt_of (rfl : Mu28 = (vu27, Mu28).2) hf
        refine r_callV [.int vu24] d_Mo_weekNow_41 lk_Mo_305 sh_49 (cm_Mo_death evu26) (by decide) rfl rfl (Nat.le_of_ble_eq_true rfl) ?_
        refine r_goto 48 d_Mo_weekNow_44 (by decide) ?_
        refine r_weak [0, 1] (lv' := [none, none, none, none]) rfl ?_
        exact Kju19 vu27 Mu28  hf
  · replace hf := ip qu4 hf
    refine r_aload_n 0 d_Mo_weekNow_11 rfl rfl ?_
    obtain ⟨vu29, evu29, hf⟩ := bnd hf
    obtain ⟨vu30, Mu31⟩ := vu29
    replace hf := lt_of (rfl : vu30 = (vu30, Mu31).1) hf
    replace hf := lt_of (rfl : Mu31 = (vu30, Mu31).2) hf
    refine r_callV [] d_Mo_weekNow_12 lk_Mo_302 sh_49 (cm_Mo_birth evu29) (by decide) rfl rfl (Nat.le_of_ble_eq_true rfl) ?_
    refine r_istore_n (lv' := [some (.ref 49), some (.int vu2), some (.int vu30), none]) 2 d_Mo_weekNow_15 rfl (by decide) rfl ?_
    refine r_goto 139 d_Mo_weekNow_16 (by decide) ?_
    obtain rfl := Option.some.inj hf
    exact r_return d_Mo_weekNow_139 rfl rfl
def L_Mo_drift_27 (Nu : Nat) (p0 : Int32) : Nat → Int32 → Mm → Option (Int32 × Mm)
  | 0, _, _ => none
  | nu + 1, z2_27, M_27 => if p0 ≤ z2_27 then some (M_27.1 49 1, M_27) else (f_Mo_weekNow Nu M_27).bind fun vu4 => lt (z2_27 + 1) fun xu5 => L_Mo_drift_27 Nu p0 nu xu5 vu4
def f_Mo_drift (Nu : Nat) (p0 : Int32) (Mu : Mm) : Option (Int32 × Mm) := if (f_Mo_in p0.toInt64 1 99) = 0 then some ((-1000000002), Mu) else if (Mu.1 49 0) = 0 then some ((-1000000003), Mu) else L_Mo_drift_27 Nu p0 Nu 0 Mu
theorem l_Mo_drift_27 {G : GT} {ru : Int32 × Mm} (Nu : Nat) (p0 : Int32)    : ∀ (nu : Nat) (z2_27 : Int32) (M_27 : Mm), L_Mo_drift_27 Nu p0 nu z2_27 M_27 = some ru → SW G 6 c_Mo_drift R_Mo 3 (some .int) (some (.int ru.1), ru.2) M_27 27 [some (.ref 49), some (.int p0), some (.int z2_27)] []
  | 0, _, _, hf => by cases hf
  | nu + 1, z2_27, M_27, hf => by
    have ih := l_Mo_drift_27 (G := G) (ru := ru) Nu p0   nu
    rw [L_Mo_drift_27] at hf
    refine r_iload_n 2 d_Mo_drift_27 rfl rfl ?_
    refine r_iload_n 1 d_Mo_drift_28 rfl rfl ?_
    refine r_icmp_ge 42 d_Mo_drift_29 (by decide) (fun qu3 => ?_) (fun qu3 => ?_)
    · replace hf := ip qu3 hf
      refine r_aload_n 0 d_Mo_drift_42 rfl rfl ?_
      refine r_getI d_Mo_drift_43 fl_Mo_86 sh_49 (by decide) ?_
      obtain rfl := Option.some.inj hf
      exact r_ireturn d_Mo_drift_46 rfl rfl
    · replace hf := im qu3 hf
      refine r_aload_n 0 d_Mo_drift_32 rfl rfl ?_
      obtain ⟨vu4, evu4, hf⟩ := bnd hf
      refine r_callV [] d_Mo_drift_33 lk_Mo_310 sh_49 (cm_Mo_weekNow evu4) (by decide) rfl rfl (Nat.le_of_ble_eq_true rfl) ?_
      obtain ⟨xu5, hxu5⟩ : ∃ y : Int32, y = z2_27 + 1 := ⟨_, rfl⟩
      replace hf := lt_of hxu5 hf
      refine r_iinc (lv' := [some (.ref 49), some (.int p0), some (.int xu5)]) d_Mo_drift_36 rfl (by rw [hxu5]; rfl) (by decide) rfl ?_
      refine r_goto 27 d_Mo_drift_39 (by decide) ?_
      exact ih xu5 vu4  hf
theorem cm_Mo_drift {G : GT} {Nu : Nat} {p0 : Int32} {Mu : Mm}  {ru : Int32 × Mm}  (hf : f_Mo_drift Nu p0 Mu = some ru) : CM G 6 y_Mo_drift c_Mo_drift 3 (some .int) (some (.int ru.1), ru.2) Mu [.ref 49, .int p0] := by
  unfold f_Mo_drift at hf
  refine CM.of (own := R_Mo) (lv := [some (.ref 49), some (.int p0), none]) (by decide) rfl (Nat.le_of_ble_eq_true rfl) rfl ?_
  refine r_iload_n 1 d_Mo_drift_0 rfl rfl ?_
  refine r_i2l d_Mo_drift_1 ?_
  refine r_lconst (v := 1) d_Mo_drift_2 (by decide) ?_
  refine r_ldc2_w d_Mo_drift_3 k_Mo_308 ?_
  refine r_callS [.long p0.toInt64, .long 1, .long 99] d_Mo_drift_6 lk_Mo_66 (cm_Mo_in p0.toInt64 1 99 Mu) (by decide) rfl rfl (Nat.le_of_ble_eq_true rfl) ?_
  refine r_if_ne 15 d_Mo_drift_9 (by decide) (fun qu1 => ?_) (fun qu1 => ?_)
  · replace hf := im qu1 hf
    refine r_aload_n 0 d_Mo_drift_15 rfl rfl ?_
    refine r_getI d_Mo_drift_16 fl_Mo_63 sh_49 (by decide) ?_
    refine r_if_ne 25 d_Mo_drift_19 (by decide) (fun qu2 => ?_) (fun qu2 => ?_)
    · replace hf := im qu2 hf
      refine r_iconst (v := 0) d_Mo_drift_25 (by decide) ?_
      refine r_istore_n (lv' := [some (.ref 49), some (.int p0), some (.int 0)]) 2 d_Mo_drift_26 rfl (by decide) rfl ?_
      exact l_Mo_drift_27 (G := G) (ru := ru) Nu p0   Nu 0 Mu hf
    · replace hf := ip qu2 hf
      refine r_ldc d_Mo_drift_22 k_Mo_210 ?_
      obtain rfl := Option.some.inj hf
      exact r_ireturn d_Mo_drift_24 rfl rfl
  · replace hf := ip qu1 hf
    refine r_ldc d_Mo_drift_12 k_Mo_94 ?_
    obtain rfl := Option.some.inj hf
    exact r_ireturn d_Mo_drift_14 rfl rfl
def f_Mo_seed (p0 : Int32) (Mu : Mm) : Int32 × Mm := if 0 ≤ p0 then lt (Mu.1 49 7) fun xu2 => lt (si Mu 49 7 p0) fun Mu3 => (xu2, Mu3) else ((-1000000002), Mu)
theorem cm_Mo_seed {G : GT} (p0 : Int32) (Mu : Mm)   : CM G 1 y_Mo_seed c_Mo_seed 3 (some .int) (some (.int (f_Mo_seed p0 Mu).1), (f_Mo_seed p0 Mu).2) Mu [.ref 49, .int p0] := by
  generalize hf : f_Mo_seed p0 Mu = ru
  unfold f_Mo_seed at hf
  refine CM.of (own := R_Mo) (lv := [some (.ref 49), some (.int p0), none]) (by decide) rfl (Nat.le_of_ble_eq_true rfl) rfl ?_
  refine r_iload_n 1 d_Mo_seed_0 rfl rfl ?_
  refine r_if_ge 7 d_Mo_seed_1 (by decide) (fun qu1 => ?_) (fun qu1 => ?_)
  · replace hf := ip qu1 hf
    refine r_aload_n 0 d_Mo_seed_7 rfl rfl ?_
    refine r_getI d_Mo_seed_8 fl_Mo_289 sh_49 (by decide) ?_
    refine nmI (fun xu2 hxu2 => ?_)
    replace hf := lt_of hxu2 hf
    refine r_istore_n (lv' := [some (.ref 49), some (.int p0), some (.int xu2)]) 2 d_Mo_seed_11 rfl (by decide) rfl ?_
    refine r_aload_n 0 d_Mo_seed_12 rfl rfl ?_
    refine r_iload_n 1 d_Mo_seed_13 rfl rfl ?_
    refine r_putI d_Mo_seed_14 fl_Mo_289 sh_49 (Or.inl rfl) rfl ?_
    refine nmM (fun Mu3 hMu3 => ?_)
    replace hf := lt_of hMu3 hf
    refine r_iload_n 2 d_Mo_seed_17 rfl rfl ?_
    subst hf
    exact r_ireturn d_Mo_seed_18 rfl rfl
  · replace hf := im qu1 hf
    refine r_ldc d_Mo_seed_4 k_Mo_94 ?_
    subst hf
    exact r_ireturn d_Mo_seed_6 rfl rfl
def L_Mo_keep_78 (Nu : Nat) (xu2 : Int32) (ju13 : Mm → Option (Int32 × Mm)) : Nat → Int32 → Mm → Option (Int32 × Mm)
  | 0, _, _ => none
  | nu + 1, z3_78, M_78 => if 8 ≤ z3_78 then ju13 M_78 else if inb z3_78 8 = true then if inb ((xu2 + 5) + z3_78) 40 = true then lt (si M_78 62 (Int32.toNatClampNeg ((xu2 + 5) + z3_78)) (M_78.1 50 (Int32.toNatClampNeg z3_78))) fun Mu20 => lt (z3_78 + 1) fun xu21 => L_Mo_keep_78 Nu xu2 ju13 nu xu21 Mu20 else none else none
def f_Mo_keep (Nu : Nat) (p0 : Int32) (Mu : Mm) : Option (Int32 × Mm) := if (f_Mo_in p0.toInt64 0 1) = 0 then some ((-1000000001), Mu) else lt ((20 : Int32) * p0) fun xu2 => if inb xu2 40 = true then lt (si Mu 62 (Int32.toNatClampNeg xu2) (Mu.1 49 0)) fun Mu4 => if inb (xu2 + 1) 40 = true then lt (si Mu4 62 (Int32.toNatClampNeg (xu2 + 1)) (Mu4.1 49 1)) fun Mu6 => if inb (xu2 + 2) 40 = true then lt (si Mu6 62 (Int32.toNatClampNeg (xu2 + 2)) (Mu6.1 49 2)) fun Mu8 => if inb (xu2 + 3) 40 = true then lt (si Mu8 62 (Int32.toNatClampNeg (xu2 + 3)) (Mu8.1 49 3)) fun Mu10 => if inb (xu2 + 4) 40 = true then lt (si Mu10 62 (Int32.toNatClampNeg (xu2 + 4)) (Mu10.1 49 7)) fun Mu12 => lt (fun (Mu14 : Mm) => if inb p0 2 = true then lt (si Mu14 63 (Int32.toNatClampNeg p0) (vp_nar .boolean 1)) fun Mu16 => some (1, Mu16) else none) fun ju13 => L_Mo_keep_78 Nu xu2 ju13 Nu 0 Mu12 else none else none else none else none else none
theorem l_Mo_keep_78 {G : GT} {ru : Int32 × Mm} (Nu : Nat) (xu2 : Int32) (ju13 : Mm → Option (Int32 × Mm)) (p0 : Int32)  (Kju13 : ∀ (Mw : Mm), ju13 Mw = some ru → SW G 2 c_Mo_keep R_Mo 4 (some .int) (some (.int ru.1), ru.2) Mw 106 [some (.ref 49), some (.int p0), none, none] [])  : ∀ (nu : Nat) (z3_78 : Int32) (M_78 : Mm), L_Mo_keep_78 Nu xu2 ju13 nu z3_78 M_78 = some ru → SW G 2 c_Mo_keep R_Mo 4 (some .int) (some (.int ru.1), ru.2) M_78 78 [some (.ref 49), some (.int p0), some (.int xu2), some (.int z3_78)] []
  | 0, _, _, hf => by cases hf
  | nu + 1, z3_78, M_78, hf => by
    have ih := l_Mo_keep_78 (G := G) (ru := ru) Nu xu2 ju13 p0  Kju13 nu
    rw [L_Mo_keep_78] at hf
    refine r_iload_n 3 d_Mo_keep_78 rfl rfl ?_
    refine r_bipush (v := 8) d_Mo_keep_79 (by decide) ?_
    refine r_icmp_ge 106 d_Mo_keep_81 (by decide) (fun qu17 => ?_) (fun qu17 => ?_)
    · replace hf := ip qu17 hf
      refine r_weak [2, 3] (lv' := [some (.ref 49), some (.int p0), none, none]) rfl ?_
      exact Kju13 M_78  hf
    · replace hf := im qu17 hf
      refine r_aload_n 0 d_Mo_keep_84 rfl rfl ?_
      refine r_getR 62 d_Mo_keep_85 fl_Mo_57 sh_49 rfl rf_49_37 ?_
      refine r_iload_n 2 d_Mo_keep_88 rfl rfl ?_
      refine r_iconst (v := 5) d_Mo_keep_89 (by decide) ?_
      refine r_iadd d_Mo_keep_90 ?_
      refine r_iload_n 3 d_Mo_keep_91 rfl rfl ?_
      refine r_iadd d_Mo_keep_92 ?_
      refine r_aload_n 0 d_Mo_keep_93 rfl rfl ?_
      refine r_getR 50 d_Mo_keep_94 fl_Mo_16 sh_49 rfl rf_49_6 ?_
      refine r_iload_n 3 d_Mo_keep_97 rfl rfl ?_
      obtain ⟨qu18, hf⟩ := ck hf
      refine r_iald d_Mo_keep_98 sh_50 qu18 ?_
      obtain ⟨qu19, hf⟩ := ck hf
      refine r_iast d_Mo_keep_99 sh_62 qu19 ?_
      refine nmM (fun Mu20 hMu20 => ?_)
      replace hf := lt_of hMu20 hf
      obtain ⟨xu21, hxu21⟩ : ∃ y : Int32, y = z3_78 + 1 := ⟨_, rfl⟩
      replace hf := lt_of hxu21 hf
      refine r_iinc (lv' := [some (.ref 49), some (.int p0), some (.int xu2), some (.int xu21)]) d_Mo_keep_100 rfl (by rw [hxu21]; rfl) (by decide) rfl ?_
      refine r_goto 78 d_Mo_keep_103 (by decide) ?_
      exact ih xu21 Mu20  hf
theorem cm_Mo_keep {G : GT} {Nu : Nat} {p0 : Int32} {Mu : Mm}  {ru : Int32 × Mm}  (hf : f_Mo_keep Nu p0 Mu = some ru) : CM G 2 y_Mo_keep c_Mo_keep 4 (some .int) (some (.int ru.1), ru.2) Mu [.ref 49, .int p0] := by
  unfold f_Mo_keep at hf
  refine CM.of (own := R_Mo) (lv := [some (.ref 49), some (.int p0), none, none]) (by decide) rfl (Nat.le_of_ble_eq_true rfl) rfl ?_
  refine r_iload_n 1 d_Mo_keep_0 rfl rfl ?_
  refine r_i2l d_Mo_keep_1 ?_
  refine r_lconst (v := 0) d_Mo_keep_2 (by decide) ?_
  refine r_lconst (v := 1) d_Mo_keep_3 (by decide) ?_
  refine r_callS [.long p0.toInt64, .long 0, .long 1] d_Mo_keep_4 lk_Mo_66 (cm_Mo_in p0.toInt64 0 1 Mu) (by decide) rfl rfl (Nat.le_of_ble_eq_true rfl) ?_
  refine r_if_ne 13 d_Mo_keep_7 (by decide) (fun qu1 => ?_) (fun qu1 => ?_)
  · replace hf := im qu1 hf
    refine r_bipush (v := 20) d_Mo_keep_13 (by decide) ?_
    refine r_iload_n 1 d_Mo_keep_15 rfl rfl ?_
    refine r_imul d_Mo_keep_16 ?_
    refine nmI (fun xu2 hxu2 => ?_)
    replace hf := lt_of hxu2 hf
    refine r_istore_n (lv' := [some (.ref 49), some (.int p0), some (.int xu2), none]) 2 d_Mo_keep_17 rfl (by decide) rfl ?_
    refine r_aload_n 0 d_Mo_keep_18 rfl rfl ?_
    refine r_getR 62 d_Mo_keep_19 fl_Mo_57 sh_49 rfl rf_49_37 ?_
    refine r_iload_n 2 d_Mo_keep_22 rfl rfl ?_
    refine r_aload_n 0 d_Mo_keep_23 rfl rfl ?_
    refine r_getI d_Mo_keep_24 fl_Mo_63 sh_49 (by decide) ?_
    obtain ⟨qu3, hf⟩ := ck hf
    refine r_iast d_Mo_keep_27 sh_62 qu3 ?_
    refine nmM (fun Mu4 hMu4 => ?_)
    replace hf := lt_of hMu4 hf
    refine r_aload_n 0 d_Mo_keep_28 rfl rfl ?_
    refine r_getR 62 d_Mo_keep_29 fl_Mo_57 sh_49 rfl rf_49_37 ?_
    refine r_iload_n 2 d_Mo_keep_32 rfl rfl ?_
    refine r_iconst (v := 1) d_Mo_keep_33 (by decide) ?_
    refine r_iadd d_Mo_keep_34 ?_
    refine r_aload_n 0 d_Mo_keep_35 rfl rfl ?_
    refine r_getI d_Mo_keep_36 fl_Mo_86 sh_49 (by decide) ?_
    obtain ⟨qu5, hf⟩ := ck hf
    refine r_iast d_Mo_keep_39 sh_62 qu5 ?_
    refine nmM (fun Mu6 hMu6 => ?_)
    replace hf := lt_of hMu6 hf
    refine r_aload_n 0 d_Mo_keep_40 rfl rfl ?_
    refine r_getR 62 d_Mo_keep_41 fl_Mo_57 sh_49 rfl rf_49_37 ?_
    refine r_iload_n 2 d_Mo_keep_44 rfl rfl ?_
    refine r_iconst (v := 2) d_Mo_keep_45 (by decide) ?_
    refine r_iadd d_Mo_keep_46 ?_
    refine r_aload_n 0 d_Mo_keep_47 rfl rfl ?_
    refine r_getI d_Mo_keep_48 fl_Mo_185 sh_49 (by decide) ?_
    obtain ⟨qu7, hf⟩ := ck hf
    refine r_iast d_Mo_keep_51 sh_62 qu7 ?_
    refine nmM (fun Mu8 hMu8 => ?_)
    replace hf := lt_of hMu8 hf
    refine r_aload_n 0 d_Mo_keep_52 rfl rfl ?_
    refine r_getR 62 d_Mo_keep_53 fl_Mo_57 sh_49 rfl rf_49_37 ?_
    refine r_iload_n 2 d_Mo_keep_56 rfl rfl ?_
    refine r_iconst (v := 3) d_Mo_keep_57 (by decide) ?_
    refine r_iadd d_Mo_keep_58 ?_
    refine r_aload_n 0 d_Mo_keep_59 rfl rfl ?_
    refine r_getI d_Mo_keep_60 fl_Mo_188 sh_49 (by decide) ?_
    obtain ⟨qu9, hf⟩ := ck hf
    refine r_iast d_Mo_keep_63 sh_62 qu9 ?_
    refine nmM (fun Mu10 hMu10 => ?_)
    replace hf := lt_of hMu10 hf
    refine r_aload_n 0 d_Mo_keep_64 rfl rfl ?_
    refine r_getR 62 d_Mo_keep_65 fl_Mo_57 sh_49 rfl rf_49_37 ?_
    refine r_iload_n 2 d_Mo_keep_68 rfl rfl ?_
    refine r_iconst (v := 4) d_Mo_keep_69 (by decide) ?_
    refine r_iadd d_Mo_keep_70 ?_
    refine r_aload_n 0 d_Mo_keep_71 rfl rfl ?_
    refine r_getI d_Mo_keep_72 fl_Mo_289 sh_49 (by decide) ?_
    obtain ⟨qu11, hf⟩ := ck hf
    refine r_iast d_Mo_keep_75 sh_62 qu11 ?_
    refine nmM (fun Mu12 hMu12 => ?_)
    replace hf := lt_of hMu12 hf
    refine r_iconst (v := 0) d_Mo_keep_76 (by decide) ?_
    refine r_istore_n (lv' := [some (.ref 49), some (.int p0), some (.int xu2), some (.int 0)]) 3 d_Mo_keep_77 rfl (by decide) rfl ?_
    obtain ⟨ju13, hju13, hf⟩ := lt_ex hf
    have Kju13 : ∀ (Mu14 : Mm), ju13 Mu14 = some ru → SW G 2 c_Mo_keep R_Mo 4 (some .int) (some (.int ru.1), ru.2) Mu14 106 [some (.ref 49), some (.int p0), none, none] [] := by
      intro Mu14 hf
      rw [hju13] at hf
      refine r_aload_n 0 d_Mo_keep_106 rfl rfl ?_
      refine r_getR 63 d_Mo_keep_107 fl_Mo_60 sh_49 rfl rf_49_38 ?_
      refine r_iload_n 1 d_Mo_keep_110 rfl rfl ?_
      refine r_iconst (v := 1) d_Mo_keep_111 (by decide) ?_
      obtain ⟨qu15, hf⟩ := ck hf
      refine r_zast d_Mo_keep_112 sh_63 qu15 ?_
      refine nmM (fun Mu16 hMu16 => ?_)
      replace hf := lt_of hMu16 hf
      refine r_iconst (v := 1) d_Mo_keep_113 (by decide) ?_
      obtain rfl := Option.some.inj hf
      exact r_ireturn d_Mo_keep_114 rfl rfl
    exact l_Mo_keep_78 (G := G) (ru := ru) Nu xu2 ju13 p0  Kju13 Nu 0 Mu12 hf
  · replace hf := ip qu1 hf
    refine r_ldc d_Mo_keep_10 k_Mo_203 ?_
    obtain rfl := Option.some.inj hf
    exact r_ireturn d_Mo_keep_12 rfl rfl
def L_Mo_goBack_90 (Nu : Nat) (xu4 : Int32) : Nat → Int32 → Mm → Option (Int32 × Mm)
  | 0, _, _ => none
  | nu + 1, z3_90, M_90 => if 8 ≤ z3_90 then some (1, M_90) else if inb ((xu4 + 5) + z3_90) 40 = true then if inb z3_90 8 = true then lt (si M_90 50 (Int32.toNatClampNeg z3_90) (M_90.1 62 (Int32.toNatClampNeg ((xu4 + 5) + z3_90)))) fun Mu18 => lt (z3_90 + 1) fun xu19 => L_Mo_goBack_90 Nu xu4 nu xu19 Mu18 else none else none
def f_Mo_goBack (Nu : Nat) (p0 : Int32) (Mu : Mm) : Option (Int32 × Mm) := if (f_Mo_in p0.toInt64 0 1) = 0 then some ((-1000000001), Mu) else if inb p0 2 = true then if (Mu.1 63 (Int32.toNatClampNeg p0)) = 0 then some ((-1000000003), Mu) else lt ((20 : Int32) * p0) fun xu4 => if inb xu4 40 = true then lt (si Mu 49 0 (Mu.1 62 (Int32.toNatClampNeg xu4))) fun Mu6 => if inb (xu4 + 1) 40 = true then lt (si Mu6 49 1 (Mu6.1 62 (Int32.toNatClampNeg (xu4 + 1)))) fun Mu8 => if inb (xu4 + 2) 40 = true then lt (si Mu8 49 2 (Mu8.1 62 (Int32.toNatClampNeg (xu4 + 2)))) fun Mu10 => if inb (xu4 + 3) 40 = true then lt (si Mu10 49 3 (Mu10.1 62 (Int32.toNatClampNeg (xu4 + 3)))) fun Mu12 => if inb (xu4 + 4) 40 = true then lt (si Mu12 49 7 (Mu12.1 62 (Int32.toNatClampNeg (xu4 + 4)))) fun Mu14 => L_Mo_goBack_90 Nu xu4 Nu 0 Mu14 else none else none else none else none else none else none
theorem l_Mo_goBack_90 {G : GT} {ru : Int32 × Mm} (Nu : Nat) (xu4 : Int32)    : ∀ (nu : Nat) (z3_90 : Int32) (M_90 : Mm), L_Mo_goBack_90 Nu xu4 nu z3_90 M_90 = some ru → SW G 2 c_Mo_goBack R_Mo 4 (some .int) (some (.int ru.1), ru.2) M_90 90 [some (.ref 49), none, some (.int xu4), some (.int z3_90)] []
  | 0, _, _, hf => by cases hf
  | nu + 1, z3_90, M_90, hf => by
    have ih := l_Mo_goBack_90 (G := G) (ru := ru) Nu xu4   nu
    rw [L_Mo_goBack_90] at hf
    refine r_iload_n 3 d_Mo_goBack_90 rfl rfl ?_
    refine r_bipush (v := 8) d_Mo_goBack_91 (by decide) ?_
    refine r_icmp_ge 118 d_Mo_goBack_93 (by decide) (fun qu15 => ?_) (fun qu15 => ?_)
    · replace hf := ip qu15 hf
      refine r_iconst (v := 1) d_Mo_goBack_118 (by decide) ?_
      obtain rfl := Option.some.inj hf
      exact r_ireturn d_Mo_goBack_119 rfl rfl
    · replace hf := im qu15 hf
      refine r_aload_n 0 d_Mo_goBack_96 rfl rfl ?_
      refine r_getR 50 d_Mo_goBack_97 fl_Mo_16 sh_49 rfl rf_49_6 ?_
      refine r_iload_n 3 d_Mo_goBack_100 rfl rfl ?_
      refine r_aload_n 0 d_Mo_goBack_101 rfl rfl ?_
      refine r_getR 62 d_Mo_goBack_102 fl_Mo_57 sh_49 rfl rf_49_37 ?_
      refine r_iload_n 2 d_Mo_goBack_105 rfl rfl ?_
      refine r_iconst (v := 5) d_Mo_goBack_106 (by decide) ?_
      refine r_iadd d_Mo_goBack_107 ?_
      refine r_iload_n 3 d_Mo_goBack_108 rfl rfl ?_
      refine r_iadd d_Mo_goBack_109 ?_
      obtain ⟨qu16, hf⟩ := ck hf
      refine r_iald d_Mo_goBack_110 sh_62 qu16 ?_
      obtain ⟨qu17, hf⟩ := ck hf
      refine r_iast d_Mo_goBack_111 sh_50 qu17 ?_
      refine nmM (fun Mu18 hMu18 => ?_)
      replace hf := lt_of hMu18 hf
      obtain ⟨xu19, hxu19⟩ : ∃ y : Int32, y = z3_90 + 1 := ⟨_, rfl⟩
      replace hf := lt_of hxu19 hf
      refine r_iinc (lv' := [some (.ref 49), none, some (.int xu4), some (.int xu19)]) d_Mo_goBack_112 rfl (by rw [hxu19]; rfl) (by decide) rfl ?_
      refine r_goto 90 d_Mo_goBack_115 (by decide) ?_
      exact ih xu19 Mu18  hf
theorem cm_Mo_goBack {G : GT} {Nu : Nat} {p0 : Int32} {Mu : Mm}  {ru : Int32 × Mm}  (hf : f_Mo_goBack Nu p0 Mu = some ru) : CM G 2 y_Mo_goBack c_Mo_goBack 4 (some .int) (some (.int ru.1), ru.2) Mu [.ref 49, .int p0] := by
  unfold f_Mo_goBack at hf
  refine CM.of (own := R_Mo) (lv := [some (.ref 49), some (.int p0), none, none]) (by decide) rfl (Nat.le_of_ble_eq_true rfl) rfl ?_
  refine r_iload_n 1 d_Mo_goBack_0 rfl rfl ?_
  refine r_i2l d_Mo_goBack_1 ?_
  refine r_lconst (v := 0) d_Mo_goBack_2 (by decide) ?_
  refine r_lconst (v := 1) d_Mo_goBack_3 (by decide) ?_
  refine r_callS [.long p0.toInt64, .long 0, .long 1] d_Mo_goBack_4 lk_Mo_66 (cm_Mo_in p0.toInt64 0 1 Mu) (by decide) rfl rfl (Nat.le_of_ble_eq_true rfl) ?_
  refine r_if_ne 13 d_Mo_goBack_7 (by decide) (fun qu1 => ?_) (fun qu1 => ?_)
  · replace hf := im qu1 hf
    refine r_aload_n 0 d_Mo_goBack_13 rfl rfl ?_
    refine r_getR 63 d_Mo_goBack_14 fl_Mo_60 sh_49 rfl rf_49_38 ?_
    refine r_iload_n 1 d_Mo_goBack_17 rfl rfl ?_
    obtain ⟨qu2, hf⟩ := ck hf
    refine r_zald d_Mo_goBack_18 sh_63 qu2 ?_
    refine r_if_ne 25 d_Mo_goBack_19 (by decide) (fun qu3 => ?_) (fun qu3 => ?_)
    · replace hf := im qu3 hf
      refine r_bipush (v := 20) d_Mo_goBack_25 (by decide) ?_
      refine r_iload_n 1 d_Mo_goBack_27 rfl rfl ?_
      refine r_imul d_Mo_goBack_28 ?_
      refine nmI (fun xu4 hxu4 => ?_)
      replace hf := lt_of hxu4 hf
      refine r_istore_n (lv' := [some (.ref 49), some (.int p0), some (.int xu4), none]) 2 d_Mo_goBack_29 rfl (by decide) rfl ?_
      refine r_aload_n 0 d_Mo_goBack_30 rfl rfl ?_
      refine r_aload_n 0 d_Mo_goBack_31 rfl rfl ?_
      refine r_getR 62 d_Mo_goBack_32 fl_Mo_57 sh_49 rfl rf_49_37 ?_
      refine r_iload_n 2 d_Mo_goBack_35 rfl rfl ?_
      obtain ⟨qu5, hf⟩ := ck hf
      refine r_iald d_Mo_goBack_36 sh_62 qu5 ?_
      refine r_putI d_Mo_goBack_37 fl_Mo_63 sh_49 (Or.inl rfl) rfl ?_
      refine nmM (fun Mu6 hMu6 => ?_)
      replace hf := lt_of hMu6 hf
      refine r_aload_n 0 d_Mo_goBack_40 rfl rfl ?_
      refine r_aload_n 0 d_Mo_goBack_41 rfl rfl ?_
      refine r_getR 62 d_Mo_goBack_42 fl_Mo_57 sh_49 rfl rf_49_37 ?_
      refine r_iload_n 2 d_Mo_goBack_45 rfl rfl ?_
      refine r_iconst (v := 1) d_Mo_goBack_46 (by decide) ?_
      refine r_iadd d_Mo_goBack_47 ?_
      obtain ⟨qu7, hf⟩ := ck hf
      refine r_iald d_Mo_goBack_48 sh_62 qu7 ?_
      refine r_putI d_Mo_goBack_49 fl_Mo_86 sh_49 (Or.inl rfl) rfl ?_
      refine nmM (fun Mu8 hMu8 => ?_)
      replace hf := lt_of hMu8 hf
      refine r_aload_n 0 d_Mo_goBack_52 rfl rfl ?_
      refine r_aload_n 0 d_Mo_goBack_53 rfl rfl ?_
      refine r_getR 62 d_Mo_goBack_54 fl_Mo_57 sh_49 rfl rf_49_37 ?_
      refine r_iload_n 2 d_Mo_goBack_57 rfl rfl ?_
      refine r_iconst (v := 2) d_Mo_goBack_58 (by decide) ?_
      refine r_iadd d_Mo_goBack_59 ?_
      obtain ⟨qu9, hf⟩ := ck hf
      refine r_iald d_Mo_goBack_60 sh_62 qu9 ?_
      refine r_putI d_Mo_goBack_61 fl_Mo_185 sh_49 (Or.inl rfl) rfl ?_
      refine nmM (fun Mu10 hMu10 => ?_)
      replace hf := lt_of hMu10 hf
      refine r_aload_n 0 d_Mo_goBack_64 rfl rfl ?_
      refine r_aload_n 0 d_Mo_goBack_65 rfl rfl ?_
      refine r_getR 62 d_Mo_goBack_66 fl_Mo_57 sh_49 rfl rf_49_37 ?_
      refine r_iload_n 2 d_Mo_goBack_69 rfl rfl ?_
      refine r_iconst (v := 3) d_Mo_goBack_70 (by decide) ?_
      refine r_iadd d_Mo_goBack_71 ?_
      obtain ⟨qu11, hf⟩ := ck hf
      refine r_iald d_Mo_goBack_72 sh_62 qu11 ?_
      refine r_putI d_Mo_goBack_73 fl_Mo_188 sh_49 (Or.inl rfl) rfl ?_
      refine nmM (fun Mu12 hMu12 => ?_)
      replace hf := lt_of hMu12 hf
      refine r_aload_n 0 d_Mo_goBack_76 rfl rfl ?_
      refine r_aload_n 0 d_Mo_goBack_77 rfl rfl ?_
      refine r_getR 62 d_Mo_goBack_78 fl_Mo_57 sh_49 rfl rf_49_37 ?_
      refine r_iload_n 2 d_Mo_goBack_81 rfl rfl ?_
      refine r_iconst (v := 4) d_Mo_goBack_82 (by decide) ?_
      refine r_iadd d_Mo_goBack_83 ?_
      obtain ⟨qu13, hf⟩ := ck hf
      refine r_iald d_Mo_goBack_84 sh_62 qu13 ?_
      refine r_putI d_Mo_goBack_85 fl_Mo_289 sh_49 (Or.inl rfl) rfl ?_
      refine nmM (fun Mu14 hMu14 => ?_)
      replace hf := lt_of hMu14 hf
      refine r_iconst (v := 0) d_Mo_goBack_88 (by decide) ?_
      refine r_istore_n (lv' := [some (.ref 49), some (.int p0), some (.int xu4), some (.int 0)]) 3 d_Mo_goBack_89 rfl (by decide) rfl ?_
      refine r_weak [1] (lv' := [some (.ref 49), none, some (.int xu4), some (.int 0)]) rfl ?_
      exact l_Mo_goBack_90 (G := G) (ru := ru) Nu xu4   Nu 0 Mu14 hf
    · replace hf := ip qu3 hf
      refine r_ldc d_Mo_goBack_22 k_Mo_210 ?_
      obtain rfl := Option.some.inj hf
      exact r_ireturn d_Mo_goBack_24 rfl rfl
  · replace hf := ip qu1 hf
    refine r_ldc d_Mo_goBack_10 k_Mo_203 ?_
    obtain rfl := Option.some.inj hf
    exact r_ireturn d_Mo_goBack_12 rfl rfl
