def f_Uc_placesTied (p0 : Int32) (p1 : Int32) (p2 : Int32) (p3 : Int32) : Int32 := lt (fun (xu2 : Int32) => lt (fun (xu4 : Int32) => if xu2 = xu4 then 1 else 0) fun ju3 => if p1 = 0 then ju3 1 else ju3 0) fun ju1 => if (p2 + p3) < p0 then ju1 0 else ju1 1
theorem cm_Uc_placesTied {G : GT} (p0 : Int32) (p1 : Int32) (p2 : Int32) (p3 : Int32) (Mu : Mm)  : CM G 1 y_Uc_placesTied c_Uc_placesTied 4 (some .boolean) (some (.int (f_Uc_placesTied p0 p1 p2 p3)), Mu) Mu [.int p0, .int p1, .int p2, .int p3] := by
  generalize hf : f_Uc_placesTied p0 p1 p2 p3 = ru
  unfold f_Uc_placesTied at hf
  refine CM.of (own := R_Uc) (lv := [some (.int p0), some (.int p1), some (.int p2), some (.int p3)]) (by decide) rfl (Nat.le_of_ble_eq_true rfl) rfl ?_
  refine r_iload_n 2 d_Uc_placesTied_0 rfl rfl ?_
  refine r_iload_n 3 d_Uc_placesTied_1 rfl rfl ?_
  refine r_iadd d_Uc_placesTied_2 ?_
  refine r_iload_n 0 d_Uc_placesTied_3 rfl rfl ?_
  obtain ⟨ju1, hju1, hf⟩ := lt_ex hf
  have Kju1 : ∀ (xu2 : Int32), ju1 xu2 = ru → SW G 1 c_Uc_placesTied R_Uc 4 (some .boolean) (some (.int ru), Mu) Mu 12 [none, some (.int p1), none, none] [.int xu2] := by
    intro xu2 hf
    rw [hju1] at hf
    refine r_iload_n 1 d_Uc_placesTied_12 rfl rfl ?_
    obtain ⟨ju3, hju3, hf⟩ := lt_ex hf
    have Kju3 : ∀ (xu4 : Int32), ju3 xu4 = ru → SW G 1 c_Uc_placesTied R_Uc 4 (some .boolean) (some (.int ru), Mu) Mu 21 [none, none, none, none] [.int xu4, .int xu2] := by
      intro xu4 hf
      rw [hju3] at hf
      refine r_icmp_ne 28 d_Uc_placesTied_21 (by decide) (fun qu5 => ?_) (fun qu5 => ?_)
      · replace hf := im qu5 hf
        refine r_iconst (v := 0) d_Uc_placesTied_28 (by decide) ?_
        subst hf
        exact r_zreturn d_Uc_placesTied_29 rfl (Or.inl rfl) rfl
      · replace hf := ip qu5 hf
        refine r_iconst (v := 1) d_Uc_placesTied_24 (by decide) ?_
        refine r_goto 29 d_Uc_placesTied_25 (by decide) ?_
        subst hf
        exact r_zreturn d_Uc_placesTied_29 rfl (Or.inr rfl) rfl
    refine r_if_ne 20 d_Uc_placesTied_13 (by decide) (fun qu6 => ?_) (fun qu6 => ?_)
    · replace hf := im qu6 hf
      refine r_iconst (v := 0) d_Uc_placesTied_20 (by decide) ?_
      refine r_weak [1] (lv' := [none, none, none, none]) rfl ?_
      exact Kju3 0  hf
    · replace hf := ip qu6 hf
      refine r_iconst (v := 1) d_Uc_placesTied_16 (by decide) ?_
      refine r_goto 21 d_Uc_placesTied_17 (by decide) ?_
      refine r_weak [1] (lv' := [none, none, none, none]) rfl ?_
      exact Kju3 1  hf
  refine r_icmp_lt 11 d_Uc_placesTied_4 (by decide) (fun qu7 => ?_) (fun qu7 => ?_)
  · replace hf := ip qu7 hf
    refine r_iconst (v := 0) d_Uc_placesTied_11 (by decide) ?_
    refine r_weak [0, 2, 3] (lv' := [none, some (.int p1), none, none]) rfl ?_
    exact Kju1 0  hf
  · replace hf := im qu7 hf
    refine r_iconst (v := 1) d_Uc_placesTied_7 (by decide) ?_
    refine r_goto 12 d_Uc_placesTied_8 (by decide) ?_
    refine r_weak [0, 2, 3] (lv' := [none, some (.int p1), none, none]) rfl ?_
    exact Kju1 1  hf
theorem z_Uc_placesTied (p0 : Int32) (p1 : Int32) (p2 : Int32) (p3 : Int32) : f_Uc_placesTied p0 p1 p2 p3 = 0 ∨ f_Uc_placesTied p0 p1 p2 p3 = 1 := by unfold f_Uc_placesTied; repeat (first | (with_reducible exact Or.inl rfl) | (with_reducible exact Or.inr rfl) | refine z_ite ?_ ?_)
def f_Mk_shiftOf (p0 : Int32) : Int32 := (3 : Int32) * ((7 : Int32) - p0)
theorem cm_Mk_shiftOf {G : GT} (p0 : Int32) (Mu : Mm)  : CM G 1 y_Mk_shiftOf c_Mk_shiftOf 1 (some .int) (some (.int (f_Mk_shiftOf p0)), Mu) Mu [.int p0] := by
  generalize hf : f_Mk_shiftOf p0 = ru
  unfold f_Mk_shiftOf at hf
  refine CM.of (own := R_Mk) (lv := [some (.int p0)]) (by decide) rfl (Nat.le_of_ble_eq_true rfl) rfl ?_
  refine r_iconst (v := 3) d_Mk_shiftOf_0 (by decide) ?_
  refine r_bipush (v := 7) d_Mk_shiftOf_1 (by decide) ?_
  refine r_iload_n 0 d_Mk_shiftOf_3 rfl rfl ?_
  refine r_isub d_Mk_shiftOf_4 ?_
  refine r_imul d_Mk_shiftOf_5 ?_
  subst hf
  exact r_ireturn d_Mk_shiftOf_6 rfl rfl
def f_Mk_withNext (p0 : Nat) (p1 : Int32) (p2 : Int32) (p3 : Int32) (p4 : Int32) (Mu : Mm) : Option (Int64) := lt (fun (xu2 : Int32) => lt (fun (_ : Unit) => some 4611686018427387904) fun ju3 => if (xu2 &&& p2) = 0 then if inb p2 256 = true then if (lg_cmp (Mu.2 19 (Int32.toNatClampNeg p2)) 4611686018427387904) = 0 then ju3 () else lt (fun (xu8 : Int64) => if inb p2 256 = true then some (((Mu.2 19 (Int32.toNatClampNeg p2)) + (xu8 <<< (((24 : Int32)).toInt64 &&& 63))) + (p4.toInt64 <<< ((f_Mk_shiftOf p1).toInt64 &&& 63))) else none) fun ju7 => if p3 = 0 then if inb p1 8 = true then ju7 (((Mu.1 p0 2) * (f_In_bitCount (p2 &&& (Mu.1 (p0 + 1) (Int32.toNatClampNeg p1))))).toInt64) else none else if inb p1 8 = true then ju7 (((Mu.1 p0 1) * (f_In_bitCount (p2 &&& ((Mu.1 (p0 + 1) (Int32.toNatClampNeg p1)) ^^^ (-1))))).toInt64) else none else none else ju3 ()) fun ju1 => if p3 = 0 then if inb p1 8 = true then ju1 (Mu.1 (p0 + 3) (Int32.toNatClampNeg p1)) else none else if inb p1 8 = true then ju1 (Mu.1 (p0 + 2) (Int32.toNatClampNeg p1)) else none
theorem cm_Mk_withNext {G : GT} {p0 : Nat} {p1 : Int32} {p2 : Int32} {p3 : Int32} {p4 : Int32} {Mu : Mm}  {ru : Int64} (h_p0 : sh p0 = (5, 0)) (hf : f_Mk_withNext p0 p1 p2 p3 p4 Mu = some ru) : CM G 2 y_Mk_withNext c_Mk_withNext 9 (some .long) (some (.long ru), Mu) Mu [.ref 18, .ref p0, .int p1, .int p2, .int p3, .int p4] := by
  unfold f_Mk_withNext at hf
  refine CM.of (own := R_Mk) (lv := [some (.ref 18), some (.ref p0), some (.int p1), some (.int p2), some (.int p3), some (.int p4), none, none, none]) (by decide) rfl (Nat.le_of_ble_eq_true rfl) rfl ?_
  refine r_iload d_Mk_withNext_0 rfl ?_
  obtain ⟨ju1, hju1, hf⟩ := lt_ex hf
  have Kju1 : ∀ (xu2 : Int32), ju1 xu2 = some ru → SW G 2 c_Mk_withNext R_Mk 9 (some .long) (some (.long ru), Mu) Mu 20 [some (.ref 18), some (.ref p0), some (.int p1), some (.int p2), some (.int p3), some (.int p4), none, none, none] [.int xu2] := by
    intro xu2 hf
    rw [hju1] at hf
    refine r_istore (lv' := [some (.ref 18), some (.ref p0), some (.int p1), some (.int p2), some (.int p3), some (.int p4), some (.int xu2), none, none]) d_Mk_withNext_20 (by decide) rfl ?_
    refine r_iload d_Mk_withNext_22 rfl ?_
    refine r_iload_n 3 d_Mk_withNext_24 rfl rfl ?_
    refine r_iand d_Mk_withNext_25 ?_
    obtain ⟨ju3, hju3, hf⟩ := lt_ex hf
    have Kju3 : ∀ (_ : Unit), ju3 () = some ru → SW G 2 c_Mk_withNext R_Mk 9 (some .long) (some (.long ru), Mu) Mu 42 [none, none, none, none, none, none, none, none, none] [] := by
      intro _ hf
      rw [hju3] at hf
      refine r_ldc2_w d_Mk_withNext_42 k_Mk_29 ?_
      obtain rfl := Option.some.inj hf
      exact r_lreturn d_Mk_withNext_45 rfl rfl
    refine r_if_ne 42 d_Mk_withNext_26 (by decide) (fun qu4 => ?_) (fun qu4 => ?_)
    · replace hf := im qu4 hf
      refine r_weak [0, 1, 2, 3, 4, 5, 6] (lv' := [none, none, none, none, none, none, none, none, none]) rfl ?_
      exact Kju3 ()  hf
    · replace hf := ip qu4 hf
      refine r_aload_n 0 d_Mk_withNext_29 rfl rfl ?_
      refine r_getR 19 d_Mk_withNext_30 fl_Mk_11 sh_18 rfl rf_18_0 ?_
      refine r_iload_n 3 d_Mk_withNext_33 rfl rfl ?_
      obtain ⟨qu5, hf⟩ := ck hf
      refine r_lald d_Mk_withNext_34 sh_19 qu5 ?_
      refine r_ldc2_w d_Mk_withNext_35 k_Mk_29 ?_
      refine r_lcmp d_Mk_withNext_38 ?_
      refine r_if_ne 46 d_Mk_withNext_39 (by decide) (fun qu6 => ?_) (fun qu6 => ?_)
      · replace hf := im qu6 hf
        refine r_iload d_Mk_withNext_46 rfl ?_
        obtain ⟨ju7, hju7, hf⟩ := lt_ex hf
        have Kju7 : ∀ (xu8 : Int64), ju7 xu8 = some ru → SW G 2 c_Mk_withNext R_Mk 9 (some .long) (some (.long ru), Mu) Mu 90 [some (.ref 18), none, some (.int p1), some (.int p2), none, some (.int p4), none, none, none] [.long xu8] := by
          intro xu8 hf
          rw [hju7] at hf
          refine r_lstore (lv' := [some (.ref 18), none, some (.int p1), some (.int p2), none, some (.int p4), none, some (.long xu8), none]) d_Mk_withNext_90 (by decide) rfl ?_
          refine r_aload_n 0 d_Mk_withNext_92 rfl rfl ?_
          refine r_getR 19 d_Mk_withNext_93 fl_Mk_11 sh_18 rfl rf_18_0 ?_
          refine r_iload_n 3 d_Mk_withNext_96 rfl rfl ?_
          obtain ⟨qu9, hf⟩ := ck hf
          refine r_lald d_Mk_withNext_97 sh_19 qu9 ?_
          refine r_lload d_Mk_withNext_98 rfl ?_
          refine r_bipush (v := 24) d_Mk_withNext_100 (by decide) ?_
          refine r_lshl d_Mk_withNext_102 ?_
          refine r_ladd d_Mk_withNext_103 ?_
          refine r_iload d_Mk_withNext_104 rfl ?_
          refine r_i2l d_Mk_withNext_106 ?_
          refine r_iload_n 2 d_Mk_withNext_107 rfl rfl ?_
          refine r_callS [.int p1] d_Mk_withNext_108 lk_Mk_40 (cm_Mk_shiftOf p1 Mu) (by decide) rfl rfl (Nat.le_of_ble_eq_true rfl) ?_
          refine r_lshl d_Mk_withNext_111 ?_
          refine r_ladd d_Mk_withNext_112 ?_
          obtain rfl := Option.some.inj hf
          exact r_lreturn d_Mk_withNext_113 rfl rfl
        refine r_if_eq 73 d_Mk_withNext_48 (by decide) (fun qu10 => ?_) (fun qu10 => ?_)
        · replace hf := ip qu10 hf
          refine r_aload_n 1 d_Mk_withNext_73 rfl rfl ?_
          refine r_getI d_Mk_withNext_74 fl_Mk_79 h_p0 (by decide) ?_
          refine r_iload_n 3 d_Mk_withNext_77 rfl rfl ?_
          refine r_aload_n 1 d_Mk_withNext_78 rfl rfl ?_
          refine r_getR (p0 + 1) d_Mk_withNext_79 fl_Mk_76 h_p0 rfl (to_r3 h_p0) ?_
          refine r_iload_n 2 d_Mk_withNext_82 rfl rfl ?_
          obtain ⟨qu11, hf⟩ := ck hf
          refine r_iald d_Mk_withNext_83 (to_s3 h_p0) qu11 ?_
          refine r_iand d_Mk_withNext_84 ?_
          refine r_callS [.int (p2 &&& (Mu.1 (p0 + 1) (Int32.toNatClampNeg p1)))] d_Mk_withNext_85 lk_Mk_51 (cm_In_bitCount (p2 &&& (Mu.1 (p0 + 1) (Int32.toNatClampNeg p1))) Mu) (by decide) rfl rfl (Nat.le_of_ble_eq_true rfl) ?_
          refine r_imul d_Mk_withNext_88 ?_
          refine r_i2l d_Mk_withNext_89 ?_
          refine r_weak [1, 4, 6] (lv' := [some (.ref 18), none, some (.int p1), some (.int p2), none, some (.int p4), none, none, none]) rfl ?_
          exact Kju7 (((Mu.1 p0 2) * (f_In_bitCount (p2 &&& (Mu.1 (p0 + 1) (Int32.toNatClampNeg p1))))).toInt64)  hf
        · replace hf := im qu10 hf
          refine r_aload_n 1 d_Mk_withNext_51 rfl rfl ?_
          refine r_getI d_Mk_withNext_52 fl_Mk_73 h_p0 (by decide) ?_
          refine r_iload_n 3 d_Mk_withNext_55 rfl rfl ?_
          refine r_aload_n 1 d_Mk_withNext_56 rfl rfl ?_
          refine r_getR (p0 + 1) d_Mk_withNext_57 fl_Mk_76 h_p0 rfl (to_r3 h_p0) ?_
          refine r_iload_n 2 d_Mk_withNext_60 rfl rfl ?_
          obtain ⟨qu12, hf⟩ := ck hf
          refine r_iald d_Mk_withNext_61 (to_s3 h_p0) qu12 ?_
          refine r_iconst (v := (-1)) d_Mk_withNext_62 (by decide) ?_
          refine r_ixor d_Mk_withNext_63 ?_
          refine r_iand d_Mk_withNext_64 ?_
          refine r_callS [.int (p2 &&& ((Mu.1 (p0 + 1) (Int32.toNatClampNeg p1)) ^^^ (-1)))] d_Mk_withNext_65 lk_Mk_51 (cm_In_bitCount (p2 &&& ((Mu.1 (p0 + 1) (Int32.toNatClampNeg p1)) ^^^ (-1))) Mu) (by decide) rfl rfl (Nat.le_of_ble_eq_true rfl) ?_
          refine r_imul d_Mk_withNext_68 ?_
          refine r_i2l d_Mk_withNext_69 ?_
          refine r_goto 90 d_Mk_withNext_70 (by decide) ?_
          refine r_weak [1, 4, 6] (lv' := [some (.ref 18), none, some (.int p1), some (.int p2), none, some (.int p4), none, none, none]) rfl ?_
          exact Kju7 (((Mu.1 p0 1) * (f_In_bitCount (p2 &&& ((Mu.1 (p0 + 1) (Int32.toNatClampNeg p1)) ^^^ (-1))))).toInt64)  hf
      · replace hf := ip qu6 hf
        refine r_weak [0, 1, 2, 3, 4, 5, 6] (lv' := [none, none, none, none, none, none, none, none, none]) rfl ?_
        exact Kju3 ()  hf
  refine r_if_eq 14 d_Mk_withNext_2 (by decide) (fun qu13 => ?_) (fun qu13 => ?_)
  · replace hf := ip qu13 hf
    refine r_aload_n 1 d_Mk_withNext_14 rfl rfl ?_
    refine r_getR (p0 + 3) d_Mk_withNext_15 fl_Mk_70 h_p0 rfl (to_r5 h_p0) ?_
    refine r_iload_n 2 d_Mk_withNext_18 rfl rfl ?_
    obtain ⟨qu14, hf⟩ := ck hf
    refine r_iald d_Mk_withNext_19 (to_s5 h_p0) qu14 ?_
    exact Kju1 (Mu.1 (p0 + 3) (Int32.toNatClampNeg p1))  hf
  · replace hf := im qu13 hf
    refine r_aload_n 1 d_Mk_withNext_5 rfl rfl ?_
    refine r_getR (p0 + 2) d_Mk_withNext_6 fl_Mk_66 h_p0 rfl (to_r4 h_p0) ?_
    refine r_iload_n 2 d_Mk_withNext_9 rfl rfl ?_
    obtain ⟨qu15, hf⟩ := ck hf
    refine r_iald d_Mk_withNext_10 (to_s4 h_p0) qu15 ?_
    refine r_goto 20 d_Mk_withNext_11 (by decide) ?_
    exact Kju1 (Mu.1 (p0 + 2) (Int32.toNatClampNeg p1))  hf
def L_Mk_leastByWay_89 (Nu : Nat) (p0 : Nat) (z4_19 : Int32) (M_19 : Mm) (xu9 : Int32) (xu11 : Int32) (ju12 : Int64 → Option (Int64 × Mm)) : Nat → Int64 → Int32 → Option (Int64 × Mm)
  | 0, _, _ => none
  | nu + 1, z8_89, z10_89 => if (M_19.1 18 1) ≤ z10_89 then ju12 z8_89 else lt (fun (xu19 : Int64) => lt (z10_89 + 1) fun xu20 => L_Mk_leastByWay_89 Nu p0 z4_19 M_19 xu9 xu11 ju12 nu xu19 xu20) fun ju18 => if ((z4_19 >>> (z10_89 &&& 31)) &&& 1) = 1 then (f_Mk_withNext p0 z10_89 (z4_19 &&& (((1 : Int32) <<< (z10_89 &&& 31)) ^^^ (-1))) xu11 xu9 M_19).bind fun vu22 => lt (f_Ma_min_JJ z8_89 vu22) fun xu23 => ju18 xu23 else ju18 z8_89
def L_Mk_leastByWay_19 (Nu : Nat) (p0 : Nat) (p1 : Int32) (xu2 : Int32) (ju3 : Mm → Option (Int64 × Mm)) : Nat → Int32 → Mm → Option (Int64 × Mm)
  | 0, _, _ => none
  | nu + 1, z4_19, M_19 => if xu2 < z4_19 then ju3 M_19 else lt ((M_19.1 18 1) - (f_In_bitCount z4_19)) fun xu7 => lt (fun (xu9 : Int32) => lt (fun (xu11 : Int32) => lt (fun (xu13 : Int64) => if inb z4_19 256 = true then lt (sl M_19 19 (Int32.toNatClampNeg z4_19) xu13) fun Mu15 => lt (z4_19 + 1) fun xu16 => L_Mk_leastByWay_19 Nu p0 p1 xu2 ju3 nu xu16 Mu15 else none) fun ju12 => L_Mk_leastByWay_89 Nu p0 z4_19 M_19 xu9 xu11 ju12 Nu 4611686018427387904 0) fun ju10 => if ((xu7 + p1) - (xu7 + p1) / 2 * 2) = 1 then ju10 1 else ju10 0) fun ju8 => if (xu7 - xu7 / 2 * 2) = 0 then ju8 (xu7 / 2) else ju8 (((M_19.1 18 1) - 1) - (xu7 / 2))
def f_Mk_leastByWay (Nu : Nat) (p0 : Nat) (p1 : Int32) (Mu : Mm) : Option (Int64 × Mm) := lt (sl Mu 19 (Int32.toNatClampNeg 0) 0) fun Mu1 => lt (((1 : Int32) <<< ((Mu1.1 18 1) &&& 31)) - 1) fun xu2 => lt (fun (Mu4 : Mm) => if inb xu2 256 = true then some (Mu4.2 19 (Int32.toNatClampNeg xu2), Mu4) else none) fun ju3 => L_Mk_leastByWay_19 Nu p0 p1 xu2 ju3 Nu 1 Mu1
theorem l_Mk_leastByWay_89 {G : GT} {ru : Int64 × Mm} (Nu : Nat) (p0 : Nat) (z4_19 : Int32) (M_19 : Mm) (xu9 : Int32) (xu11 : Int32) (ju12 : Int64 → Option (Int64 × Mm)) (p1 : Int32) (xu2 : Int32) (h_p0 : sh p0 = (5, 0)) (Kju12 : ∀ (w8 : Int64), ju12 w8 = some ru → SW G 3 c_Mk_leastByWay R_Mk 11 (some .long) (some (.long ru.1), ru.2) M_19 142 [some (.ref 18), some (.ref p0), some (.int p1), some (.int xu2), some (.int z4_19), none, none, none, some (.long w8), none, none] [])  : ∀ (nu : Nat) (z8_89 : Int64) (z10_89 : Int32), L_Mk_leastByWay_89 Nu p0 z4_19 M_19 xu9 xu11 ju12 nu z8_89 z10_89 = some ru → SW G 3 c_Mk_leastByWay R_Mk 11 (some .long) (some (.long ru.1), ru.2) M_19 89 [some (.ref 18), some (.ref p0), some (.int p1), some (.int xu2), some (.int z4_19), none, some (.int xu9), some (.int xu11), some (.long z8_89), none, some (.int z10_89)] []
  | 0, _, _, hf => by cases hf
  | nu + 1, z8_89, z10_89, hf => by
    have ih := l_Mk_leastByWay_89 (G := G) (ru := ru) Nu p0 z4_19 M_19 xu9 xu11 ju12 p1 xu2 h_p0 Kju12 nu
    rw [L_Mk_leastByWay_89] at hf
    refine r_iload d_Mk_leastByWay_89 rfl ?_
    refine r_aload_n 0 d_Mk_leastByWay_91 rfl rfl ?_
    refine r_getI d_Mk_leastByWay_92 fl_Mk_21 sh_18 (by decide) ?_
    refine r_icmp_ge 142 d_Mk_leastByWay_95 (by decide) (fun qu17 => ?_) (fun qu17 => ?_)
    · replace hf := ip qu17 hf
      refine r_weak [6, 7, 10] (lv' := [some (.ref 18), some (.ref p0), some (.int p1), some (.int xu2), some (.int z4_19), none, none, none, some (.long z8_89), none, none]) rfl ?_
      exact Kju12 z8_89  hf
    · replace hf := im qu17 hf
      refine r_iload d_Mk_leastByWay_98 rfl ?_
      refine r_iload d_Mk_leastByWay_100 rfl ?_
      refine r_ishr d_Mk_leastByWay_102 ?_
      refine r_iconst (v := 1) d_Mk_leastByWay_103 (by decide) ?_
      refine r_iand d_Mk_leastByWay_104 ?_
      refine r_iconst (v := 1) d_Mk_leastByWay_105 (by decide) ?_
      obtain ⟨ju18, hju18, hf⟩ := lt_ex hf
      have Kju18 : ∀ (xu19 : Int64), ju18 xu19 = some ru → SW G 3 c_Mk_leastByWay R_Mk 11 (some .long) (some (.long ru.1), ru.2) M_19 136 [some (.ref 18), some (.ref p0), some (.int p1), some (.int xu2), some (.int z4_19), none, some (.int xu9), some (.int xu11), some (.long xu19), none, some (.int z10_89)] [] := by
        intro xu19 hf
        rw [hju18] at hf
        obtain ⟨xu20, hxu20⟩ : ∃ y : Int32, y = z10_89 + 1 := ⟨_, rfl⟩
        replace hf := lt_of hxu20 hf
        refine r_iinc (lv' := [some (.ref 18), some (.ref p0), some (.int p1), some (.int xu2), some (.int z4_19), none, some (.int xu9), some (.int xu11), some (.long xu19), none, some (.int xu20)]) d_Mk_leastByWay_136 rfl (by rw [hxu20]; rfl) (by decide) rfl ?_
        refine r_goto 89 d_Mk_leastByWay_139 (by decide) ?_
        exact ih xu19 xu20  hf
      refine r_icmp_ne 136 d_Mk_leastByWay_106 (by decide) (fun qu21 => ?_) (fun qu21 => ?_)
      · replace hf := im qu21 hf
        exact Kju18 z8_89  hf
      · replace hf := ip qu21 hf
        refine r_lload d_Mk_leastByWay_109 rfl ?_
        refine r_aload_n 0 d_Mk_leastByWay_111 rfl rfl ?_
        refine r_aload_n 1 d_Mk_leastByWay_112 rfl rfl ?_
        refine r_iload d_Mk_leastByWay_113 rfl ?_
        refine r_iload d_Mk_leastByWay_115 rfl ?_
        refine r_iconst (v := 1) d_Mk_leastByWay_117 (by decide) ?_
        refine r_iload d_Mk_leastByWay_118 rfl ?_
        refine r_ishl d_Mk_leastByWay_120 ?_
        refine r_iconst (v := (-1)) d_Mk_leastByWay_121 (by decide) ?_
        refine r_ixor d_Mk_leastByWay_122 ?_
        refine r_iand d_Mk_leastByWay_123 ?_
        refine r_iload d_Mk_leastByWay_124 rfl ?_
        refine r_iload d_Mk_leastByWay_126 rfl ?_
        obtain ⟨vu22, evu22, hf⟩ := bnd hf
        refine r_callV [.ref p0, .int z10_89, .int (z4_19 &&& (((1 : Int32) <<< (z10_89 &&& 31)) ^^^ (-1))), .int xu11, .int xu9] d_Mk_leastByWay_128 lk_Mk_56 sh_18 (cm_Mk_withNext h_p0 evu22) (by decide) rfl rfl (Nat.le_of_ble_eq_true rfl) ?_
        refine r_callS [.long z8_89, .long vu22] d_Mk_leastByWay_131 lk_Mk_60 (cm_Ma_min_JJ z8_89 vu22 M_19) (by decide) rfl rfl (Nat.le_of_ble_eq_true rfl) ?_
        refine nmL (fun xu23 hxu23 => ?_)
        replace hf := lt_of hxu23 hf
        refine r_lstore (lv' := [some (.ref 18), some (.ref p0), some (.int p1), some (.int xu2), some (.int z4_19), none, some (.int xu9), some (.int xu11), some (.long xu23), none, some (.int z10_89)]) d_Mk_leastByWay_134 (by decide) rfl ?_
        exact Kju18 xu23  hf
theorem l_Mk_leastByWay_19 {G : GT} {ru : Int64 × Mm} (Nu : Nat) (p0 : Nat) (p1 : Int32) (xu2 : Int32) (ju3 : Mm → Option (Int64 × Mm)) (h_p0 : sh p0 = (5, 0)) (Kju3 : ∀ (Mw : Mm), ju3 Mw = some ru → SW G 3 c_Mk_leastByWay R_Mk 11 (some .long) (some (.long ru.1), ru.2) Mw 157 [some (.ref 18), none, none, some (.int xu2), none, none, none, none, none, none, none] [])  : ∀ (nu : Nat) (z4_19 : Int32) (M_19 : Mm), L_Mk_leastByWay_19 Nu p0 p1 xu2 ju3 nu z4_19 M_19 = some ru → SW G 3 c_Mk_leastByWay R_Mk 11 (some .long) (some (.long ru.1), ru.2) M_19 19 [some (.ref 18), some (.ref p0), some (.int p1), some (.int xu2), some (.int z4_19), none, none, none, none, none, none] []
  | 0, _, _, hf => by cases hf
  | nu + 1, z4_19, M_19, hf => by
    have ih := l_Mk_leastByWay_19 (G := G) (ru := ru) Nu p0 p1 xu2 ju3 h_p0 Kju3 nu
    rw [L_Mk_leastByWay_19] at hf
    refine r_iload d_Mk_leastByWay_19 rfl ?_
    refine r_iload_n 3 d_Mk_leastByWay_21 rfl rfl ?_
    refine r_icmp_gt 157 d_Mk_leastByWay_22 (by decide) (fun qu6 => ?_) (fun qu6 => ?_)
    · replace hf := ip qu6 hf
      refine r_weak [1, 2, 4] (lv' := [some (.ref 18), none, none, some (.int xu2), none, none, none, none, none, none, none]) rfl ?_
      exact Kju3 M_19  hf
    · replace hf := im qu6 hf
      refine r_aload_n 0 d_Mk_leastByWay_25 rfl rfl ?_
      refine r_getI d_Mk_leastByWay_26 fl_Mk_21 sh_18 (by decide) ?_
      refine r_iload d_Mk_leastByWay_29 rfl ?_
      refine r_callS [.int z4_19] d_Mk_leastByWay_31 lk_Mk_51 (cm_In_bitCount z4_19 M_19) (by decide) rfl rfl (Nat.le_of_ble_eq_true rfl) ?_
      refine r_isub d_Mk_leastByWay_34 ?_
      refine nmI (fun xu7 hxu7 => ?_)
      replace hf := lt_of hxu7 hf
      refine r_istore (lv' := [some (.ref 18), some (.ref p0), some (.int p1), some (.int xu2), some (.int z4_19), some (.int xu7), none, none, none, none, none]) d_Mk_leastByWay_35 (by decide) rfl ?_
      refine r_iload d_Mk_leastByWay_37 rfl ?_
      refine r_iconst (v := 2) d_Mk_leastByWay_39 (by decide) ?_
      refine r_irem d_Mk_leastByWay_40 (by decide) ?_
      obtain ⟨ju8, hju8, hf⟩ := lt_ex hf
      have Kju8 : ∀ (xu9 : Int32), ju8 xu9 = some ru → SW G 3 c_Mk_leastByWay R_Mk 11 (some .long) (some (.long ru.1), ru.2) M_19 62 [some (.ref 18), some (.ref p0), some (.int p1), some (.int xu2), some (.int z4_19), some (.int xu7), none, none, none, none, none] [.int xu9] := by
        intro xu9 hf
        rw [hju8] at hf
        refine r_istore (lv' := [some (.ref 18), some (.ref p0), some (.int p1), some (.int xu2), some (.int z4_19), some (.int xu7), some (.int xu9), none, none, none, none]) d_Mk_leastByWay_62 (by decide) rfl ?_
        refine r_iload d_Mk_leastByWay_64 rfl ?_
        refine r_iload_n 2 d_Mk_leastByWay_66 rfl rfl ?_
        refine r_iadd d_Mk_leastByWay_67 ?_
        refine r_iconst (v := 2) d_Mk_leastByWay_68 (by decide) ?_
        refine r_irem d_Mk_leastByWay_69 (by decide) ?_
        refine r_iconst (v := 1) d_Mk_leastByWay_70 (by decide) ?_
        obtain ⟨ju10, hju10, hf⟩ := lt_ex hf
        have Kju10 : ∀ (xu11 : Int32), ju10 xu11 = some ru → SW G 3 c_Mk_leastByWay R_Mk 11 (some .long) (some (.long ru.1), ru.2) M_19 79 [some (.ref 18), some (.ref p0), some (.int p1), some (.int xu2), some (.int z4_19), none, some (.int xu9), none, none, none, none] [.int xu11] := by
          intro xu11 hf
          rw [hju10] at hf
          refine r_istore (lv' := [some (.ref 18), some (.ref p0), some (.int p1), some (.int xu2), some (.int z4_19), none, some (.int xu9), some (.int xu11), none, none, none]) d_Mk_leastByWay_79 (by decide) rfl ?_
          refine r_ldc2_w d_Mk_leastByWay_81 k_Mk_29 ?_
          refine r_lstore (lv' := [some (.ref 18), some (.ref p0), some (.int p1), some (.int xu2), some (.int z4_19), none, some (.int xu9), some (.int xu11), some (.long 4611686018427387904), none, none]) d_Mk_leastByWay_84 (by decide) rfl ?_
          refine r_iconst (v := 0) d_Mk_leastByWay_86 (by decide) ?_
          refine r_istore (lv' := [some (.ref 18), some (.ref p0), some (.int p1), some (.int xu2), some (.int z4_19), none, some (.int xu9), some (.int xu11), some (.long 4611686018427387904), none, some (.int 0)]) d_Mk_leastByWay_87 (by decide) rfl ?_
          obtain ⟨ju12, hju12, hf⟩ := lt_ex hf
          have Kju12 : ∀ (xu13 : Int64), ju12 xu13 = some ru → SW G 3 c_Mk_leastByWay R_Mk 11 (some .long) (some (.long ru.1), ru.2) M_19 142 [some (.ref 18), some (.ref p0), some (.int p1), some (.int xu2), some (.int z4_19), none, none, none, some (.long xu13), none, none] [] := by
            intro xu13 hf
            rw [hju12] at hf
            refine r_aload_n 0 d_Mk_leastByWay_142 rfl rfl ?_
            refine r_getR 19 d_Mk_leastByWay_143 fl_Mk_11 sh_18 rfl rf_18_0 ?_
            refine r_iload d_Mk_leastByWay_146 rfl ?_
            refine r_lload d_Mk_leastByWay_148 rfl ?_
            obtain ⟨qu14, hf⟩ := ck hf
            refine r_last d_Mk_leastByWay_150 sh_19 qu14 ?_
            refine nmM (fun Mu15 hMu15 => ?_)
            replace hf := lt_of hMu15 hf
            obtain ⟨xu16, hxu16⟩ : ∃ y : Int32, y = z4_19 + 1 := ⟨_, rfl⟩
            replace hf := lt_of hxu16 hf
            refine r_iinc (lv' := [some (.ref 18), some (.ref p0), some (.int p1), some (.int xu2), some (.int xu16), none, none, none, some (.long xu13), none, none]) d_Mk_leastByWay_151 rfl (by rw [hxu16]; rfl) (by decide) rfl ?_
            refine r_goto 19 d_Mk_leastByWay_154 (by decide) ?_
            refine r_weak [8] (lv' := [some (.ref 18), some (.ref p0), some (.int p1), some (.int xu2), some (.int xu16), none, none, none, none, none, none]) rfl ?_
            exact ih xu16 Mu15  hf
          exact l_Mk_leastByWay_89 (G := G) (ru := ru) Nu p0 z4_19 M_19 xu9 xu11 ju12 p1 xu2 h_p0 Kju12 Nu 4611686018427387904 0 hf
        refine r_icmp_ne 78 d_Mk_leastByWay_71 (by decide) (fun qu24 => ?_) (fun qu24 => ?_)
        · replace hf := im qu24 hf
          refine r_iconst (v := 0) d_Mk_leastByWay_78 (by decide) ?_
          refine r_weak [5] (lv' := [some (.ref 18), some (.ref p0), some (.int p1), some (.int xu2), some (.int z4_19), none, some (.int xu9), none, none, none, none]) rfl ?_
          exact Kju10 0  hf
        · replace hf := ip qu24 hf
          refine r_iconst (v := 1) d_Mk_leastByWay_74 (by decide) ?_
          refine r_goto 79 d_Mk_leastByWay_75 (by decide) ?_
          refine r_weak [5] (lv' := [some (.ref 18), some (.ref p0), some (.int p1), some (.int xu2), some (.int z4_19), none, some (.int xu9), none, none, none, none]) rfl ?_
          exact Kju10 1  hf
      refine r_if_ne 51 d_Mk_leastByWay_41 (by decide) (fun qu25 => ?_) (fun qu25 => ?_)
      · replace hf := im qu25 hf
        refine r_aload_n 0 d_Mk_leastByWay_51 rfl rfl ?_
        refine r_getI d_Mk_leastByWay_52 fl_Mk_21 sh_18 (by decide) ?_
        refine r_iconst (v := 1) d_Mk_leastByWay_55 (by decide) ?_
        refine r_isub d_Mk_leastByWay_56 ?_
        refine r_iload d_Mk_leastByWay_57 rfl ?_
        refine r_iconst (v := 2) d_Mk_leastByWay_59 (by decide) ?_
        refine r_idiv d_Mk_leastByWay_60 (by decide) ?_
        refine r_isub d_Mk_leastByWay_61 ?_
        exact Kju8 (((M_19.1 18 1) - 1) - (xu7 / 2))  hf
      · replace hf := ip qu25 hf
        refine r_iload d_Mk_leastByWay_44 rfl ?_
        refine r_iconst (v := 2) d_Mk_leastByWay_46 (by decide) ?_
        refine r_idiv d_Mk_leastByWay_47 (by decide) ?_
        refine r_goto 62 d_Mk_leastByWay_48 (by decide) ?_
        exact Kju8 (xu7 / 2)  hf
theorem cm_Mk_leastByWay {G : GT} {Nu : Nat} {p0 : Nat} {p1 : Int32} {Mu : Mm}  {ru : Int64 × Mm} (h_p0 : sh p0 = (5, 0)) (hf : f_Mk_leastByWay Nu p0 p1 Mu = some ru) : CM G 3 y_Mk_leastByWay c_Mk_leastByWay 11 (some .long) (some (.long ru.1), ru.2) Mu [.ref 18, .ref p0, .int p1] := by
  unfold f_Mk_leastByWay at hf
  refine CM.of (own := R_Mk) (lv := [some (.ref 18), some (.ref p0), some (.int p1), none, none, none, none, none, none, none, none]) (by decide) rfl (Nat.le_of_ble_eq_true rfl) rfl ?_
  refine r_aload_n 0 d_Mk_leastByWay_0 rfl rfl ?_
  refine r_getR 19 d_Mk_leastByWay_1 fl_Mk_11 sh_18 rfl rf_18_0 ?_
  refine r_iconst (v := 0) d_Mk_leastByWay_4 (by decide) ?_
  refine r_lconst (v := 0) d_Mk_leastByWay_5 (by decide) ?_
  refine r_last d_Mk_leastByWay_6 sh_19 (inb_iff.mp (by decide)) ?_
  refine nmM (fun Mu1 hMu1 => ?_)
  replace hf := lt_of hMu1 hf
  refine r_iconst (v := 1) d_Mk_leastByWay_7 (by decide) ?_
  refine r_aload_n 0 d_Mk_leastByWay_8 rfl rfl ?_
  refine r_getI d_Mk_leastByWay_9 fl_Mk_21 sh_18 (by decide) ?_
  refine r_ishl d_Mk_leastByWay_12 ?_
  refine r_iconst (v := 1) d_Mk_leastByWay_13 (by decide) ?_
  refine r_isub d_Mk_leastByWay_14 ?_
  refine nmI (fun xu2 hxu2 => ?_)
  replace hf := lt_of hxu2 hf
  refine r_istore_n (lv' := [some (.ref 18), some (.ref p0), some (.int p1), some (.int xu2), none, none, none, none, none, none, none]) 3 d_Mk_leastByWay_15 rfl (by decide) rfl ?_
  refine r_iconst (v := 1) d_Mk_leastByWay_16 (by decide) ?_
  refine r_istore (lv' := [some (.ref 18), some (.ref p0), some (.int p1), some (.int xu2), some (.int 1), none, none, none, none, none, none]) d_Mk_leastByWay_17 (by decide) rfl ?_
  obtain ⟨ju3, hju3, hf⟩ := lt_ex hf
  have Kju3 : ∀ (Mu4 : Mm), ju3 Mu4 = some ru → SW G 3 c_Mk_leastByWay R_Mk 11 (some .long) (some (.long ru.1), ru.2) Mu4 157 [some (.ref 18), none, none, some (.int xu2), none, none, none, none, none, none, none] [] := by
    intro Mu4 hf
    rw [hju3] at hf
    refine r_aload_n 0 d_Mk_leastByWay_157 rfl rfl ?_
    refine r_getR 19 d_Mk_leastByWay_158 fl_Mk_11 sh_18 rfl rf_18_0 ?_
    refine r_iload_n 3 d_Mk_leastByWay_161 rfl rfl ?_
    obtain ⟨qu5, hf⟩ := ck hf
    refine r_lald d_Mk_leastByWay_162 sh_19 qu5 ?_
    obtain rfl := Option.some.inj hf
    exact r_lreturn d_Mk_leastByWay_163 rfl rfl
  exact l_Mk_leastByWay_19 (G := G) (ru := ru) Nu p0 p1 xu2 ju3 h_p0 Kju3 Nu 1 Mu1 hf
def f_Mk_solve (Nu : Nat) (p0 : Nat) (Mu : Mm) : Option (Mm) := lt (si Mu 18 1 (Mu.1 p0 0)) fun Mu1 => (f_Mk_leastByWay Nu p0 0 Mu1).bind fun vu2 => lt vu2.1 fun vu3 => lt vu2.2 fun Mu4 => (f_Mk_leastByWay Nu p0 1 Mu4).bind fun vu5 => lt vu5.1 fun vu6 => lt vu5.2 fun Mu7 => lt (fun (xu9 : Int32) => lt (si Mu7 18 3 xu9) fun Mu10 => lt (fun (xu12 : Int64) => lt (fun (xu14 : Int32) => lt (si Mu10 18 2 xu14) fun Mu15 => lt (sl Mu15 18 4 (xu12 &&& 16777215)) fun Mu16 => some Mu16) fun ju13 => if (lg_cmp xu12 4611686018427387904) = 0 then ju13 (-1) else ju13 ((xu12 >>> (((24 : Int32)).toInt64 &&& 63)).toInt32)) fun ju11 => if (Mu10.1 18 3) = 0 then ju11 vu3 else ju11 vu6) fun ju8 => if 0 ≤ (lg_cmp (vu6 >>> (((24 : Int32)).toInt64 &&& 63)) (vu3 >>> (((24 : Int32)).toInt64 &&& 63))) then ju8 0 else ju8 1
theorem cm_Mk_solve {G : GT} {Nu : Nat} {p0 : Nat} {Mu : Mm}  {ru : Mm} (h_p0 : sh p0 = (5, 0)) (hf : f_Mk_solve Nu p0 Mu = some ru) : CM G 4 y_Mk_solve c_Mk_solve 8 none (none, ru) Mu [.ref 18, .ref p0] := by
  unfold f_Mk_solve at hf
  refine CM.of (own := R_Mk) (lv := [some (.ref 18), some (.ref p0), none, none, none, none, none, none]) (by decide) rfl (Nat.le_of_ble_eq_true rfl) rfl ?_
  refine r_aload_n 0 d_Mk_solve_0 rfl rfl ?_
  refine r_aload_n 1 d_Mk_solve_1 rfl rfl ?_
  refine r_getI d_Mk_solve_2 fl_Mk_15 h_p0 (by decide) ?_
  refine r_putI d_Mk_solve_5 fl_Mk_21 sh_18 (Or.inl rfl) rfl ?_
  refine nmM (fun Mu1 hMu1 => ?_)
  replace hf := lt_of hMu1 hf
  refine r_aload_n 0 d_Mk_solve_8 rfl rfl ?_
  refine r_aload_n 1 d_Mk_solve_9 rfl rfl ?_
  refine r_iconst (v := 0) d_Mk_solve_10 (by decide) ?_
  obtain ⟨vu2, evu2, hf⟩ := bnd hf
  obtain ⟨vu3, Mu4⟩ := vu2
  replace hf := lt_of (rfl : vu3 = (vu3, Mu4).1) hf
  replace hf := lt_of (rfl : Mu4 = (vu3, Mu4).2) hf
  refine r_callV [.ref p0, .int 0] d_Mk_solve_11 lk_Mk_22 sh_18 (cm_Mk_leastByWay h_p0 evu2) (by decide) rfl rfl (Nat.le_of_ble_eq_true rfl) ?_
  refine r_lstore_n (lv' := [some (.ref 18), some (.ref p0), some (.long vu3), none, none, none, none, none]) 2 d_Mk_solve_14 rfl (by decide) rfl ?_
  refine r_aload_n 0 d_Mk_solve_15 rfl rfl ?_
  refine r_aload_n 1 d_Mk_solve_16 rfl rfl ?_
  refine r_iconst (v := 1) d_Mk_solve_17 (by decide) ?_
  obtain ⟨vu5, evu5, hf⟩ := bnd hf
  obtain ⟨vu6, Mu7⟩ := vu5
  replace hf := lt_of (rfl : vu6 = (vu6, Mu7).1) hf
  replace hf := lt_of (rfl : Mu7 = (vu6, Mu7).2) hf
  refine r_callV [.ref p0, .int 1] d_Mk_solve_18 lk_Mk_22 sh_18 (cm_Mk_leastByWay h_p0 evu5) (by decide) rfl rfl (Nat.le_of_ble_eq_true rfl) ?_
  refine r_lstore (lv' := [some (.ref 18), some (.ref p0), some (.long vu3), none, some (.long vu6), none, none, none]) d_Mk_solve_21 (by decide) rfl ?_
  refine r_aload_n 0 d_Mk_solve_23 rfl rfl ?_
  refine r_lload d_Mk_solve_24 rfl ?_
  refine r_bipush (v := 24) d_Mk_solve_26 (by decide) ?_
  refine r_lshr d_Mk_solve_28 ?_
  refine r_lload_n 2 d_Mk_solve_29 rfl rfl ?_
  refine r_bipush (v := 24) d_Mk_solve_30 (by decide) ?_
  refine r_lshr d_Mk_solve_32 ?_
  refine r_lcmp d_Mk_solve_33 ?_
  obtain ⟨ju8, hju8, hf⟩ := lt_ex hf
  have Kju8 : ∀ (xu9 : Int32), ju8 xu9 = some ru → SW G 4 c_Mk_solve R_Mk 8 none (none, ru) Mu7 42 [some (.ref 18), none, some (.long vu3), none, some (.long vu6), none, none, none] [.int xu9, .ref 18] := by
    intro xu9 hf
    rw [hju8] at hf
    refine r_putI d_Mk_solve_42 fl_Mk_26 sh_18 (Or.inl rfl) rfl ?_
    refine nmM (fun Mu10 hMu10 => ?_)
    replace hf := lt_of hMu10 hf
    refine r_aload_n 0 d_Mk_solve_45 rfl rfl ?_
    refine r_getI d_Mk_solve_46 fl_Mk_26 sh_18 (by decide) ?_
    obtain ⟨ju11, hju11, hf⟩ := lt_ex hf
    have Kju11 : ∀ (xu12 : Int64), ju11 xu12 = some ru → SW G 4 c_Mk_solve R_Mk 8 none (none, ru) Mu10 58 [some (.ref 18), none, none, none, none, none, none, none] [.long xu12] := by
      intro xu12 hf
      rw [hju11] at hf
      refine r_lstore (lv' := [some (.ref 18), none, none, none, none, none, some (.long xu12), none]) d_Mk_solve_58 (by decide) rfl ?_
      refine r_aload_n 0 d_Mk_solve_60 rfl rfl ?_
      refine r_lload d_Mk_solve_61 rfl ?_
      refine r_ldc2_w d_Mk_solve_63 k_Mk_29 ?_
      refine r_lcmp d_Mk_solve_66 ?_
      obtain ⟨ju13, hju13, hf⟩ := lt_ex hf
      have Kju13 : ∀ (xu14 : Int32), ju13 xu14 = some ru → SW G 4 c_Mk_solve R_Mk 8 none (none, ru) Mu10 80 [some (.ref 18), none, none, none, none, none, some (.long xu12), none] [.int xu14, .ref 18] := by
        intro xu14 hf
        rw [hju13] at hf
        refine r_putI d_Mk_solve_80 fl_Mk_31 sh_18 (Or.inl rfl) rfl ?_
        refine nmM (fun Mu15 hMu15 => ?_)
        replace hf := lt_of hMu15 hf
        refine r_aload_n 0 d_Mk_solve_83 rfl rfl ?_
        refine r_lload d_Mk_solve_84 rfl ?_
        refine r_ldc2_w d_Mk_solve_86 k_Mk_34 ?_
        refine r_land d_Mk_solve_89 ?_
        refine r_putL d_Mk_solve_90 fl_Mk_36 sh_18 rfl rfl ?_
        refine nmM (fun Mu16 hMu16 => ?_)
        replace hf := lt_of hMu16 hf
        obtain rfl := Option.some.inj hf
        exact r_return d_Mk_solve_93 rfl rfl
      refine r_if_ne 74 d_Mk_solve_67 (by decide) (fun qu17 => ?_) (fun qu17 => ?_)
      · replace hf := im qu17 hf
        refine r_lload d_Mk_solve_74 rfl ?_
        refine r_bipush (v := 24) d_Mk_solve_76 (by decide) ?_
        refine r_lshr d_Mk_solve_78 ?_
        refine r_l2i d_Mk_solve_79 ?_
        exact Kju13 ((xu12 >>> (((24 : Int32)).toInt64 &&& 63)).toInt32)  hf
      · replace hf := ip qu17 hf
        refine r_iconst (v := (-1)) d_Mk_solve_70 (by decide) ?_
        refine r_goto 80 d_Mk_solve_71 (by decide) ?_
        exact Kju13 (-1)  hf
    refine r_if_ne 56 d_Mk_solve_49 (by decide) (fun qu18 => ?_) (fun qu18 => ?_)
    · replace hf := im qu18 hf
      refine r_lload d_Mk_solve_56 rfl ?_
      refine r_weak [2, 4] (lv' := [some (.ref 18), none, none, none, none, none, none, none]) rfl ?_
      exact Kju11 vu6  hf
    · replace hf := ip qu18 hf
      refine r_lload_n 2 d_Mk_solve_52 rfl rfl ?_
      refine r_goto 58 d_Mk_solve_53 (by decide) ?_
      refine r_weak [2, 4] (lv' := [some (.ref 18), none, none, none, none, none, none, none]) rfl ?_
      exact Kju11 vu3  hf
  refine r_if_ge 41 d_Mk_solve_34 (by decide) (fun qu19 => ?_) (fun qu19 => ?_)
  · replace hf := ip qu19 hf
    refine r_iconst (v := 0) d_Mk_solve_41 (by decide) ?_
    refine r_weak [1] (lv' := [some (.ref 18), none, some (.long vu3), none, some (.long vu6), none, none, none]) rfl ?_
    exact Kju8 0  hf
  · replace hf := im qu19 hf
    refine r_iconst (v := 1) d_Mk_solve_37 (by decide) ?_
    refine r_goto 42 d_Mk_solve_38 (by decide) ?_
    refine r_weak [1] (lv' := [some (.ref 18), none, some (.long vu3), none, some (.long vu6), none, none, none]) rfl ?_
    exact Kju8 1  hf
def f_Mk_placeOf (p0 : Int32) (Mu : Mm) : Int32 := (((Mu.2 18 4) >>> ((f_Mk_shiftOf p0).toInt64 &&& 63)).toInt32) &&& 7
theorem cm_Mk_placeOf {G : GT} (p0 : Int32) (Mu : Mm)   : CM G 2 y_Mk_placeOf c_Mk_placeOf 2 (some .int) (some (.int (f_Mk_placeOf p0 Mu)), Mu) Mu [.ref 18, .int p0] := by
  generalize hf : f_Mk_placeOf p0 Mu = ru
  unfold f_Mk_placeOf at hf
  refine CM.of (own := R_Mk) (lv := [some (.ref 18), some (.int p0)]) (by decide) rfl (Nat.le_of_ble_eq_true rfl) rfl ?_
  refine r_aload_n 0 d_Mk_placeOf_0 rfl rfl ?_
  refine r_getL d_Mk_placeOf_1 fl_Mk_36 sh_18 rfl ?_
  refine r_iload_n 1 d_Mk_placeOf_4 rfl rfl ?_
  refine r_callS [.int p0] d_Mk_placeOf_5 lk_Mk_40 (cm_Mk_shiftOf p0 Mu) (by decide) rfl rfl (Nat.le_of_ble_eq_true rfl) ?_
  refine r_lshr d_Mk_placeOf_8 ?_
  refine r_l2i d_Mk_placeOf_9 ?_
  refine r_bipush (v := 7) d_Mk_placeOf_10 (by decide) ?_
  refine r_iand d_Mk_placeOf_12 ?_
  subst hf
  exact r_ireturn d_Mk_placeOf_13 rfl rfl
def L_Mk_townMade_19 (Nu : Nat) (Mu : Mm) (z3_6 : Int32) (ju3 : Int32 → Int32 → Option (Int32)) : Nat → Int32 → Int32 → Int32 → Option (Int32)
  | 0, _, _, _ => none
  | nu + 1, z1_19, z2_19, z4_19 => if (Mu.1 18 1) ≤ z4_19 then ju3 z1_19 z2_19 else lt (fun (xu9 : Int32) => lt (z2_19 <<< (1 &&& 31)) fun xu10 => lt (z4_19 + 1) fun xu11 => L_Mk_townMade_19 Nu Mu z3_6 ju3 nu xu9 xu10 xu11) fun ju8 => if (f_Uc_placesTied (Mu.1 18 1) (Mu.1 18 3) (f_Mk_placeOf z3_6 Mu) (f_Mk_placeOf z4_19 Mu)) = 0 then ju8 z1_19 else lt (z1_19 ||| z2_19) fun xu13 => ju8 xu13
def L_Mk_townMade_6 (Nu : Nat) (Mu : Mm) : Nat → Int32 → Int32 → Int32 → Option (Int32)
  | 0, _, _, _ => none
  | nu + 1, z1_6, z2_6, z3_6 => if (Mu.1 18 1) ≤ z3_6 then some z1_6 else lt (z3_6 + 1) fun xu2 => lt (fun (xu4 : Int32) (xu5 : Int32) => lt (z3_6 + 1) fun xu6 => L_Mk_townMade_6 Nu Mu nu xu4 xu5 xu6) fun ju3 => L_Mk_townMade_19 Nu Mu z3_6 ju3 Nu z1_6 z2_6 xu2
def f_Mk_townMade (Nu : Nat) (Mu : Mm) : Option (Int32) := L_Mk_townMade_6 Nu Mu Nu 0 1 0
theorem l_Mk_townMade_19 {G : GT} {ru : Int32} (Nu : Nat) (Mu : Mm) (z3_6 : Int32) (ju3 : Int32 → Int32 → Option (Int32))  (Kju3 : ∀ (w1 : Int32) (w2 : Int32), ju3 w1 w2 = some ru → SW G 3 c_Mk_townMade R_Mk 5 (some .int) (some (.int ru), Mu) Mu 67 [some (.ref 18), some (.int w1), some (.int w2), some (.int z3_6), none] [])  : ∀ (nu : Nat) (z1_19 : Int32) (z2_19 : Int32) (z4_19 : Int32), L_Mk_townMade_19 Nu Mu z3_6 ju3 nu z1_19 z2_19 z4_19 = some ru → SW G 3 c_Mk_townMade R_Mk 5 (some .int) (some (.int ru), Mu) Mu 19 [some (.ref 18), some (.int z1_19), some (.int z2_19), some (.int z3_6), some (.int z4_19)] []
  | 0, _, _, _, hf => by cases hf
  | nu + 1, z1_19, z2_19, z4_19, hf => by
    have ih := l_Mk_townMade_19 (G := G) (ru := ru) Nu Mu z3_6 ju3  Kju3 nu
    rw [L_Mk_townMade_19] at hf
    refine r_iload d_Mk_townMade_19 rfl ?_
    refine r_aload_n 0 d_Mk_townMade_21 rfl rfl ?_
    refine r_getI d_Mk_townMade_22 fl_Mk_21 sh_18 (by decide) ?_
    refine r_icmp_ge 67 d_Mk_townMade_25 (by decide) (fun qu7 => ?_) (fun qu7 => ?_)
    · replace hf := ip qu7 hf
      refine r_weak [4] (lv' := [some (.ref 18), some (.int z1_19), some (.int z2_19), some (.int z3_6), none]) rfl ?_
      exact Kju3 z1_19 z2_19  hf
    · replace hf := im qu7 hf
      refine r_aload_n 0 d_Mk_townMade_28 rfl rfl ?_
      refine r_getI d_Mk_townMade_29 fl_Mk_21 sh_18 (by decide) ?_
      refine r_aload_n 0 d_Mk_townMade_32 rfl rfl ?_
      refine r_getI d_Mk_townMade_33 fl_Mk_26 sh_18 (by decide) ?_
      refine r_aload_n 0 d_Mk_townMade_36 rfl rfl ?_
      refine r_iload_n 3 d_Mk_townMade_37 rfl rfl ?_
      refine r_callV [.int z3_6] d_Mk_townMade_38 lk_Mk_44 sh_18 (cm_Mk_placeOf z3_6 Mu) (by decide) rfl rfl (Nat.le_of_ble_eq_true rfl) ?_
      refine r_aload_n 0 d_Mk_townMade_41 rfl rfl ?_
      refine r_iload d_Mk_townMade_42 rfl ?_
      refine r_callV [.int z4_19] d_Mk_townMade_44 lk_Mk_44 sh_18 (cm_Mk_placeOf z4_19 Mu) (by decide) rfl rfl (Nat.le_of_ble_eq_true rfl) ?_
      refine r_callS [.int (Mu.1 18 1), .int (Mu.1 18 3), .int (f_Mk_placeOf z3_6 Mu), .int (f_Mk_placeOf z4_19 Mu)] d_Mk_townMade_47 lk_Mk_47 (cm_Uc_placesTied (Mu.1 18 1) (Mu.1 18 3) (f_Mk_placeOf z3_6 Mu) (f_Mk_placeOf z4_19 Mu) Mu) (by decide) rfl rfl (Nat.le_of_ble_eq_true rfl) ?_
      obtain ⟨ju8, hju8, hf⟩ := lt_ex hf
      have Kju8 : ∀ (xu9 : Int32), ju8 xu9 = some ru → SW G 3 c_Mk_townMade R_Mk 5 (some .int) (some (.int ru), Mu) Mu 57 [some (.ref 18), some (.int xu9), some (.int z2_19), some (.int z3_6), some (.int z4_19)] [] := by
        intro xu9 hf
        rw [hju8] at hf
        refine r_iload_n 2 d_Mk_townMade_57 rfl rfl ?_
        refine r_iconst (v := 1) d_Mk_townMade_58 (by decide) ?_
        refine r_ishl d_Mk_townMade_59 ?_
        refine nmI (fun xu10 hxu10 => ?_)
        replace hf := lt_of hxu10 hf
        refine r_istore_n (lv' := [some (.ref 18), some (.int xu9), some (.int xu10), some (.int z3_6), some (.int z4_19)]) 2 d_Mk_townMade_60 rfl (by decide) rfl ?_
        obtain ⟨xu11, hxu11⟩ : ∃ y : Int32, y = z4_19 + 1 := ⟨_, rfl⟩
        replace hf := lt_of hxu11 hf
        refine r_iinc (lv' := [some (.ref 18), some (.int xu9), some (.int xu10), some (.int z3_6), some (.int xu11)]) d_Mk_townMade_61 rfl (by rw [hxu11]; rfl) (by decide) rfl ?_
        refine r_goto 19 d_Mk_townMade_64 (by decide) ?_
        exact ih xu9 xu10 xu11  hf
      refine r_if_eq 57 d_Mk_townMade_50 (by decide) (fun qu12 => ?_) (fun qu12 => ?_)
      · replace hf := ip qu12 hf
        exact Kju8 z1_19  hf
      · replace hf := im qu12 hf
        refine r_iload_n 1 d_Mk_townMade_53 rfl rfl ?_
        refine r_iload_n 2 d_Mk_townMade_54 rfl rfl ?_
        refine r_ior d_Mk_townMade_55 ?_
        refine nmI (fun xu13 hxu13 => ?_)
        replace hf := lt_of hxu13 hf
        refine r_istore_n (lv' := [some (.ref 18), some (.int xu13), some (.int z2_19), some (.int z3_6), some (.int z4_19)]) 1 d_Mk_townMade_56 rfl (by decide) rfl ?_
        exact Kju8 xu13  hf
theorem l_Mk_townMade_6 {G : GT} {ru : Int32} (Nu : Nat) (Mu : Mm)    : ∀ (nu : Nat) (z1_6 : Int32) (z2_6 : Int32) (z3_6 : Int32), L_Mk_townMade_6 Nu Mu nu z1_6 z2_6 z3_6 = some ru → SW G 3 c_Mk_townMade R_Mk 5 (some .int) (some (.int ru), Mu) Mu 6 [some (.ref 18), some (.int z1_6), some (.int z2_6), some (.int z3_6), none] []
  | 0, _, _, _, hf => by cases hf
  | nu + 1, z1_6, z2_6, z3_6, hf => by
    have ih := l_Mk_townMade_6 (G := G) (ru := ru) Nu Mu   nu
    rw [L_Mk_townMade_6] at hf
    refine r_iload_n 3 d_Mk_townMade_6 rfl rfl ?_
    refine r_aload_n 0 d_Mk_townMade_7 rfl rfl ?_
    refine r_getI d_Mk_townMade_8 fl_Mk_21 sh_18 (by decide) ?_
    refine r_icmp_ge 73 d_Mk_townMade_11 (by decide) (fun qu1 => ?_) (fun qu1 => ?_)
    · replace hf := ip qu1 hf
      refine r_iload_n 1 d_Mk_townMade_73 rfl rfl ?_
      obtain rfl := Option.some.inj hf
      exact r_ireturn d_Mk_townMade_74 rfl rfl
    · replace hf := im qu1 hf
      refine r_iload_n 3 d_Mk_townMade_14 rfl rfl ?_
      refine r_iconst (v := 1) d_Mk_townMade_15 (by decide) ?_
      refine r_iadd d_Mk_townMade_16 ?_
      refine nmI (fun xu2 hxu2 => ?_)
      replace hf := lt_of hxu2 hf
      refine r_istore (lv' := [some (.ref 18), some (.int z1_6), some (.int z2_6), some (.int z3_6), some (.int xu2)]) d_Mk_townMade_17 (by decide) rfl ?_
      obtain ⟨ju3, hju3, hf⟩ := lt_ex hf
      have Kju3 : ∀ (xu4 : Int32) (xu5 : Int32), ju3 xu4 xu5 = some ru → SW G 3 c_Mk_townMade R_Mk 5 (some .int) (some (.int ru), Mu) Mu 67 [some (.ref 18), some (.int xu4), some (.int xu5), some (.int z3_6), none] [] := by
        intro xu4 xu5 hf
        rw [hju3] at hf
        obtain ⟨xu6, hxu6⟩ : ∃ y : Int32, y = z3_6 + 1 := ⟨_, rfl⟩
        replace hf := lt_of hxu6 hf
        refine r_iinc (lv' := [some (.ref 18), some (.int xu4), some (.int xu5), some (.int xu6), none]) d_Mk_townMade_67 rfl (by rw [hxu6]; rfl) (by decide) rfl ?_
        refine r_goto 6 d_Mk_townMade_70 (by decide) ?_
        exact ih xu4 xu5 xu6  hf
      exact l_Mk_townMade_19 (G := G) (ru := ru) Nu Mu z3_6 ju3  Kju3 Nu z1_6 z2_6 xu2 hf
theorem cm_Mk_townMade {G : GT} {Nu : Nat} {Mu : Mm}  {ru : Int32}  (hf : f_Mk_townMade Nu Mu = some ru) : CM G 3 y_Mk_townMade c_Mk_townMade 5 (some .int) (some (.int ru), Mu) Mu [.ref 18] := by
  unfold f_Mk_townMade at hf
  refine CM.of (own := R_Mk) (lv := [some (.ref 18), none, none, none, none]) (by decide) rfl (Nat.le_of_ble_eq_true rfl) rfl ?_
  refine r_iconst (v := 0) d_Mk_townMade_0 (by decide) ?_
  refine r_istore_n (lv' := [some (.ref 18), some (.int 0), none, none, none]) 1 d_Mk_townMade_1 rfl (by decide) rfl ?_
  refine r_iconst (v := 1) d_Mk_townMade_2 (by decide) ?_
  refine r_istore_n (lv' := [some (.ref 18), some (.int 0), some (.int 1), none, none]) 2 d_Mk_townMade_3 rfl (by decide) rfl ?_
  refine r_iconst (v := 0) d_Mk_townMade_4 (by decide) ?_
  refine r_istore_n (lv' := [some (.ref 18), some (.int 0), some (.int 1), some (.int 0), none]) 3 d_Mk_townMade_5 rfl (by decide) rfl ?_
  exact l_Mk_townMade_6 (G := G) (ru := ru) Nu Mu   Nu 0 1 0 hf
def L_Se_layOutPairs_46 (Nu : Nat) (z2_27 : Int32) (ju12 : Int32 → Mm → Option (Mm)) : Nat → Int32 → Int32 → Mm → Option (Mm)
  | 0, _, _, _ => none
  | nu + 1, z1_46, z3_46, M_46 => if (M_46.1 20 3) ≤ z3_46 then ju12 z1_46 M_46 else if inb z2_27 6 = true then if inb z2_27 6 = true then lt (si M_46 21 (Int32.toNatClampNeg z2_27) ((M_46.1 21 (Int32.toNatClampNeg z2_27)) ||| ((1 : Int32) <<< (z1_46 &&& 31)))) fun Mu19 => if inb z3_46 6 = true then if inb z3_46 6 = true then lt (si Mu19 21 (Int32.toNatClampNeg z3_46) ((Mu19.1 21 (Int32.toNatClampNeg z3_46)) ||| ((1 : Int32) <<< (z1_46 &&& 31)))) fun Mu22 => lt (z1_46 + 1) fun xu23 => lt (z3_46 + 1) fun xu24 => L_Se_layOutPairs_46 Nu z2_27 ju12 nu xu23 xu24 Mu22 else none else none else none else none
def L_Se_layOutPairs_27 (Nu : Nat) (ju3 : Int32 → Mm → Option (Mm)) : Nat → Int32 → Int32 → Mm → Option (Mm)
  | 0, _, _, _ => none
  | nu + 1, z1_27, z2_27, M_27 => if (M_27.1 20 3) ≤ z2_27 then ju3 z1_27 M_27 else if inb z2_27 7 = true then lt (si M_27 22 (Int32.toNatClampNeg z2_27) z1_27) fun Mu10 => lt (z2_27 + 1) fun xu11 => lt (fun (xu13 : Int32) (Mu14 : Mm) => lt (z2_27 + 1) fun xu15 => L_Se_layOutPairs_27 Nu ju3 nu xu13 xu15 Mu14) fun ju12 => L_Se_layOutPairs_46 Nu z2_27 ju12 Nu z1_27 xu11 Mu10 else none
def L_Se_layOutPairs_2 (Nu : Nat) (ju1 : Mm → Option (Mm)) : Nat → Int32 → Mm → Option (Mm)
  | 0, _, _ => none
  | nu + 1, z1_2, M_2 => if (M_2.1 20 3) ≤ z1_2 then ju1 M_2 else if inb z1_2 6 = true then lt (si M_2 21 (Int32.toNatClampNeg z1_2) 0) fun Mu27 => lt (z1_2 + 1) fun xu28 => L_Se_layOutPairs_2 Nu ju1 nu xu28 Mu27 else none
def f_Se_layOutPairs (Nu : Nat) (Mu : Mm) : Option (Mm) := lt (fun (Mu2 : Mm) => lt (fun (xu4 : Int32) (Mu5 : Mm) => if inb (Mu5.1 20 3) 7 = true then lt (si Mu5 22 (Int32.toNatClampNeg (Mu5.1 20 3)) xu4) fun Mu7 => some Mu7 else none) fun ju3 => L_Se_layOutPairs_27 Nu ju3 Nu 0 0 Mu2) fun ju1 => L_Se_layOutPairs_2 Nu ju1 Nu 0 Mu
theorem l_Se_layOutPairs_46 {G : GT} {ru : Mm} (Nu : Nat) (z2_27 : Int32) (ju12 : Int32 → Mm → Option (Mm))  (Kju12 : ∀ (w1 : Int32) (Mw : Mm), ju12 w1 Mw = some ru → SW G 1 c_Se_layOutPairs R_Se 4 none (none, ru) Mw 87 [some (.ref 20), some (.int w1), some (.int z2_27), none] [])  : ∀ (nu : Nat) (z1_46 : Int32) (z3_46 : Int32) (M_46 : Mm), L_Se_layOutPairs_46 Nu z2_27 ju12 nu z1_46 z3_46 M_46 = some ru → SW G 1 c_Se_layOutPairs R_Se 4 none (none, ru) M_46 46 [some (.ref 20), some (.int z1_46), some (.int z2_27), some (.int z3_46)] []
  | 0, _, _, _, hf => by cases hf
  | nu + 1, z1_46, z3_46, M_46, hf => by
    have ih := l_Se_layOutPairs_46 (G := G) (ru := ru) Nu z2_27 ju12  Kju12 nu
    rw [L_Se_layOutPairs_46] at hf
    refine r_iload_n 3 d_Se_layOutPairs_46 rfl rfl ?_
    refine r_aload_n 0 d_Se_layOutPairs_47 rfl rfl ?_
    refine r_getI d_Se_layOutPairs_48 fl_Se_57 sh_20 (by decide) ?_
    refine r_icmp_ge 87 d_Se_layOutPairs_51 (by decide) (fun qu16 => ?_) (fun qu16 => ?_)
    · replace hf := ip qu16 hf
      refine r_weak [3] (lv' := [some (.ref 20), some (.int z1_46), some (.int z2_27), none]) rfl ?_
      exact Kju12 z1_46 M_46  hf
    · replace hf := im qu16 hf
      refine r_aload_n 0 d_Se_layOutPairs_54 rfl rfl ?_
      refine r_getR 21 d_Se_layOutPairs_55 fl_Se_9 sh_20 rfl rf_20_0 ?_
      refine r_iload_n 2 d_Se_layOutPairs_58 rfl rfl ?_
      refine r_dup2 d_Se_layOutPairs_59 rfl rfl ?_
      obtain ⟨qu17, hf⟩ := ck hf
      refine r_iald d_Se_layOutPairs_60 sh_21 qu17 ?_
      refine r_iconst (v := 1) d_Se_layOutPairs_61 (by decide) ?_
      refine r_iload_n 1 d_Se_layOutPairs_62 rfl rfl ?_
      refine r_ishl d_Se_layOutPairs_63 ?_
      refine r_ior d_Se_layOutPairs_64 ?_
      obtain ⟨qu18, hf⟩ := ck hf
      refine r_iast d_Se_layOutPairs_65 sh_21 qu18 ?_
      refine nmM (fun Mu19 hMu19 => ?_)
      replace hf := lt_of hMu19 hf
      refine r_aload_n 0 d_Se_layOutPairs_66 rfl rfl ?_
      refine r_getR 21 d_Se_layOutPairs_67 fl_Se_9 sh_20 rfl rf_20_0 ?_
      refine r_iload_n 3 d_Se_layOutPairs_70 rfl rfl ?_
      refine r_dup2 d_Se_layOutPairs_71 rfl rfl ?_
      obtain ⟨qu20, hf⟩ := ck hf
      refine r_iald d_Se_layOutPairs_72 sh_21 qu20 ?_
      refine r_iconst (v := 1) d_Se_layOutPairs_73 (by decide) ?_
      refine r_iload_n 1 d_Se_layOutPairs_74 rfl rfl ?_
      refine r_ishl d_Se_layOutPairs_75 ?_
      refine r_ior d_Se_layOutPairs_76 ?_
      obtain ⟨qu21, hf⟩ := ck hf
      refine r_iast d_Se_layOutPairs_77 sh_21 qu21 ?_
      refine nmM (fun Mu22 hMu22 => ?_)
      replace hf := lt_of hMu22 hf
      obtain ⟨xu23, hxu23⟩ : ∃ y : Int32, y = z1_46 + 1 := ⟨_, rfl⟩
      replace hf := lt_of hxu23 hf
      refine r_iinc (lv' := [some (.ref 20), some (.int xu23), some (.int z2_27), some (.int z3_46)]) d_Se_layOutPairs_78 rfl (by rw [hxu23]; rfl) (by decide) rfl ?_
      obtain ⟨xu24, hxu24⟩ : ∃ y : Int32, y = z3_46 + 1 := ⟨_, rfl⟩
      replace hf := lt_of hxu24 hf
      refine r_iinc (lv' := [some (.ref 20), some (.int xu23), some (.int z2_27), some (.int xu24)]) d_Se_layOutPairs_81 rfl (by rw [hxu24]; rfl) (by decide) rfl ?_
      refine r_goto 46 d_Se_layOutPairs_84 (by decide) ?_
      exact ih xu23 xu24 Mu22  hf
theorem l_Se_layOutPairs_27 {G : GT} {ru : Mm} (Nu : Nat) (ju3 : Int32 → Mm → Option (Mm))  (Kju3 : ∀ (w1 : Int32) (Mw : Mm), ju3 w1 Mw = some ru → SW G 1 c_Se_layOutPairs R_Se 4 none (none, ru) Mw 93 [some (.ref 20), some (.int w1), none, none] [])  : ∀ (nu : Nat) (z1_27 : Int32) (z2_27 : Int32) (M_27 : Mm), L_Se_layOutPairs_27 Nu ju3 nu z1_27 z2_27 M_27 = some ru → SW G 1 c_Se_layOutPairs R_Se 4 none (none, ru) M_27 27 [some (.ref 20), some (.int z1_27), some (.int z2_27), none] []
  | 0, _, _, _, hf => by cases hf
  | nu + 1, z1_27, z2_27, M_27, hf => by
    have ih := l_Se_layOutPairs_27 (G := G) (ru := ru) Nu ju3  Kju3 nu
    rw [L_Se_layOutPairs_27] at hf
    refine r_iload_n 2 d_Se_layOutPairs_27 rfl rfl ?_
    refine r_aload_n 0 d_Se_layOutPairs_28 rfl rfl ?_
    refine r_getI d_Se_layOutPairs_29 fl_Se_57 sh_20 (by decide) ?_
    refine r_icmp_ge 93 d_Se_layOutPairs_32 (by decide) (fun qu8 => ?_) (fun qu8 => ?_)
    · replace hf := ip qu8 hf
      refine r_weak [2] (lv' := [some (.ref 20), some (.int z1_27), none, none]) rfl ?_
      exact Kju3 z1_27 M_27  hf
    · replace hf := im qu8 hf
      refine r_aload_n 0 d_Se_layOutPairs_35 rfl rfl ?_
      refine r_getR 22 d_Se_layOutPairs_36 fl_Se_15 sh_20 rfl rf_20_1 ?_
      refine r_iload_n 2 d_Se_layOutPairs_39 rfl rfl ?_
      refine r_iload_n 1 d_Se_layOutPairs_40 rfl rfl ?_
      obtain ⟨qu9, hf⟩ := ck hf
      refine r_iast d_Se_layOutPairs_41 sh_22 qu9 ?_
      refine nmM (fun Mu10 hMu10 => ?_)
      replace hf := lt_of hMu10 hf
      refine r_iload_n 2 d_Se_layOutPairs_42 rfl rfl ?_
      refine r_iconst (v := 1) d_Se_layOutPairs_43 (by decide) ?_
      refine r_iadd d_Se_layOutPairs_44 ?_
      refine nmI (fun xu11 hxu11 => ?_)
      replace hf := lt_of hxu11 hf
      refine r_istore_n (lv' := [some (.ref 20), some (.int z1_27), some (.int z2_27), some (.int xu11)]) 3 d_Se_layOutPairs_45 rfl (by decide) rfl ?_
      obtain ⟨ju12, hju12, hf⟩ := lt_ex hf
      have Kju12 : ∀ (xu13 : Int32) (Mu14 : Mm), ju12 xu13 Mu14 = some ru → SW G 1 c_Se_layOutPairs R_Se 4 none (none, ru) Mu14 87 [some (.ref 20), some (.int xu13), some (.int z2_27), none] [] := by
        intro xu13 Mu14 hf
        rw [hju12] at hf
        obtain ⟨xu15, hxu15⟩ : ∃ y : Int32, y = z2_27 + 1 := ⟨_, rfl⟩
        replace hf := lt_of hxu15 hf
        refine r_iinc (lv' := [some (.ref 20), some (.int xu13), some (.int xu15), none]) d_Se_layOutPairs_87 rfl (by rw [hxu15]; rfl) (by decide) rfl ?_
        refine r_goto 27 d_Se_layOutPairs_90 (by decide) ?_
        exact ih xu13 xu15 Mu14  hf
      exact l_Se_layOutPairs_46 (G := G) (ru := ru) Nu z2_27 ju12  Kju12 Nu z1_27 xu11 Mu10 hf
theorem l_Se_layOutPairs_2 {G : GT} {ru : Mm} (Nu : Nat) (ju1 : Mm → Option (Mm))  (Kju1 : ∀ (Mw : Mm), ju1 Mw = some ru → SW G 1 c_Se_layOutPairs R_Se 4 none (none, ru) Mw 23 [some (.ref 20), none, none, none] [])  : ∀ (nu : Nat) (z1_2 : Int32) (M_2 : Mm), L_Se_layOutPairs_2 Nu ju1 nu z1_2 M_2 = some ru → SW G 1 c_Se_layOutPairs R_Se 4 none (none, ru) M_2 2 [some (.ref 20), some (.int z1_2), none, none] []
  | 0, _, _, hf => by cases hf
  | nu + 1, z1_2, M_2, hf => by
    have ih := l_Se_layOutPairs_2 (G := G) (ru := ru) Nu ju1  Kju1 nu
    rw [L_Se_layOutPairs_2] at hf
    refine r_iload_n 1 d_Se_layOutPairs_2 rfl rfl ?_
    refine r_aload_n 0 d_Se_layOutPairs_3 rfl rfl ?_
    refine r_getI d_Se_layOutPairs_4 fl_Se_57 sh_20 (by decide) ?_
    refine r_icmp_ge 23 d_Se_layOutPairs_7 (by decide) (fun qu25 => ?_) (fun qu25 => ?_)
    · replace hf := ip qu25 hf
      refine r_weak [1] (lv' := [some (.ref 20), none, none, none]) rfl ?_
      exact Kju1 M_2  hf
    · replace hf := im qu25 hf
      refine r_aload_n 0 d_Se_layOutPairs_10 rfl rfl ?_
      refine r_getR 21 d_Se_layOutPairs_11 fl_Se_9 sh_20 rfl rf_20_0 ?_
      refine r_iload_n 1 d_Se_layOutPairs_14 rfl rfl ?_
      refine r_iconst (v := 0) d_Se_layOutPairs_15 (by decide) ?_
      obtain ⟨qu26, hf⟩ := ck hf
      refine r_iast d_Se_layOutPairs_16 sh_21 qu26 ?_
      refine nmM (fun Mu27 hMu27 => ?_)
      replace hf := lt_of hMu27 hf
      obtain ⟨xu28, hxu28⟩ : ∃ y : Int32, y = z1_2 + 1 := ⟨_, rfl⟩
      replace hf := lt_of hxu28 hf
      refine r_iinc (lv' := [some (.ref 20), some (.int xu28), none, none]) d_Se_layOutPairs_17 rfl (by rw [hxu28]; rfl) (by decide) rfl ?_
      refine r_goto 2 d_Se_layOutPairs_20 (by decide) ?_
      exact ih xu28 Mu27  hf
theorem cm_Se_layOutPairs {G : GT} {Nu : Nat} {Mu : Mm}  {ru : Mm}  (hf : f_Se_layOutPairs Nu Mu = some ru) : CM G 1 y_Se_layOutPairs c_Se_layOutPairs 4 none (none, ru) Mu [.ref 20] := by
  unfold f_Se_layOutPairs at hf
  refine CM.of (own := R_Se) (lv := [some (.ref 20), none, none, none]) (by decide) rfl (Nat.le_of_ble_eq_true rfl) rfl ?_
  refine r_iconst (v := 0) d_Se_layOutPairs_0 (by decide) ?_
  refine r_istore_n (lv' := [some (.ref 20), some (.int 0), none, none]) 1 d_Se_layOutPairs_1 rfl (by decide) rfl ?_
  obtain ⟨ju1, hju1, hf⟩ := lt_ex hf
  have Kju1 : ∀ (Mu2 : Mm), ju1 Mu2 = some ru → SW G 1 c_Se_layOutPairs R_Se 4 none (none, ru) Mu2 23 [some (.ref 20), none, none, none] [] := by
    intro Mu2 hf
    rw [hju1] at hf
    refine r_iconst (v := 0) d_Se_layOutPairs_23 (by decide) ?_
    refine r_istore_n (lv' := [some (.ref 20), some (.int 0), none, none]) 1 d_Se_layOutPairs_24 rfl (by decide) rfl ?_
    refine r_iconst (v := 0) d_Se_layOutPairs_25 (by decide) ?_
    refine r_istore_n (lv' := [some (.ref 20), some (.int 0), some (.int 0), none]) 2 d_Se_layOutPairs_26 rfl (by decide) rfl ?_
    obtain ⟨ju3, hju3, hf⟩ := lt_ex hf
    have Kju3 : ∀ (xu4 : Int32) (Mu5 : Mm), ju3 xu4 Mu5 = some ru → SW G 1 c_Se_layOutPairs R_Se 4 none (none, ru) Mu5 93 [some (.ref 20), some (.int xu4), none, none] [] := by
      intro xu4 Mu5 hf
      rw [hju3] at hf
      refine r_aload_n 0 d_Se_layOutPairs_93 rfl rfl ?_
      refine r_getR 22 d_Se_layOutPairs_94 fl_Se_15 sh_20 rfl rf_20_1 ?_
      refine r_aload_n 0 d_Se_layOutPairs_97 rfl rfl ?_
      refine r_getI d_Se_layOutPairs_98 fl_Se_57 sh_20 (by decide) ?_
      refine r_iload_n 1 d_Se_layOutPairs_101 rfl rfl ?_
      obtain ⟨qu6, hf⟩ := ck hf
      refine r_iast d_Se_layOutPairs_102 sh_22 qu6 ?_
      refine nmM (fun Mu7 hMu7 => ?_)
      replace hf := lt_of hMu7 hf
      obtain rfl := Option.some.inj hf
      exact r_return d_Se_layOutPairs_103 rfl rfl
    exact l_Se_layOutPairs_27 (G := G) (ru := ru) Nu ju3  Kju3 Nu 0 0 Mu2 hf
  exact l_Se_layOutPairs_2 (G := G) (ru := ru) Nu ju1  Kju1 Nu 0 Mu hf
def L_Se_begin_31 (Nu : Nat) (p0 : Nat) (ju4 : Mm → Option (Mm)) : Nat → Int32 → Mm → Option (Mm)
  | 0, _, _ => none
  | nu + 1, z2_31, M_31 => if (M_31.1 20 3) ≤ z2_31 then ju4 M_31 else if inb z2_31 8 = true then if inb z2_31 6 = true then lt (si M_31 23 (Int32.toNatClampNeg z2_31) (M_31.1 (p0 + 4) (Int32.toNatClampNeg z2_31))) fun Mu23 => lt (z2_31 + 1) fun xu24 => L_Se_begin_31 Nu p0 ju4 nu xu24 Mu23 else none else none
def f_Se_begin (Nu : Nat) (p0 : Nat) (Mu : Mm) : Option (Mm) := lt (si Mu 20 3 (f_Ma_min_II (Mu.1 p0 0) 6)) fun Mu1 => lt (si Mu1 20 4 (Mu1.1 p0 1)) fun Mu2 => lt (si Mu2 20 5 (Mu2.1 p0 2)) fun Mu3 => lt (fun (Mu5 : Mm) => (f_To_asNumber Nu p0 (p0 + 1) Mu5).bind fun vu6 => lt (si Mu5 20 6 vu6) fun Mu7 => (f_To_asNumber Nu p0 (p0 + 2) Mu7).bind fun vu8 => lt (si Mu7 20 7 vu8) fun Mu9 => (f_To_asNumber Nu p0 (p0 + 3) Mu9).bind fun vu10 => lt (si Mu9 20 8 vu10) fun Mu11 => lt (si Mu11 20 10 1000000) fun Mu12 => lt (si Mu12 20 11 1000000) fun Mu13 => lt (si Mu13 20 12 1000000) fun Mu14 => lt (si Mu14 20 13 0) fun Mu15 => lt (si Mu15 20 14 (-1)) fun Mu16 => lt (si Mu16 20 15 0) fun Mu17 => lt (si Mu17 20 16 0) fun Mu18 => (f_Se_layOutPairs Nu Mu18).bind fun vu19 => some vu19) fun ju4 => L_Se_begin_31 Nu p0 ju4 Nu 0 Mu3
theorem l_Se_begin_31 {G : GT} {ru : Mm} (Nu : Nat) (p0 : Nat) (ju4 : Mm → Option (Mm)) (h_p0 : sh p0 = (5, 0)) (Kju4 : ∀ (Mw : Mm), ju4 Mw = some ru → SW G 2 c_Se_begin R_Se 3 none (none, ru) Mw 57 [some (.ref 20), some (.ref p0), none] [])  : ∀ (nu : Nat) (z2_31 : Int32) (M_31 : Mm), L_Se_begin_31 Nu p0 ju4 nu z2_31 M_31 = some ru → SW G 2 c_Se_begin R_Se 3 none (none, ru) M_31 31 [some (.ref 20), some (.ref p0), some (.int z2_31)] []
  | 0, _, _, hf => by cases hf
  | nu + 1, z2_31, M_31, hf => by
    have ih := l_Se_begin_31 (G := G) (ru := ru) Nu p0 ju4 h_p0 Kju4 nu
    rw [L_Se_begin_31] at hf
    refine r_iload_n 2 d_Se_begin_31 rfl rfl ?_
    refine r_aload_n 0 d_Se_begin_32 rfl rfl ?_
    refine r_getI d_Se_begin_33 fl_Se_57 sh_20 (by decide) ?_
    refine r_icmp_ge 57 d_Se_begin_36 (by decide) (fun qu20 => ?_) (fun qu20 => ?_)
    · replace hf := ip qu20 hf
      refine r_weak [2] (lv' := [some (.ref 20), some (.ref p0), none]) rfl ?_
      exact Kju4 M_31  hf
    · replace hf := im qu20 hf
      refine r_aload_n 0 d_Se_begin_39 rfl rfl ?_
      refine r_getR 23 d_Se_begin_40 fl_Se_18 sh_20 rfl rf_20_2 ?_
      refine r_iload_n 2 d_Se_begin_43 rfl rfl ?_
      refine r_aload_n 1 d_Se_begin_44 rfl rfl ?_
      refine r_getR (p0 + 4) d_Se_begin_45 fl_Se_66 h_p0 rfl (to_r6 h_p0) ?_
      refine r_iload_n 2 d_Se_begin_48 rfl rfl ?_
      obtain ⟨qu21, hf⟩ := ck hf
      refine r_iald d_Se_begin_49 (to_s6 h_p0) qu21 ?_
      obtain ⟨qu22, hf⟩ := ck hf
      refine r_iast d_Se_begin_50 sh_23 qu22 ?_
      refine nmM (fun Mu23 hMu23 => ?_)
      replace hf := lt_of hMu23 hf
      obtain ⟨xu24, hxu24⟩ : ∃ y : Int32, y = z2_31 + 1 := ⟨_, rfl⟩
      replace hf := lt_of hxu24 hf
      refine r_iinc (lv' := [some (.ref 20), some (.ref p0), some (.int xu24)]) d_Se_begin_51 rfl (by rw [hxu24]; rfl) (by decide) rfl ?_
      refine r_goto 31 d_Se_begin_54 (by decide) ?_
      exact ih xu24 Mu23  hf
theorem cm_Se_begin {G : GT} {Nu : Nat} {p0 : Nat} {Mu : Mm}  {ru : Mm} (h_p0 : sh p0 = (5, 0)) (hf : f_Se_begin Nu p0 Mu = some ru) : CM G 2 y_Se_begin c_Se_begin 3 none (none, ru) Mu [.ref 20, .ref p0] := by
  unfold f_Se_begin at hf
  refine CM.of (own := R_Se) (lv := [some (.ref 20), some (.ref p0), none]) (by decide) rfl (Nat.le_of_ble_eq_true rfl) rfl ?_
  refine r_aload_n 0 d_Se_begin_0 rfl rfl ?_
  refine r_aload_n 1 d_Se_begin_1 rfl rfl ?_
  refine r_getI d_Se_begin_2 fl_Se_46 h_p0 (by decide) ?_
  refine r_bipush (v := 6) d_Se_begin_5 (by decide) ?_
  refine r_callS [.int (Mu.1 p0 0), .int 6] d_Se_begin_7 lk_Se_51 (cm_Ma_min_II (Mu.1 p0 0) 6 Mu) (by decide) rfl rfl (Nat.le_of_ble_eq_true rfl) ?_
  refine r_putI d_Se_begin_10 fl_Se_57 sh_20 (Or.inl rfl) rfl ?_
  refine nmM (fun Mu1 hMu1 => ?_)
  replace hf := lt_of hMu1 hf
  refine r_aload_n 0 d_Se_begin_13 rfl rfl ?_
  refine r_aload_n 1 d_Se_begin_14 rfl rfl ?_
  refine r_getI d_Se_begin_15 fl_Se_58 h_p0 (by decide) ?_
  refine r_putI d_Se_begin_18 fl_Se_61 sh_20 (Or.inl rfl) rfl ?_
  refine nmM (fun Mu2 hMu2 => ?_)
  replace hf := lt_of hMu2 hf
  refine r_aload_n 0 d_Se_begin_21 rfl rfl ?_
  refine r_aload_n 1 d_Se_begin_22 rfl rfl ?_
  refine r_getI d_Se_begin_23 fl_Se_62 h_p0 (by decide) ?_
  refine r_putI d_Se_begin_26 fl_Se_65 sh_20 (Or.inl rfl) rfl ?_
  refine nmM (fun Mu3 hMu3 => ?_)
  replace hf := lt_of hMu3 hf
  refine r_iconst (v := 0) d_Se_begin_29 (by decide) ?_
  refine r_istore_n (lv' := [some (.ref 20), some (.ref p0), some (.int 0)]) 2 d_Se_begin_30 rfl (by decide) rfl ?_
  obtain ⟨ju4, hju4, hf⟩ := lt_ex hf
  have Kju4 : ∀ (Mu5 : Mm), ju4 Mu5 = some ru → SW G 2 c_Se_begin R_Se 3 none (none, ru) Mu5 57 [some (.ref 20), some (.ref p0), none] [] := by
    intro Mu5 hf
    rw [hju4] at hf
    refine r_aload_n 0 d_Se_begin_57 rfl rfl ?_
    refine r_aload_n 1 d_Se_begin_58 rfl rfl ?_
    refine r_aload_n 1 d_Se_begin_59 rfl rfl ?_
    refine r_getR (p0 + 1) d_Se_begin_60 fl_Se_67 h_p0 rfl (to_r3 h_p0) ?_
    obtain ⟨vu6, evu6, hf⟩ := bnd hf
    refine r_callV [.ref (p0 + 1)] d_Se_begin_63 lk_Se_70 h_p0 (cm_To_asNumber h_p0 (to_s3 h_p0) evu6) (by decide) rfl rfl (Nat.le_of_ble_eq_true rfl) ?_
    refine r_putI d_Se_begin_66 fl_Se_74 sh_20 (Or.inl rfl) rfl ?_
    refine nmM (fun Mu7 hMu7 => ?_)
    replace hf := lt_of hMu7 hf
    refine r_aload_n 0 d_Se_begin_69 rfl rfl ?_
    refine r_aload_n 1 d_Se_begin_70 rfl rfl ?_
    refine r_aload_n 1 d_Se_begin_71 rfl rfl ?_
    refine r_getR (p0 + 2) d_Se_begin_72 fl_Se_76 h_p0 rfl (to_r4 h_p0) ?_
    obtain ⟨vu8, evu8, hf⟩ := bnd hf
    refine r_callV [.ref (p0 + 2)] d_Se_begin_75 lk_Se_70 h_p0 (cm_To_asNumber h_p0 (to_s4 h_p0) evu8) (by decide) rfl rfl (Nat.le_of_ble_eq_true rfl) ?_
    refine r_putI d_Se_begin_78 fl_Se_79 sh_20 (Or.inl rfl) rfl ?_
    refine nmM (fun Mu9 hMu9 => ?_)
    replace hf := lt_of hMu9 hf
    refine r_aload_n 0 d_Se_begin_81 rfl rfl ?_
    refine r_aload_n 1 d_Se_begin_82 rfl rfl ?_
    refine r_aload_n 1 d_Se_begin_83 rfl rfl ?_
    refine r_getR (p0 + 3) d_Se_begin_84 fl_Se_81 h_p0 rfl (to_r5 h_p0) ?_
    obtain ⟨vu10, evu10, hf⟩ := bnd hf
    refine r_callV [.ref (p0 + 3)] d_Se_begin_87 lk_Se_70 h_p0 (cm_To_asNumber h_p0 (to_s5 h_p0) evu10) (by decide) rfl rfl (Nat.le_of_ble_eq_true rfl) ?_
    refine r_putI d_Se_begin_90 fl_Se_84 sh_20 (Or.inl rfl) rfl ?_
    refine nmM (fun Mu11 hMu11 => ?_)
    replace hf := lt_of hMu11 hf
    refine r_aload_n 0 d_Se_begin_93 rfl rfl ?_
    refine r_ldc d_Se_begin_94 k_Se_36 ?_
    refine r_putI d_Se_begin_96 fl_Se_86 sh_20 (Or.inl rfl) rfl ?_
    refine nmM (fun Mu12 hMu12 => ?_)
    replace hf := lt_of hMu12 hf
    refine r_aload_n 0 d_Se_begin_99 rfl rfl ?_
    refine r_ldc d_Se_begin_100 k_Se_36 ?_
    refine r_putI d_Se_begin_102 fl_Se_32 sh_20 (Or.inl rfl) rfl ?_
    refine nmM (fun Mu13 hMu13 => ?_)
    replace hf := lt_of hMu13 hf
    refine r_aload_n 0 d_Se_begin_105 rfl rfl ?_
    refine r_ldc d_Se_begin_106 k_Se_36 ?_
    refine r_putI d_Se_begin_108 fl_Se_37 sh_20 (Or.inl rfl) rfl ?_
    refine nmM (fun Mu14 hMu14 => ?_)
    replace hf := lt_of hMu14 hf
    refine r_aload_n 0 d_Se_begin_111 rfl rfl ?_
    refine r_iconst (v := 0) d_Se_begin_112 (by decide) ?_
    refine r_putI d_Se_begin_113 fl_Se_89 sh_20 (Or.inl rfl) rfl ?_
    refine nmM (fun Mu15 hMu15 => ?_)
    replace hf := lt_of hMu15 hf
    refine r_aload_n 0 d_Se_begin_116 rfl rfl ?_
    refine r_iconst (v := (-1)) d_Se_begin_117 (by decide) ?_
    refine r_putI d_Se_begin_118 fl_Se_92 sh_20 (Or.inl rfl) rfl ?_
    refine nmM (fun Mu16 hMu16 => ?_)
    replace hf := lt_of hMu16 hf
    refine r_aload_n 0 d_Se_begin_121 rfl rfl ?_
    refine r_iconst (v := 0) d_Se_begin_122 (by decide) ?_
    refine r_putI d_Se_begin_123 fl_Se_95 sh_20 (Or.inl rfl) rfl ?_
    refine nmM (fun Mu17 hMu17 => ?_)
    replace hf := lt_of hMu17 hf
    refine r_aload_n 0 d_Se_begin_126 rfl rfl ?_
    refine r_iconst (v := 0) d_Se_begin_127 (by decide) ?_
    refine r_putI d_Se_begin_128 fl_Se_98 sh_20 (Or.inl rfl) rfl ?_
    refine nmM (fun Mu18 hMu18 => ?_)
    replace hf := lt_of hMu18 hf
    refine r_aload_n 0 d_Se_begin_131 rfl rfl ?_
    obtain ⟨vu19, evu19, hf⟩ := bnd hf
    refine r_callV [] d_Se_begin_132 lk_Se_101 sh_20 (cm_Se_layOutPairs evu19) (by decide) rfl rfl (Nat.le_of_ble_eq_true rfl) ?_
    obtain rfl := Option.some.inj hf
    exact r_return d_Se_begin_135 rfl rfl
  exact l_Se_begin_31 (G := G) (ru := ru) Nu p0 ju4 h_p0 Kju4 Nu 0 Mu3 hf
def f_Se_settled (p0 : Int32) (Mu : Mm) : Option (Int32) := if 0 ≤ p0 then if inb (p0 + 1) 7 = true then some (((1 : Int32) <<< ((Mu.1 22 (Int32.toNatClampNeg (p0 + 1))) &&& 31)) - 1) else none else some 0
theorem cm_Se_settled {G : GT} {p0 : Int32} {Mu : Mm}  {ru : Int32}  (hf : f_Se_settled p0 Mu = some ru) : CM G 1 y_Se_settled c_Se_settled 2 (some .int) (some (.int ru), Mu) Mu [.ref 20, .int p0] := by
  unfold f_Se_settled at hf
  refine CM.of (own := R_Se) (lv := [some (.ref 20), some (.int p0)]) (by decide) rfl (Nat.le_of_ble_eq_true rfl) rfl ?_
  refine r_iload_n 1 d_Se_settled_0 rfl rfl ?_
  refine r_if_ge 8 d_Se_settled_1 (by decide) (fun qu1 => ?_) (fun qu1 => ?_)
  · replace hf := ip qu1 hf
    refine r_iconst (v := 1) d_Se_settled_8 (by decide) ?_
    refine r_aload_n 0 d_Se_settled_9 rfl rfl ?_
    refine r_getR 22 d_Se_settled_10 fl_Se_15 sh_20 rfl rf_20_1 ?_
    refine r_iload_n 1 d_Se_settled_13 rfl rfl ?_
    refine r_iconst (v := 1) d_Se_settled_14 (by decide) ?_
    refine r_iadd d_Se_settled_15 ?_
    obtain ⟨qu2, hf⟩ := ck hf
    refine r_iald d_Se_settled_16 sh_22 qu2 ?_
    refine r_ishl d_Se_settled_17 ?_
    refine r_iconst (v := 1) d_Se_settled_18 (by decide) ?_
    refine r_isub d_Se_settled_19 ?_
    obtain rfl := Option.some.inj hf
    exact r_ireturn d_Se_settled_20 rfl rfl
  · replace hf := im qu1 hf
    refine r_iconst (v := 0) d_Se_settled_4 (by decide) ?_
    refine r_goto 20 d_Se_settled_5 (by decide) ?_
    obtain rfl := Option.some.inj hf
    exact r_ireturn d_Se_settled_20 rfl rfl
def f_Se_priceTo (p0 : Int32) (p1 : Int32) (Mu : Mm) : Option (Int32) := (f_Se_settled p1 Mu).bind fun vu1 => lt ((p0 ^^^ (Mu.1 20 6)) &&& vu1) fun xu2 => some (((Mu.1 20 4) * (f_In_bitCount (xu2 &&& p0))) + ((Mu.1 20 5) * (f_In_bitCount (xu2 &&& (Mu.1 20 6)))))
theorem cm_Se_priceTo {G : GT} {p0 : Int32} {p1 : Int32} {Mu : Mm}  {ru : Int32}  (hf : f_Se_priceTo p0 p1 Mu = some ru) : CM G 2 y_Se_priceTo c_Se_priceTo 4 (some .int) (some (.int ru), Mu) Mu [.ref 20, .int p0, .int p1] := by
  unfold f_Se_priceTo at hf
  refine CM.of (own := R_Se) (lv := [some (.ref 20), some (.int p0), some (.int p1), none]) (by decide) rfl (Nat.le_of_ble_eq_true rfl) rfl ?_
  refine r_iload_n 1 d_Se_priceTo_0 rfl rfl ?_
  refine r_aload_n 0 d_Se_priceTo_1 rfl rfl ?_
  refine r_getI d_Se_priceTo_2 fl_Se_74 sh_20 (by decide) ?_
  refine r_ixor d_Se_priceTo_5 ?_
  refine r_aload_n 0 d_Se_priceTo_6 rfl rfl ?_
  refine r_iload_n 2 d_Se_priceTo_7 rfl rfl ?_
  obtain ⟨vu1, evu1, hf⟩ := bnd hf
  refine r_callV [.int p1] d_Se_priceTo_8 lk_Se_140 sh_20 (cm_Se_settled evu1) (by decide) rfl rfl (Nat.le_of_ble_eq_true rfl) ?_
  refine r_iand d_Se_priceTo_11 ?_
  refine nmI (fun xu2 hxu2 => ?_)
  replace hf := lt_of hxu2 hf
  refine r_istore_n (lv' := [some (.ref 20), some (.int p0), some (.int p1), some (.int xu2)]) 3 d_Se_priceTo_12 rfl (by decide) rfl ?_
  refine r_aload_n 0 d_Se_priceTo_13 rfl rfl ?_
  refine r_getI d_Se_priceTo_14 fl_Se_61 sh_20 (by decide) ?_
  refine r_iload_n 3 d_Se_priceTo_17 rfl rfl ?_
  refine r_iload_n 1 d_Se_priceTo_18 rfl rfl ?_
  refine r_iand d_Se_priceTo_19 ?_
  refine r_callS [.int (xu2 &&& p0)] d_Se_priceTo_20 lk_Se_132 (cm_In_bitCount (xu2 &&& p0) Mu) (by decide) rfl rfl (Nat.le_of_ble_eq_true rfl) ?_
  refine r_imul d_Se_priceTo_23 ?_
  refine r_aload_n 0 d_Se_priceTo_24 rfl rfl ?_
  refine r_getI d_Se_priceTo_25 fl_Se_65 sh_20 (by decide) ?_
  refine r_iload_n 3 d_Se_priceTo_28 rfl rfl ?_
  refine r_aload_n 0 d_Se_priceTo_29 rfl rfl ?_
  refine r_getI d_Se_priceTo_30 fl_Se_74 sh_20 (by decide) ?_
  refine r_iand d_Se_priceTo_33 ?_
  refine r_callS [.int (xu2 &&& (Mu.1 20 6))] d_Se_priceTo_34 lk_Se_132 (cm_In_bitCount (xu2 &&& (Mu.1 20 6)) Mu) (by decide) rfl rfl (Nat.le_of_ble_eq_true rfl) ?_
  refine r_imul d_Se_priceTo_37 ?_
  refine r_iadd d_Se_priceTo_38 ?_
  obtain rfl := Option.some.inj hf
  exact r_ireturn d_Se_priceTo_39 rfl rfl
def f_Se_take (p0 : Int32) (p1 : Int32) (Mu : Mm) : Option (Mm) := (f_Se_priceTo p0 ((Mu.1 20 3) - 1) Mu).bind fun vu1 => lt (fun (xu3 : Int32) => if xu3 = 0 then some Mu else lt (si Mu 20 10 p1) fun Mu5 => lt (si Mu5 20 11 vu1) fun Mu6 => lt (si Mu6 20 12 p0) fun Mu7 => some Mu7) fun ju2 => lt (fun (_ : Unit) => ju2 1) fun ju8 => if p1 < (Mu.1 20 10) then ju8 () else lt (fun (_ : Unit) => ju2 0) fun ju10 => if p1 = (Mu.1 20 10) then if vu1 < (Mu.1 20 11) then ju8 () else if vu1 = (Mu.1 20 11) then if (Mu.1 20 12) ≤ p0 then ju10 () else ju8 () else ju10 () else ju10 ()
theorem cm_Se_take {G : GT} {p0 : Int32} {p1 : Int32} {Mu : Mm}  {ru : Mm}  (hf : f_Se_take p0 p1 Mu = some ru) : CM G 3 y_Se_take c_Se_take 5 none (none, ru) Mu [.ref 20, .int p0, .int p1] := by
  unfold f_Se_take at hf
  refine CM.of (own := R_Se) (lv := [some (.ref 20), some (.int p0), some (.int p1), none, none]) (by decide) rfl (Nat.le_of_ble_eq_true rfl) rfl ?_
  refine r_aload_n 0 d_Se_take_0 rfl rfl ?_
  refine r_iload_n 1 d_Se_take_1 rfl rfl ?_
  refine r_aload_n 0 d_Se_take_2 rfl rfl ?_
  refine r_getI d_Se_take_3 fl_Se_57 sh_20 (by decide) ?_
  refine r_iconst (v := 1) d_Se_take_6 (by decide) ?_
  refine r_isub d_Se_take_7 ?_
  obtain ⟨vu1, evu1, hf⟩ := bnd hf
  refine r_callV [.int p0, .int ((Mu.1 20 3) - 1)] d_Se_take_8 lk_Se_126 sh_20 (cm_Se_priceTo evu1) (by decide) rfl rfl (Nat.le_of_ble_eq_true rfl) ?_
  refine r_istore_n (lv' := [some (.ref 20), some (.int p0), some (.int p1), some (.int vu1), none]) 3 d_Se_take_11 rfl (by decide) rfl ?_
  refine r_iload_n 2 d_Se_take_12 rfl rfl ?_
  refine r_aload_n 0 d_Se_take_13 rfl rfl ?_
  refine r_getI d_Se_take_14 fl_Se_86 sh_20 (by decide) ?_
  obtain ⟨ju2, hju2, hf⟩ := lt_ex hf
  have Kju2 : ∀ (xu3 : Int32), ju2 xu3 = some ru → SW G 3 c_Se_take R_Se 5 none (none, ru) Mu 57 [some (.ref 20), some (.int p0), some (.int p1), some (.int vu1), none] [.int xu3] := by
    intro xu3 hf
    rw [hju2] at hf
    refine r_istore (lv' := [some (.ref 20), some (.int p0), some (.int p1), some (.int vu1), some (.int xu3)]) d_Se_take_57 (by decide) rfl ?_
    refine r_iload d_Se_take_59 rfl ?_
    refine r_if_eq 79 d_Se_take_61 (by decide) (fun qu4 => ?_) (fun qu4 => ?_)
    · replace hf := ip qu4 hf
      obtain rfl := Option.some.inj hf
      exact r_return d_Se_take_79 rfl rfl
    · replace hf := im qu4 hf
      refine r_aload_n 0 d_Se_take_64 rfl rfl ?_
      refine r_iload_n 2 d_Se_take_65 rfl rfl ?_
      refine r_putI d_Se_take_66 fl_Se_86 sh_20 (Or.inl rfl) rfl ?_
      refine nmM (fun Mu5 hMu5 => ?_)
      replace hf := lt_of hMu5 hf
      refine r_aload_n 0 d_Se_take_69 rfl rfl ?_
      refine r_iload_n 3 d_Se_take_70 rfl rfl ?_
      refine r_putI d_Se_take_71 fl_Se_32 sh_20 (Or.inl rfl) rfl ?_
      refine nmM (fun Mu6 hMu6 => ?_)
      replace hf := lt_of hMu6 hf
      refine r_aload_n 0 d_Se_take_74 rfl rfl ?_
      refine r_iload_n 1 d_Se_take_75 rfl rfl ?_
      refine r_putI d_Se_take_76 fl_Se_37 sh_20 (Or.inl rfl) rfl ?_
      refine nmM (fun Mu7 hMu7 => ?_)
      replace hf := lt_of hMu7 hf
      obtain rfl := Option.some.inj hf
      exact r_return d_Se_take_79 rfl rfl
  obtain ⟨ju8, hju8, hf⟩ := lt_ex hf
  have Kju8 : ∀ (_ : Unit), ju8 () = some ru → SW G 3 c_Se_take R_Se 5 none (none, ru) Mu 52 [some (.ref 20), some (.int p0), some (.int p1), some (.int vu1), none] [] := by
    intro _ hf
    rw [hju8] at hf
    refine r_iconst (v := 1) d_Se_take_52 (by decide) ?_
    refine r_goto 57 d_Se_take_53 (by decide) ?_
    exact Kju2 1  hf
  refine r_icmp_lt 52 d_Se_take_17 (by decide) (fun qu9 => ?_) (fun qu9 => ?_)
  · replace hf := ip qu9 hf
    exact Kju8 ()  hf
  · replace hf := im qu9 hf
    refine r_iload_n 2 d_Se_take_20 rfl rfl ?_
    refine r_aload_n 0 d_Se_take_21 rfl rfl ?_
    refine r_getI d_Se_take_22 fl_Se_86 sh_20 (by decide) ?_
    obtain ⟨ju10, hju10, hf⟩ := lt_ex hf
    have Kju10 : ∀ (_ : Unit), ju10 () = some ru → SW G 3 c_Se_take R_Se 5 none (none, ru) Mu 56 [some (.ref 20), some (.int p0), some (.int p1), some (.int vu1), none] [] := by
      intro _ hf
      rw [hju10] at hf
      refine r_iconst (v := 0) d_Se_take_56 (by decide) ?_
      exact Kju2 0  hf
    refine r_icmp_ne 56 d_Se_take_25 (by decide) (fun qu11 => ?_) (fun qu11 => ?_)
    · replace hf := im qu11 hf
      exact Kju10 ()  hf
    · replace hf := ip qu11 hf
      refine r_iload_n 3 d_Se_take_28 rfl rfl ?_
      refine r_aload_n 0 d_Se_take_29 rfl rfl ?_
      refine r_getI d_Se_take_30 fl_Se_32 sh_20 (by decide) ?_
      refine r_icmp_lt 52 d_Se_take_33 (by decide) (fun qu12 => ?_) (fun qu12 => ?_)
      · replace hf := ip qu12 hf
        exact Kju8 ()  hf
      · replace hf := im qu12 hf
        refine r_iload_n 3 d_Se_take_36 rfl rfl ?_
        refine r_aload_n 0 d_Se_take_37 rfl rfl ?_
        refine r_getI d_Se_take_38 fl_Se_32 sh_20 (by decide) ?_
        refine r_icmp_ne 56 d_Se_take_41 (by decide) (fun qu13 => ?_) (fun qu13 => ?_)
        · replace hf := im qu13 hf
          exact Kju10 ()  hf
        · replace hf := ip qu13 hf
          refine r_iload_n 1 d_Se_take_44 rfl rfl ?_
          refine r_aload_n 0 d_Se_take_45 rfl rfl ?_
          refine r_getI d_Se_take_46 fl_Se_37 sh_20 (by decide) ?_
          refine r_icmp_ge 56 d_Se_take_49 (by decide) (fun qu14 => ?_) (fun qu14 => ?_)
          · replace hf := ip qu14 hf
            exact Kju10 ()  hf
          · replace hf := im qu14 hf
            exact Kju8 ()  hf
def f_Se_rowsOf (p0 : Int32) (Mu : Mm) : Int32 := (1 : Int32) <<< ((((Mu.1 20 3) - 1) - p0) &&& 31)
theorem cm_Se_rowsOf {G : GT} (p0 : Int32) (Mu : Mm)   : CM G 1 y_Se_rowsOf c_Se_rowsOf 2 (some .int) (some (.int (f_Se_rowsOf p0 Mu)), Mu) Mu [.ref 20, .int p0] := by
  generalize hf : f_Se_rowsOf p0 Mu = ru
  unfold f_Se_rowsOf at hf
  refine CM.of (own := R_Se) (lv := [some (.ref 20), some (.int p0)]) (by decide) rfl (Nat.le_of_ble_eq_true rfl) rfl ?_
  refine r_iconst (v := 1) d_Se_rowsOf_0 (by decide) ?_
  refine r_aload_n 0 d_Se_rowsOf_1 rfl rfl ?_
  refine r_getI d_Se_rowsOf_2 fl_Se_57 sh_20 (by decide) ?_
  refine r_iconst (v := 1) d_Se_rowsOf_5 (by decide) ?_
  refine r_isub d_Se_rowsOf_6 ?_
  refine r_iload_n 1 d_Se_rowsOf_7 rfl rfl ?_
  refine r_isub d_Se_rowsOf_8 ?_
  refine r_ishl d_Se_rowsOf_9 ?_
  subst hf
  exact r_ireturn d_Se_rowsOf_10 rfl rfl
def f_Se_keepsBars (p0 : Int32) (p1 : Int32) (Mu : Mm) : Option (Int32) := if (p0 &&& (Mu.1 20 7)) = 0 then (f_Se_settled p1 Mu).bind fun vu2 => if (((Mu.1 20 8) &&& vu2) &&& (p0 ^^^ (-1))) = 0 then some 1 else some 0 else some 0
theorem cm_Se_keepsBars {G : GT} {p0 : Int32} {p1 : Int32} {Mu : Mm}  {ru : Int32}  (hf : f_Se_keepsBars p0 p1 Mu = some ru) : CM G 2 y_Se_keepsBars c_Se_keepsBars 3 (some .boolean) (some (.int ru), Mu) Mu [.ref 20, .int p0, .int p1] := by
  unfold f_Se_keepsBars at hf
  refine CM.of (own := R_Se) (lv := [some (.ref 20), some (.int p0), some (.int p1)]) (by decide) rfl (Nat.le_of_ble_eq_true rfl) rfl ?_
  refine r_iload_n 1 d_Se_keepsBars_0 rfl rfl ?_
  refine r_aload_n 0 d_Se_keepsBars_1 rfl rfl ?_
  refine r_getI d_Se_keepsBars_2 fl_Se_79 sh_20 (by decide) ?_
  refine r_iand d_Se_keepsBars_5 ?_
  refine r_if_ne 30 d_Se_keepsBars_6 (by decide) (fun qu1 => ?_) (fun qu1 => ?_)
  · replace hf := im qu1 hf
    refine r_iconst (v := 0) d_Se_keepsBars_30 (by decide) ?_
    obtain rfl := Option.some.inj hf
    exact r_zreturn d_Se_keepsBars_31 rfl (Or.inl rfl) rfl
  · replace hf := ip qu1 hf
    refine r_aload_n 0 d_Se_keepsBars_9 rfl rfl ?_
    refine r_getI d_Se_keepsBars_10 fl_Se_84 sh_20 (by decide) ?_
    refine r_aload_n 0 d_Se_keepsBars_13 rfl rfl ?_
    refine r_iload_n 2 d_Se_keepsBars_14 rfl rfl ?_
    obtain ⟨vu2, evu2, hf⟩ := bnd hf
    refine r_callV [.int p1] d_Se_keepsBars_15 lk_Se_140 sh_20 (cm_Se_settled evu2) (by decide) rfl rfl (Nat.le_of_ble_eq_true rfl) ?_
    refine r_iand d_Se_keepsBars_18 ?_
    refine r_iload_n 1 d_Se_keepsBars_19 rfl rfl ?_
    refine r_iconst (v := (-1)) d_Se_keepsBars_20 (by decide) ?_
    refine r_ixor d_Se_keepsBars_21 ?_
    refine r_iand d_Se_keepsBars_22 ?_
    refine r_if_ne 30 d_Se_keepsBars_23 (by decide) (fun qu3 => ?_) (fun qu3 => ?_)
    · replace hf := im qu3 hf
      refine r_iconst (v := 0) d_Se_keepsBars_30 (by decide) ?_
      obtain rfl := Option.some.inj hf
      exact r_zreturn d_Se_keepsBars_31 rfl (Or.inl rfl) rfl
    · replace hf := ip qu3 hf
      refine r_iconst (v := 1) d_Se_keepsBars_26 (by decide) ?_
      refine r_goto 31 d_Se_keepsBars_27 (by decide) ?_
      obtain rfl := Option.some.inj hf
      exact r_zreturn d_Se_keepsBars_31 rfl (Or.inr rfl) rfl
def f_Se_countIn (p0 : Int32) (p1 : Int32) (Mu : Mm) : Option (Int32) := if inb p1 6 = true then some (f_In_bitCount (p0 &&& (Mu.1 21 (Int32.toNatClampNeg p1)))) else none
theorem cm_Se_countIn {G : GT} {p0 : Int32} {p1 : Int32} {Mu : Mm}  {ru : Int32}  (hf : f_Se_countIn p0 p1 Mu = some ru) : CM G 2 y_Se_countIn c_Se_countIn 3 (some .int) (some (.int ru), Mu) Mu [.ref 20, .int p0, .int p1] := by
  unfold f_Se_countIn at hf
  refine CM.of (own := R_Se) (lv := [some (.ref 20), some (.int p0), some (.int p1)]) (by decide) rfl (Nat.le_of_ble_eq_true rfl) rfl ?_
  refine r_iload_n 1 d_Se_countIn_0 rfl rfl ?_
  refine r_aload_n 0 d_Se_countIn_1 rfl rfl ?_
  refine r_getR 21 d_Se_countIn_2 fl_Se_9 sh_20 rfl rf_20_0 ?_
  refine r_iload_n 2 d_Se_countIn_5 rfl rfl ?_
  obtain ⟨qu1, hf⟩ := ck hf
  refine r_iald d_Se_countIn_6 sh_21 qu1 ?_
  refine r_iand d_Se_countIn_7 ?_
  refine r_callS [.int (p0 &&& (Mu.1 21 (Int32.toNatClampNeg p1)))] d_Se_countIn_8 lk_Se_132 (cm_In_bitCount (p0 &&& (Mu.1 21 (Int32.toNatClampNeg p1))) Mu) (by decide) rfl rfl (Nat.le_of_ble_eq_true rfl) ?_
  obtain rfl := Option.some.inj hf
  exact r_ireturn d_Se_countIn_11 rfl rfl
def L_Se_alikeBelow_5 (Nu : Nat) (p0 : Int32) (p1 : Int32) (Mu : Mm) : Nat → Int32 → Int32 → Option (Int32)
  | 0, _, _ => none
  | nu + 1, z3_5, z4_5 => if p1 ≤ z4_5 then some z3_5 else (f_Se_countIn p0 z4_5 Mu).bind fun vu2 => (f_Se_countIn p0 p1 Mu).bind fun vu3 => lt (fun (xu5 : Int32) => lt (z4_5 + 1) fun xu6 => L_Se_alikeBelow_5 Nu p0 p1 Mu nu xu5 xu6) fun ju4 => if vu2 = vu3 then lt (z3_5 + 1) fun xu8 => ju4 xu8 else ju4 z3_5
def f_Se_alikeBelow (Nu : Nat) (p0 : Int32) (p1 : Int32) (Mu : Mm) : Option (Int32) := L_Se_alikeBelow_5 Nu p0 p1 Mu Nu 0 0
theorem l_Se_alikeBelow_5 {G : GT} {ru : Int32} (Nu : Nat) (p0 : Int32) (p1 : Int32) (Mu : Mm)    : ∀ (nu : Nat) (z3_5 : Int32) (z4_5 : Int32), L_Se_alikeBelow_5 Nu p0 p1 Mu nu z3_5 z4_5 = some ru → SW G 3 c_Se_alikeBelow R_Se 5 (some .int) (some (.int ru), Mu) Mu 5 [some (.ref 20), some (.int p0), some (.int p1), some (.int z3_5), some (.int z4_5)] []
  | 0, _, _, hf => by cases hf
  | nu + 1, z3_5, z4_5, hf => by
    have ih := l_Se_alikeBelow_5 (G := G) (ru := ru) Nu p0 p1 Mu   nu
    rw [L_Se_alikeBelow_5] at hf
    refine r_iload d_Se_alikeBelow_5 rfl ?_
    refine r_iload_n 2 d_Se_alikeBelow_7 rfl rfl ?_
    refine r_icmp_ge 36 d_Se_alikeBelow_8 (by decide) (fun qu1 => ?_) (fun qu1 => ?_)
    · replace hf := ip qu1 hf
      refine r_iload_n 3 d_Se_alikeBelow_36 rfl rfl ?_
      obtain rfl := Option.some.inj hf
      exact r_ireturn d_Se_alikeBelow_37 rfl rfl
    · replace hf := im qu1 hf
      refine r_aload_n 0 d_Se_alikeBelow_11 rfl rfl ?_
      refine r_iload_n 1 d_Se_alikeBelow_12 rfl rfl ?_
      refine r_iload d_Se_alikeBelow_13 rfl ?_
      obtain ⟨vu2, evu2, hf⟩ := bnd hf
      refine r_callV [.int p0, .int z4_5] d_Se_alikeBelow_15 lk_Se_123 sh_20 (cm_Se_countIn evu2) (by decide) rfl rfl (Nat.le_of_ble_eq_true rfl) ?_
      refine r_aload_n 0 d_Se_alikeBelow_18 rfl rfl ?_
      refine r_iload_n 1 d_Se_alikeBelow_19 rfl rfl ?_
      refine r_iload_n 2 d_Se_alikeBelow_20 rfl rfl ?_
      obtain ⟨vu3, evu3, hf⟩ := bnd hf
      refine r_callV [.int p0, .int p1] d_Se_alikeBelow_21 lk_Se_123 sh_20 (cm_Se_countIn evu3) (by decide) rfl rfl (Nat.le_of_ble_eq_true rfl) ?_
      obtain ⟨ju4, hju4, hf⟩ := lt_ex hf
      have Kju4 : ∀ (xu5 : Int32), ju4 xu5 = some ru → SW G 3 c_Se_alikeBelow R_Se 5 (some .int) (some (.int ru), Mu) Mu 30 [some (.ref 20), some (.int p0), some (.int p1), some (.int xu5), some (.int z4_5)] [] := by
        intro xu5 hf
        rw [hju4] at hf
        obtain ⟨xu6, hxu6⟩ : ∃ y : Int32, y = z4_5 + 1 := ⟨_, rfl⟩
        replace hf := lt_of hxu6 hf
        refine r_iinc (lv' := [some (.ref 20), some (.int p0), some (.int p1), some (.int xu5), some (.int xu6)]) d_Se_alikeBelow_30 rfl (by rw [hxu6]; rfl) (by decide) rfl ?_
        refine r_goto 5 d_Se_alikeBelow_33 (by decide) ?_
        exact ih xu5 xu6  hf
      refine r_icmp_ne 30 d_Se_alikeBelow_24 (by decide) (fun qu7 => ?_) (fun qu7 => ?_)
      · replace hf := im qu7 hf
        exact Kju4 z3_5  hf
      · replace hf := ip qu7 hf
        obtain ⟨xu8, hxu8⟩ : ∃ y : Int32, y = z3_5 + 1 := ⟨_, rfl⟩
        replace hf := lt_of hxu8 hf
        refine r_iinc (lv' := [some (.ref 20), some (.int p0), some (.int p1), some (.int xu8), some (.int z4_5)]) d_Se_alikeBelow_27 rfl (by rw [hxu8]; rfl) (by decide) rfl ?_
        exact Kju4 xu8  hf
theorem cm_Se_alikeBelow {G : GT} {Nu : Nat} {p0 : Int32} {p1 : Int32} {Mu : Mm}  {ru : Int32}  (hf : f_Se_alikeBelow Nu p0 p1 Mu = some ru) : CM G 3 y_Se_alikeBelow c_Se_alikeBelow 5 (some .int) (some (.int ru), Mu) Mu [.ref 20, .int p0, .int p1] := by
  unfold f_Se_alikeBelow at hf
  refine CM.of (own := R_Se) (lv := [some (.ref 20), some (.int p0), some (.int p1), none, none]) (by decide) rfl (Nat.le_of_ble_eq_true rfl) rfl ?_
  refine r_iconst (v := 0) d_Se_alikeBelow_0 (by decide) ?_
  refine r_istore_n (lv' := [some (.ref 20), some (.int p0), some (.int p1), some (.int 0), none]) 3 d_Se_alikeBelow_1 rfl (by decide) rfl ?_
  refine r_iconst (v := 0) d_Se_alikeBelow_2 (by decide) ?_
  refine r_istore (lv' := [some (.ref 20), some (.int p0), some (.int p1), some (.int 0), some (.int 0)]) d_Se_alikeBelow_3 (by decide) rfl ?_
  exact l_Se_alikeBelow_5 (G := G) (ru := ru) Nu p0 p1 Mu   Nu 0 0 hf
def f_Se_canWin (p0 : Int32) (p1 : Int32) (p2 : Int32) (Mu : Mm) : Option (Int32) := lt (fun (xu2 : Int32) => lt (fun (_ : Unit) => some 1) fun ju3 => if xu2 < (Mu.1 20 10) then ju3 () else if xu2 = (Mu.1 20 10) then (f_Se_priceTo p0 p1 Mu).bind fun vu6 => if (Mu.1 20 11) < vu6 then some 0 else ju3 () else some 0) fun ju1 => if (Mu.1 20 3) ≤ 1 then ju1 p2 else ju1 (f_Ma_max p2 1)
theorem cm_Se_canWin {G : GT} {p0 : Int32} {p1 : Int32} {p2 : Int32} {Mu : Mm}  {ru : Int32}  (hf : f_Se_canWin p0 p1 p2 Mu = some ru) : CM G 3 y_Se_canWin c_Se_canWin 5 (some .boolean) (some (.int ru), Mu) Mu [.ref 20, .int p0, .int p1, .int p2] := by
  unfold f_Se_canWin at hf
  refine CM.of (own := R_Se) (lv := [some (.ref 20), some (.int p0), some (.int p1), some (.int p2), none]) (by decide) rfl (Nat.le_of_ble_eq_true rfl) rfl ?_
  refine r_aload_n 0 d_Se_canWin_0 rfl rfl ?_
  refine r_getI d_Se_canWin_1 fl_Se_57 sh_20 (by decide) ?_
  refine r_iconst (v := 1) d_Se_canWin_4 (by decide) ?_
  obtain ⟨ju1, hju1, hf⟩ := lt_ex hf
  have Kju1 : ∀ (xu2 : Int32), ju1 xu2 = some ru → SW G 3 c_Se_canWin R_Se 5 (some .boolean) (some (.int ru), Mu) Mu 17 [some (.ref 20), some (.int p0), some (.int p1), none, none] [.int xu2] := by
    intro xu2 hf
    rw [hju1] at hf
    refine r_istore (lv' := [some (.ref 20), some (.int p0), some (.int p1), none, some (.int xu2)]) d_Se_canWin_17 (by decide) rfl ?_
    refine r_iload d_Se_canWin_19 rfl ?_
    refine r_aload_n 0 d_Se_canWin_21 rfl rfl ?_
    refine r_getI d_Se_canWin_22 fl_Se_86 sh_20 (by decide) ?_
    obtain ⟨ju3, hju3, hf⟩ := lt_ex hf
    have Kju3 : ∀ (_ : Unit), ju3 () = some ru → SW G 3 c_Se_canWin R_Se 5 (some .boolean) (some (.int ru), Mu) Mu 50 [none, none, none, none, none] [] := by
      intro _ hf
      rw [hju3] at hf
      refine r_iconst (v := 1) d_Se_canWin_50 (by decide) ?_
      refine r_goto 55 d_Se_canWin_51 (by decide) ?_
      obtain rfl := Option.some.inj hf
      exact r_zreturn d_Se_canWin_55 rfl (Or.inr rfl) rfl
    refine r_icmp_lt 50 d_Se_canWin_25 (by decide) (fun qu4 => ?_) (fun qu4 => ?_)
    · replace hf := ip qu4 hf
      refine r_weak [0, 1, 2, 4] (lv' := [none, none, none, none, none]) rfl ?_
      exact Kju3 ()  hf
    · replace hf := im qu4 hf
      refine r_iload d_Se_canWin_28 rfl ?_
      refine r_aload_n 0 d_Se_canWin_30 rfl rfl ?_
      refine r_getI d_Se_canWin_31 fl_Se_86 sh_20 (by decide) ?_
      refine r_icmp_ne 54 d_Se_canWin_34 (by decide) (fun qu5 => ?_) (fun qu5 => ?_)
      · replace hf := im qu5 hf
        refine r_iconst (v := 0) d_Se_canWin_54 (by decide) ?_
        obtain rfl := Option.some.inj hf
        exact r_zreturn d_Se_canWin_55 rfl (Or.inl rfl) rfl
      · replace hf := ip qu5 hf
        refine r_aload_n 0 d_Se_canWin_37 rfl rfl ?_
        refine r_iload_n 1 d_Se_canWin_38 rfl rfl ?_
        refine r_iload_n 2 d_Se_canWin_39 rfl rfl ?_
        obtain ⟨vu6, evu6, hf⟩ := bnd hf
        refine r_callV [.int p0, .int p1] d_Se_canWin_40 lk_Se_126 sh_20 (cm_Se_priceTo evu6) (by decide) rfl rfl (Nat.le_of_ble_eq_true rfl) ?_
        refine r_aload_n 0 d_Se_canWin_43 rfl rfl ?_
        refine r_getI d_Se_canWin_44 fl_Se_32 sh_20 (by decide) ?_
        refine r_icmp_gt 54 d_Se_canWin_47 (by decide) (fun qu7 => ?_) (fun qu7 => ?_)
        · replace hf := ip qu7 hf
          refine r_iconst (v := 0) d_Se_canWin_54 (by decide) ?_
          obtain rfl := Option.some.inj hf
          exact r_zreturn d_Se_canWin_55 rfl (Or.inl rfl) rfl
        · replace hf := im qu7 hf
          refine r_weak [0, 1, 2, 4] (lv' := [none, none, none, none, none]) rfl ?_
          exact Kju3 ()  hf
  refine r_icmp_le 16 d_Se_canWin_5 (by decide) (fun qu8 => ?_) (fun qu8 => ?_)
  · replace hf := ip qu8 hf
    refine r_iload_n 3 d_Se_canWin_16 rfl rfl ?_
    refine r_weak [3] (lv' := [some (.ref 20), some (.int p0), some (.int p1), none, none]) rfl ?_
    exact Kju1 p2  hf
  · replace hf := im qu8 hf
    refine r_iload_n 3 d_Se_canWin_8 rfl rfl ?_
    refine r_iconst (v := 1) d_Se_canWin_9 (by decide) ?_
    refine r_callS [.int p2, .int 1] d_Se_canWin_10 lk_Se_137 (cm_Ma_max p2 1 Mu) (by decide) rfl rfl (Nat.le_of_ble_eq_true rfl) ?_
    refine r_goto 17 d_Se_canWin_13 (by decide) ?_
    refine r_weak [3] (lv' := [some (.ref 20), some (.int p0), some (.int p1), none, none]) rfl ?_
    exact Kju1 (f_Ma_max p2 1)  hf
def L_Se_nearestFrom_25 (Nu : Nat) (p1 : Int32) (p2 : Int32) (p3 : Int32) (xu2 : Int32) (frecU : Int32 → Int32 → Int32 → Mm → Option (Mm)) : Nat → Int32 → Mm → Option (Mm)
  | 0, _, _ => none
  | nu + 1, z5_25, M_25 => if xu2 ≤ z5_25 then some M_25 else if inb p1 7 = true then lt (p2 ||| (z5_25 <<< ((M_25.1 22 (Int32.toNatClampNeg p1)) &&& 31))) fun xu5 => (f_Se_keepsBars xu5 p1 M_25).bind fun vu6 => lt (fun (Mu8 : Mm) => lt (z5_25 + 1) fun xu9 => L_Se_nearestFrom_25 Nu p1 p2 p3 xu2 frecU nu xu9 Mu8) fun ju7 => if vu6 = 0 then ju7 M_25 else (f_Se_alikeBelow Nu xu5 p1 M_25).bind fun vu11 => lt (p3 + vu11) fun xu12 => (f_Se_canWin xu5 p1 xu12 M_25).bind fun vu13 => if vu13 = 0 then ju7 M_25 else (frecU (p1 + 1) xu5 xu12 M_25).bind fun vu15 => ju7 vu15 else none
def f_Se_nearestFrom (Nu : Nat) : Nat → Int32 → Int32 → Int32 → Mm → Option (Mm)
  | 0, _, _, _, _ => none
  | dd + 1, p1, p2, p3, Mu => if p1 < (Mu.1 20 3) then lt (f_Se_rowsOf p1 Mu) fun xu2 => L_Se_nearestFrom_25 Nu p1 p2 p3 xu2 (f_Se_nearestFrom Nu dd) Nu 0 Mu else (f_Se_take p2 p3 Mu).bind fun vu16 => some vu16
theorem l_Se_nearestFrom_25 {G : GT} {ru : Mm} (Nu : Nat) (p1 : Int32) (p2 : Int32) (p3 : Int32) (xu2 : Int32) (frecU : Int32 → Int32 → Int32 → Mm → Option (Mm)) (dd : Nat)   (hrecU : ∀ (p1 : Int32) (p2 : Int32) (p3 : Int32) (Mu : Mm) (ru : Mm), frecU p1 p2 p3 Mu = some ru → CM G (4 + dd) y_Se_nearestFrom c_Se_nearestFrom 8 none (none, ru) Mu [.ref 20, .int p1, .int p2, .int p3]) : ∀ (nu : Nat) (z5_25 : Int32) (M_25 : Mm), L_Se_nearestFrom_25 Nu p1 p2 p3 xu2 frecU nu z5_25 M_25 = some ru → SW G (4 + (dd + 1)) c_Se_nearestFrom R_Se 8 none (none, ru) M_25 25 [some (.ref 20), some (.int p1), some (.int p2), some (.int p3), some (.int xu2), some (.int z5_25), none, none] []
  | 0, _, _, hf => by cases hf
  | nu + 1, z5_25, M_25, hf => by
    have ih := l_Se_nearestFrom_25 (G := G) (ru := ru) Nu p1 p2 p3 xu2 frecU dd   hrecU nu
    rw [L_Se_nearestFrom_25] at hf
    refine r_iload d_Se_nearestFrom_25 rfl ?_
    refine r_iload d_Se_nearestFrom_27 rfl ?_
    refine r_icmp_ge 95 d_Se_nearestFrom_29 (by decide) (fun qu3 => ?_) (fun qu3 => ?_)
    · replace hf := ip qu3 hf
      obtain rfl := Option.some.inj hf
      exact r_return d_Se_nearestFrom_95 rfl rfl
    · replace hf := im qu3 hf
      refine r_iload_n 2 d_Se_nearestFrom_32 rfl rfl ?_
      refine r_iload d_Se_nearestFrom_33 rfl ?_
      refine r_aload_n 0 d_Se_nearestFrom_35 rfl rfl ?_
      refine r_getR 22 d_Se_nearestFrom_36 fl_Se_15 sh_20 rfl rf_20_1 ?_
      refine r_iload_n 1 d_Se_nearestFrom_39 rfl rfl ?_
      obtain ⟨qu4, hf⟩ := ck hf
      refine r_iald d_Se_nearestFrom_40 sh_22 qu4 ?_
      refine r_ishl d_Se_nearestFrom_41 ?_
      refine r_ior d_Se_nearestFrom_42 ?_
      refine nmI (fun xu5 hxu5 => ?_)
      replace hf := lt_of hxu5 hf
      refine r_istore (lv' := [some (.ref 20), some (.int p1), some (.int p2), some (.int p3), some (.int xu2), some (.int z5_25), some (.int xu5), none]) d_Se_nearestFrom_43 (by decide) rfl ?_
      refine r_aload_n 0 d_Se_nearestFrom_45 rfl rfl ?_
      refine r_iload d_Se_nearestFrom_46 rfl ?_
      refine r_iload_n 1 d_Se_nearestFrom_48 rfl rfl ?_
      obtain ⟨vu6, evu6, hf⟩ := bnd hf
      refine r_callV [.int xu5, .int p1] d_Se_nearestFrom_49 lk_Se_112 sh_20 (cm_Se_keepsBars evu6) (by omega) rfl rfl (Nat.le_of_ble_eq_true rfl) ?_
      obtain ⟨ju7, hju7, hf⟩ := lt_ex hf
      have Kju7 : ∀ (Mu8 : Mm), ju7 Mu8 = some ru → SW G (4 + (dd + 1)) c_Se_nearestFrom R_Se 8 none (none, ru) Mu8 89 [some (.ref 20), some (.int p1), some (.int p2), some (.int p3), some (.int xu2), some (.int z5_25), none, none] [] := by
        intro Mu8 hf
        rw [hju7] at hf
        obtain ⟨xu9, hxu9⟩ : ∃ y : Int32, y = z5_25 + 1 := ⟨_, rfl⟩
        replace hf := lt_of hxu9 hf
        refine r_iinc (lv' := [some (.ref 20), some (.int p1), some (.int p2), some (.int p3), some (.int xu2), some (.int xu9), none, none]) d_Se_nearestFrom_89 rfl (by rw [hxu9]; rfl) (by decide) rfl ?_
        refine r_goto 25 d_Se_nearestFrom_92 (by decide) ?_
        exact ih xu9 Mu8  hf
      refine r_if_eq 89 d_Se_nearestFrom_52 (by decide) (fun qu10 => ?_) (fun qu10 => ?_)
      · replace hf := ip qu10 hf
        refine r_weak [6] (lv' := [some (.ref 20), some (.int p1), some (.int p2), some (.int p3), some (.int xu2), some (.int z5_25), none, none]) rfl ?_
        exact Kju7 M_25  hf
      · replace hf := im qu10 hf
        refine r_iload_n 3 d_Se_nearestFrom_55 rfl rfl ?_
        refine r_aload_n 0 d_Se_nearestFrom_56 rfl rfl ?_
        refine r_iload d_Se_nearestFrom_57 rfl ?_
        refine r_iload_n 1 d_Se_nearestFrom_59 rfl rfl ?_
        obtain ⟨vu11, evu11, hf⟩ := bnd hf
        refine r_callV [.int xu5, .int p1] d_Se_nearestFrom_60 lk_Se_116 sh_20 (cm_Se_alikeBelow evu11) (by omega) rfl rfl (Nat.le_of_ble_eq_true rfl) ?_
        refine r_iadd d_Se_nearestFrom_63 ?_
        refine nmI (fun xu12 hxu12 => ?_)
        replace hf := lt_of hxu12 hf
        refine r_istore (lv' := [some (.ref 20), some (.int p1), some (.int p2), some (.int p3), some (.int xu2), some (.int z5_25), some (.int xu5), some (.int xu12)]) d_Se_nearestFrom_64 (by decide) rfl ?_
        refine r_aload_n 0 d_Se_nearestFrom_66 rfl rfl ?_
        refine r_iload d_Se_nearestFrom_67 rfl ?_
        refine r_iload_n 1 d_Se_nearestFrom_69 rfl rfl ?_
        refine r_iload d_Se_nearestFrom_70 rfl ?_
        obtain ⟨vu13, evu13, hf⟩ := bnd hf
        refine r_callV [.int xu5, .int p1, .int xu12] d_Se_nearestFrom_72 lk_Se_119 sh_20 (cm_Se_canWin evu13) (by omega) rfl rfl (Nat.le_of_ble_eq_true rfl) ?_
        refine r_if_eq 89 d_Se_nearestFrom_75 (by decide) (fun qu14 => ?_) (fun qu14 => ?_)
        · replace hf := ip qu14 hf
          refine r_weak [6, 7] (lv' := [some (.ref 20), some (.int p1), some (.int p2), some (.int p3), some (.int xu2), some (.int z5_25), none, none]) rfl ?_
          exact Kju7 M_25  hf
        · replace hf := im qu14 hf
          refine r_aload_n 0 d_Se_nearestFrom_78 rfl rfl ?_
          refine r_iload_n 1 d_Se_nearestFrom_79 rfl rfl ?_
          refine r_iconst (v := 1) d_Se_nearestFrom_80 (by decide) ?_
          refine r_iadd d_Se_nearestFrom_81 ?_
          refine r_iload d_Se_nearestFrom_82 rfl ?_
          refine r_iload d_Se_nearestFrom_84 rfl ?_
          obtain ⟨vu15, evu15, hf⟩ := bnd hf
          refine r_callS [.ref 20, .int (p1 + 1), .int xu5, .int xu12] d_Se_nearestFrom_86 lk_Se_25 (hrecU (p1 + 1) xu5 xu12 M_25 vu15 evu15) (by omega) rfl rfl (Nat.le_of_ble_eq_true rfl) ?_
          refine r_weak [6, 7] (lv' := [some (.ref 20), some (.int p1), some (.int p2), some (.int p3), some (.int xu2), some (.int z5_25), none, none]) rfl ?_
          exact Kju7 vu15  hf
theorem cm_Se_nearestFrom {G : GT} {Nu : Nat} : ∀ (dd : Nat) (p1 : Int32) (p2 : Int32) (p3 : Int32) (Mu : Mm) (ru : Mm), f_Se_nearestFrom Nu dd p1 p2 p3 Mu = some ru → CM G (4 + dd) y_Se_nearestFrom c_Se_nearestFrom 8 none (none, ru) Mu [.ref 20, .int p1, .int p2, .int p3]
  | 0, _, _, _, _, ru, hf => by cases hf
  | dd + 1, p1, p2, p3, Mu, ru, hf => by
    rw [f_Se_nearestFrom] at hf
    refine CM.of (own := R_Se) (lv := [some (.ref 20), some (.int p1), some (.int p2), some (.int p3), none, none, none, none]) (by decide) rfl (Nat.le_of_ble_eq_true rfl) rfl ?_
    refine r_iload_n 1 d_Se_nearestFrom_0 rfl rfl ?_
    refine r_aload_n 0 d_Se_nearestFrom_1 rfl rfl ?_
    refine r_getI d_Se_nearestFrom_2 fl_Se_57 sh_20 (by decide) ?_
    refine r_icmp_lt 15 d_Se_nearestFrom_5 (by decide) (fun qu1 => ?_) (fun qu1 => ?_)
    · replace hf := ip qu1 hf
      refine r_aload_n 0 d_Se_nearestFrom_15 rfl rfl ?_
      refine r_iload_n 1 d_Se_nearestFrom_16 rfl rfl ?_
      refine r_callV [.int p1] d_Se_nearestFrom_17 lk_Se_108 sh_20 (cm_Se_rowsOf p1 Mu) (by omega) rfl rfl (Nat.le_of_ble_eq_true rfl) ?_
      refine nmI (fun xu2 hxu2 => ?_)
      replace hf := lt_of hxu2 hf
      refine r_istore (lv' := [some (.ref 20), some (.int p1), some (.int p2), some (.int p3), some (.int xu2), none, none, none]) d_Se_nearestFrom_20 (by decide) rfl ?_
      refine r_iconst (v := 0) d_Se_nearestFrom_22 (by decide) ?_
      refine r_istore (lv' := [some (.ref 20), some (.int p1), some (.int p2), some (.int p3), some (.int xu2), some (.int 0), none, none]) d_Se_nearestFrom_23 (by decide) rfl ?_
      exact l_Se_nearestFrom_25 (G := G) (ru := ru) Nu p1 p2 p3 xu2 (f_Se_nearestFrom Nu dd) dd   (cm_Se_nearestFrom dd) Nu 0 Mu hf
    · replace hf := im qu1 hf
      refine r_aload_n 0 d_Se_nearestFrom_8 rfl rfl ?_
      refine r_iload_n 2 d_Se_nearestFrom_9 rfl rfl ?_
      refine r_iload_n 3 d_Se_nearestFrom_10 rfl rfl ?_
      obtain ⟨vu16, evu16, hf⟩ := bnd hf
      refine r_callV [.int p2, .int p3] d_Se_nearestFrom_11 lk_Se_104 sh_20 (cm_Se_take evu16) (by omega) rfl rfl (Nat.le_of_ble_eq_true rfl) ?_
      obtain rfl := Option.some.inj hf
      exact r_return d_Se_nearestFrom_14 rfl rfl
def f_Se_findNearest (Nu : Nat) (p0 : Nat) (Mu : Mm) : Option (Mm) := (f_Se_begin Nu p0 Mu).bind fun vu1 => (f_Se_nearestFrom Nu 20 0 0 0 vu1).bind fun vu2 => some vu2
theorem cm_Se_findNearest {G : GT} {Nu : Nat} {p0 : Nat} {Mu : Mm}  {ru : Mm} (h_p0 : sh p0 = (5, 0)) (hf : f_Se_findNearest Nu p0 Mu = some ru) : CM G 25 y_Se_findNearest c_Se_findNearest 2 none (none, ru) Mu [.ref 20, .ref p0] := by
  unfold f_Se_findNearest at hf
  refine CM.of (own := R_Se) (lv := [some (.ref 20), some (.ref p0)]) (by decide) rfl (Nat.le_of_ble_eq_true rfl) rfl ?_
  refine r_aload_n 0 d_Se_findNearest_0 rfl rfl ?_
  refine r_aload_n 1 d_Se_findNearest_1 rfl rfl ?_
  obtain ⟨vu1, evu1, hf⟩ := bnd hf
  refine r_callV [.ref p0] d_Se_findNearest_2 lk_Se_21 sh_20 (cm_Se_begin h_p0 evu1) (by decide) rfl rfl (Nat.le_of_ble_eq_true rfl) ?_
  refine r_aload_n 0 d_Se_findNearest_5 rfl rfl ?_
  refine r_iconst (v := 0) d_Se_findNearest_6 (by decide) ?_
  refine r_iconst (v := 0) d_Se_findNearest_7 (by decide) ?_
  refine r_iconst (v := 0) d_Se_findNearest_8 (by decide) ?_
  obtain ⟨vu2, evu2, hf⟩ := bnd hf
  refine r_callS [.ref 20, .int 0, .int 0, .int 0] d_Se_findNearest_9 lk_Se_25 (cm_Se_nearestFrom 20 0 0 0 vu1 vu2 evu2) (by omega) rfl rfl (Nat.le_of_ble_eq_true rfl) ?_
  obtain rfl := Option.some.inj hf
  exact r_return d_Se_findNearest_12 rfl rfl
def L_Se_evenFrom_25 (Nu : Nat) (p1 : Int32) (p2 : Int32) (p3 : Int32) (xu2 : Int32) (frecU : Int32 → Int32 → Int32 → Mm → Option (Mm)) : Nat → Int32 → Mm → Option (Mm)
  | 0, _, _ => none
  | nu + 1, z5_25, M_25 => if xu2 ≤ z5_25 then some M_25 else if inb p1 7 = true then lt (p2 ||| (z5_25 <<< ((M_25.1 22 (Int32.toNatClampNeg p1)) &&& 31))) fun xu5 => (f_Se_countIn xu5 p1 M_25).bind fun vu6 => lt (fun (Mu8 : Mm) => lt (z5_25 + 1) fun xu9 => L_Se_evenFrom_25 Nu p1 p2 p3 xu2 frecU nu xu9 Mu8) fun ju7 => if vu6 = p3 then (f_Se_keepsBars xu5 p1 M_25).bind fun vu11 => if vu11 = 0 then ju7 M_25 else (f_Se_priceTo xu5 p1 M_25).bind fun vu13 => if (M_25.1 20 11) < vu13 then ju7 M_25 else (frecU (p1 + 1) xu5 p3 M_25).bind fun vu15 => ju7 vu15 else ju7 M_25 else none
def f_Se_evenFrom (Nu : Nat) : Nat → Int32 → Int32 → Int32 → Mm → Option (Mm)
  | 0, _, _, _, _ => none
  | dd + 1, p1, p2, p3, Mu => if p1 < (Mu.1 20 3) then lt (f_Se_rowsOf p1 Mu) fun xu2 => L_Se_evenFrom_25 Nu p1 p2 p3 xu2 (f_Se_evenFrom Nu dd) Nu 0 Mu else (f_Se_take p2 0 Mu).bind fun vu16 => some vu16
theorem l_Se_evenFrom_25 {G : GT} {ru : Mm} (Nu : Nat) (p1 : Int32) (p2 : Int32) (p3 : Int32) (xu2 : Int32) (frecU : Int32 → Int32 → Int32 → Mm → Option (Mm)) (dd : Nat)   (hrecU : ∀ (p1 : Int32) (p2 : Int32) (p3 : Int32) (Mu : Mm) (ru : Mm), frecU p1 p2 p3 Mu = some ru → CM G (4 + dd) y_Se_evenFrom c_Se_evenFrom 7 none (none, ru) Mu [.ref 20, .int p1, .int p2, .int p3]) : ∀ (nu : Nat) (z5_25 : Int32) (M_25 : Mm), L_Se_evenFrom_25 Nu p1 p2 p3 xu2 frecU nu z5_25 M_25 = some ru → SW G (4 + (dd + 1)) c_Se_evenFrom R_Se 7 none (none, ru) M_25 25 [some (.ref 20), some (.int p1), some (.int p2), some (.int p3), some (.int xu2), some (.int z5_25), none] []
  | 0, _, _, hf => by cases hf
  | nu + 1, z5_25, M_25, hf => by
    have ih := l_Se_evenFrom_25 (G := G) (ru := ru) Nu p1 p2 p3 xu2 frecU dd   hrecU nu
    rw [L_Se_evenFrom_25] at hf
    refine r_iload d_Se_evenFrom_25 rfl ?_
    refine r_iload d_Se_evenFrom_27 rfl ?_
    refine r_icmp_ge 96 d_Se_evenFrom_29 (by decide) (fun qu3 => ?_) (fun qu3 => ?_)
    · replace hf := ip qu3 hf
      obtain rfl := Option.some.inj hf
      exact r_return d_Se_evenFrom_96 rfl rfl
    · replace hf := im qu3 hf
      refine r_iload_n 2 d_Se_evenFrom_32 rfl rfl ?_
      refine r_iload d_Se_evenFrom_33 rfl ?_
      refine r_aload_n 0 d_Se_evenFrom_35 rfl rfl ?_
      refine r_getR 22 d_Se_evenFrom_36 fl_Se_15 sh_20 rfl rf_20_1 ?_
      refine r_iload_n 1 d_Se_evenFrom_39 rfl rfl ?_
      obtain ⟨qu4, hf⟩ := ck hf
      refine r_iald d_Se_evenFrom_40 sh_22 qu4 ?_
      refine r_ishl d_Se_evenFrom_41 ?_
      refine r_ior d_Se_evenFrom_42 ?_
      refine nmI (fun xu5 hxu5 => ?_)
      replace hf := lt_of hxu5 hf
      refine r_istore (lv' := [some (.ref 20), some (.int p1), some (.int p2), some (.int p3), some (.int xu2), some (.int z5_25), some (.int xu5)]) d_Se_evenFrom_43 (by decide) rfl ?_
      refine r_aload_n 0 d_Se_evenFrom_45 rfl rfl ?_
      refine r_iload d_Se_evenFrom_46 rfl ?_
      refine r_iload_n 1 d_Se_evenFrom_48 rfl rfl ?_
      obtain ⟨vu6, evu6, hf⟩ := bnd hf
      refine r_callV [.int xu5, .int p1] d_Se_evenFrom_49 lk_Se_123 sh_20 (cm_Se_countIn evu6) (by omega) rfl rfl (Nat.le_of_ble_eq_true rfl) ?_
      refine r_iload_n 3 d_Se_evenFrom_52 rfl rfl ?_
      obtain ⟨ju7, hju7, hf⟩ := lt_ex hf
      have Kju7 : ∀ (Mu8 : Mm), ju7 Mu8 = some ru → SW G (4 + (dd + 1)) c_Se_evenFrom R_Se 7 none (none, ru) Mu8 90 [some (.ref 20), some (.int p1), some (.int p2), some (.int p3), some (.int xu2), some (.int z5_25), none] [] := by
        intro Mu8 hf
        rw [hju7] at hf
        obtain ⟨xu9, hxu9⟩ : ∃ y : Int32, y = z5_25 + 1 := ⟨_, rfl⟩
        replace hf := lt_of hxu9 hf
        refine r_iinc (lv' := [some (.ref 20), some (.int p1), some (.int p2), some (.int p3), some (.int xu2), some (.int xu9), none]) d_Se_evenFrom_90 rfl (by rw [hxu9]; rfl) (by decide) rfl ?_
        refine r_goto 25 d_Se_evenFrom_93 (by decide) ?_
        exact ih xu9 Mu8  hf
      refine r_icmp_ne 90 d_Se_evenFrom_53 (by decide) (fun qu10 => ?_) (fun qu10 => ?_)
      · replace hf := im qu10 hf
        refine r_weak [6] (lv' := [some (.ref 20), some (.int p1), some (.int p2), some (.int p3), some (.int xu2), some (.int z5_25), none]) rfl ?_
        exact Kju7 M_25  hf
      · replace hf := ip qu10 hf
        refine r_aload_n 0 d_Se_evenFrom_56 rfl rfl ?_
        refine r_iload d_Se_evenFrom_57 rfl ?_
        refine r_iload_n 1 d_Se_evenFrom_59 rfl rfl ?_
        obtain ⟨vu11, evu11, hf⟩ := bnd hf
        refine r_callV [.int xu5, .int p1] d_Se_evenFrom_60 lk_Se_112 sh_20 (cm_Se_keepsBars evu11) (by omega) rfl rfl (Nat.le_of_ble_eq_true rfl) ?_
        refine r_if_eq 90 d_Se_evenFrom_63 (by decide) (fun qu12 => ?_) (fun qu12 => ?_)
        · replace hf := ip qu12 hf
          refine r_weak [6] (lv' := [some (.ref 20), some (.int p1), some (.int p2), some (.int p3), some (.int xu2), some (.int z5_25), none]) rfl ?_
          exact Kju7 M_25  hf
        · replace hf := im qu12 hf
          refine r_aload_n 0 d_Se_evenFrom_66 rfl rfl ?_
          refine r_iload d_Se_evenFrom_67 rfl ?_
          refine r_iload_n 1 d_Se_evenFrom_69 rfl rfl ?_
          obtain ⟨vu13, evu13, hf⟩ := bnd hf
          refine r_callV [.int xu5, .int p1] d_Se_evenFrom_70 lk_Se_126 sh_20 (cm_Se_priceTo evu13) (by omega) rfl rfl (Nat.le_of_ble_eq_true rfl) ?_
          refine r_aload_n 0 d_Se_evenFrom_73 rfl rfl ?_
          refine r_getI d_Se_evenFrom_74 fl_Se_32 sh_20 (by decide) ?_
          refine r_icmp_gt 90 d_Se_evenFrom_77 (by decide) (fun qu14 => ?_) (fun qu14 => ?_)
          · replace hf := ip qu14 hf
            refine r_weak [6] (lv' := [some (.ref 20), some (.int p1), some (.int p2), some (.int p3), some (.int xu2), some (.int z5_25), none]) rfl ?_
            exact Kju7 M_25  hf
          · replace hf := im qu14 hf
            refine r_aload_n 0 d_Se_evenFrom_80 rfl rfl ?_
            refine r_iload_n 1 d_Se_evenFrom_81 rfl rfl ?_
            refine r_iconst (v := 1) d_Se_evenFrom_82 (by decide) ?_
            refine r_iadd d_Se_evenFrom_83 ?_
            refine r_iload d_Se_evenFrom_84 rfl ?_
            refine r_iload_n 3 d_Se_evenFrom_86 rfl rfl ?_
            obtain ⟨vu15, evu15, hf⟩ := bnd hf
            refine r_callS [.ref 20, .int (p1 + 1), .int xu5, .int p3] d_Se_evenFrom_87 lk_Se_29 (hrecU (p1 + 1) xu5 p3 M_25 vu15 evu15) (by omega) rfl rfl (Nat.le_of_ble_eq_true rfl) ?_
            refine r_weak [6] (lv' := [some (.ref 20), some (.int p1), some (.int p2), some (.int p3), some (.int xu2), some (.int z5_25), none]) rfl ?_
            exact Kju7 vu15  hf
theorem cm_Se_evenFrom {G : GT} {Nu : Nat} : ∀ (dd : Nat) (p1 : Int32) (p2 : Int32) (p3 : Int32) (Mu : Mm) (ru : Mm), f_Se_evenFrom Nu dd p1 p2 p3 Mu = some ru → CM G (4 + dd) y_Se_evenFrom c_Se_evenFrom 7 none (none, ru) Mu [.ref 20, .int p1, .int p2, .int p3]
  | 0, _, _, _, _, ru, hf => by cases hf
  | dd + 1, p1, p2, p3, Mu, ru, hf => by
    rw [f_Se_evenFrom] at hf
    refine CM.of (own := R_Se) (lv := [some (.ref 20), some (.int p1), some (.int p2), some (.int p3), none, none, none]) (by decide) rfl (Nat.le_of_ble_eq_true rfl) rfl ?_
    refine r_iload_n 1 d_Se_evenFrom_0 rfl rfl ?_
    refine r_aload_n 0 d_Se_evenFrom_1 rfl rfl ?_
    refine r_getI d_Se_evenFrom_2 fl_Se_57 sh_20 (by decide) ?_
    refine r_icmp_lt 15 d_Se_evenFrom_5 (by decide) (fun qu1 => ?_) (fun qu1 => ?_)
    · replace hf := ip qu1 hf
      refine r_aload_n 0 d_Se_evenFrom_15 rfl rfl ?_
      refine r_iload_n 1 d_Se_evenFrom_16 rfl rfl ?_
      refine r_callV [.int p1] d_Se_evenFrom_17 lk_Se_108 sh_20 (cm_Se_rowsOf p1 Mu) (by omega) rfl rfl (Nat.le_of_ble_eq_true rfl) ?_
      refine nmI (fun xu2 hxu2 => ?_)
      replace hf := lt_of hxu2 hf
      refine r_istore (lv' := [some (.ref 20), some (.int p1), some (.int p2), some (.int p3), some (.int xu2), none, none]) d_Se_evenFrom_20 (by decide) rfl ?_
      refine r_iconst (v := 0) d_Se_evenFrom_22 (by decide) ?_
      refine r_istore (lv' := [some (.ref 20), some (.int p1), some (.int p2), some (.int p3), some (.int xu2), some (.int 0), none]) d_Se_evenFrom_23 (by decide) rfl ?_
      exact l_Se_evenFrom_25 (G := G) (ru := ru) Nu p1 p2 p3 xu2 (f_Se_evenFrom Nu dd) dd   (cm_Se_evenFrom dd) Nu 0 Mu hf
    · replace hf := im qu1 hf
      refine r_aload_n 0 d_Se_evenFrom_8 rfl rfl ?_
      refine r_iload_n 2 d_Se_evenFrom_9 rfl rfl ?_
      refine r_iconst (v := 0) d_Se_evenFrom_10 (by decide) ?_
      obtain ⟨vu16, evu16, hf⟩ := bnd hf
      refine r_callV [.int p2, .int 0] d_Se_evenFrom_11 lk_Se_104 sh_20 (cm_Se_take evu16) (by omega) rfl rfl (Nat.le_of_ble_eq_true rfl) ?_
      obtain rfl := Option.some.inj hf
      exact r_return d_Se_evenFrom_14 rfl rfl
def f_Se_findEven (Nu : Nat) (p0 : Nat) (p1 : Int32) (Mu : Mm) : Option (Mm) := (f_Se_begin Nu p0 Mu).bind fun vu1 => (f_Se_evenFrom Nu 20 0 0 p1 vu1).bind fun vu2 => if (vu2.1 20 11) = 1000000 then lt (si vu2 20 11 (-1)) fun Mu4 => lt (si Mu4 20 12 (-1)) fun Mu5 => some Mu5 else some vu2
theorem cm_Se_findEven {G : GT} {Nu : Nat} {p0 : Nat} {p1 : Int32} {Mu : Mm}  {ru : Mm} (h_p0 : sh p0 = (5, 0)) (hf : f_Se_findEven Nu p0 p1 Mu = some ru) : CM G 25 y_Se_findEven c_Se_findEven 3 none (none, ru) Mu [.ref 20, .ref p0, .int p1] := by
  unfold f_Se_findEven at hf
  refine CM.of (own := R_Se) (lv := [some (.ref 20), some (.ref p0), some (.int p1)]) (by decide) rfl (Nat.le_of_ble_eq_true rfl) rfl ?_
  refine r_aload_n 0 d_Se_findEven_0 rfl rfl ?_
  refine r_aload_n 1 d_Se_findEven_1 rfl rfl ?_
  obtain ⟨vu1, evu1, hf⟩ := bnd hf
  refine r_callV [.ref p0] d_Se_findEven_2 lk_Se_21 sh_20 (cm_Se_begin h_p0 evu1) (by decide) rfl rfl (Nat.le_of_ble_eq_true rfl) ?_
  refine r_aload_n 0 d_Se_findEven_5 rfl rfl ?_
  refine r_iconst (v := 0) d_Se_findEven_6 (by decide) ?_
  refine r_iconst (v := 0) d_Se_findEven_7 (by decide) ?_
  refine r_iload_n 2 d_Se_findEven_8 rfl rfl ?_
  obtain ⟨vu2, evu2, hf⟩ := bnd hf
  refine r_callS [.ref 20, .int 0, .int 0, .int p1] d_Se_findEven_9 lk_Se_29 (cm_Se_evenFrom 20 0 0 p1 vu1 vu2 evu2) (by omega) rfl rfl (Nat.le_of_ble_eq_true rfl) ?_
  refine r_aload_n 0 d_Se_findEven_12 rfl rfl ?_
  refine r_getI d_Se_findEven_13 fl_Se_32 sh_20 (by decide) ?_
  refine r_ldc d_Se_findEven_16 k_Se_36 ?_
  refine r_icmp_ne 31 d_Se_findEven_18 (by decide) (fun qu3 => ?_) (fun qu3 => ?_)
  · replace hf := im qu3 hf
    obtain rfl := Option.some.inj hf
    exact r_return d_Se_findEven_31 rfl rfl
  · replace hf := ip qu3 hf
    refine r_aload_n 0 d_Se_findEven_21 rfl rfl ?_
    refine r_iconst (v := (-1)) d_Se_findEven_22 (by decide) ?_
    refine r_putI d_Se_findEven_23 fl_Se_32 sh_20 (Or.inl rfl) rfl ?_
    refine nmM (fun Mu4 hMu4 => ?_)
    replace hf := lt_of hMu4 hf
    refine r_aload_n 0 d_Se_findEven_26 rfl rfl ?_
    refine r_iconst (v := (-1)) d_Se_findEven_27 (by decide) ?_
    refine r_putI d_Se_findEven_28 fl_Se_37 sh_20 (Or.inl rfl) rfl ?_
    refine nmM (fun Mu5 hMu5 => ?_)
    replace hf := lt_of hMu5 hf
    obtain rfl := Option.some.inj hf
    exact r_return d_Se_findEven_31 rfl rfl
def f_Se_noteTold (p0 : Int32) (p1 : Int32) (Mu : Mm) : Mm := if p1 = 0 then lt (si Mu 20 13 ((Mu.1 20 13) + 1)) fun Mu3 => lt (si Mu3 20 14 ((Mu3.1 20 14) &&& p0)) fun Mu4 => lt (si Mu4 20 15 ((Mu4.1 20 15) ||| p0)) fun Mu5 => Mu5 else lt (si Mu 20 16 ((Mu.1 20 16) ||| p1)) fun Mu2 => Mu2
theorem cm_Se_noteTold {G : GT} (p0 : Int32) (p1 : Int32) (Mu : Mm)   : CM G 1 y_Se_noteTold c_Se_noteTold 3 none (none, (f_Se_noteTold p0 p1 Mu)) Mu [.ref 20, .int p0, .int p1] := by
  generalize hf : f_Se_noteTold p0 p1 Mu = ru
  unfold f_Se_noteTold at hf
  refine CM.of (own := R_Se) (lv := [some (.ref 20), some (.int p0), some (.int p1)]) (by decide) rfl (Nat.le_of_ble_eq_true rfl) rfl ?_
  refine r_iload_n 2 d_Se_noteTold_0 rfl rfl ?_
  refine r_if_ne 37 d_Se_noteTold_1 (by decide) (fun qu1 => ?_) (fun qu1 => ?_)
  · replace hf := im qu1 hf
    refine r_aload_n 0 d_Se_noteTold_37 rfl rfl ?_
    refine r_dup d_Se_noteTold_38 rfl ?_
    refine r_getI d_Se_noteTold_39 fl_Se_98 sh_20 (by decide) ?_
    refine r_iload_n 2 d_Se_noteTold_42 rfl rfl ?_
    refine r_ior d_Se_noteTold_43 ?_
    refine r_putI d_Se_noteTold_44 fl_Se_98 sh_20 (Or.inl rfl) rfl ?_
    refine nmM (fun Mu2 hMu2 => ?_)
    replace hf := lt_of hMu2 hf
    subst hf
    exact r_return d_Se_noteTold_47 rfl rfl
  · replace hf := ip qu1 hf
    refine r_aload_n 0 d_Se_noteTold_4 rfl rfl ?_
    refine r_dup d_Se_noteTold_5 rfl ?_
    refine r_getI d_Se_noteTold_6 fl_Se_89 sh_20 (by decide) ?_
    refine r_iconst (v := 1) d_Se_noteTold_9 (by decide) ?_
    refine r_iadd d_Se_noteTold_10 ?_
    refine r_putI d_Se_noteTold_11 fl_Se_89 sh_20 (Or.inl rfl) rfl ?_
    refine nmM (fun Mu3 hMu3 => ?_)
    replace hf := lt_of hMu3 hf
    refine r_aload_n 0 d_Se_noteTold_14 rfl rfl ?_
    refine r_dup d_Se_noteTold_15 rfl ?_
    refine r_getI d_Se_noteTold_16 fl_Se_92 sh_20 (by decide) ?_
    refine r_iload_n 1 d_Se_noteTold_19 rfl rfl ?_
    refine r_iand d_Se_noteTold_20 ?_
    refine r_putI d_Se_noteTold_21 fl_Se_92 sh_20 (Or.inl rfl) rfl ?_
    refine nmM (fun Mu4 hMu4 => ?_)
    replace hf := lt_of hMu4 hf
    refine r_aload_n 0 d_Se_noteTold_24 rfl rfl ?_
    refine r_dup d_Se_noteTold_25 rfl ?_
    refine r_getI d_Se_noteTold_26 fl_Se_95 sh_20 (by decide) ?_
    refine r_iload_n 1 d_Se_noteTold_29 rfl rfl ?_
    refine r_ior d_Se_noteTold_30 ?_
    refine r_putI d_Se_noteTold_31 fl_Se_95 sh_20 (Or.inl rfl) rfl ?_
    refine nmM (fun Mu5 hMu5 => ?_)
    replace hf := lt_of hMu5 hf
    refine r_goto 47 d_Se_noteTold_34 (by decide) ?_
    subst hf
    exact r_return d_Se_noteTold_47 rfl rfl
def L_Se_toldFrom_25 (Nu : Nat) (p1 : Int32) (p2 : Int32) (p3 : Int32) (xu2 : Int32) (frecU : Int32 → Int32 → Int32 → Mm → Option (Mm)) : Nat → Int32 → Mm → Option (Mm)
  | 0, _, _ => none
  | nu + 1, z5_25, M_25 => if xu2 ≤ z5_25 then some M_25 else if inb p1 7 = true then lt (p2 ||| (z5_25 <<< ((M_25.1 22 (Int32.toNatClampNeg p1)) &&& 31))) fun xu5 => (f_Se_countIn xu5 p1 M_25).bind fun vu6 => if inb p1 6 = true then lt (fun (xu9 : Int32) => lt (fun (Mu11 : Mm) => lt (z5_25 + 1) fun xu12 => L_Se_toldFrom_25 Nu p1 p2 p3 xu2 frecU nu xu12 Mu11) fun ju10 => if (M_25.1 20 9) < (f_In_bitCount xu9) then ju10 M_25 else (frecU (p1 + 1) xu5 xu9 M_25).bind fun vu14 => ju10 vu14) fun ju8 => if vu6 = (M_25.1 23 (Int32.toNatClampNeg p1)) then ju8 p3 else ju8 (p3 ||| ((1 : Int32) <<< (p1 &&& 31))) else none else none
def f_Se_toldFrom (Nu : Nat) : Nat → Int32 → Int32 → Int32 → Mm → Option (Mm)
  | 0, _, _, _, _ => none
  | dd + 1, p1, p2, p3, Mu => if p1 < (Mu.1 20 3) then lt (f_Se_rowsOf p1 Mu) fun xu2 => L_Se_toldFrom_25 Nu p1 p2 p3 xu2 (f_Se_toldFrom Nu dd) Nu 0 Mu else lt (f_Se_noteTold p2 p3 Mu) fun Mu16 => some Mu16
theorem l_Se_toldFrom_25 {G : GT} {ru : Mm} (Nu : Nat) (p1 : Int32) (p2 : Int32) (p3 : Int32) (xu2 : Int32) (frecU : Int32 → Int32 → Int32 → Mm → Option (Mm)) (dd : Nat)   (hrecU : ∀ (p1 : Int32) (p2 : Int32) (p3 : Int32) (Mu : Mm) (ru : Mm), frecU p1 p2 p3 Mu = some ru → CM G (3 + dd) y_Se_toldFrom c_Se_toldFrom 8 none (none, ru) Mu [.ref 20, .int p1, .int p2, .int p3]) : ∀ (nu : Nat) (z5_25 : Int32) (M_25 : Mm), L_Se_toldFrom_25 Nu p1 p2 p3 xu2 frecU nu z5_25 M_25 = some ru → SW G (3 + (dd + 1)) c_Se_toldFrom R_Se 8 none (none, ru) M_25 25 [some (.ref 20), some (.int p1), some (.int p2), some (.int p3), some (.int xu2), some (.int z5_25), none, none] []
  | 0, _, _, hf => by cases hf
  | nu + 1, z5_25, M_25, hf => by
    have ih := l_Se_toldFrom_25 (G := G) (ru := ru) Nu p1 p2 p3 xu2 frecU dd   hrecU nu
    rw [L_Se_toldFrom_25] at hf
    refine r_iload d_Se_toldFrom_25 rfl ?_
    refine r_iload d_Se_toldFrom_27 rfl ?_
    refine r_icmp_ge 101 d_Se_toldFrom_29 (by decide) (fun qu3 => ?_) (fun qu3 => ?_)
    · replace hf := ip qu3 hf
      obtain rfl := Option.some.inj hf
      exact r_return d_Se_toldFrom_101 rfl rfl
    · replace hf := im qu3 hf
      refine r_iload_n 2 d_Se_toldFrom_32 rfl rfl ?_
      refine r_iload d_Se_toldFrom_33 rfl ?_
      refine r_aload_n 0 d_Se_toldFrom_35 rfl rfl ?_
      refine r_getR 22 d_Se_toldFrom_36 fl_Se_15 sh_20 rfl rf_20_1 ?_
      refine r_iload_n 1 d_Se_toldFrom_39 rfl rfl ?_
      obtain ⟨qu4, hf⟩ := ck hf
      refine r_iald d_Se_toldFrom_40 sh_22 qu4 ?_
      refine r_ishl d_Se_toldFrom_41 ?_
      refine r_ior d_Se_toldFrom_42 ?_
      refine nmI (fun xu5 hxu5 => ?_)
      replace hf := lt_of hxu5 hf
      refine r_istore (lv' := [some (.ref 20), some (.int p1), some (.int p2), some (.int p3), some (.int xu2), some (.int z5_25), some (.int xu5), none]) d_Se_toldFrom_43 (by decide) rfl ?_
      refine r_aload_n 0 d_Se_toldFrom_45 rfl rfl ?_
      refine r_iload d_Se_toldFrom_46 rfl ?_
      refine r_iload_n 1 d_Se_toldFrom_48 rfl rfl ?_
      obtain ⟨vu6, evu6, hf⟩ := bnd hf
      refine r_callV [.int xu5, .int p1] d_Se_toldFrom_49 lk_Se_123 sh_20 (cm_Se_countIn evu6) (by omega) rfl rfl (Nat.le_of_ble_eq_true rfl) ?_
      refine r_aload_n 0 d_Se_toldFrom_52 rfl rfl ?_
      refine r_getR 23 d_Se_toldFrom_53 fl_Se_18 sh_20 rfl rf_20_2 ?_
      refine r_iload_n 1 d_Se_toldFrom_56 rfl rfl ?_
      obtain ⟨qu7, hf⟩ := ck hf
      refine r_iald d_Se_toldFrom_57 sh_23 qu7 ?_
      obtain ⟨ju8, hju8, hf⟩ := lt_ex hf
      have Kju8 : ∀ (xu9 : Int32), ju8 xu9 = some ru → SW G (3 + (dd + 1)) c_Se_toldFrom R_Se 8 none (none, ru) M_25 70 [some (.ref 20), some (.int p1), some (.int p2), some (.int p3), some (.int xu2), some (.int z5_25), some (.int xu5), none] [.int xu9] := by
        intro xu9 hf
        rw [hju8] at hf
        refine r_istore (lv' := [some (.ref 20), some (.int p1), some (.int p2), some (.int p3), some (.int xu2), some (.int z5_25), some (.int xu5), some (.int xu9)]) d_Se_toldFrom_70 (by decide) rfl ?_
        refine r_iload d_Se_toldFrom_72 rfl ?_
        refine r_callS [.int xu9] d_Se_toldFrom_74 lk_Se_132 (cm_In_bitCount xu9 M_25) (by omega) rfl rfl (Nat.le_of_ble_eq_true rfl) ?_
        refine r_aload_n 0 d_Se_toldFrom_77 rfl rfl ?_
        refine r_getI d_Se_toldFrom_78 fl_Se_40 sh_20 (by decide) ?_
        obtain ⟨ju10, hju10, hf⟩ := lt_ex hf
        have Kju10 : ∀ (Mu11 : Mm), ju10 Mu11 = some ru → SW G (3 + (dd + 1)) c_Se_toldFrom R_Se 8 none (none, ru) Mu11 95 [some (.ref 20), some (.int p1), some (.int p2), some (.int p3), some (.int xu2), some (.int z5_25), none, none] [] := by
          intro Mu11 hf
          rw [hju10] at hf
          obtain ⟨xu12, hxu12⟩ : ∃ y : Int32, y = z5_25 + 1 := ⟨_, rfl⟩
          replace hf := lt_of hxu12 hf
          refine r_iinc (lv' := [some (.ref 20), some (.int p1), some (.int p2), some (.int p3), some (.int xu2), some (.int xu12), none, none]) d_Se_toldFrom_95 rfl (by rw [hxu12]; rfl) (by decide) rfl ?_
          refine r_goto 25 d_Se_toldFrom_98 (by decide) ?_
          exact ih xu12 Mu11  hf
        refine r_icmp_gt 95 d_Se_toldFrom_81 (by decide) (fun qu13 => ?_) (fun qu13 => ?_)
        · replace hf := ip qu13 hf
          refine r_weak [6, 7] (lv' := [some (.ref 20), some (.int p1), some (.int p2), some (.int p3), some (.int xu2), some (.int z5_25), none, none]) rfl ?_
          exact Kju10 M_25  hf
        · replace hf := im qu13 hf
          refine r_aload_n 0 d_Se_toldFrom_84 rfl rfl ?_
          refine r_iload_n 1 d_Se_toldFrom_85 rfl rfl ?_
          refine r_iconst (v := 1) d_Se_toldFrom_86 (by decide) ?_
          refine r_iadd d_Se_toldFrom_87 ?_
          refine r_iload d_Se_toldFrom_88 rfl ?_
          refine r_iload d_Se_toldFrom_90 rfl ?_
          obtain ⟨vu14, evu14, hf⟩ := bnd hf
          refine r_callS [.ref 20, .int (p1 + 1), .int xu5, .int xu9] d_Se_toldFrom_92 lk_Se_43 (hrecU (p1 + 1) xu5 xu9 M_25 vu14 evu14) (by omega) rfl rfl (Nat.le_of_ble_eq_true rfl) ?_
          refine r_weak [6, 7] (lv' := [some (.ref 20), some (.int p1), some (.int p2), some (.int p3), some (.int xu2), some (.int z5_25), none, none]) rfl ?_
          exact Kju10 vu14  hf
      refine r_icmp_ne 65 d_Se_toldFrom_58 (by decide) (fun qu15 => ?_) (fun qu15 => ?_)
      · replace hf := im qu15 hf
        refine r_iload_n 3 d_Se_toldFrom_65 rfl rfl ?_
        refine r_iconst (v := 1) d_Se_toldFrom_66 (by decide) ?_
        refine r_iload_n 1 d_Se_toldFrom_67 rfl rfl ?_
        refine r_ishl d_Se_toldFrom_68 ?_
        refine r_ior d_Se_toldFrom_69 ?_
        exact Kju8 (p3 ||| ((1 : Int32) <<< (p1 &&& 31)))  hf
      · replace hf := ip qu15 hf
        refine r_iload_n 3 d_Se_toldFrom_61 rfl rfl ?_
        refine r_goto 70 d_Se_toldFrom_62 (by decide) ?_
        exact Kju8 p3  hf
theorem cm_Se_toldFrom {G : GT} {Nu : Nat} : ∀ (dd : Nat) (p1 : Int32) (p2 : Int32) (p3 : Int32) (Mu : Mm) (ru : Mm), f_Se_toldFrom Nu dd p1 p2 p3 Mu = some ru → CM G (3 + dd) y_Se_toldFrom c_Se_toldFrom 8 none (none, ru) Mu [.ref 20, .int p1, .int p2, .int p3]
  | 0, _, _, _, _, ru, hf => by cases hf
  | dd + 1, p1, p2, p3, Mu, ru, hf => by
    rw [f_Se_toldFrom] at hf
    refine CM.of (own := R_Se) (lv := [some (.ref 20), some (.int p1), some (.int p2), some (.int p3), none, none, none, none]) (by decide) rfl (Nat.le_of_ble_eq_true rfl) rfl ?_
    refine r_iload_n 1 d_Se_toldFrom_0 rfl rfl ?_
    refine r_aload_n 0 d_Se_toldFrom_1 rfl rfl ?_
    refine r_getI d_Se_toldFrom_2 fl_Se_57 sh_20 (by decide) ?_
    refine r_icmp_lt 15 d_Se_toldFrom_5 (by decide) (fun qu1 => ?_) (fun qu1 => ?_)
    · replace hf := ip qu1 hf
      refine r_aload_n 0 d_Se_toldFrom_15 rfl rfl ?_
      refine r_iload_n 1 d_Se_toldFrom_16 rfl rfl ?_
      refine r_callV [.int p1] d_Se_toldFrom_17 lk_Se_108 sh_20 (cm_Se_rowsOf p1 Mu) (by omega) rfl rfl (Nat.le_of_ble_eq_true rfl) ?_
      refine nmI (fun xu2 hxu2 => ?_)
      replace hf := lt_of hxu2 hf
      refine r_istore (lv' := [some (.ref 20), some (.int p1), some (.int p2), some (.int p3), some (.int xu2), none, none, none]) d_Se_toldFrom_20 (by decide) rfl ?_
      refine r_iconst (v := 0) d_Se_toldFrom_22 (by decide) ?_
      refine r_istore (lv' := [some (.ref 20), some (.int p1), some (.int p2), some (.int p3), some (.int xu2), some (.int 0), none, none]) d_Se_toldFrom_23 (by decide) rfl ?_
      exact l_Se_toldFrom_25 (G := G) (ru := ru) Nu p1 p2 p3 xu2 (f_Se_toldFrom Nu dd) dd   (cm_Se_toldFrom dd) Nu 0 Mu hf
    · replace hf := im qu1 hf
      refine r_aload_n 0 d_Se_toldFrom_8 rfl rfl ?_
      refine r_iload_n 2 d_Se_toldFrom_9 rfl rfl ?_
      refine r_iload_n 3 d_Se_toldFrom_10 rfl rfl ?_
      refine r_callV [.int p2, .int p3] d_Se_toldFrom_11 lk_Se_129 sh_20 (cm_Se_noteTold p2 p3 Mu) (by omega) rfl rfl (Nat.le_of_ble_eq_true rfl) ?_
      refine nmM (fun Mu16 hMu16 => ?_)
      replace hf := lt_of hMu16 hf
      obtain rfl := Option.some.inj hf
      exact r_return d_Se_toldFrom_14 rfl rfl
def f_Se_findTold (Nu : Nat) (p0 : Nat) (p1 : Int32) (Mu : Mm) : Option (Mm) := (f_Se_begin Nu p0 Mu).bind fun vu1 => lt (si vu1 20 9 p1) fun Mu2 => (f_Se_toldFrom Nu 20 0 0 0 Mu2).bind fun vu3 => some vu3
theorem cm_Se_findTold {G : GT} {Nu : Nat} {p0 : Nat} {p1 : Int32} {Mu : Mm}  {ru : Mm} (h_p0 : sh p0 = (5, 0)) (hf : f_Se_findTold Nu p0 p1 Mu = some ru) : CM G 24 y_Se_findTold c_Se_findTold 3 none (none, ru) Mu [.ref 20, .ref p0, .int p1] := by
  unfold f_Se_findTold at hf
  refine CM.of (own := R_Se) (lv := [some (.ref 20), some (.ref p0), some (.int p1)]) (by decide) rfl (Nat.le_of_ble_eq_true rfl) rfl ?_
  refine r_aload_n 0 d_Se_findTold_0 rfl rfl ?_
  refine r_aload_n 1 d_Se_findTold_1 rfl rfl ?_
  obtain ⟨vu1, evu1, hf⟩ := bnd hf
  refine r_callV [.ref p0] d_Se_findTold_2 lk_Se_21 sh_20 (cm_Se_begin h_p0 evu1) (by decide) rfl rfl (Nat.le_of_ble_eq_true rfl) ?_
  refine r_aload_n 0 d_Se_findTold_5 rfl rfl ?_
  refine r_iload_n 2 d_Se_findTold_6 rfl rfl ?_
  refine r_putI d_Se_findTold_7 fl_Se_40 sh_20 (Or.inl rfl) rfl ?_
  refine nmM (fun Mu2 hMu2 => ?_)
  replace hf := lt_of hMu2 hf
  refine r_aload_n 0 d_Se_findTold_10 rfl rfl ?_
  refine r_iconst (v := 0) d_Se_findTold_11 (by decide) ?_
  refine r_iconst (v := 0) d_Se_findTold_12 (by decide) ?_
  refine r_iconst (v := 0) d_Se_findTold_13 (by decide) ?_
  obtain ⟨vu3, evu3, hf⟩ := bnd hf
  refine r_callS [.ref 20, .int 0, .int 0, .int 0] d_Se_findTold_14 lk_Se_43 (cm_Se_toldFrom 20 0 0 0 Mu2 vu3 evu3) (by omega) rfl rfl (Nat.le_of_ble_eq_true rfl) ?_
  obtain rfl := Option.some.inj hf
  exact r_return d_Se_findTold_17 rfl rfl
def L_We_listFriendships_106 (Nu : Nat) : Nat → Int32 → Int32 → Mm → Option (Mm)
  | 0, _, _, _ => none
  | nu + 1, z2_106, z3_106, M_106 => if z3_106 < 0 then some M_106 else if inb z3_106 8 = true then if inb z3_106 8 = true then lt (((1 : Int32) <<< ((M_106.1 25 (Int32.toNatClampNeg z3_106)) &&& 31)) ||| ((1 : Int32) <<< ((M_106.1 26 (Int32.toNatClampNeg z3_106)) &&& 31))) fun xu8 => if inb z3_106 8 = true then lt (si M_106 28 (Int32.toNatClampNeg z3_106) (xu8 &&& (z2_106 ^^^ (-1)))) fun Mu10 => lt (z2_106 ||| xu8) fun xu11 => lt (z3_106 + (-1)) fun xu12 => L_We_listFriendships_106 Nu nu xu11 xu12 Mu10 else none else none else none
def L_We_listFriendships_19 (Nu : Nat) (p0 : Nat) (z2_7 : Int32) (ju15 : Mm → Option (Mm)) : Nat → Int32 → Mm → Option (Mm)
  | 0, _, _ => none
  | nu + 1, z3_19, M_19 => if (M_19.1 p0 0) ≤ z3_19 then ju15 M_19 else if 8 ≤ (M_19.1 24 5) then ju15 M_19 else (f_To_areFriends p0 z2_7 z3_19 M_19).bind fun vu20 => lt (fun (Mu22 : Mm) => lt (z3_19 + 1) fun xu23 => L_We_listFriendships_19 Nu p0 z2_7 ju15 nu xu23 Mu22) fun ju21 => if vu20 = 0 then ju21 M_19 else if inb (M_19.1 24 5) 8 = true then lt (si M_19 25 (Int32.toNatClampNeg (M_19.1 24 5)) z2_7) fun Mu26 => if inb (Mu26.1 24 5) 8 = true then lt (si Mu26 26 (Int32.toNatClampNeg (Mu26.1 24 5)) z3_19) fun Mu28 => if inb (Mu28.1 24 5) 8 = true then lt (si Mu28 27 (Int32.toNatClampNeg (Mu28.1 24 5)) 0) fun Mu30 => lt (si Mu30 24 5 ((Mu30.1 24 5) + 1)) fun Mu31 => ju21 Mu31 else none else none else none
def L_We_listFriendships_7 (Nu : Nat) (p0 : Nat) (ju2 : Mm → Option (Mm)) : Nat → Int32 → Mm → Option (Mm)
  | 0, _, _ => none
  | nu + 1, z2_7, M_7 => if (M_7.1 p0 0) ≤ z2_7 then ju2 M_7 else lt (z2_7 + 1) fun xu14 => lt (fun (Mu16 : Mm) => lt (z2_7 + 1) fun xu17 => L_We_listFriendships_7 Nu p0 ju2 nu xu17 Mu16) fun ju15 => L_We_listFriendships_19 Nu p0 z2_7 ju15 Nu xu14 M_7
def f_We_listFriendships (Nu : Nat) (p0 : Nat) (Mu : Mm) : Option (Mm) := lt (si Mu 24 5 0) fun Mu1 => lt (fun (Mu3 : Mm) => lt ((Mu3.1 24 5) - 1) fun xu4 => L_We_listFriendships_106 Nu Nu 0 xu4 Mu3) fun ju2 => L_We_listFriendships_7 Nu p0 ju2 Nu 0 Mu1
theorem l_We_listFriendships_106 {G : GT} {ru : Mm} (Nu : Nat)    : ∀ (nu : Nat) (z2_106 : Int32) (z3_106 : Int32) (M_106 : Mm), L_We_listFriendships_106 Nu nu z2_106 z3_106 M_106 = some ru → SW G 2 c_We_listFriendships R_We 5 none (none, ru) M_106 106 [some (.ref 24), none, some (.int z2_106), some (.int z3_106), none] []
  | 0, _, _, _, hf => by cases hf
  | nu + 1, z2_106, z3_106, M_106, hf => by
    have ih := l_We_listFriendships_106 (G := G) (ru := ru) Nu   nu
    rw [L_We_listFriendships_106] at hf
    refine r_iload_n 3 d_We_listFriendships_106 rfl rfl ?_
    refine r_if_lt 152 d_We_listFriendships_107 (by decide) (fun qu5 => ?_) (fun qu5 => ?_)
    · replace hf := ip qu5 hf
      obtain rfl := Option.some.inj hf
      exact r_return d_We_listFriendships_152 rfl rfl
    · replace hf := im qu5 hf
      refine r_iconst (v := 1) d_We_listFriendships_110 (by decide) ?_
      refine r_aload_n 0 d_We_listFriendships_111 rfl rfl ?_
      refine r_getR 25 d_We_listFriendships_112 fl_We_9 sh_24 rfl rf_24_0 ?_
      refine r_iload_n 3 d_We_listFriendships_115 rfl rfl ?_
      obtain ⟨qu6, hf⟩ := ck hf
      refine r_iald d_We_listFriendships_116 sh_25 qu6 ?_
      refine r_ishl d_We_listFriendships_117 ?_
      refine r_iconst (v := 1) d_We_listFriendships_118 (by decide) ?_
      refine r_aload_n 0 d_We_listFriendships_119 rfl rfl ?_
      refine r_getR 26 d_We_listFriendships_120 fl_We_15 sh_24 rfl rf_24_1 ?_
      refine r_iload_n 3 d_We_listFriendships_123 rfl rfl ?_
      obtain ⟨qu7, hf⟩ := ck hf
      refine r_iald d_We_listFriendships_124 sh_26 qu7 ?_
      refine r_ishl d_We_listFriendships_125 ?_
      refine r_ior d_We_listFriendships_126 ?_
      refine nmI (fun xu8 hxu8 => ?_)
      replace hf := lt_of hxu8 hf
      refine r_istore (lv' := [some (.ref 24), none, some (.int z2_106), some (.int z3_106), some (.int xu8)]) d_We_listFriendships_127 (by decide) rfl ?_
      refine r_aload_n 0 d_We_listFriendships_129 rfl rfl ?_
      refine r_getR 28 d_We_listFriendships_130 fl_We_21 sh_24 rfl rf_24_3 ?_
      refine r_iload_n 3 d_We_listFriendships_133 rfl rfl ?_
      refine r_iload d_We_listFriendships_134 rfl ?_
      refine r_iload_n 2 d_We_listFriendships_136 rfl rfl ?_
      refine r_iconst (v := (-1)) d_We_listFriendships_137 (by decide) ?_
      refine r_ixor d_We_listFriendships_138 ?_
      refine r_iand d_We_listFriendships_139 ?_
      obtain ⟨qu9, hf⟩ := ck hf
      refine r_iast d_We_listFriendships_140 sh_28 qu9 ?_
      refine nmM (fun Mu10 hMu10 => ?_)
      replace hf := lt_of hMu10 hf
      refine r_iload_n 2 d_We_listFriendships_141 rfl rfl ?_
      refine r_iload d_We_listFriendships_142 rfl ?_
      refine r_ior d_We_listFriendships_144 ?_
      refine nmI (fun xu11 hxu11 => ?_)
      replace hf := lt_of hxu11 hf
      refine r_istore_n (lv' := [some (.ref 24), none, some (.int xu11), some (.int z3_106), some (.int xu8)]) 2 d_We_listFriendships_145 rfl (by decide) rfl ?_
      obtain ⟨xu12, hxu12⟩ : ∃ y : Int32, y = z3_106 + (-1) := ⟨_, rfl⟩
      replace hf := lt_of hxu12 hf
      refine r_iinc (lv' := [some (.ref 24), none, some (.int xu11), some (.int xu12), some (.int xu8)]) d_We_listFriendships_146 rfl (by rw [hxu12]; rfl) (by decide) rfl ?_
      refine r_goto 106 d_We_listFriendships_149 (by decide) ?_
      refine r_weak [4] (lv' := [some (.ref 24), none, some (.int xu11), some (.int xu12), none]) rfl ?_
      exact ih xu11 xu12 Mu10  hf
theorem l_We_listFriendships_19 {G : GT} {ru : Mm} (Nu : Nat) (p0 : Nat) (z2_7 : Int32) (ju15 : Mm → Option (Mm)) (h_p0 : sh p0 = (5, 0)) (Kju15 : ∀ (Mw : Mm), ju15 Mw = some ru → SW G 2 c_We_listFriendships R_We 5 none (none, ru) Mw 91 [some (.ref 24), some (.ref p0), some (.int z2_7), none, none] [])  : ∀ (nu : Nat) (z3_19 : Int32) (M_19 : Mm), L_We_listFriendships_19 Nu p0 z2_7 ju15 nu z3_19 M_19 = some ru → SW G 2 c_We_listFriendships R_We 5 none (none, ru) M_19 19 [some (.ref 24), some (.ref p0), some (.int z2_7), some (.int z3_19), none] []
  | 0, _, _, hf => by cases hf
  | nu + 1, z3_19, M_19, hf => by
    have ih := l_We_listFriendships_19 (G := G) (ru := ru) Nu p0 z2_7 ju15 h_p0 Kju15 nu
    rw [L_We_listFriendships_19] at hf
    refine r_iload_n 3 d_We_listFriendships_19 rfl rfl ?_
    refine r_aload_n 1 d_We_listFriendships_20 rfl rfl ?_
    refine r_getI d_We_listFriendships_21 fl_We_31 h_p0 (by decide) ?_
    refine r_icmp_ge 91 d_We_listFriendships_24 (by decide) (fun qu18 => ?_) (fun qu18 => ?_)
    · replace hf := ip qu18 hf
      refine r_weak [3] (lv' := [some (.ref 24), some (.ref p0), some (.int z2_7), none, none]) rfl ?_
      exact Kju15 M_19  hf
    · replace hf := im qu18 hf
      refine r_aload_n 0 d_We_listFriendships_27 rfl rfl ?_
      refine r_getI d_We_listFriendships_28 fl_We_56 sh_24 (by decide) ?_
      refine r_bipush (v := 8) d_We_listFriendships_31 (by decide) ?_
      refine r_icmp_ge 91 d_We_listFriendships_33 (by decide) (fun qu19 => ?_) (fun qu19 => ?_)
      · replace hf := ip qu19 hf
        refine r_weak [3] (lv' := [some (.ref 24), some (.ref p0), some (.int z2_7), none, none]) rfl ?_
        exact Kju15 M_19  hf
      · replace hf := im qu19 hf
        refine r_aload_n 1 d_We_listFriendships_36 rfl rfl ?_
        refine r_iload_n 2 d_We_listFriendships_37 rfl rfl ?_
        refine r_iload_n 3 d_We_listFriendships_38 rfl rfl ?_
        obtain ⟨vu20, evu20, hf⟩ := bnd hf
        refine r_callV [.int z2_7, .int z3_19] d_We_listFriendships_39 lk_We_59 h_p0 (cm_To_areFriends h_p0 evu20) (by decide) rfl rfl (Nat.le_of_ble_eq_true rfl) ?_
        obtain ⟨ju21, hju21, hf⟩ := lt_ex hf
        have Kju21 : ∀ (Mu22 : Mm), ju21 Mu22 = some ru → SW G 2 c_We_listFriendships R_We 5 none (none, ru) Mu22 85 [some (.ref 24), some (.ref p0), some (.int z2_7), some (.int z3_19), none] [] := by
          intro Mu22 hf
          rw [hju21] at hf
          obtain ⟨xu23, hxu23⟩ : ∃ y : Int32, y = z3_19 + 1 := ⟨_, rfl⟩
          replace hf := lt_of hxu23 hf
          refine r_iinc (lv' := [some (.ref 24), some (.ref p0), some (.int z2_7), some (.int xu23), none]) d_We_listFriendships_85 rfl (by rw [hxu23]; rfl) (by decide) rfl ?_
          refine r_goto 19 d_We_listFriendships_88 (by decide) ?_
          exact ih xu23 Mu22  hf
        refine r_if_eq 85 d_We_listFriendships_42 (by decide) (fun qu24 => ?_) (fun qu24 => ?_)
        · replace hf := ip qu24 hf
          exact Kju21 M_19  hf
        · replace hf := im qu24 hf
          refine r_aload_n 0 d_We_listFriendships_45 rfl rfl ?_
          refine r_getR 25 d_We_listFriendships_46 fl_We_9 sh_24 rfl rf_24_0 ?_
          refine r_aload_n 0 d_We_listFriendships_49 rfl rfl ?_
          refine r_getI d_We_listFriendships_50 fl_We_56 sh_24 (by decide) ?_
          refine r_iload_n 2 d_We_listFriendships_53 rfl rfl ?_
          obtain ⟨qu25, hf⟩ := ck hf
          refine r_iast d_We_listFriendships_54 sh_25 qu25 ?_
          refine nmM (fun Mu26 hMu26 => ?_)
          replace hf := lt_of hMu26 hf
          refine r_aload_n 0 d_We_listFriendships_55 rfl rfl ?_
          refine r_getR 26 d_We_listFriendships_56 fl_We_15 sh_24 rfl rf_24_1 ?_
          refine r_aload_n 0 d_We_listFriendships_59 rfl rfl ?_
          refine r_getI d_We_listFriendships_60 fl_We_56 sh_24 (by decide) ?_
          refine r_iload_n 3 d_We_listFriendships_63 rfl rfl ?_
          obtain ⟨qu27, hf⟩ := ck hf
          refine r_iast d_We_listFriendships_64 sh_26 qu27 ?_
          refine nmM (fun Mu28 hMu28 => ?_)
          replace hf := lt_of hMu28 hf
          refine r_aload_n 0 d_We_listFriendships_65 rfl rfl ?_
          refine r_getR 27 d_We_listFriendships_66 fl_We_18 sh_24 rfl rf_24_2 ?_
          refine r_aload_n 0 d_We_listFriendships_69 rfl rfl ?_
          refine r_getI d_We_listFriendships_70 fl_We_56 sh_24 (by decide) ?_
          refine r_iconst (v := 0) d_We_listFriendships_73 (by decide) ?_
          obtain ⟨qu29, hf⟩ := ck hf
          refine r_iast d_We_listFriendships_74 sh_27 qu29 ?_
          refine nmM (fun Mu30 hMu30 => ?_)
          replace hf := lt_of hMu30 hf
          refine r_aload_n 0 d_We_listFriendships_75 rfl rfl ?_
          refine r_dup d_We_listFriendships_76 rfl ?_
          refine r_getI d_We_listFriendships_77 fl_We_56 sh_24 (by decide) ?_
          refine r_iconst (v := 1) d_We_listFriendships_80 (by decide) ?_
          refine r_iadd d_We_listFriendships_81 ?_
          refine r_putI d_We_listFriendships_82 fl_We_56 sh_24 (Or.inl rfl) rfl ?_
          refine nmM (fun Mu31 hMu31 => ?_)
          replace hf := lt_of hMu31 hf
          exact Kju21 Mu31  hf
theorem l_We_listFriendships_7 {G : GT} {ru : Mm} (Nu : Nat) (p0 : Nat) (ju2 : Mm → Option (Mm)) (h_p0 : sh p0 = (5, 0)) (Kju2 : ∀ (Mw : Mm), ju2 Mw = some ru → SW G 2 c_We_listFriendships R_We 5 none (none, ru) Mw 97 [some (.ref 24), none, none, none, none] [])  : ∀ (nu : Nat) (z2_7 : Int32) (M_7 : Mm), L_We_listFriendships_7 Nu p0 ju2 nu z2_7 M_7 = some ru → SW G 2 c_We_listFriendships R_We 5 none (none, ru) M_7 7 [some (.ref 24), some (.ref p0), some (.int z2_7), none, none] []
  | 0, _, _, hf => by cases hf
  | nu + 1, z2_7, M_7, hf => by
    have ih := l_We_listFriendships_7 (G := G) (ru := ru) Nu p0 ju2 h_p0 Kju2 nu
    rw [L_We_listFriendships_7] at hf
    refine r_iload_n 2 d_We_listFriendships_7 rfl rfl ?_
    refine r_aload_n 1 d_We_listFriendships_8 rfl rfl ?_
    refine r_getI d_We_listFriendships_9 fl_We_31 h_p0 (by decide) ?_
    refine r_icmp_ge 97 d_We_listFriendships_12 (by decide) (fun qu13 => ?_) (fun qu13 => ?_)
    · replace hf := ip qu13 hf
      refine r_weak [1, 2] (lv' := [some (.ref 24), none, none, none, none]) rfl ?_
      exact Kju2 M_7  hf
    · replace hf := im qu13 hf
      refine r_iload_n 2 d_We_listFriendships_15 rfl rfl ?_
      refine r_iconst (v := 1) d_We_listFriendships_16 (by decide) ?_
      refine r_iadd d_We_listFriendships_17 ?_
      refine nmI (fun xu14 hxu14 => ?_)
      replace hf := lt_of hxu14 hf
      refine r_istore_n (lv' := [some (.ref 24), some (.ref p0), some (.int z2_7), some (.int xu14), none]) 3 d_We_listFriendships_18 rfl (by decide) rfl ?_
      obtain ⟨ju15, hju15, hf⟩ := lt_ex hf
      have Kju15 : ∀ (Mu16 : Mm), ju15 Mu16 = some ru → SW G 2 c_We_listFriendships R_We 5 none (none, ru) Mu16 91 [some (.ref 24), some (.ref p0), some (.int z2_7), none, none] [] := by
        intro Mu16 hf
        rw [hju15] at hf
        obtain ⟨xu17, hxu17⟩ : ∃ y : Int32, y = z2_7 + 1 := ⟨_, rfl⟩
        replace hf := lt_of hxu17 hf
        refine r_iinc (lv' := [some (.ref 24), some (.ref p0), some (.int xu17), none, none]) d_We_listFriendships_91 rfl (by rw [hxu17]; rfl) (by decide) rfl ?_
        refine r_goto 7 d_We_listFriendships_94 (by decide) ?_
        exact ih xu17 Mu16  hf
      exact l_We_listFriendships_19 (G := G) (ru := ru) Nu p0 z2_7 ju15 h_p0 Kju15 Nu xu14 M_7 hf
theorem cm_We_listFriendships {G : GT} {Nu : Nat} {p0 : Nat} {Mu : Mm}  {ru : Mm} (h_p0 : sh p0 = (5, 0)) (hf : f_We_listFriendships Nu p0 Mu = some ru) : CM G 2 y_We_listFriendships c_We_listFriendships 5 none (none, ru) Mu [.ref 24, .ref p0] := by
  unfold f_We_listFriendships at hf
  refine CM.of (own := R_We) (lv := [some (.ref 24), some (.ref p0), none, none, none]) (by decide) rfl (Nat.le_of_ble_eq_true rfl) rfl ?_
  refine r_aload_n 0 d_We_listFriendships_0 rfl rfl ?_
  refine r_iconst (v := 0) d_We_listFriendships_1 (by decide) ?_
  refine r_putI d_We_listFriendships_2 fl_We_56 sh_24 (Or.inl rfl) rfl ?_
  refine nmM (fun Mu1 hMu1 => ?_)
  replace hf := lt_of hMu1 hf
  refine r_iconst (v := 0) d_We_listFriendships_5 (by decide) ?_
  refine r_istore_n (lv' := [some (.ref 24), some (.ref p0), some (.int 0), none, none]) 2 d_We_listFriendships_6 rfl (by decide) rfl ?_
  obtain ⟨ju2, hju2, hf⟩ := lt_ex hf
  have Kju2 : ∀ (Mu3 : Mm), ju2 Mu3 = some ru → SW G 2 c_We_listFriendships R_We 5 none (none, ru) Mu3 97 [some (.ref 24), none, none, none, none] [] := by
    intro Mu3 hf
    rw [hju2] at hf
    refine r_iconst (v := 0) d_We_listFriendships_97 (by decide) ?_
    refine r_istore_n (lv' := [some (.ref 24), none, some (.int 0), none, none]) 2 d_We_listFriendships_98 rfl (by decide) rfl ?_
    refine r_aload_n 0 d_We_listFriendships_99 rfl rfl ?_
    refine r_getI d_We_listFriendships_100 fl_We_56 sh_24 (by decide) ?_
    refine r_iconst (v := 1) d_We_listFriendships_103 (by decide) ?_
    refine r_isub d_We_listFriendships_104 ?_
    refine nmI (fun xu4 hxu4 => ?_)
    replace hf := lt_of hxu4 hf
    refine r_istore_n (lv' := [some (.ref 24), none, some (.int 0), some (.int xu4), none]) 3 d_We_listFriendships_105 rfl (by decide) rfl ?_
    exact l_We_listFriendships_106 (G := G) (ru := ru) Nu   Nu 0 xu4 Mu3 hf
  exact l_We_listFriendships_7 (G := G) (ru := ru) Nu p0 ju2 h_p0 Kju2 Nu 0 Mu1 hf
def f_We_putWeight (p0 : Int32) (p1 : Int32) (Mu : Mm) : Option (Mm) := if inb p0 8 = true then lt (p1 - (Mu.1 27 (Int32.toNatClampNeg p0))) fun xu2 => if inb p0 8 = true then if inb (Mu.1 25 (Int32.toNatClampNeg p0)) 8 = true then if inb (Mu.1 25 (Int32.toNatClampNeg p0)) 8 = true then lt (si Mu 29 (Int32.toNatClampNeg (Mu.1 25 (Int32.toNatClampNeg p0))) ((Mu.1 29 (Int32.toNatClampNeg (Mu.1 25 (Int32.toNatClampNeg p0)))) + xu2)) fun Mu6 => if inb p0 8 = true then if inb (Mu6.1 26 (Int32.toNatClampNeg p0)) 8 = true then if inb (Mu6.1 26 (Int32.toNatClampNeg p0)) 8 = true then lt (si Mu6 29 (Int32.toNatClampNeg (Mu6.1 26 (Int32.toNatClampNeg p0))) ((Mu6.1 29 (Int32.toNatClampNeg (Mu6.1 26 (Int32.toNatClampNeg p0)))) + xu2)) fun Mu10 => if inb p0 8 = true then lt (si Mu10 27 (Int32.toNatClampNeg p0) p1) fun Mu12 => some Mu12 else none else none else none else none else none else none else none else none
theorem cm_We_putWeight {G : GT} {p0 : Int32} {p1 : Int32} {Mu : Mm}  {ru : Mm}  (hf : f_We_putWeight p0 p1 Mu = some ru) : CM G 1 y_We_putWeight c_We_putWeight 4 none (none, ru) Mu [.ref 24, .int p0, .int p1] := by
  unfold f_We_putWeight at hf
  refine CM.of (own := R_We) (lv := [some (.ref 24), some (.int p0), some (.int p1), none]) (by decide) rfl (Nat.le_of_ble_eq_true rfl) rfl ?_
  refine r_iload_n 2 d_We_putWeight_0 rfl rfl ?_
  refine r_aload_n 0 d_We_putWeight_1 rfl rfl ?_
  refine r_getR 27 d_We_putWeight_2 fl_We_18 sh_24 rfl rf_24_2 ?_
  refine r_iload_n 1 d_We_putWeight_5 rfl rfl ?_
  obtain ⟨qu1, hf⟩ := ck hf
  refine r_iald d_We_putWeight_6 sh_27 qu1 ?_
  refine r_isub d_We_putWeight_7 ?_
  refine nmI (fun xu2 hxu2 => ?_)
  replace hf := lt_of hxu2 hf
  refine r_istore_n (lv' := [some (.ref 24), some (.int p0), some (.int p1), some (.int xu2)]) 3 d_We_putWeight_8 rfl (by decide) rfl ?_
  refine r_aload_n 0 d_We_putWeight_9 rfl rfl ?_
  refine r_getR 29 d_We_putWeight_10 fl_We_24 sh_24 rfl rf_24_4 ?_
  refine r_aload_n 0 d_We_putWeight_13 rfl rfl ?_
  refine r_getR 25 d_We_putWeight_14 fl_We_9 sh_24 rfl rf_24_0 ?_
  refine r_iload_n 1 d_We_putWeight_17 rfl rfl ?_
  obtain ⟨qu3, hf⟩ := ck hf
  refine r_iald d_We_putWeight_18 sh_25 qu3 ?_
  refine r_dup2 d_We_putWeight_19 rfl rfl ?_
  obtain ⟨qu4, hf⟩ := ck hf
  refine r_iald d_We_putWeight_20 sh_29 qu4 ?_
  refine r_iload_n 3 d_We_putWeight_21 rfl rfl ?_
  refine r_iadd d_We_putWeight_22 ?_
  obtain ⟨qu5, hf⟩ := ck hf
  refine r_iast d_We_putWeight_23 sh_29 qu5 ?_
  refine nmM (fun Mu6 hMu6 => ?_)
  replace hf := lt_of hMu6 hf
  refine r_aload_n 0 d_We_putWeight_24 rfl rfl ?_
  refine r_getR 29 d_We_putWeight_25 fl_We_24 sh_24 rfl rf_24_4 ?_
  refine r_aload_n 0 d_We_putWeight_28 rfl rfl ?_
  refine r_getR 26 d_We_putWeight_29 fl_We_15 sh_24 rfl rf_24_1 ?_
  refine r_iload_n 1 d_We_putWeight_32 rfl rfl ?_
  obtain ⟨qu7, hf⟩ := ck hf
  refine r_iald d_We_putWeight_33 sh_26 qu7 ?_
  refine r_dup2 d_We_putWeight_34 rfl rfl ?_
  obtain ⟨qu8, hf⟩ := ck hf
  refine r_iald d_We_putWeight_35 sh_29 qu8 ?_
  refine r_iload_n 3 d_We_putWeight_36 rfl rfl ?_
  refine r_iadd d_We_putWeight_37 ?_
  obtain ⟨qu9, hf⟩ := ck hf
  refine r_iast d_We_putWeight_38 sh_29 qu9 ?_
  refine nmM (fun Mu10 hMu10 => ?_)
  replace hf := lt_of hMu10 hf
  refine r_aload_n 0 d_We_putWeight_39 rfl rfl ?_
  refine r_getR 27 d_We_putWeight_40 fl_We_18 sh_24 rfl rf_24_2 ?_
  refine r_iload_n 1 d_We_putWeight_43 rfl rfl ?_
  refine r_iload_n 2 d_We_putWeight_44 rfl rfl ?_
  obtain ⟨qu11, hf⟩ := ck hf
  refine r_iast d_We_putWeight_45 sh_27 qu11 ?_
  refine nmM (fun Mu12 hMu12 => ?_)
  replace hf := lt_of hMu12 hf
  obtain rfl := Option.some.inj hf
  exact r_return d_We_putWeight_46 rfl rfl
def L_We_hasTwin_2 (Nu : Nat) (p0 : Int32) (p1 : Int32) (Mu : Mm) : Nat → Int32 → Option (Int32)
  | 0, _ => none
  | nu + 1, z3_2 => if 8 ≤ z3_2 then some 0 else lt (fun (_ : Unit) => lt (z3_2 + 1) fun xu3 => L_We_hasTwin_2 Nu p0 p1 Mu nu xu3) fun ju2 => if ((p1 >>> (z3_2 &&& 31)) &&& 1) = 1 then if inb z3_2 8 = true then if inb p0 8 = true then if (Mu.1 29 (Int32.toNatClampNeg z3_2)) = (Mu.1 29 (Int32.toNatClampNeg p0)) then some 1 else ju2 () else none else none else ju2 ()
def f_We_hasTwin (Nu : Nat) (p0 : Int32) (p1 : Int32) (Mu : Mm) : Option (Int32) := L_We_hasTwin_2 Nu p0 p1 Mu Nu 0
theorem l_We_hasTwin_2 {G : GT} {ru : Int32} (Nu : Nat) (p0 : Int32) (p1 : Int32) (Mu : Mm)    : ∀ (nu : Nat) (z3_2 : Int32), L_We_hasTwin_2 Nu p0 p1 Mu nu z3_2 = some ru → SW G 1 c_We_hasTwin R_We 4 (some .boolean) (some (.int ru), Mu) Mu 2 [some (.ref 24), some (.int p0), some (.int p1), some (.int z3_2)] []
  | 0, _, hf => by cases hf
  | nu + 1, z3_2, hf => by
    have ih := l_We_hasTwin_2 (G := G) (ru := ru) Nu p0 p1 Mu   nu
    rw [L_We_hasTwin_2] at hf
    refine r_iload_n 3 d_We_hasTwin_2 rfl rfl ?_
    refine r_bipush (v := 8) d_We_hasTwin_3 (by decide) ?_
    refine r_icmp_ge 40 d_We_hasTwin_5 (by decide) (fun qu1 => ?_) (fun qu1 => ?_)
    · replace hf := ip qu1 hf
      refine r_iconst (v := 0) d_We_hasTwin_40 (by decide) ?_
      obtain rfl := Option.some.inj hf
      exact r_zreturn d_We_hasTwin_41 rfl (Or.inl rfl) rfl
    · replace hf := im qu1 hf
      refine r_iload_n 2 d_We_hasTwin_8 rfl rfl ?_
      refine r_iload_n 3 d_We_hasTwin_9 rfl rfl ?_
      refine r_ishr d_We_hasTwin_10 ?_
      refine r_iconst (v := 1) d_We_hasTwin_11 (by decide) ?_
      refine r_iand d_We_hasTwin_12 ?_
      refine r_iconst (v := 1) d_We_hasTwin_13 (by decide) ?_
      obtain ⟨ju2, hju2, hf⟩ := lt_ex hf
      have Kju2 : ∀ (_ : Unit), ju2 () = some ru → SW G 1 c_We_hasTwin R_We 4 (some .boolean) (some (.int ru), Mu) Mu 34 [some (.ref 24), some (.int p0), some (.int p1), some (.int z3_2)] [] := by
        intro _ hf
        rw [hju2] at hf
        obtain ⟨xu3, hxu3⟩ : ∃ y : Int32, y = z3_2 + 1 := ⟨_, rfl⟩
        replace hf := lt_of hxu3 hf
        refine r_iinc (lv' := [some (.ref 24), some (.int p0), some (.int p1), some (.int xu3)]) d_We_hasTwin_34 rfl (by rw [hxu3]; rfl) (by decide) rfl ?_
        refine r_goto 2 d_We_hasTwin_37 (by decide) ?_
        exact ih xu3  hf
      refine r_icmp_ne 34 d_We_hasTwin_14 (by decide) (fun qu4 => ?_) (fun qu4 => ?_)
      · replace hf := im qu4 hf
        exact Kju2 ()  hf
      · replace hf := ip qu4 hf
        refine r_aload_n 0 d_We_hasTwin_17 rfl rfl ?_
        refine r_getR 29 d_We_hasTwin_18 fl_We_24 sh_24 rfl rf_24_4 ?_
        refine r_iload_n 3 d_We_hasTwin_21 rfl rfl ?_
        obtain ⟨qu5, hf⟩ := ck hf
        refine r_iald d_We_hasTwin_22 sh_29 qu5 ?_
        refine r_aload_n 0 d_We_hasTwin_23 rfl rfl ?_
        refine r_getR 29 d_We_hasTwin_24 fl_We_24 sh_24 rfl rf_24_4 ?_
        refine r_iload_n 1 d_We_hasTwin_27 rfl rfl ?_
        obtain ⟨qu6, hf⟩ := ck hf
        refine r_iald d_We_hasTwin_28 sh_29 qu6 ?_
        refine r_icmp_ne 34 d_We_hasTwin_29 (by decide) (fun qu7 => ?_) (fun qu7 => ?_)
        · replace hf := im qu7 hf
          exact Kju2 ()  hf
        · replace hf := ip qu7 hf
          refine r_iconst (v := 1) d_We_hasTwin_32 (by decide) ?_
          obtain rfl := Option.some.inj hf
          exact r_zreturn d_We_hasTwin_33 rfl (Or.inr rfl) rfl
theorem cm_We_hasTwin {G : GT} {Nu : Nat} {p0 : Int32} {p1 : Int32} {Mu : Mm}  {ru : Int32}  (hf : f_We_hasTwin Nu p0 p1 Mu = some ru) : CM G 1 y_We_hasTwin c_We_hasTwin 4 (some .boolean) (some (.int ru), Mu) Mu [.ref 24, .int p0, .int p1] := by
  unfold f_We_hasTwin at hf
  refine CM.of (own := R_We) (lv := [some (.ref 24), some (.int p0), some (.int p1), none]) (by decide) rfl (Nat.le_of_ble_eq_true rfl) rfl ?_
  refine r_iconst (v := 0) d_We_hasTwin_0 (by decide) ?_
  refine r_istore_n (lv' := [some (.ref 24), some (.int p0), some (.int p1), some (.int 0)]) 3 d_We_hasTwin_1 rfl (by decide) rfl ?_
  exact l_We_hasTwin_2 (G := G) (ru := ru) Nu p0 p1 Mu   Nu 0 hf
def L_We_sumsDiffer_2 (Nu : Nat) (p0 : Int32) (p1 : Int32) (Mu : Mm) : Nat → Int32 → Option (Int32)
  | 0, _ => none
  | nu + 1, z3_2 => if 8 ≤ z3_2 then some 1 else lt (fun (_ : Unit) => lt (z3_2 + 1) fun xu3 => L_We_sumsDiffer_2 Nu p0 p1 Mu nu xu3) fun ju2 => if ((p0 >>> (z3_2 &&& 31)) &&& 1) = 1 then (f_We_hasTwin Nu z3_2 (p1 &&& (((1 : Int32) <<< (z3_2 &&& 31)) ^^^ (-1))) Mu).bind fun vu5 => if vu5 = 0 then ju2 () else some 0 else ju2 ()
def f_We_sumsDiffer (Nu : Nat) (p0 : Int32) (p1 : Int32) (Mu : Mm) : Option (Int32) := L_We_sumsDiffer_2 Nu p0 p1 Mu Nu 0
theorem l_We_sumsDiffer_2 {G : GT} {ru : Int32} (Nu : Nat) (p0 : Int32) (p1 : Int32) (Mu : Mm)    : ∀ (nu : Nat) (z3_2 : Int32), L_We_sumsDiffer_2 Nu p0 p1 Mu nu z3_2 = some ru → SW G 2 c_We_sumsDiffer R_We 4 (some .boolean) (some (.int ru), Mu) Mu 2 [some (.ref 24), some (.int p0), some (.int p1), some (.int z3_2)] []
  | 0, _, hf => by cases hf
  | nu + 1, z3_2, hf => by
    have ih := l_We_sumsDiffer_2 (G := G) (ru := ru) Nu p0 p1 Mu   nu
    rw [L_We_sumsDiffer_2] at hf
    refine r_iload_n 3 d_We_sumsDiffer_2 rfl rfl ?_
    refine r_bipush (v := 8) d_We_sumsDiffer_3 (by decide) ?_
    refine r_icmp_ge 40 d_We_sumsDiffer_5 (by decide) (fun qu1 => ?_) (fun qu1 => ?_)
    · replace hf := ip qu1 hf
      refine r_iconst (v := 1) d_We_sumsDiffer_40 (by decide) ?_
      obtain rfl := Option.some.inj hf
      exact r_zreturn d_We_sumsDiffer_41 rfl (Or.inr rfl) rfl
    · replace hf := im qu1 hf
      refine r_iload_n 1 d_We_sumsDiffer_8 rfl rfl ?_
      refine r_iload_n 3 d_We_sumsDiffer_9 rfl rfl ?_
      refine r_ishr d_We_sumsDiffer_10 ?_
      refine r_iconst (v := 1) d_We_sumsDiffer_11 (by decide) ?_
      refine r_iand d_We_sumsDiffer_12 ?_
      refine r_iconst (v := 1) d_We_sumsDiffer_13 (by decide) ?_
      obtain ⟨ju2, hju2, hf⟩ := lt_ex hf
      have Kju2 : ∀ (_ : Unit), ju2 () = some ru → SW G 2 c_We_sumsDiffer R_We 4 (some .boolean) (some (.int ru), Mu) Mu 34 [some (.ref 24), some (.int p0), some (.int p1), some (.int z3_2)] [] := by
        intro _ hf
        rw [hju2] at hf
        obtain ⟨xu3, hxu3⟩ : ∃ y : Int32, y = z3_2 + 1 := ⟨_, rfl⟩
        replace hf := lt_of hxu3 hf
        refine r_iinc (lv' := [some (.ref 24), some (.int p0), some (.int p1), some (.int xu3)]) d_We_sumsDiffer_34 rfl (by rw [hxu3]; rfl) (by decide) rfl ?_
        refine r_goto 2 d_We_sumsDiffer_37 (by decide) ?_
        exact ih xu3  hf
      refine r_icmp_ne 34 d_We_sumsDiffer_14 (by decide) (fun qu4 => ?_) (fun qu4 => ?_)
      · replace hf := im qu4 hf
        exact Kju2 ()  hf
      · replace hf := ip qu4 hf
        refine r_aload_n 0 d_We_sumsDiffer_17 rfl rfl ?_
        refine r_iload_n 3 d_We_sumsDiffer_18 rfl rfl ?_
        refine r_iload_n 2 d_We_sumsDiffer_19 rfl rfl ?_
        refine r_iconst (v := 1) d_We_sumsDiffer_20 (by decide) ?_
        refine r_iload_n 3 d_We_sumsDiffer_21 rfl rfl ?_
        refine r_ishl d_We_sumsDiffer_22 ?_
        refine r_iconst (v := (-1)) d_We_sumsDiffer_23 (by decide) ?_
        refine r_ixor d_We_sumsDiffer_24 ?_
        refine r_iand d_We_sumsDiffer_25 ?_
        obtain ⟨vu5, evu5, hf⟩ := bnd hf
        refine r_callV [.int z3_2, .int (p1 &&& (((1 : Int32) <<< (z3_2 &&& 31)) ^^^ (-1)))] d_We_sumsDiffer_26 lk_We_70 sh_24 (cm_We_hasTwin evu5) (by decide) rfl rfl (Nat.le_of_ble_eq_true rfl) ?_
        refine r_if_eq 34 d_We_sumsDiffer_29 (by decide) (fun qu6 => ?_) (fun qu6 => ?_)
        · replace hf := ip qu6 hf
          exact Kju2 ()  hf
        · replace hf := im qu6 hf
          refine r_iconst (v := 0) d_We_sumsDiffer_32 (by decide) ?_
          obtain rfl := Option.some.inj hf
          exact r_zreturn d_We_sumsDiffer_33 rfl (Or.inl rfl) rfl
theorem cm_We_sumsDiffer {G : GT} {Nu : Nat} {p0 : Int32} {p1 : Int32} {Mu : Mm}  {ru : Int32}  (hf : f_We_sumsDiffer Nu p0 p1 Mu = some ru) : CM G 2 y_We_sumsDiffer c_We_sumsDiffer 4 (some .boolean) (some (.int ru), Mu) Mu [.ref 24, .int p0, .int p1] := by
  unfold f_We_sumsDiffer at hf
  refine CM.of (own := R_We) (lv := [some (.ref 24), some (.int p0), some (.int p1), none]) (by decide) rfl (Nat.le_of_ble_eq_true rfl) rfl ?_
  refine r_iconst (v := 0) d_We_sumsDiffer_0 (by decide) ?_
  refine r_istore_n (lv' := [some (.ref 24), some (.int p0), some (.int p1), some (.int 0)]) 3 d_We_sumsDiffer_1 rfl (by decide) rfl ?_
  exact l_We_sumsDiffer_2 (G := G) (ru := ru) Nu p0 p1 Mu   Nu 0 hf
def L_We_weighFrom_23 (Nu : Nat) (p1 : Int32) (p2 : Int32) (xu3 : Int32) (ju4 : Mm → Option (Int32 × Mm)) (frecU : Int32 → Int32 → Int32 → Mm → Option (Int32 × Mm)) : Nat → Int32 → Mm → Option (Int32 × Mm)
  | 0, _, _ => none
  | nu + 1, z5_23, M_23 => if p2 < z5_23 then ju4 M_23 else (f_We_putWeight p1 z5_23 M_23).bind fun vu8 => if inb p1 8 = true then (f_We_sumsDiffer Nu (vu8.1 28 (Int32.toNatClampNeg p1)) xu3 vu8).bind fun vu10 => lt (fun (Mu12 : Mm) => lt (z5_23 + 1) fun xu13 => L_We_weighFrom_23 Nu p1 p2 xu3 ju4 frecU nu xu13 Mu12) fun ju11 => if vu10 = 0 then ju11 vu8 else (frecU (p1 + 1) p2 xu3 vu8).bind fun vu15 => lt vu15.1 fun vu16 => lt vu15.2 fun Mu17 => if vu16 = 0 then ju11 Mu17 else some (1, Mu17) else none
def f_We_weighFrom (Nu : Nat) : Nat → Int32 → Int32 → Int32 → Mm → Option (Int32 × Mm)
  | 0, _, _, _, _ => none
  | dd + 1, p1, p2, p3, Mu => if p1 < (Mu.1 24 5) then if inb p1 8 = true then lt (p3 ||| (Mu.1 28 (Int32.toNatClampNeg p1))) fun xu3 => lt (fun (Mu5 : Mm) => (f_We_putWeight p1 0 Mu5).bind fun vu6 => some (0, vu6)) fun ju4 => L_We_weighFrom_23 Nu p1 p2 xu3 ju4 (f_We_weighFrom Nu dd) Nu 1 Mu else none else some (1, Mu)
theorem l_We_weighFrom_23 {G : GT} {ru : Int32 × Mm} (Nu : Nat) (p1 : Int32) (p2 : Int32) (xu3 : Int32) (ju4 : Mm → Option (Int32 × Mm)) (frecU : Int32 → Int32 → Int32 → Mm → Option (Int32 × Mm)) (dd : Nat)  (Kju4 : ∀ (Mw : Mm), ju4 Mw = some ru → SW G (3 + (dd + 1)) c_We_weighFrom R_We 6 (some .boolean) (some (.int ru.1), ru.2) Mw 72 [some (.ref 24), some (.int p1), none, none, none, none] []) (hrecU : ∀ (p1 : Int32) (p2 : Int32) (p3 : Int32) (Mu : Mm) (ru : Int32 × Mm), frecU p1 p2 p3 Mu = some ru → CM G (3 + dd) y_We_weighFrom c_We_weighFrom 6 (some .boolean) (some (.int ru.1), ru.2) Mu [.ref 24, .int p1, .int p2, .int p3]) : ∀ (nu : Nat) (z5_23 : Int32) (M_23 : Mm), L_We_weighFrom_23 Nu p1 p2 xu3 ju4 frecU nu z5_23 M_23 = some ru → SW G (3 + (dd + 1)) c_We_weighFrom R_We 6 (some .boolean) (some (.int ru.1), ru.2) M_23 23 [some (.ref 24), some (.int p1), some (.int p2), none, some (.int xu3), some (.int z5_23)] []
  | 0, _, _, hf => by cases hf
  | nu + 1, z5_23, M_23, hf => by
    have ih := l_We_weighFrom_23 (G := G) (ru := ru) Nu p1 p2 xu3 ju4 frecU dd  Kju4 hrecU nu
    rw [L_We_weighFrom_23] at hf
    refine r_iload d_We_weighFrom_23 rfl ?_
    refine r_iload_n 2 d_We_weighFrom_25 rfl rfl ?_
    refine r_icmp_gt 72 d_We_weighFrom_26 (by decide) (fun qu7 => ?_) (fun qu7 => ?_)
    · replace hf := ip qu7 hf
      refine r_weak [2, 4, 5] (lv' := [some (.ref 24), some (.int p1), none, none, none, none]) rfl ?_
      exact Kju4 M_23  hf
    · replace hf := im qu7 hf
      refine r_aload_n 0 d_We_weighFrom_29 rfl rfl ?_
      refine r_iload_n 1 d_We_weighFrom_30 rfl rfl ?_
      refine r_iload d_We_weighFrom_31 rfl ?_
      obtain ⟨vu8, evu8, hf⟩ := bnd hf
      refine r_callV [.int p1, .int z5_23] d_We_weighFrom_33 lk_We_63 sh_24 (cm_We_putWeight evu8) (by omega) rfl rfl (Nat.le_of_ble_eq_true rfl) ?_
      refine r_aload_n 0 d_We_weighFrom_36 rfl rfl ?_
      refine r_aload_n 0 d_We_weighFrom_37 rfl rfl ?_
      refine r_getR 28 d_We_weighFrom_38 fl_We_21 sh_24 rfl rf_24_3 ?_
      refine r_iload_n 1 d_We_weighFrom_41 rfl rfl ?_
      obtain ⟨qu9, hf⟩ := ck hf
      refine r_iald d_We_weighFrom_42 sh_28 qu9 ?_
      refine r_iload d_We_weighFrom_43 rfl ?_
      obtain ⟨vu10, evu10, hf⟩ := bnd hf
      refine r_callV [.int (vu8.1 28 (Int32.toNatClampNeg p1)), .int xu3] d_We_weighFrom_45 lk_We_67 sh_24 (cm_We_sumsDiffer evu10) (by omega) rfl rfl (Nat.le_of_ble_eq_true rfl) ?_
      obtain ⟨ju11, hju11, hf⟩ := lt_ex hf
      have Kju11 : ∀ (Mu12 : Mm), ju11 Mu12 = some ru → SW G (3 + (dd + 1)) c_We_weighFrom R_We 6 (some .boolean) (some (.int ru.1), ru.2) Mu12 66 [some (.ref 24), some (.int p1), some (.int p2), none, some (.int xu3), some (.int z5_23)] [] := by
        intro Mu12 hf
        rw [hju11] at hf
        obtain ⟨xu13, hxu13⟩ : ∃ y : Int32, y = z5_23 + 1 := ⟨_, rfl⟩
        replace hf := lt_of hxu13 hf
        refine r_iinc (lv' := [some (.ref 24), some (.int p1), some (.int p2), none, some (.int xu3), some (.int xu13)]) d_We_weighFrom_66 rfl (by rw [hxu13]; rfl) (by decide) rfl ?_
        refine r_goto 23 d_We_weighFrom_69 (by decide) ?_
        exact ih xu13 Mu12  hf
      refine r_if_eq 66 d_We_weighFrom_48 (by decide) (fun qu14 => ?_) (fun qu14 => ?_)
      · replace hf := ip qu14 hf
        exact Kju11 vu8  hf
      · replace hf := im qu14 hf
        refine r_aload_n 0 d_We_weighFrom_51 rfl rfl ?_
        refine r_iload_n 1 d_We_weighFrom_52 rfl rfl ?_
        refine r_iconst (v := 1) d_We_weighFrom_53 (by decide) ?_
        refine r_iadd d_We_weighFrom_54 ?_
        refine r_iload_n 2 d_We_weighFrom_55 rfl rfl ?_
        refine r_iload d_We_weighFrom_56 rfl ?_
        obtain ⟨vu15, evu15, hf⟩ := bnd hf
        obtain ⟨vu16, Mu17⟩ := vu15
        replace hf := lt_of (rfl : vu16 = (vu16, Mu17).1) hf
        replace hf := lt_of (rfl : Mu17 = (vu16, Mu17).2) hf
        refine r_callS [.ref 24, .int (p1 + 1), .int p2, .int xu3] d_We_weighFrom_58 lk_We_43 (hrecU (p1 + 1) p2 xu3 vu8 (vu16, Mu17) evu15) (by omega) rfl rfl (Nat.le_of_ble_eq_true rfl) ?_
        refine r_if_eq 66 d_We_weighFrom_61 (by decide) (fun qu18 => ?_) (fun qu18 => ?_)
        · replace hf := ip qu18 hf
          exact Kju11 Mu17  hf
        · replace hf := im qu18 hf
          refine r_iconst (v := 1) d_We_weighFrom_64 (by decide) ?_
          obtain rfl := Option.some.inj hf
          exact r_zreturn d_We_weighFrom_65 rfl (Or.inr rfl) rfl
theorem cm_We_weighFrom {G : GT} {Nu : Nat} : ∀ (dd : Nat) (p1 : Int32) (p2 : Int32) (p3 : Int32) (Mu : Mm) (ru : Int32 × Mm), f_We_weighFrom Nu dd p1 p2 p3 Mu = some ru → CM G (3 + dd) y_We_weighFrom c_We_weighFrom 6 (some .boolean) (some (.int ru.1), ru.2) Mu [.ref 24, .int p1, .int p2, .int p3]
  | 0, _, _, _, _, ru, hf => by cases hf
  | dd + 1, p1, p2, p3, Mu, ru, hf => by
    rw [f_We_weighFrom] at hf
    refine CM.of (own := R_We) (lv := [some (.ref 24), some (.int p1), some (.int p2), some (.int p3), none, none]) (by decide) rfl (Nat.le_of_ble_eq_true rfl) rfl ?_
    refine r_iload_n 1 d_We_weighFrom_0 rfl rfl ?_
    refine r_aload_n 0 d_We_weighFrom_1 rfl rfl ?_
    refine r_getI d_We_weighFrom_2 fl_We_56 sh_24 (by decide) ?_
    refine r_icmp_lt 10 d_We_weighFrom_5 (by decide) (fun qu1 => ?_) (fun qu1 => ?_)
    · replace hf := ip qu1 hf
      refine r_iload_n 3 d_We_weighFrom_10 rfl rfl ?_
      refine r_aload_n 0 d_We_weighFrom_11 rfl rfl ?_
      refine r_getR 28 d_We_weighFrom_12 fl_We_21 sh_24 rfl rf_24_3 ?_
      refine r_iload_n 1 d_We_weighFrom_15 rfl rfl ?_
      obtain ⟨qu2, hf⟩ := ck hf
      refine r_iald d_We_weighFrom_16 sh_28 qu2 ?_
      refine r_ior d_We_weighFrom_17 ?_
      refine nmI (fun xu3 hxu3 => ?_)
      replace hf := lt_of hxu3 hf
      refine r_istore (lv' := [some (.ref 24), some (.int p1), some (.int p2), some (.int p3), some (.int xu3), none]) d_We_weighFrom_18 (by decide) rfl ?_
      refine r_iconst (v := 1) d_We_weighFrom_20 (by decide) ?_
      refine r_istore (lv' := [some (.ref 24), some (.int p1), some (.int p2), some (.int p3), some (.int xu3), some (.int 1)]) d_We_weighFrom_21 (by decide) rfl ?_
      obtain ⟨ju4, hju4, hf⟩ := lt_ex hf
      have Kju4 : ∀ (Mu5 : Mm), ju4 Mu5 = some ru → SW G (3 + (dd + 1)) c_We_weighFrom R_We 6 (some .boolean) (some (.int ru.1), ru.2) Mu5 72 [some (.ref 24), some (.int p1), none, none, none, none] [] := by
        intro Mu5 hf
        rw [hju4] at hf
        refine r_aload_n 0 d_We_weighFrom_72 rfl rfl ?_
        refine r_iload_n 1 d_We_weighFrom_73 rfl rfl ?_
        refine r_iconst (v := 0) d_We_weighFrom_74 (by decide) ?_
        obtain ⟨vu6, evu6, hf⟩ := bnd hf
        refine r_callV [.int p1, .int 0] d_We_weighFrom_75 lk_We_63 sh_24 (cm_We_putWeight evu6) (by omega) rfl rfl (Nat.le_of_ble_eq_true rfl) ?_
        refine r_iconst (v := 0) d_We_weighFrom_78 (by decide) ?_
        obtain rfl := Option.some.inj hf
        exact r_zreturn d_We_weighFrom_79 rfl (Or.inl rfl) rfl
      refine r_weak [3] (lv' := [some (.ref 24), some (.int p1), some (.int p2), none, some (.int xu3), some (.int 1)]) rfl ?_
      exact l_We_weighFrom_23 (G := G) (ru := ru) Nu p1 p2 xu3 ju4 (f_We_weighFrom Nu dd) dd  Kju4 (cm_We_weighFrom dd) Nu 1 Mu hf
    · replace hf := im qu1 hf
      refine r_iconst (v := 1) d_We_weighFrom_8 (by decide) ?_
      obtain rfl := Option.some.inj hf
      exact r_zreturn d_We_weighFrom_9 rfl (Or.inr rfl) rfl
def L_We_solve_49 (Nu : Nat) (xu3 : Int32) : Nat → Int32 → Mm → Option (Mm)
  | 0, _, _ => none
  | nu + 1, z3_49, M_49 => if 4 < z3_49 then some M_49 else if 2 ≤ xu3 then some M_49 else if (M_49.1 24 6) = (-1) then (f_We_weighFrom Nu 20 0 z3_49 0 M_49).bind fun vu9 => lt vu9.1 fun vu10 => lt vu9.2 fun Mu11 => lt (fun (Mu13 : Mm) => lt (z3_49 + 1) fun xu14 => L_We_solve_49 Nu xu3 nu xu14 Mu13) fun ju12 => if vu10 = 0 then ju12 Mu11 else lt (si Mu11 24 6 z3_49) fun Mu16 => ju12 Mu16 else some M_49
def L_We_solve_9 (Nu : Nat) (p0 : Nat) (ju2 : Int32 → Mm → Option (Mm)) : Nat → Int32 → Int32 → Mm → Option (Mm)
  | 0, _, _, _ => none
  | nu + 1, z2_9, z3_9, M_9 => if (M_9.1 p0 0) ≤ z3_9 then ju2 z2_9 M_9 else if inb z3_9 8 = true then lt (si M_9 29 (Int32.toNatClampNeg z3_9) 0) fun Mu19 => if inb z3_9 8 = true then lt (fun (xu22 : Int32) => lt (z3_9 + 1) fun xu23 => L_We_solve_9 Nu p0 ju2 nu xu22 xu23 Mu19) fun ju21 => if (Mu19.1 (p0 + 1) (Int32.toNatClampNeg z3_9)) = 0 then lt (z2_9 + 1) fun xu25 => ju21 xu25 else ju21 z2_9 else none else none
def f_We_solve (Nu : Nat) (p0 : Nat) (Mu : Mm) : Option (Mm) := (f_We_listFriendships Nu p0 Mu).bind fun vu1 => lt (fun (xu3 : Int32) (Mu4 : Mm) => lt (si Mu4 24 6 (-1)) fun Mu5 => L_We_solve_49 Nu xu3 Nu 1 Mu5) fun ju2 => L_We_solve_9 Nu p0 ju2 Nu 0 0 vu1
theorem l_We_solve_49 {G : GT} {ru : Mm} (Nu : Nat) (xu3 : Int32)    : ∀ (nu : Nat) (z3_49 : Int32) (M_49 : Mm), L_We_solve_49 Nu xu3 nu z3_49 M_49 = some ru → SW G 24 c_We_solve R_We 4 none (none, ru) M_49 49 [some (.ref 24), none, some (.int xu3), some (.int z3_49)] []
  | 0, _, _, hf => by cases hf
  | nu + 1, z3_49, M_49, hf => by
    have ih := l_We_solve_49 (G := G) (ru := ru) Nu xu3   nu
    rw [L_We_solve_49] at hf
    refine r_iload_n 3 d_We_solve_49 rfl rfl ?_
    refine r_iconst (v := 4) d_We_solve_50 (by decide) ?_
    refine r_icmp_gt 88 d_We_solve_51 (by decide) (fun qu6 => ?_) (fun qu6 => ?_)
    · replace hf := ip qu6 hf
      obtain rfl := Option.some.inj hf
      exact r_return d_We_solve_88 rfl rfl
    · replace hf := im qu6 hf
      refine r_iload_n 2 d_We_solve_54 rfl rfl ?_
      refine r_iconst (v := 2) d_We_solve_55 (by decide) ?_
      refine r_icmp_ge 88 d_We_solve_56 (by decide) (fun qu7 => ?_) (fun qu7 => ?_)
      · replace hf := ip qu7 hf
        obtain rfl := Option.some.inj hf
        exact r_return d_We_solve_88 rfl rfl
      · replace hf := im qu7 hf
        refine r_aload_n 0 d_We_solve_59 rfl rfl ?_
        refine r_getI d_We_solve_60 fl_We_40 sh_24 (by decide) ?_
        refine r_iconst (v := (-1)) d_We_solve_63 (by decide) ?_
        refine r_icmp_ne 88 d_We_solve_64 (by decide) (fun qu8 => ?_) (fun qu8 => ?_)
        · replace hf := im qu8 hf
          obtain rfl := Option.some.inj hf
          exact r_return d_We_solve_88 rfl rfl
        · replace hf := ip qu8 hf
          refine r_aload_n 0 d_We_solve_67 rfl rfl ?_
          refine r_iconst (v := 0) d_We_solve_68 (by decide) ?_
          refine r_iload_n 3 d_We_solve_69 rfl rfl ?_
          refine r_iconst (v := 0) d_We_solve_70 (by decide) ?_
          obtain ⟨vu9, evu9, hf⟩ := bnd hf
          obtain ⟨vu10, Mu11⟩ := vu9
          replace hf := lt_of (rfl : vu10 = (vu10, Mu11).1) hf
          replace hf := lt_of (rfl : Mu11 = (vu10, Mu11).2) hf
          refine r_callS [.ref 24, .int 0, .int z3_49, .int 0] d_We_solve_71 lk_We_43 (cm_We_weighFrom 20 0 z3_49 0 M_49 (vu10, Mu11) evu9) (by omega) rfl rfl (Nat.le_of_ble_eq_true rfl) ?_
          obtain ⟨ju12, hju12, hf⟩ := lt_ex hf
          have Kju12 : ∀ (Mu13 : Mm), ju12 Mu13 = some ru → SW G 24 c_We_solve R_We 4 none (none, ru) Mu13 82 [some (.ref 24), none, some (.int xu3), some (.int z3_49)] [] := by
            intro Mu13 hf
            rw [hju12] at hf
            obtain ⟨xu14, hxu14⟩ : ∃ y : Int32, y = z3_49 + 1 := ⟨_, rfl⟩
            replace hf := lt_of hxu14 hf
            refine r_iinc (lv' := [some (.ref 24), none, some (.int xu3), some (.int xu14)]) d_We_solve_82 rfl (by rw [hxu14]; rfl) (by decide) rfl ?_
            refine r_goto 49 d_We_solve_85 (by decide) ?_
            exact ih xu14 Mu13  hf
          refine r_if_eq 82 d_We_solve_74 (by decide) (fun qu15 => ?_) (fun qu15 => ?_)
          · replace hf := ip qu15 hf
            exact Kju12 Mu11  hf
          · replace hf := im qu15 hf
            refine r_aload_n 0 d_We_solve_77 rfl rfl ?_
            refine r_iload_n 3 d_We_solve_78 rfl rfl ?_
            refine r_putI d_We_solve_79 fl_We_40 sh_24 (Or.inl rfl) rfl ?_
            refine nmM (fun Mu16 hMu16 => ?_)
            replace hf := lt_of hMu16 hf
            exact Kju12 Mu16  hf
theorem l_We_solve_9 {G : GT} {ru : Mm} (Nu : Nat) (p0 : Nat) (ju2 : Int32 → Mm → Option (Mm)) (h_p0 : sh p0 = (5, 0)) (Kju2 : ∀ (w2 : Int32) (Mw : Mm), ju2 w2 Mw = some ru → SW G 24 c_We_solve R_We 4 none (none, ru) Mw 42 [some (.ref 24), none, some (.int w2), none] [])  : ∀ (nu : Nat) (z2_9 : Int32) (z3_9 : Int32) (M_9 : Mm), L_We_solve_9 Nu p0 ju2 nu z2_9 z3_9 M_9 = some ru → SW G 24 c_We_solve R_We 4 none (none, ru) M_9 9 [some (.ref 24), some (.ref p0), some (.int z2_9), some (.int z3_9)] []
  | 0, _, _, _, hf => by cases hf
  | nu + 1, z2_9, z3_9, M_9, hf => by
    have ih := l_We_solve_9 (G := G) (ru := ru) Nu p0 ju2 h_p0 Kju2 nu
    rw [L_We_solve_9] at hf
    refine r_iload_n 3 d_We_solve_9 rfl rfl ?_
    refine r_aload_n 1 d_We_solve_10 rfl rfl ?_
    refine r_getI d_We_solve_11 fl_We_31 h_p0 (by decide) ?_
    refine r_icmp_ge 42 d_We_solve_14 (by decide) (fun qu17 => ?_) (fun qu17 => ?_)
    · replace hf := ip qu17 hf
      refine r_weak [1, 3] (lv' := [some (.ref 24), none, some (.int z2_9), none]) rfl ?_
      exact Kju2 z2_9 M_9  hf
    · replace hf := im qu17 hf
      refine r_aload_n 0 d_We_solve_17 rfl rfl ?_
      refine r_getR 29 d_We_solve_18 fl_We_24 sh_24 rfl rf_24_4 ?_
      refine r_iload_n 3 d_We_solve_21 rfl rfl ?_
      refine r_iconst (v := 0) d_We_solve_22 (by decide) ?_
      obtain ⟨qu18, hf⟩ := ck hf
      refine r_iast d_We_solve_23 sh_29 qu18 ?_
      refine nmM (fun Mu19 hMu19 => ?_)
      replace hf := lt_of hMu19 hf
      refine r_aload_n 1 d_We_solve_24 rfl rfl ?_
      refine r_getR (p0 + 1) d_We_solve_25 fl_We_37 h_p0 rfl (to_r3 h_p0) ?_
      refine r_iload_n 3 d_We_solve_28 rfl rfl ?_
      obtain ⟨qu20, hf⟩ := ck hf
      refine r_iald d_We_solve_29 (to_s3 h_p0) qu20 ?_
      obtain ⟨ju21, hju21, hf⟩ := lt_ex hf
      have Kju21 : ∀ (xu22 : Int32), ju21 xu22 = some ru → SW G 24 c_We_solve R_We 4 none (none, ru) Mu19 36 [some (.ref 24), some (.ref p0), some (.int xu22), some (.int z3_9)] [] := by
        intro xu22 hf
        rw [hju21] at hf
        obtain ⟨xu23, hxu23⟩ : ∃ y : Int32, y = z3_9 + 1 := ⟨_, rfl⟩
        replace hf := lt_of hxu23 hf
        refine r_iinc (lv' := [some (.ref 24), some (.ref p0), some (.int xu22), some (.int xu23)]) d_We_solve_36 rfl (by rw [hxu23]; rfl) (by decide) rfl ?_
        refine r_goto 9 d_We_solve_39 (by decide) ?_
        exact ih xu22 xu23 Mu19  hf
      refine r_if_ne 36 d_We_solve_30 (by decide) (fun qu24 => ?_) (fun qu24 => ?_)
      · replace hf := im qu24 hf
        exact Kju21 z2_9  hf
      · replace hf := ip qu24 hf
        obtain ⟨xu25, hxu25⟩ : ∃ y : Int32, y = z2_9 + 1 := ⟨_, rfl⟩
        replace hf := lt_of hxu25 hf
        refine r_iinc (lv' := [some (.ref 24), some (.ref p0), some (.int xu25), some (.int z3_9)]) d_We_solve_33 rfl (by rw [hxu25]; rfl) (by decide) rfl ?_
        exact Kju21 xu25  hf
theorem cm_We_solve {G : GT} {Nu : Nat} {p0 : Nat} {Mu : Mm}  {ru : Mm} (h_p0 : sh p0 = (5, 0)) (hf : f_We_solve Nu p0 Mu = some ru) : CM G 24 y_We_solve c_We_solve 4 none (none, ru) Mu [.ref 24, .ref p0] := by
  unfold f_We_solve at hf
  refine CM.of (own := R_We) (lv := [some (.ref 24), some (.ref p0), none, none]) (by decide) rfl (Nat.le_of_ble_eq_true rfl) rfl ?_
  refine r_aload_n 0 d_We_solve_0 rfl rfl ?_
  refine r_aload_n 1 d_We_solve_1 rfl rfl ?_
  obtain ⟨vu1, evu1, hf⟩ := bnd hf
  refine r_callV [.ref p0] d_We_solve_2 lk_We_27 sh_24 (cm_We_listFriendships h_p0 evu1) (by decide) rfl rfl (Nat.le_of_ble_eq_true rfl) ?_
  refine r_iconst (v := 0) d_We_solve_5 (by decide) ?_
  refine r_istore_n (lv' := [some (.ref 24), some (.ref p0), some (.int 0), none]) 2 d_We_solve_6 rfl (by decide) rfl ?_
  refine r_iconst (v := 0) d_We_solve_7 (by decide) ?_
  refine r_istore_n (lv' := [some (.ref 24), some (.ref p0), some (.int 0), some (.int 0)]) 3 d_We_solve_8 rfl (by decide) rfl ?_
  obtain ⟨ju2, hju2, hf⟩ := lt_ex hf
  have Kju2 : ∀ (xu3 : Int32) (Mu4 : Mm), ju2 xu3 Mu4 = some ru → SW G 24 c_We_solve R_We 4 none (none, ru) Mu4 42 [some (.ref 24), none, some (.int xu3), none] [] := by
    intro xu3 Mu4 hf
    rw [hju2] at hf
    refine r_aload_n 0 d_We_solve_42 rfl rfl ?_
    refine r_iconst (v := (-1)) d_We_solve_43 (by decide) ?_
    refine r_putI d_We_solve_44 fl_We_40 sh_24 (Or.inl rfl) rfl ?_
    refine nmM (fun Mu5 hMu5 => ?_)
    replace hf := lt_of hMu5 hf
    refine r_iconst (v := 1) d_We_solve_47 (by decide) ?_
    refine r_istore_n (lv' := [some (.ref 24), none, some (.int xu3), some (.int 1)]) 3 d_We_solve_48 rfl (by decide) rfl ?_
    exact l_We_solve_49 (G := G) (ru := ru) Nu xu3   Nu 1 Mu5 hf
  exact l_We_solve_9 (G := G) (ru := ru) Nu p0 ju2 h_p0 Kju2 Nu 0 0 vu1 hf
def L_We_weightOf_16 (Nu : Nat) (Mu : Mm) (xu1 : Int32) (xu2 : Int32) (ju3 : Int32 → Option (Int32)) : Nat → Int32 → Option (Int32)
  | 0, _ => none
  | nu + 1, z5_16 => if (Mu.1 24 5) ≤ z5_16 then some 0 else if inb z5_16 8 = true then lt (fun (_ : Unit) => lt (z5_16 + 1) fun xu9 => L_We_weightOf_16 Nu Mu xu1 xu2 ju3 nu xu9) fun ju8 => if (Mu.1 25 (Int32.toNatClampNeg z5_16)) = xu1 then if inb z5_16 8 = true then if (Mu.1 26 (Int32.toNatClampNeg z5_16)) = xu2 then ju3 z5_16 else ju8 () else none else ju8 () else none
def f_We_weightOf (Nu : Nat) (p0 : Int32) (p1 : Int32) (Mu : Mm) : Option (Int32) := lt (f_Ma_min_II p0 p1) fun xu1 => lt (f_Ma_max p0 p1) fun xu2 => lt (fun (xu4 : Int32) => if inb xu4 8 = true then some (Mu.1 27 (Int32.toNatClampNeg xu4)) else none) fun ju3 => L_We_weightOf_16 Nu Mu xu1 xu2 ju3 Nu 0
theorem l_We_weightOf_16 {G : GT} {ru : Int32} (Nu : Nat) (Mu : Mm) (xu1 : Int32) (xu2 : Int32) (ju3 : Int32 → Option (Int32))  (Kju3 : ∀ (w5 : Int32), ju3 w5 = some ru → SW G 2 c_We_weightOf R_We 6 (some .int) (some (.int ru), Mu) Mu 48 [some (.ref 24), none, none, none, none, some (.int w5)] [])  : ∀ (nu : Nat) (z5_16 : Int32), L_We_weightOf_16 Nu Mu xu1 xu2 ju3 nu z5_16 = some ru → SW G 2 c_We_weightOf R_We 6 (some .int) (some (.int ru), Mu) Mu 16 [some (.ref 24), none, none, some (.int xu1), some (.int xu2), some (.int z5_16)] []
  | 0, _, hf => by cases hf
  | nu + 1, z5_16, hf => by
    have ih := l_We_weightOf_16 (G := G) (ru := ru) Nu Mu xu1 xu2 ju3  Kju3 nu
    rw [L_We_weightOf_16] at hf
    refine r_iload d_We_weightOf_16 rfl ?_
    refine r_aload_n 0 d_We_weightOf_18 rfl rfl ?_
    refine r_getI d_We_weightOf_19 fl_We_56 sh_24 (by decide) ?_
    refine r_icmp_ge 62 d_We_weightOf_22 (by decide) (fun qu6 => ?_) (fun qu6 => ?_)
    · replace hf := ip qu6 hf
      refine r_iconst (v := 0) d_We_weightOf_62 (by decide) ?_
      obtain rfl := Option.some.inj hf
      exact r_ireturn d_We_weightOf_63 rfl rfl
    · replace hf := im qu6 hf
      refine r_aload_n 0 d_We_weightOf_25 rfl rfl ?_
      refine r_getR 25 d_We_weightOf_26 fl_We_9 sh_24 rfl rf_24_0 ?_
      refine r_iload d_We_weightOf_29 rfl ?_
      obtain ⟨qu7, hf⟩ := ck hf
      refine r_iald d_We_weightOf_31 sh_25 qu7 ?_
      refine r_iload_n 3 d_We_weightOf_32 rfl rfl ?_
      obtain ⟨ju8, hju8, hf⟩ := lt_ex hf
      have Kju8 : ∀ (_ : Unit), ju8 () = some ru → SW G 2 c_We_weightOf R_We 6 (some .int) (some (.int ru), Mu) Mu 56 [some (.ref 24), none, none, some (.int xu1), some (.int xu2), some (.int z5_16)] [] := by
        intro _ hf
        rw [hju8] at hf
        obtain ⟨xu9, hxu9⟩ : ∃ y : Int32, y = z5_16 + 1 := ⟨_, rfl⟩
        replace hf := lt_of hxu9 hf
        refine r_iinc (lv' := [some (.ref 24), none, none, some (.int xu1), some (.int xu2), some (.int xu9)]) d_We_weightOf_56 rfl (by rw [hxu9]; rfl) (by decide) rfl ?_
        refine r_goto 16 d_We_weightOf_59 (by decide) ?_
        exact ih xu9  hf
      refine r_icmp_ne 56 d_We_weightOf_33 (by decide) (fun qu10 => ?_) (fun qu10 => ?_)
      · replace hf := im qu10 hf
        exact Kju8 ()  hf
      · replace hf := ip qu10 hf
        refine r_aload_n 0 d_We_weightOf_36 rfl rfl ?_
        refine r_getR 26 d_We_weightOf_37 fl_We_15 sh_24 rfl rf_24_1 ?_
        refine r_iload d_We_weightOf_40 rfl ?_
        obtain ⟨qu11, hf⟩ := ck hf
        refine r_iald d_We_weightOf_42 sh_26 qu11 ?_
        refine r_iload d_We_weightOf_43 rfl ?_
        refine r_icmp_ne 56 d_We_weightOf_45 (by decide) (fun qu12 => ?_) (fun qu12 => ?_)
        · replace hf := im qu12 hf
          exact Kju8 ()  hf
        · replace hf := ip qu12 hf
          refine r_weak [3, 4] (lv' := [some (.ref 24), none, none, none, none, some (.int z5_16)]) rfl ?_
          exact Kju3 z5_16  hf
theorem cm_We_weightOf {G : GT} {Nu : Nat} {p0 : Int32} {p1 : Int32} {Mu : Mm}  {ru : Int32}  (hf : f_We_weightOf Nu p0 p1 Mu = some ru) : CM G 2 y_We_weightOf c_We_weightOf 6 (some .int) (some (.int ru), Mu) Mu [.ref 24, .int p0, .int p1] := by
  unfold f_We_weightOf at hf
  refine CM.of (own := R_We) (lv := [some (.ref 24), some (.int p0), some (.int p1), none, none, none]) (by decide) rfl (Nat.le_of_ble_eq_true rfl) rfl ?_
  refine r_iload_n 1 d_We_weightOf_0 rfl rfl ?_
  refine r_iload_n 2 d_We_weightOf_1 rfl rfl ?_
  refine r_callS [.int p0, .int p1] d_We_weightOf_2 lk_We_47 (cm_Ma_min_II p0 p1 Mu) (by decide) rfl rfl (Nat.le_of_ble_eq_true rfl) ?_
  refine nmI (fun xu1 hxu1 => ?_)
  replace hf := lt_of hxu1 hf
  refine r_istore_n (lv' := [some (.ref 24), some (.int p0), some (.int p1), some (.int xu1), none, none]) 3 d_We_weightOf_5 rfl (by decide) rfl ?_
  refine r_iload_n 1 d_We_weightOf_6 rfl rfl ?_
  refine r_iload_n 2 d_We_weightOf_7 rfl rfl ?_
  refine r_callS [.int p0, .int p1] d_We_weightOf_8 lk_We_53 (cm_Ma_max p0 p1 Mu) (by decide) rfl rfl (Nat.le_of_ble_eq_true rfl) ?_
  refine nmI (fun xu2 hxu2 => ?_)
  replace hf := lt_of hxu2 hf
  refine r_istore (lv' := [some (.ref 24), some (.int p0), some (.int p1), some (.int xu1), some (.int xu2), none]) d_We_weightOf_11 (by decide) rfl ?_
  refine r_iconst (v := 0) d_We_weightOf_13 (by decide) ?_
  refine r_istore (lv' := [some (.ref 24), some (.int p0), some (.int p1), some (.int xu1), some (.int xu2), some (.int 0)]) d_We_weightOf_14 (by decide) rfl ?_
  obtain ⟨ju3, hju3, hf⟩ := lt_ex hf
  have Kju3 : ∀ (xu4 : Int32), ju3 xu4 = some ru → SW G 2 c_We_weightOf R_We 6 (some .int) (some (.int ru), Mu) Mu 48 [some (.ref 24), none, none, none, none, some (.int xu4)] [] := by
    intro xu4 hf
    rw [hju3] at hf
    refine r_aload_n 0 d_We_weightOf_48 rfl rfl ?_
    refine r_getR 27 d_We_weightOf_49 fl_We_18 sh_24 rfl rf_24_2 ?_
    refine r_iload d_We_weightOf_52 rfl ?_
    obtain ⟨qu5, hf⟩ := ck hf
    refine r_iald d_We_weightOf_54 sh_27 qu5 ?_
    obtain rfl := Option.some.inj hf
    exact r_ireturn d_We_weightOf_55 rfl rfl
  refine r_weak [1, 2] (lv' := [some (.ref 24), none, none, some (.int xu1), some (.int xu2), some (.int 0)]) rfl ?_
  exact l_We_weightOf_16 (G := G) (ru := ru) Nu Mu xu1 xu2 ju3  Kju3 Nu 0 hf
def L_Wa_unlikeBelow_9 (Nu : Nat) (p0 : Int32) (p1 : Int32) (p2 : Int32) (xu1 : Int32) : Nat → Int32 → Option (Int32)
  | 0, _ => none
  | nu + 1, z4_9 => if p1 ≤ z4_9 then some 1 else if ((p0 >>> ((p2 * z4_9) &&& 31)) &&& xu1) = ((p0 >>> ((p2 * p1) &&& 31)) &&& xu1) then some 0 else lt (z4_9 + 1) fun xu4 => L_Wa_unlikeBelow_9 Nu p0 p1 p2 xu1 nu xu4
def f_Wa_unlikeBelow (Nu : Nat) (p0 : Int32) (p1 : Int32) (p2 : Int32) : Option (Int32) := lt (((1 : Int32) <<< (p2 &&& 31)) - 1) fun xu1 => L_Wa_unlikeBelow_9 Nu p0 p1 p2 xu1 Nu 0
theorem l_Wa_unlikeBelow_9 {G : GT} {ru : Int32} (Nu : Nat) (p0 : Int32) (p1 : Int32) (p2 : Int32) (xu1 : Int32) (Mu : Mm)    : ∀ (nu : Nat) (z4_9 : Int32), L_Wa_unlikeBelow_9 Nu p0 p1 p2 xu1 nu z4_9 = some ru → SW G 1 c_Wa_unlikeBelow R_Wa 5 (some .boolean) (some (.int ru), Mu) Mu 9 [some (.int p0), some (.int p1), some (.int p2), some (.int xu1), some (.int z4_9)] []
  | 0, _, hf => by cases hf
  | nu + 1, z4_9, hf => by
    have ih := l_Wa_unlikeBelow_9 (G := G) (ru := ru) Nu p0 p1 p2 xu1 Mu   nu
    rw [L_Wa_unlikeBelow_9] at hf
    refine r_iload d_Wa_unlikeBelow_9 rfl ?_
    refine r_iload_n 1 d_Wa_unlikeBelow_11 rfl rfl ?_
    refine r_icmp_ge 41 d_Wa_unlikeBelow_12 (by decide) (fun qu2 => ?_) (fun qu2 => ?_)
    · replace hf := ip qu2 hf
      refine r_iconst (v := 1) d_Wa_unlikeBelow_41 (by decide) ?_
      obtain rfl := Option.some.inj hf
      exact r_zreturn d_Wa_unlikeBelow_42 rfl (Or.inr rfl) rfl
    · replace hf := im qu2 hf
      refine r_iload_n 0 d_Wa_unlikeBelow_15 rfl rfl ?_
      refine r_iload_n 2 d_Wa_unlikeBelow_16 rfl rfl ?_
      refine r_iload d_Wa_unlikeBelow_17 rfl ?_
      refine r_imul d_Wa_unlikeBelow_19 ?_
      refine r_ishr d_Wa_unlikeBelow_20 ?_
      refine r_iload_n 3 d_Wa_unlikeBelow_21 rfl rfl ?_
      refine r_iand d_Wa_unlikeBelow_22 ?_
      refine r_iload_n 0 d_Wa_unlikeBelow_23 rfl rfl ?_
      refine r_iload_n 2 d_Wa_unlikeBelow_24 rfl rfl ?_
      refine r_iload_n 1 d_Wa_unlikeBelow_25 rfl rfl ?_
      refine r_imul d_Wa_unlikeBelow_26 ?_
      refine r_ishr d_Wa_unlikeBelow_27 ?_
      refine r_iload_n 3 d_Wa_unlikeBelow_28 rfl rfl ?_
      refine r_iand d_Wa_unlikeBelow_29 ?_
      refine r_icmp_ne 35 d_Wa_unlikeBelow_30 (by decide) (fun qu3 => ?_) (fun qu3 => ?_)
      · replace hf := im qu3 hf
        obtain ⟨xu4, hxu4⟩ : ∃ y : Int32, y = z4_9 + 1 := ⟨_, rfl⟩
        replace hf := lt_of hxu4 hf
        refine r_iinc (lv' := [some (.int p0), some (.int p1), some (.int p2), some (.int xu1), some (.int xu4)]) d_Wa_unlikeBelow_35 rfl (by rw [hxu4]; rfl) (by decide) rfl ?_
        refine r_goto 9 d_Wa_unlikeBelow_38 (by decide) ?_
        exact ih xu4  hf
      · replace hf := ip qu3 hf
        refine r_iconst (v := 0) d_Wa_unlikeBelow_33 (by decide) ?_
        obtain rfl := Option.some.inj hf
        exact r_zreturn d_Wa_unlikeBelow_34 rfl (Or.inl rfl) rfl
theorem cm_Wa_unlikeBelow {G : GT} {Nu : Nat} {p0 : Int32} {p1 : Int32} {p2 : Int32} {Mu : Mm} {ru : Int32}  (hf : f_Wa_unlikeBelow Nu p0 p1 p2 = some ru) : CM G 1 y_Wa_unlikeBelow c_Wa_unlikeBelow 5 (some .boolean) (some (.int ru), Mu) Mu [.int p0, .int p1, .int p2] := by
  unfold f_Wa_unlikeBelow at hf
  refine CM.of (own := R_Wa) (lv := [some (.int p0), some (.int p1), some (.int p2), none, none]) (by decide) rfl (Nat.le_of_ble_eq_true rfl) rfl ?_
  refine r_iconst (v := 1) d_Wa_unlikeBelow_0 (by decide) ?_
  refine r_iload_n 2 d_Wa_unlikeBelow_1 rfl rfl ?_
  refine r_ishl d_Wa_unlikeBelow_2 ?_
  refine r_iconst (v := 1) d_Wa_unlikeBelow_3 (by decide) ?_
  refine r_isub d_Wa_unlikeBelow_4 ?_
  refine nmI (fun xu1 hxu1 => ?_)
  replace hf := lt_of hxu1 hf
  refine r_istore_n (lv' := [some (.int p0), some (.int p1), some (.int p2), some (.int xu1), none]) 3 d_Wa_unlikeBelow_5 rfl (by decide) rfl ?_
  refine r_iconst (v := 0) d_Wa_unlikeBelow_6 (by decide) ?_
  refine r_istore (lv' := [some (.int p0), some (.int p1), some (.int p2), some (.int xu1), some (.int 0)]) d_Wa_unlikeBelow_7 (by decide) rfl ?_
  exact l_Wa_unlikeBelow_9 (G := G) (ru := ru) Nu p0 p1 p2 xu1 Mu   Nu 0 hf
def L_Wa_allUnlike_2 (Nu : Nat) (p0 : Int32) (p1 : Int32) (p2 : Int32) : Nat → Int32 → Option (Int32)
  | 0, _ => none
  | nu + 1, z3_2 => if p1 ≤ z3_2 then some 1 else (f_Wa_unlikeBelow Nu p0 z3_2 p2).bind fun vu2 => if vu2 = 0 then some 0 else lt (z3_2 + 1) fun xu4 => L_Wa_allUnlike_2 Nu p0 p1 p2 nu xu4
def f_Wa_allUnlike (Nu : Nat) (p0 : Int32) (p1 : Int32) (p2 : Int32) : Option (Int32) := L_Wa_allUnlike_2 Nu p0 p1 p2 Nu 1
theorem l_Wa_allUnlike_2 {G : GT} {ru : Int32} (Nu : Nat) (p0 : Int32) (p1 : Int32) (p2 : Int32) (Mu : Mm)    : ∀ (nu : Nat) (z3_2 : Int32), L_Wa_allUnlike_2 Nu p0 p1 p2 nu z3_2 = some ru → SW G 2 c_Wa_allUnlike R_Wa 4 (some .boolean) (some (.int ru), Mu) Mu 2 [some (.int p0), some (.int p1), some (.int p2), some (.int z3_2)] []
  | 0, _, hf => by cases hf
  | nu + 1, z3_2, hf => by
    have ih := l_Wa_allUnlike_2 (G := G) (ru := ru) Nu p0 p1 p2 Mu   nu
    rw [L_Wa_allUnlike_2] at hf
    refine r_iload_n 3 d_Wa_allUnlike_2 rfl rfl ?_
    refine r_iload_n 1 d_Wa_allUnlike_3 rfl rfl ?_
    refine r_icmp_ge 24 d_Wa_allUnlike_4 (by decide) (fun qu1 => ?_) (fun qu1 => ?_)
    · replace hf := ip qu1 hf
      refine r_iconst (v := 1) d_Wa_allUnlike_24 (by decide) ?_
      obtain rfl := Option.some.inj hf
      exact r_zreturn d_Wa_allUnlike_25 rfl (Or.inr rfl) rfl
    · replace hf := im qu1 hf
      refine r_iload_n 0 d_Wa_allUnlike_7 rfl rfl ?_
      refine r_iload_n 3 d_Wa_allUnlike_8 rfl rfl ?_
      refine r_iload_n 2 d_Wa_allUnlike_9 rfl rfl ?_
      obtain ⟨vu2, evu2, hf⟩ := bnd hf
      refine r_callS [.int p0, .int z3_2, .int p2] d_Wa_allUnlike_10 lk_Wa_40 (cm_Wa_unlikeBelow evu2) (by decide) rfl rfl (Nat.le_of_ble_eq_true rfl) ?_
      refine r_if_ne 18 d_Wa_allUnlike_13 (by decide) (fun qu3 => ?_) (fun qu3 => ?_)
      · replace hf := im qu3 hf
        obtain ⟨xu4, hxu4⟩ : ∃ y : Int32, y = z3_2 + 1 := ⟨_, rfl⟩
        replace hf := lt_of hxu4 hf
        refine r_iinc (lv' := [some (.int p0), some (.int p1), some (.int p2), some (.int xu4)]) d_Wa_allUnlike_18 rfl (by rw [hxu4]; rfl) (by decide) rfl ?_
        refine r_goto 2 d_Wa_allUnlike_21 (by decide) ?_
        exact ih xu4  hf
      · replace hf := ip qu3 hf
        refine r_iconst (v := 0) d_Wa_allUnlike_16 (by decide) ?_
        obtain rfl := Option.some.inj hf
        exact r_zreturn d_Wa_allUnlike_17 rfl (Or.inl rfl) rfl
theorem cm_Wa_allUnlike {G : GT} {Nu : Nat} {p0 : Int32} {p1 : Int32} {p2 : Int32} {Mu : Mm} {ru : Int32}  (hf : f_Wa_allUnlike Nu p0 p1 p2 = some ru) : CM G 2 y_Wa_allUnlike c_Wa_allUnlike 4 (some .boolean) (some (.int ru), Mu) Mu [.int p0, .int p1, .int p2] := by
  unfold f_Wa_allUnlike at hf
  refine CM.of (own := R_Wa) (lv := [some (.int p0), some (.int p1), some (.int p2), none]) (by decide) rfl (Nat.le_of_ble_eq_true rfl) rfl ?_
  refine r_iconst (v := 1) d_Wa_allUnlike_0 (by decide) ?_
  refine r_istore_n (lv' := [some (.int p0), some (.int p1), some (.int p2), some (.int 1)]) 3 d_Wa_allUnlike_1 rfl (by decide) rfl ?_
  exact l_Wa_allUnlike_2 (G := G) (ru := ru) Nu p0 p1 p2 Mu   Nu 1 hf
def L_Wa_spread_4 (Nu : Nat) (p0 : Int32) (p1 : Int32) : Nat → Int32 → Int32 → Option (Int32)
  | 0, _, _ => none
  | nu + 1, z2_4, z3_4 => if p1 ≤ z3_4 then some z2_4 else lt (z2_4 ||| (((p0 >>> (z3_4 &&& 31)) &&& 1) <<< (((4 : Int32) * z3_4) &&& 31))) fun xu2 => lt (z3_4 + 1) fun xu3 => L_Wa_spread_4 Nu p0 p1 nu xu2 xu3
def f_Wa_spread (Nu : Nat) (p0 : Int32) (p1 : Int32) : Option (Int32) := L_Wa_spread_4 Nu p0 p1 Nu 0 0
theorem l_Wa_spread_4 {G : GT} {ru : Int32} (Nu : Nat) (p0 : Int32) (p1 : Int32) (Mu : Mm)    : ∀ (nu : Nat) (z2_4 : Int32) (z3_4 : Int32), L_Wa_spread_4 Nu p0 p1 nu z2_4 z3_4 = some ru → SW G 1 c_Wa_spread R_Wa 4 (some .int) (some (.int ru), Mu) Mu 4 [some (.int p0), some (.int p1), some (.int z2_4), some (.int z3_4)] []
  | 0, _, _, hf => by cases hf
  | nu + 1, z2_4, z3_4, hf => by
    have ih := l_Wa_spread_4 (G := G) (ru := ru) Nu p0 p1 Mu   nu
    rw [L_Wa_spread_4] at hf
    refine r_iload_n 3 d_Wa_spread_4 rfl rfl ?_
    refine r_iload_n 1 d_Wa_spread_5 rfl rfl ?_
    refine r_icmp_ge 27 d_Wa_spread_6 (by decide) (fun qu1 => ?_) (fun qu1 => ?_)
    · replace hf := ip qu1 hf
      refine r_iload_n 2 d_Wa_spread_27 rfl rfl ?_
      obtain rfl := Option.some.inj hf
      exact r_ireturn d_Wa_spread_28 rfl rfl
    · replace hf := im qu1 hf
      refine r_iload_n 2 d_Wa_spread_9 rfl rfl ?_
      refine r_iload_n 0 d_Wa_spread_10 rfl rfl ?_
      refine r_iload_n 3 d_Wa_spread_11 rfl rfl ?_
      refine r_ishr d_Wa_spread_12 ?_
      refine r_iconst (v := 1) d_Wa_spread_13 (by decide) ?_
      refine r_iand d_Wa_spread_14 ?_
      refine r_iconst (v := 4) d_Wa_spread_15 (by decide) ?_
      refine r_iload_n 3 d_Wa_spread_16 rfl rfl ?_
      refine r_imul d_Wa_spread_17 ?_
      refine r_ishl d_Wa_spread_18 ?_
      refine r_ior d_Wa_spread_19 ?_
      refine nmI (fun xu2 hxu2 => ?_)
      replace hf := lt_of hxu2 hf
      refine r_istore_n (lv' := [some (.int p0), some (.int p1), some (.int xu2), some (.int z3_4)]) 2 d_Wa_spread_20 rfl (by decide) rfl ?_
      obtain ⟨xu3, hxu3⟩ : ∃ y : Int32, y = z3_4 + 1 := ⟨_, rfl⟩
      replace hf := lt_of hxu3 hf
      refine r_iinc (lv' := [some (.int p0), some (.int p1), some (.int xu2), some (.int xu3)]) d_Wa_spread_21 rfl (by rw [hxu3]; rfl) (by decide) rfl ?_
      refine r_goto 4 d_Wa_spread_24 (by decide) ?_
      exact ih xu2 xu3  hf
theorem cm_Wa_spread {G : GT} {Nu : Nat} {p0 : Int32} {p1 : Int32} {Mu : Mm} {ru : Int32}  (hf : f_Wa_spread Nu p0 p1 = some ru) : CM G 1 y_Wa_spread c_Wa_spread 4 (some .int) (some (.int ru), Mu) Mu [.int p0, .int p1] := by
  unfold f_Wa_spread at hf
  refine CM.of (own := R_Wa) (lv := [some (.int p0), some (.int p1), none, none]) (by decide) rfl (Nat.le_of_ble_eq_true rfl) rfl ?_
  refine r_iconst (v := 0) d_Wa_spread_0 (by decide) ?_
  refine r_istore_n (lv' := [some (.int p0), some (.int p1), some (.int 0), none]) 2 d_Wa_spread_1 rfl (by decide) rfl ?_
  refine r_iconst (v := 0) d_Wa_spread_2 (by decide) ?_
  refine r_istore_n (lv' := [some (.int p0), some (.int p1), some (.int 0), some (.int 0)]) 3 d_Wa_spread_3 rfl (by decide) rfl ?_
  exact l_Wa_spread_4 (G := G) (ru := ru) Nu p0 p1 Mu   Nu 0 0 hf
def L_Wa_acrossFrom_27 (Nu : Nat) (p0 : Int32) (p1 : Int32) (p2 : Int32) (p3 : Int32) (p4 : Int32) (frecU : Int32 → Int32 → Int32 → Int32 → Int32 → Option (Int32)) : Nat → Int32 → Int32 → Option (Int32)
  | 0, _, _ => none
  | nu + 1, z5_27, z6_27 => if ((1 : Int32) <<< (p2 &&& 31)) ≤ z6_27 then some z5_27 else lt (f_In_bitCount z6_27) fun xu3 => lt (fun (xu5 : Int32) => lt (z6_27 + 1) fun xu6 => L_Wa_acrossFrom_27 Nu p0 p1 p2 p3 p4 frecU nu xu5 xu6) fun ju4 => if ((p3 >>> (xu3 &&& 31)) &&& 1) = 0 then (f_Wa_spread Nu z6_27 p2).bind fun vu8 => (frecU (p0 + 1) p1 p2 (p3 ||| ((1 : Int32) <<< (xu3 &&& 31))) (p4 + vu8)).bind fun vu9 => lt (z5_27 + vu9) fun xu10 => ju4 xu10 else ju4 z5_27
def f_Wa_acrossFrom (Nu : Nat) : Nat → Int32 → Int32 → Int32 → Int32 → Int32 → Option (Int32)
  | 0, _, _, _, _, _ => none
  | dd + 1, p0, p1, p2, p3, p4 => if p0 < p1 then L_Wa_acrossFrom_27 Nu p0 p1 p2 p3 p4 (f_Wa_acrossFrom Nu dd) Nu 0 0 else (f_Wa_allUnlike Nu p4 p2 4).bind fun vu11 => if vu11 = 0 then some 0 else some 1
theorem l_Wa_acrossFrom_27 {G : GT} {ru : Int32} (Nu : Nat) (p0 : Int32) (p1 : Int32) (p2 : Int32) (p3 : Int32) (p4 : Int32) (frecU : Int32 → Int32 → Int32 → Int32 → Int32 → Option (Int32)) (dd : Nat) (Mu : Mm)   (hrecU : ∀ (p0 : Int32) (p1 : Int32) (p2 : Int32) (p3 : Int32) (p4 : Int32) (Mu : Mm) (ru : Int32), frecU p0 p1 p2 p3 p4 = some ru → CM G (3 + dd) y_Wa_acrossFrom c_Wa_acrossFrom 8 (some .int) (some (.int ru), Mu) Mu [.int p0, .int p1, .int p2, .int p3, .int p4]) : ∀ (nu : Nat) (z5_27 : Int32) (z6_27 : Int32), L_Wa_acrossFrom_27 Nu p0 p1 p2 p3 p4 frecU nu z5_27 z6_27 = some ru → SW G (3 + (dd + 1)) c_Wa_acrossFrom R_Wa 8 (some .int) (some (.int ru), Mu) Mu 27 [some (.int p0), some (.int p1), some (.int p2), some (.int p3), some (.int p4), some (.int z5_27), some (.int z6_27), none] []
  | 0, _, _, hf => by cases hf
  | nu + 1, z5_27, z6_27, hf => by
    have ih := l_Wa_acrossFrom_27 (G := G) (ru := ru) Nu p0 p1 p2 p3 p4 frecU dd Mu   hrecU nu
    rw [L_Wa_acrossFrom_27] at hf
    refine r_iload d_Wa_acrossFrom_27 rfl ?_
    refine r_iconst (v := 1) d_Wa_acrossFrom_29 (by decide) ?_
    refine r_iload_n 2 d_Wa_acrossFrom_30 rfl rfl ?_
    refine r_ishl d_Wa_acrossFrom_31 ?_
    refine r_icmp_ge 85 d_Wa_acrossFrom_32 (by decide) (fun qu2 => ?_) (fun qu2 => ?_)
    · replace hf := ip qu2 hf
      refine r_iload d_Wa_acrossFrom_85 rfl ?_
      obtain rfl := Option.some.inj hf
      exact r_ireturn d_Wa_acrossFrom_87 rfl rfl
    · replace hf := im qu2 hf
      refine r_iload d_Wa_acrossFrom_35 rfl ?_
      refine r_callS [.int z6_27] d_Wa_acrossFrom_37 lk_Wa_30 (cm_In_bitCount z6_27 Mu) (by omega) rfl rfl (Nat.le_of_ble_eq_true rfl) ?_
      refine nmI (fun xu3 hxu3 => ?_)
      replace hf := lt_of hxu3 hf
      refine r_istore (lv' := [some (.int p0), some (.int p1), some (.int p2), some (.int p3), some (.int p4), some (.int z5_27), some (.int z6_27), some (.int xu3)]) d_Wa_acrossFrom_40 (by decide) rfl ?_
      refine r_iload_n 3 d_Wa_acrossFrom_42 rfl rfl ?_
      refine r_iload d_Wa_acrossFrom_43 rfl ?_
      refine r_ishr d_Wa_acrossFrom_45 ?_
      refine r_iconst (v := 1) d_Wa_acrossFrom_46 (by decide) ?_
      refine r_iand d_Wa_acrossFrom_47 ?_
      obtain ⟨ju4, hju4, hf⟩ := lt_ex hf
      have Kju4 : ∀ (xu5 : Int32), ju4 xu5 = some ru → SW G (3 + (dd + 1)) c_Wa_acrossFrom R_Wa 8 (some .int) (some (.int ru), Mu) Mu 79 [some (.int p0), some (.int p1), some (.int p2), some (.int p3), some (.int p4), some (.int xu5), some (.int z6_27), none] [] := by
        intro xu5 hf
        rw [hju4] at hf
        obtain ⟨xu6, hxu6⟩ : ∃ y : Int32, y = z6_27 + 1 := ⟨_, rfl⟩
        replace hf := lt_of hxu6 hf
        refine r_iinc (lv' := [some (.int p0), some (.int p1), some (.int p2), some (.int p3), some (.int p4), some (.int xu5), some (.int xu6), none]) d_Wa_acrossFrom_79 rfl (by rw [hxu6]; rfl) (by decide) rfl ?_
        refine r_goto 27 d_Wa_acrossFrom_82 (by decide) ?_
        exact ih xu5 xu6  hf
      refine r_if_ne 79 d_Wa_acrossFrom_48 (by decide) (fun qu7 => ?_) (fun qu7 => ?_)
      · replace hf := im qu7 hf
        refine r_weak [7] (lv' := [some (.int p0), some (.int p1), some (.int p2), some (.int p3), some (.int p4), some (.int z5_27), some (.int z6_27), none]) rfl ?_
        exact Kju4 z5_27  hf
      · replace hf := ip qu7 hf
        refine r_iload d_Wa_acrossFrom_51 rfl ?_
        refine r_iload_n 0 d_Wa_acrossFrom_53 rfl rfl ?_
        refine r_iconst (v := 1) d_Wa_acrossFrom_54 (by decide) ?_
        refine r_iadd d_Wa_acrossFrom_55 ?_
        refine r_iload_n 1 d_Wa_acrossFrom_56 rfl rfl ?_
        refine r_iload_n 2 d_Wa_acrossFrom_57 rfl rfl ?_
        refine r_iload_n 3 d_Wa_acrossFrom_58 rfl rfl ?_
        refine r_iconst (v := 1) d_Wa_acrossFrom_59 (by decide) ?_
        refine r_iload d_Wa_acrossFrom_60 rfl ?_
        refine r_ishl d_Wa_acrossFrom_62 ?_
        refine r_ior d_Wa_acrossFrom_63 ?_
        refine r_iload d_Wa_acrossFrom_64 rfl ?_
        refine r_iload d_Wa_acrossFrom_66 rfl ?_
        refine r_iload_n 2 d_Wa_acrossFrom_68 rfl rfl ?_
        obtain ⟨vu8, evu8, hf⟩ := bnd hf
        refine r_callS [.int z6_27, .int p2] d_Wa_acrossFrom_69 lk_Wa_36 (cm_Wa_spread evu8) (by omega) rfl rfl (Nat.le_of_ble_eq_true rfl) ?_
        refine r_iadd d_Wa_acrossFrom_72 ?_
        obtain ⟨vu9, evu9, hf⟩ := bnd hf
        refine r_callS [.int (p0 + 1), .int p1, .int p2, .int (p3 ||| ((1 : Int32) <<< (xu3 &&& 31))), .int (p4 + vu8)] d_Wa_acrossFrom_73 lk_Wa_18 (hrecU (p0 + 1) p1 p2 (p3 ||| ((1 : Int32) <<< (xu3 &&& 31))) (p4 + vu8) Mu vu9 evu9) (by omega) rfl rfl (Nat.le_of_ble_eq_true rfl) ?_
        refine r_iadd d_Wa_acrossFrom_76 ?_
        refine nmI (fun xu10 hxu10 => ?_)
        replace hf := lt_of hxu10 hf
        refine r_istore (lv' := [some (.int p0), some (.int p1), some (.int p2), some (.int p3), some (.int p4), some (.int xu10), some (.int z6_27), some (.int xu3)]) d_Wa_acrossFrom_77 (by decide) rfl ?_
        refine r_weak [7] (lv' := [some (.int p0), some (.int p1), some (.int p2), some (.int p3), some (.int p4), some (.int xu10), some (.int z6_27), none]) rfl ?_
        exact Kju4 xu10  hf
theorem cm_Wa_acrossFrom {G : GT} {Nu : Nat} : ∀ (dd : Nat) (p0 : Int32) (p1 : Int32) (p2 : Int32) (p3 : Int32) (p4 : Int32) (Mu : Mm) (ru : Int32), f_Wa_acrossFrom Nu dd p0 p1 p2 p3 p4 = some ru → CM G (3 + dd) y_Wa_acrossFrom c_Wa_acrossFrom 8 (some .int) (some (.int ru), Mu) Mu [.int p0, .int p1, .int p2, .int p3, .int p4]
  | 0, _, _, _, _, _, _, ru, hf => by cases hf
  | dd + 1, p0, p1, p2, p3, p4, Mu, ru, hf => by
    rw [f_Wa_acrossFrom] at hf
    refine CM.of (own := R_Wa) (lv := [some (.int p0), some (.int p1), some (.int p2), some (.int p3), some (.int p4), none, none, none]) (by decide) rfl (Nat.le_of_ble_eq_true rfl) rfl ?_
    refine r_iload_n 0 d_Wa_acrossFrom_0 rfl rfl ?_
    refine r_iload_n 1 d_Wa_acrossFrom_1 rfl rfl ?_
    refine r_icmp_lt 21 d_Wa_acrossFrom_2 (by decide) (fun qu1 => ?_) (fun qu1 => ?_)
    · replace hf := ip qu1 hf
      refine r_iconst (v := 0) d_Wa_acrossFrom_21 (by decide) ?_
      refine r_istore (lv' := [some (.int p0), some (.int p1), some (.int p2), some (.int p3), some (.int p4), some (.int 0), none, none]) d_Wa_acrossFrom_22 (by decide) rfl ?_
      refine r_iconst (v := 0) d_Wa_acrossFrom_24 (by decide) ?_
      refine r_istore (lv' := [some (.int p0), some (.int p1), some (.int p2), some (.int p3), some (.int p4), some (.int 0), some (.int 0), none]) d_Wa_acrossFrom_25 (by decide) rfl ?_
      exact l_Wa_acrossFrom_27 (G := G) (ru := ru) Nu p0 p1 p2 p3 p4 (f_Wa_acrossFrom Nu dd) dd Mu   (cm_Wa_acrossFrom dd) Nu 0 0 hf
    · replace hf := im qu1 hf
      refine r_iload d_Wa_acrossFrom_5 rfl ?_
      refine r_iload_n 2 d_Wa_acrossFrom_7 rfl rfl ?_
      refine r_iconst (v := 4) d_Wa_acrossFrom_8 (by decide) ?_
      obtain ⟨vu11, evu11, hf⟩ := bnd hf
      refine r_callS [.int p4, .int p2, .int 4] d_Wa_acrossFrom_9 lk_Wa_26 (cm_Wa_allUnlike evu11) (by omega) rfl rfl (Nat.le_of_ble_eq_true rfl) ?_
      refine r_if_eq 19 d_Wa_acrossFrom_12 (by decide) (fun qu12 => ?_) (fun qu12 => ?_)
      · replace hf := ip qu12 hf
        refine r_iconst (v := 0) d_Wa_acrossFrom_19 (by decide) ?_
        obtain rfl := Option.some.inj hf
        exact r_ireturn d_Wa_acrossFrom_20 rfl rfl
      · replace hf := im qu12 hf
        refine r_iconst (v := 1) d_Wa_acrossFrom_15 (by decide) ?_
        refine r_goto 20 d_Wa_acrossFrom_16 (by decide) ?_
        obtain rfl := Option.some.inj hf
        exact r_ireturn d_Wa_acrossFrom_20 rfl rfl
def f_Wa_acrossSides (Nu : Nat) (p0 : Int32) (p1 : Int32) (Mu : Mm) : Option (Int32 × Mm) := lt ((p0 * 5) + p1) fun xu1 => if inb xu1 25 = true then lt (fun (Mu4 : Mm) => if inb xu1 25 = true then some (Mu4.1 31 (Int32.toNatClampNeg xu1), Mu4) else none) fun ju3 => if (Mu.1 31 (Int32.toNatClampNeg xu1)) = (-1) then (f_Wa_acrossFrom Nu 20 0 p0 p1 0 0).bind fun vu7 => if inb xu1 25 = true then lt (si Mu 31 (Int32.toNatClampNeg xu1) vu7) fun Mu9 => ju3 Mu9 else none else ju3 Mu else none
theorem cm_Wa_acrossSides {G : GT} {Nu : Nat} {p0 : Int32} {p1 : Int32} {Mu : Mm}  {ru : Int32 × Mm}  (hf : f_Wa_acrossSides Nu p0 p1 Mu = some ru) : CM G 24 y_Wa_acrossSides c_Wa_acrossSides 4 (some .int) (some (.int ru.1), ru.2) Mu [.ref 30, .int p0, .int p1] := by
  unfold f_Wa_acrossSides at hf
  refine CM.of (own := R_Wa) (lv := [some (.ref 30), some (.int p0), some (.int p1), none]) (by decide) rfl (Nat.le_of_ble_eq_true rfl) rfl ?_
  refine r_iload_n 1 d_Wa_acrossSides_0 rfl rfl ?_
  refine r_iconst (v := 5) d_Wa_acrossSides_1 (by decide) ?_
  refine r_imul d_Wa_acrossSides_2 ?_
  refine r_iload_n 2 d_Wa_acrossSides_3 rfl rfl ?_
  refine r_iadd d_Wa_acrossSides_4 ?_
  refine nmI (fun xu1 hxu1 => ?_)
  replace hf := lt_of hxu1 hf
  refine r_istore_n (lv' := [some (.ref 30), some (.int p0), some (.int p1), some (.int xu1)]) 3 d_Wa_acrossSides_5 rfl (by decide) rfl ?_
  refine r_aload_n 0 d_Wa_acrossSides_6 rfl rfl ?_
  refine r_getR 31 d_Wa_acrossSides_7 fl_Wa_11 sh_30 rfl rf_30_0 ?_
  refine r_iload_n 3 d_Wa_acrossSides_10 rfl rfl ?_
  obtain ⟨qu2, hf⟩ := ck hf
  refine r_iald d_Wa_acrossSides_11 sh_31 qu2 ?_
  refine r_iconst (v := (-1)) d_Wa_acrossSides_12 (by decide) ?_
  obtain ⟨ju3, hju3, hf⟩ := lt_ex hf
  have Kju3 : ∀ (Mu4 : Mm), ju3 Mu4 = some ru → SW G 24 c_Wa_acrossSides R_Wa 4 (some .int) (some (.int ru.1), ru.2) Mu4 30 [some (.ref 30), none, none, some (.int xu1)] [] := by
    intro Mu4 hf
    rw [hju3] at hf
    refine r_aload_n 0 d_Wa_acrossSides_30 rfl rfl ?_
    refine r_getR 31 d_Wa_acrossSides_31 fl_Wa_11 sh_30 rfl rf_30_0 ?_
    refine r_iload_n 3 d_Wa_acrossSides_34 rfl rfl ?_
    obtain ⟨qu5, hf⟩ := ck hf
    refine r_iald d_Wa_acrossSides_35 sh_31 qu5 ?_
    obtain rfl := Option.some.inj hf
    exact r_ireturn d_Wa_acrossSides_36 rfl rfl
  refine r_icmp_ne 30 d_Wa_acrossSides_13 (by decide) (fun qu6 => ?_) (fun qu6 => ?_)
  · replace hf := im qu6 hf
    refine r_weak [1, 2] (lv' := [some (.ref 30), none, none, some (.int xu1)]) rfl ?_
    exact Kju3 Mu  hf
  · replace hf := ip qu6 hf
    refine r_aload_n 0 d_Wa_acrossSides_16 rfl rfl ?_
    refine r_getR 31 d_Wa_acrossSides_17 fl_Wa_11 sh_30 rfl rf_30_0 ?_
    refine r_iload_n 3 d_Wa_acrossSides_20 rfl rfl ?_
    refine r_iconst (v := 0) d_Wa_acrossSides_21 (by decide) ?_
    refine r_iload_n 1 d_Wa_acrossSides_22 rfl rfl ?_
    refine r_iload_n 2 d_Wa_acrossSides_23 rfl rfl ?_
    refine r_iconst (v := 0) d_Wa_acrossSides_24 (by decide) ?_
    refine r_iconst (v := 0) d_Wa_acrossSides_25 (by decide) ?_
    obtain ⟨vu7, evu7, hf⟩ := bnd hf
    refine r_callS [.int 0, .int p0, .int p1, .int 0, .int 0] d_Wa_acrossSides_26 lk_Wa_18 (cm_Wa_acrossFrom 20 0 p0 p1 0 0 Mu vu7 evu7) (by omega) rfl rfl (Nat.le_of_ble_eq_true rfl) ?_
    obtain ⟨qu8, hf⟩ := ck hf
    refine r_iast d_Wa_acrossSides_29 sh_31 qu8 ?_
    refine nmM (fun Mu9 hMu9 => ?_)
    replace hf := lt_of hMu9 hf
    refine r_weak [1, 2] (lv' := [some (.ref 30), none, none, some (.int xu1)]) rfl ?_
    exact Kju3 Mu9  hf
def f_Wa_sortedFrom (Nu : Nat) : Nat → Int32 → Int32 → Int32 → Int32 → Option (Int32)
  | 0, _, _, _, _ => none
  | dd + 1, p0, p1, p2, p3 => if p1 < (p0 - 1) then if p2 < p0 then lt (((1 : Int32) <<< (((6 : Int32) * p1) &&& 31)) + ((1 : Int32) <<< (((6 : Int32) * p2) &&& 31))) fun xu3 => ((f_Wa_sortedFrom Nu dd) p0 p1 (p2 + 1) p3).bind fun vu4 => ((f_Wa_sortedFrom Nu dd) p0 p1 (p2 + 1) (p3 + xu3)).bind fun vu5 => ((f_Wa_sortedFrom Nu dd) p0 p1 (p2 + 1) (p3 + (xu3 <<< (3 &&& 31)))).bind fun vu6 => some ((vu4 + vu5) + vu6) else (f_Wa_unlikeBelow Nu p3 p1 6).bind fun vu7 => if vu7 = 0 then some 0 else ((f_Wa_sortedFrom Nu dd) p0 (p1 + 1) (p1 + 2) p3).bind fun vu9 => some vu9 else (f_Wa_unlikeBelow Nu p3 p1 6).bind fun vu10 => if vu10 = 0 then some 0 else some 1
theorem cm_Wa_sortedFrom {G : GT} {Nu : Nat} : ∀ (dd : Nat) (p0 : Int32) (p1 : Int32) (p2 : Int32) (p3 : Int32) (Mu : Mm) (ru : Int32), f_Wa_sortedFrom Nu dd p0 p1 p2 p3 = some ru → CM G (2 + dd) y_Wa_sortedFrom c_Wa_sortedFrom 5 (some .int) (some (.int ru), Mu) Mu [.int p0, .int p1, .int p2, .int p3]
  | 0, _, _, _, _, _, ru, hf => by cases hf
  | dd + 1, p0, p1, p2, p3, Mu, ru, hf => by
    rw [f_Wa_sortedFrom] at hf
    refine CM.of (own := R_Wa) (lv := [some (.int p0), some (.int p1), some (.int p2), some (.int p3), none]) (by decide) rfl (Nat.le_of_ble_eq_true rfl) rfl ?_
    refine r_iload_n 1 d_Wa_sortedFrom_0 rfl rfl ?_
    refine r_iload_n 0 d_Wa_sortedFrom_1 rfl rfl ?_
    refine r_iconst (v := 1) d_Wa_sortedFrom_2 (by decide) ?_
    refine r_isub d_Wa_sortedFrom_3 ?_
    refine r_icmp_lt 23 d_Wa_sortedFrom_4 (by decide) (fun qu1 => ?_) (fun qu1 => ?_)
    · replace hf := ip qu1 hf
      refine r_iload_n 2 d_Wa_sortedFrom_23 rfl rfl ?_
      refine r_iload_n 0 d_Wa_sortedFrom_24 rfl rfl ?_
      refine r_icmp_lt 54 d_Wa_sortedFrom_25 (by decide) (fun qu2 => ?_) (fun qu2 => ?_)
      · replace hf := ip qu2 hf
        refine r_iconst (v := 1) d_Wa_sortedFrom_54 (by decide) ?_
        refine r_bipush (v := 6) d_Wa_sortedFrom_55 (by decide) ?_
        refine r_iload_n 1 d_Wa_sortedFrom_57 rfl rfl ?_
        refine r_imul d_Wa_sortedFrom_58 ?_
        refine r_ishl d_Wa_sortedFrom_59 ?_
        refine r_iconst (v := 1) d_Wa_sortedFrom_60 (by decide) ?_
        refine r_bipush (v := 6) d_Wa_sortedFrom_61 (by decide) ?_
        refine r_iload_n 2 d_Wa_sortedFrom_63 rfl rfl ?_
        refine r_imul d_Wa_sortedFrom_64 ?_
        refine r_ishl d_Wa_sortedFrom_65 ?_
        refine r_iadd d_Wa_sortedFrom_66 ?_
        refine nmI (fun xu3 hxu3 => ?_)
        replace hf := lt_of hxu3 hf
        refine r_istore (lv' := [some (.int p0), some (.int p1), some (.int p2), some (.int p3), some (.int xu3)]) d_Wa_sortedFrom_67 (by decide) rfl ?_
        refine r_iload_n 0 d_Wa_sortedFrom_69 rfl rfl ?_
        refine r_iload_n 1 d_Wa_sortedFrom_70 rfl rfl ?_
        refine r_iload_n 2 d_Wa_sortedFrom_71 rfl rfl ?_
        refine r_iconst (v := 1) d_Wa_sortedFrom_72 (by decide) ?_
        refine r_iadd d_Wa_sortedFrom_73 ?_
        refine r_iload_n 3 d_Wa_sortedFrom_74 rfl rfl ?_
        obtain ⟨vu4, evu4, hf⟩ := bnd hf
        refine r_callS [.int p0, .int p1, .int (p2 + 1), .int p3] d_Wa_sortedFrom_75 lk_Wa_22 (cm_Wa_sortedFrom dd p0 p1 (p2 + 1) p3 Mu vu4 evu4) (by omega) rfl rfl (Nat.le_of_ble_eq_true rfl) ?_
        refine r_iload_n 0 d_Wa_sortedFrom_78 rfl rfl ?_
        refine r_iload_n 1 d_Wa_sortedFrom_79 rfl rfl ?_
        refine r_iload_n 2 d_Wa_sortedFrom_80 rfl rfl ?_
        refine r_iconst (v := 1) d_Wa_sortedFrom_81 (by decide) ?_
        refine r_iadd d_Wa_sortedFrom_82 ?_
        refine r_iload_n 3 d_Wa_sortedFrom_83 rfl rfl ?_
        refine r_iload d_Wa_sortedFrom_84 rfl ?_
        refine r_iadd d_Wa_sortedFrom_86 ?_
        obtain ⟨vu5, evu5, hf⟩ := bnd hf
        refine r_callS [.int p0, .int p1, .int (p2 + 1), .int (p3 + xu3)] d_Wa_sortedFrom_87 lk_Wa_22 (cm_Wa_sortedFrom dd p0 p1 (p2 + 1) (p3 + xu3) Mu vu5 evu5) (by omega) rfl rfl (Nat.le_of_ble_eq_true rfl) ?_
        refine r_iadd d_Wa_sortedFrom_90 ?_
        refine r_iload_n 0 d_Wa_sortedFrom_91 rfl rfl ?_
        refine r_iload_n 1 d_Wa_sortedFrom_92 rfl rfl ?_
        refine r_iload_n 2 d_Wa_sortedFrom_93 rfl rfl ?_
        refine r_iconst (v := 1) d_Wa_sortedFrom_94 (by decide) ?_
        refine r_iadd d_Wa_sortedFrom_95 ?_
        refine r_iload_n 3 d_Wa_sortedFrom_96 rfl rfl ?_
        refine r_iload d_Wa_sortedFrom_97 rfl ?_
        refine r_iconst (v := 3) d_Wa_sortedFrom_99 (by decide) ?_
        refine r_ishl d_Wa_sortedFrom_100 ?_
        refine r_iadd d_Wa_sortedFrom_101 ?_
        obtain ⟨vu6, evu6, hf⟩ := bnd hf
        refine r_callS [.int p0, .int p1, .int (p2 + 1), .int (p3 + (xu3 <<< (3 &&& 31)))] d_Wa_sortedFrom_102 lk_Wa_22 (cm_Wa_sortedFrom dd p0 p1 (p2 + 1) (p3 + (xu3 <<< (3 &&& 31))) Mu vu6 evu6) (by omega) rfl rfl (Nat.le_of_ble_eq_true rfl) ?_
        refine r_iadd d_Wa_sortedFrom_105 ?_
        obtain rfl := Option.some.inj hf
        exact r_ireturn d_Wa_sortedFrom_106 rfl rfl
      · replace hf := im qu2 hf
        refine r_iload_n 3 d_Wa_sortedFrom_28 rfl rfl ?_
        refine r_iload_n 1 d_Wa_sortedFrom_29 rfl rfl ?_
        refine r_bipush (v := 6) d_Wa_sortedFrom_30 (by decide) ?_
        obtain ⟨vu7, evu7, hf⟩ := bnd hf
        refine r_callS [.int p3, .int p1, .int 6] d_Wa_sortedFrom_32 lk_Wa_40 (cm_Wa_unlikeBelow evu7) (by omega) rfl rfl (Nat.le_of_ble_eq_true rfl) ?_
        refine r_if_eq 52 d_Wa_sortedFrom_35 (by decide) (fun qu8 => ?_) (fun qu8 => ?_)
        · replace hf := ip qu8 hf
          refine r_iconst (v := 0) d_Wa_sortedFrom_52 (by decide) ?_
          obtain rfl := Option.some.inj hf
          exact r_ireturn d_Wa_sortedFrom_53 rfl rfl
        · replace hf := im qu8 hf
          refine r_iload_n 0 d_Wa_sortedFrom_38 rfl rfl ?_
          refine r_iload_n 1 d_Wa_sortedFrom_39 rfl rfl ?_
          refine r_iconst (v := 1) d_Wa_sortedFrom_40 (by decide) ?_
          refine r_iadd d_Wa_sortedFrom_41 ?_
          refine r_iload_n 1 d_Wa_sortedFrom_42 rfl rfl ?_
          refine r_iconst (v := 2) d_Wa_sortedFrom_43 (by decide) ?_
          refine r_iadd d_Wa_sortedFrom_44 ?_
          refine r_iload_n 3 d_Wa_sortedFrom_45 rfl rfl ?_
          obtain ⟨vu9, evu9, hf⟩ := bnd hf
          refine r_callS [.int p0, .int (p1 + 1), .int (p1 + 2), .int p3] d_Wa_sortedFrom_46 lk_Wa_22 (cm_Wa_sortedFrom dd p0 (p1 + 1) (p1 + 2) p3 Mu vu9 evu9) (by omega) rfl rfl (Nat.le_of_ble_eq_true rfl) ?_
          refine r_goto 53 d_Wa_sortedFrom_49 (by decide) ?_
          obtain rfl := Option.some.inj hf
          exact r_ireturn d_Wa_sortedFrom_53 rfl rfl
    · replace hf := im qu1 hf
      refine r_iload_n 3 d_Wa_sortedFrom_7 rfl rfl ?_
      refine r_iload_n 1 d_Wa_sortedFrom_8 rfl rfl ?_
      refine r_bipush (v := 6) d_Wa_sortedFrom_9 (by decide) ?_
      obtain ⟨vu10, evu10, hf⟩ := bnd hf
      refine r_callS [.int p3, .int p1, .int 6] d_Wa_sortedFrom_11 lk_Wa_40 (cm_Wa_unlikeBelow evu10) (by omega) rfl rfl (Nat.le_of_ble_eq_true rfl) ?_
      refine r_if_eq 21 d_Wa_sortedFrom_14 (by decide) (fun qu11 => ?_) (fun qu11 => ?_)
      · replace hf := ip qu11 hf
        refine r_iconst (v := 0) d_Wa_sortedFrom_21 (by decide) ?_
        obtain rfl := Option.some.inj hf
        exact r_ireturn d_Wa_sortedFrom_22 rfl rfl
      · replace hf := im qu11 hf
        refine r_iconst (v := 1) d_Wa_sortedFrom_17 (by decide) ?_
        refine r_goto 22 d_Wa_sortedFrom_18 (by decide) ?_
        obtain rfl := Option.some.inj hf
        exact r_ireturn d_Wa_sortedFrom_22 rfl rfl
def f_Wa_ofTwoSorts (Nu : Nat) (p0 : Int32) (Mu : Mm) : Option (Int32 × Mm) := if inb p0 6 = true then lt (fun (Mu3 : Mm) => if inb p0 6 = true then some (Mu3.1 32 (Int32.toNatClampNeg p0), Mu3) else none) fun ju2 => if (Mu.1 32 (Int32.toNatClampNeg p0)) = (-1) then (f_Wa_sortedFrom Nu 20 p0 0 1 0).bind fun vu6 => if inb p0 6 = true then lt (si Mu 32 (Int32.toNatClampNeg p0) vu6) fun Mu8 => ju2 Mu8 else none else ju2 Mu else none
theorem cm_Wa_ofTwoSorts {G : GT} {Nu : Nat} {p0 : Int32} {Mu : Mm}  {ru : Int32 × Mm}  (hf : f_Wa_ofTwoSorts Nu p0 Mu = some ru) : CM G 23 y_Wa_ofTwoSorts c_Wa_ofTwoSorts 2 (some .int) (some (.int ru.1), ru.2) Mu [.ref 30, .int p0] := by
  unfold f_Wa_ofTwoSorts at hf
  refine CM.of (own := R_Wa) (lv := [some (.ref 30), some (.int p0)]) (by decide) rfl (Nat.le_of_ble_eq_true rfl) rfl ?_
  refine r_aload_n 0 d_Wa_ofTwoSorts_0 rfl rfl ?_
  refine r_getR 32 d_Wa_ofTwoSorts_1 fl_Wa_15 sh_30 rfl rf_30_1 ?_
  refine r_iload_n 1 d_Wa_ofTwoSorts_4 rfl rfl ?_
  obtain ⟨qu1, hf⟩ := ck hf
  refine r_iald d_Wa_ofTwoSorts_5 sh_32 qu1 ?_
  refine r_iconst (v := (-1)) d_Wa_ofTwoSorts_6 (by decide) ?_
  obtain ⟨ju2, hju2, hf⟩ := lt_ex hf
  have Kju2 : ∀ (Mu3 : Mm), ju2 Mu3 = some ru → SW G 23 c_Wa_ofTwoSorts R_Wa 2 (some .int) (some (.int ru.1), ru.2) Mu3 23 [some (.ref 30), some (.int p0)] [] := by
    intro Mu3 hf
    rw [hju2] at hf
    refine r_aload_n 0 d_Wa_ofTwoSorts_23 rfl rfl ?_
    refine r_getR 32 d_Wa_ofTwoSorts_24 fl_Wa_15 sh_30 rfl rf_30_1 ?_
    refine r_iload_n 1 d_Wa_ofTwoSorts_27 rfl rfl ?_
    obtain ⟨qu4, hf⟩ := ck hf
    refine r_iald d_Wa_ofTwoSorts_28 sh_32 qu4 ?_
    obtain rfl := Option.some.inj hf
    exact r_ireturn d_Wa_ofTwoSorts_29 rfl rfl
  refine r_icmp_ne 23 d_Wa_ofTwoSorts_7 (by decide) (fun qu5 => ?_) (fun qu5 => ?_)
  · replace hf := im qu5 hf
    exact Kju2 Mu  hf
  · replace hf := ip qu5 hf
    refine r_aload_n 0 d_Wa_ofTwoSorts_10 rfl rfl ?_
    refine r_getR 32 d_Wa_ofTwoSorts_11 fl_Wa_15 sh_30 rfl rf_30_1 ?_
    refine r_iload_n 1 d_Wa_ofTwoSorts_14 rfl rfl ?_
    refine r_iload_n 1 d_Wa_ofTwoSorts_15 rfl rfl ?_
    refine r_iconst (v := 0) d_Wa_ofTwoSorts_16 (by decide) ?_
    refine r_iconst (v := 1) d_Wa_ofTwoSorts_17 (by decide) ?_
    refine r_iconst (v := 0) d_Wa_ofTwoSorts_18 (by decide) ?_
    obtain ⟨vu6, evu6, hf⟩ := bnd hf
    refine r_callS [.int p0, .int 0, .int 1, .int 0] d_Wa_ofTwoSorts_19 lk_Wa_22 (cm_Wa_sortedFrom 20 p0 0 1 0 Mu vu6 evu6) (by omega) rfl rfl (Nat.le_of_ble_eq_true rfl) ?_
    obtain ⟨qu7, hf⟩ := ck hf
    refine r_iast d_Wa_ofTwoSorts_22 sh_32 qu7 ?_
    refine nmM (fun Mu8 hMu8 => ?_)
    replace hf := lt_of hMu8 hf
    exact Kju2 Mu8  hf
