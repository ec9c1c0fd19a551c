def f_Te_length (Mu : Mm) : Int32 := Mu.1 11 2
theorem cm_Te_length {G : GT} (Mu : Mm)   : CM G 1 y_Te_length c_Te_length 1 (some .int) (some (.int (f_Te_length Mu)), Mu) Mu [.ref 11] := by
  generalize hf : f_Te_length Mu = ru
  unfold f_Te_length at hf
  refine CM.of (own := R_Te) (lv := [some (.ref 11)]) (by decide) rfl (Nat.le_of_ble_eq_true rfl) rfl ?_
  refine r_aload_n 0 d_Te_length_0 rfl rfl ?_
  refine r_getI d_Te_length_1 fl_Te_26 sh_11 (by decide) ?_
  subst hf
  exact r_ireturn d_Te_length_4 rfl rfl
def L_Te_append_5 (Nu : Nat) (p1 : Int64) : Nat → Int32 → Mm → Option (Mm)
  | 0, _, _ => none
  | nu + 1, z4_5, M_5 => if z4_5 < 0 then some M_5 else if 400 ≤ (M_5.1 11 2) then some M_5 else if inb (M_5.1 11 2) 400 = true then lt (si M_5 12 (Int32.toNatClampNeg (M_5.1 11 2)) (vp_nar .byte (((p1 >>> (((8 : Int32) * z4_5).toInt64 &&& 63)).toInt32).toInt8.toInt32))) fun Mu5 => lt (si Mu5 11 2 ((Mu5.1 11 2) + 1)) fun Mu6 => lt (z4_5 + (-1)) fun xu7 => L_Te_append_5 Nu p1 nu xu7 Mu6 else none
def f_Te_append (Nu : Nat) (p0 : Int32) (p1 : Int64) (Mu : Mm) : Option (Mm) := lt (p0 - 1) fun xu1 => L_Te_append_5 Nu p1 Nu xu1 Mu
theorem l_Te_append_5 {G : GT} {ru : Mm} (Nu : Nat) (p1 : Int64)    : ∀ (nu : Nat) (z4_5 : Int32) (M_5 : Mm), L_Te_append_5 Nu p1 nu z4_5 M_5 = some ru → SW G 1 c_Te_append R_Te 5 none (none, ru) M_5 5 [some (.ref 11), none, some (.long p1), none, some (.int z4_5)] []
  | 0, _, _, hf => by cases hf
  | nu + 1, z4_5, M_5, hf => by
    have ih := l_Te_append_5 (G := G) (ru := ru) Nu p1   nu
    rw [L_Te_append_5] at hf
    refine r_iload d_Te_append_5 rfl ?_
    refine r_if_lt 54 d_Te_append_7 (by decide) (fun qu2 => ?_) (fun qu2 => ?_)
    · replace hf := ip qu2 hf
      obtain rfl := Option.some.inj hf
      exact r_return d_Te_append_54 rfl rfl
    · replace hf := im qu2 hf
      refine r_aload_n 0 d_Te_append_10 rfl rfl ?_
      refine r_getI d_Te_append_11 fl_Te_26 sh_11 (by decide) ?_
      refine r_sipush (v := 400) d_Te_append_14 (by decide) ?_
      refine r_icmp_ge 54 d_Te_append_17 (by decide) (fun qu3 => ?_) (fun qu3 => ?_)
      · replace hf := ip qu3 hf
        obtain rfl := Option.some.inj hf
        exact r_return d_Te_append_54 rfl rfl
      · replace hf := im qu3 hf
        refine r_aload_n 0 d_Te_append_20 rfl rfl ?_
        refine r_getR 12 d_Te_append_21 fl_Te_9 sh_11 rfl rf_11_0 ?_
        refine r_aload_n 0 d_Te_append_24 rfl rfl ?_
        refine r_getI d_Te_append_25 fl_Te_26 sh_11 (by decide) ?_
        refine r_lload_n 2 d_Te_append_28 rfl rfl ?_
        refine r_bipush (v := 8) d_Te_append_29 (by decide) ?_
        refine r_iload d_Te_append_31 rfl ?_
        refine r_imul d_Te_append_33 ?_
        refine r_lshr d_Te_append_34 ?_
        refine r_l2i d_Te_append_35 ?_
        refine r_i2b d_Te_append_36 ?_
        obtain ⟨qu4, hf⟩ := ck hf
        refine r_bast d_Te_append_37 sh_12 qu4 ?_
        refine nmM (fun Mu5 hMu5 => ?_)
        replace hf := lt_of hMu5 hf
        refine r_aload_n 0 d_Te_append_38 rfl rfl ?_
        refine r_dup d_Te_append_39 rfl ?_
        refine r_getI d_Te_append_40 fl_Te_26 sh_11 (by decide) ?_
        refine r_iconst (v := 1) d_Te_append_43 (by decide) ?_
        refine r_iadd d_Te_append_44 ?_
        refine r_putI d_Te_append_45 fl_Te_26 sh_11 (Or.inl rfl) rfl ?_
        refine nmM (fun Mu6 hMu6 => ?_)
        replace hf := lt_of hMu6 hf
        obtain ⟨xu7, hxu7⟩ : ∃ y : Int32, y = z4_5 + (-1) := ⟨_, rfl⟩
        replace hf := lt_of hxu7 hf
        refine r_iinc (lv' := [some (.ref 11), none, some (.long p1), none, some (.int xu7)]) d_Te_append_48 rfl (by rw [hxu7]; rfl) (by decide) rfl ?_
        refine r_goto 5 d_Te_append_51 (by decide) ?_
        exact ih xu7 Mu6  hf
theorem cm_Te_append {G : GT} {Nu : Nat} {p0 : Int32} {p1 : Int64} {Mu : Mm}  {ru : Mm}  (hf : f_Te_append Nu p0 p1 Mu = some ru) : CM G 1 y_Te_append c_Te_append 5 none (none, ru) Mu [.ref 11, .int p0, .long p1] := by
  unfold f_Te_append at hf
  refine CM.of (own := R_Te) (lv := [some (.ref 11), some (.int p0), some (.long p1), none, none]) (by decide) rfl (Nat.le_of_ble_eq_true rfl) rfl ?_
  refine r_iload_n 1 d_Te_append_0 rfl rfl ?_
  refine r_iconst (v := 1) d_Te_append_1 (by decide) ?_
  refine r_isub d_Te_append_2 ?_
  refine nmI (fun xu1 hxu1 => ?_)
  replace hf := lt_of hxu1 hf
  refine r_istore (lv' := [some (.ref 11), some (.int p0), some (.long p1), none, some (.int xu1)]) d_Te_append_3 (by decide) rfl ?_
  refine r_weak [1] (lv' := [some (.ref 11), none, some (.long p1), none, some (.int xu1)]) rfl ?_
  exact l_Te_append_5 (G := G) (ru := ru) Nu p1   Nu xu1 Mu hf
def L_Te_skipBlanks_0 (Nu : Nat) : Nat → Mm → Option (Mm)
  | 0, _ => none
  | nu + 1, M_0 => if (M_0.1 11 2) ≤ (M_0.1 11 3) then some M_0 else if inb (M_0.1 11 3) 400 = true then if (M_0.1 12 (Int32.toNatClampNeg (M_0.1 11 3))) = 32 then lt (si M_0 11 3 ((M_0.1 11 3) + 1)) fun Mu4 => L_Te_skipBlanks_0 Nu nu Mu4 else some M_0 else none
def f_Te_skipBlanks (Nu : Nat) (Mu : Mm) : Option (Mm) := L_Te_skipBlanks_0 Nu Nu Mu
theorem l_Te_skipBlanks_0 {G : GT} {ru : Mm} (Nu : Nat)    : ∀ (nu : Nat) (M_0 : Mm), L_Te_skipBlanks_0 Nu nu M_0 = some ru → SW G 1 c_Te_skipBlanks R_Te 1 none (none, ru) M_0 0 [some (.ref 11)] []
  | 0, _, hf => by cases hf
  | nu + 1, M_0, hf => by
    have ih := l_Te_skipBlanks_0 (G := G) (ru := ru) Nu   nu
    rw [L_Te_skipBlanks_0] at hf
    refine r_aload_n 0 d_Te_skipBlanks_0 rfl rfl ?_
    refine r_getI d_Te_skipBlanks_1 fl_Te_32 sh_11 (by decide) ?_
    refine r_aload_n 0 d_Te_skipBlanks_4 rfl rfl ?_
    refine r_getI d_Te_skipBlanks_5 fl_Te_26 sh_11 (by decide) ?_
    refine r_icmp_ge 38 d_Te_skipBlanks_8 (by decide) (fun qu1 => ?_) (fun qu1 => ?_)
    · replace hf := ip qu1 hf
      obtain rfl := Option.some.inj hf
      exact r_return d_Te_skipBlanks_38 rfl rfl
    · replace hf := im qu1 hf
      refine r_aload_n 0 d_Te_skipBlanks_11 rfl rfl ?_
      refine r_getR 12 d_Te_skipBlanks_12 fl_Te_9 sh_11 rfl rf_11_0 ?_
      refine r_aload_n 0 d_Te_skipBlanks_15 rfl rfl ?_
      refine r_getI d_Te_skipBlanks_16 fl_Te_32 sh_11 (by decide) ?_
      obtain ⟨qu2, hf⟩ := ck hf
      refine r_bald d_Te_skipBlanks_19 sh_12 qu2 ?_
      refine r_bipush (v := 32) d_Te_skipBlanks_20 (by decide) ?_
      refine r_icmp_ne 38 d_Te_skipBlanks_22 (by decide) (fun qu3 => ?_) (fun qu3 => ?_)
      · replace hf := im qu3 hf
        obtain rfl := Option.some.inj hf
        exact r_return d_Te_skipBlanks_38 rfl rfl
      · replace hf := ip qu3 hf
        refine r_aload_n 0 d_Te_skipBlanks_25 rfl rfl ?_
        refine r_dup d_Te_skipBlanks_26 rfl ?_
        refine r_getI d_Te_skipBlanks_27 fl_Te_32 sh_11 (by decide) ?_
        refine r_iconst (v := 1) d_Te_skipBlanks_30 (by decide) ?_
        refine r_iadd d_Te_skipBlanks_31 ?_
        refine r_putI d_Te_skipBlanks_32 fl_Te_32 sh_11 (Or.inl rfl) rfl ?_
        refine nmM (fun Mu4 hMu4 => ?_)
        replace hf := lt_of hMu4 hf
        refine r_goto 0 d_Te_skipBlanks_35 (by decide) ?_
        exact ih Mu4  hf
theorem cm_Te_skipBlanks {G : GT} {Nu : Nat} {Mu : Mm}  {ru : Mm}  (hf : f_Te_skipBlanks Nu Mu = some ru) : CM G 1 y_Te_skipBlanks c_Te_skipBlanks 1 none (none, ru) Mu [.ref 11] := by
  unfold f_Te_skipBlanks at hf
  refine CM.of (own := R_Te) (lv := [some (.ref 11)]) (by decide) rfl (Nat.le_of_ble_eq_true rfl) rfl ?_
  exact l_Te_skipBlanks_0 (G := G) (ru := ru) Nu   Nu Mu hf
def L_Te_stands_17 (Nu : Nat) (p0 : Nat) (p1 : Int32) (Mu : Mm) : Nat → Int32 → Option (Int32)
  | 0, _ => none
  | nu + 1, z3_17 => if (slen p0) ≤ z3_17 then some 1 else if inb (p1 + z3_17) 400 = true then if inb z3_17 (klen.getD p0 0) = true then if (Mu.1 12 (Int32.toNatClampNeg (p1 + z3_17))) = (sch p0 z3_17) then lt (z3_17 + 1) fun xu6 => L_Te_stands_17 Nu p0 p1 Mu nu xu6 else some 0 else none else none
def f_Te_stands (Nu : Nat) (p0 : Nat) (p1 : Int32) (Mu : Mm) : Option (Int32) := if ((Mu.1 11 3) - p1) = (slen p0) then L_Te_stands_17 Nu p0 p1 Mu Nu 0 else some 0
theorem l_Te_stands_17 {G : GT} {ru : Int32} (Nu : Nat) (p0 : Nat) (p1 : Int32) (Mu : Mm) (h_p0 : p0 < 5)   : ∀ (nu : Nat) (z3_17 : Int32), L_Te_stands_17 Nu p0 p1 Mu nu z3_17 = some ru → SW G 6 c_Te_stands R_Te 4 (some .boolean) (some (.int ru), Mu) Mu 17 [some (.ref 11), some (.ref (100 + p0)), some (.int p1), some (.int z3_17)] []
  | 0, _, hf => by cases hf
  | nu + 1, z3_17, hf => by
    have ih := l_Te_stands_17 (G := G) (ru := ru) Nu p0 p1 Mu h_p0  nu
    rw [L_Te_stands_17] at hf
    refine r_iload_n 3 d_Te_stands_17 rfl rfl ?_
    refine r_aload_n 1 d_Te_stands_18 rfl rfl ?_
    refine r_strlen d_Te_stands_19 lk_Te_122 h_p0 (by decide) (Nat.le_of_ble_eq_true rfl) ?_
    refine r_icmp_ge 49 d_Te_stands_22 (by decide) (fun qu2 => ?_) (fun qu2 => ?_)
    · replace hf := ip qu2 hf
      refine r_iconst (v := 1) d_Te_stands_49 (by decide) ?_
      obtain rfl := Option.some.inj hf
      exact r_zreturn d_Te_stands_50 rfl (Or.inr rfl) rfl
    · replace hf := im qu2 hf
      refine r_aload_n 0 d_Te_stands_25 rfl rfl ?_
      refine r_getR 12 d_Te_stands_26 fl_Te_9 sh_11 rfl rf_11_0 ?_
      refine r_iload_n 2 d_Te_stands_29 rfl rfl ?_
      refine r_iload_n 3 d_Te_stands_30 rfl rfl ?_
      refine r_iadd d_Te_stands_31 ?_
      obtain ⟨qu3, hf⟩ := ck hf
      refine r_bald d_Te_stands_32 sh_12 qu3 ?_
      refine r_aload_n 1 d_Te_stands_33 rfl rfl ?_
      refine r_iload_n 3 d_Te_stands_34 rfl rfl ?_
      obtain ⟨qu4, hf⟩ := ck hf
      refine r_charAt d_Te_stands_35 lk_Te_126 h_p0 qu4 (by decide) (Nat.le_of_ble_eq_true rfl) ?_
      refine r_icmp_eq 43 d_Te_stands_38 (by decide) (fun qu5 => ?_) (fun qu5 => ?_)
      · replace hf := ip qu5 hf
        obtain ⟨xu6, hxu6⟩ : ∃ y : Int32, y = z3_17 + 1 := ⟨_, rfl⟩
        replace hf := lt_of hxu6 hf
        refine r_iinc (lv' := [some (.ref 11), some (.ref (100 + p0)), some (.int p1), some (.int xu6)]) d_Te_stands_43 rfl (by rw [hxu6]; rfl) (by decide) rfl ?_
        refine r_goto 17 d_Te_stands_46 (by decide) ?_
        exact ih xu6  hf
      · replace hf := im qu5 hf
        refine r_iconst (v := 0) d_Te_stands_41 (by decide) ?_
        obtain rfl := Option.some.inj hf
        exact r_zreturn d_Te_stands_42 rfl (Or.inl rfl) rfl
theorem cm_Te_stands {G : GT} {Nu : Nat} {p0 : Nat} {p1 : Int32} {Mu : Mm}  {ru : Int32} (h_p0 : p0 < 5) (hf : f_Te_stands Nu p0 p1 Mu = some ru) : CM G 6 y_Te_stands c_Te_stands 4 (some .boolean) (some (.int ru), Mu) Mu [.ref 11, .ref (100 + p0), .int p1] := by
  unfold f_Te_stands at hf
  refine CM.of (own := R_Te) (lv := [some (.ref 11), some (.ref (100 + p0)), some (.int p1), none]) (by decide) rfl (Nat.le_of_ble_eq_true rfl) rfl ?_
  refine r_aload_n 0 d_Te_stands_0 rfl rfl ?_
  refine r_getI d_Te_stands_1 fl_Te_32 sh_11 (by decide) ?_
  refine r_iload_n 2 d_Te_stands_4 rfl rfl ?_
  refine r_isub d_Te_stands_5 ?_
  refine r_aload_n 1 d_Te_stands_6 rfl rfl ?_
  refine r_strlen d_Te_stands_7 lk_Te_122 h_p0 (by decide) (Nat.le_of_ble_eq_true rfl) ?_
  refine r_icmp_eq 15 d_Te_stands_10 (by decide) (fun qu1 => ?_) (fun qu1 => ?_)
  · replace hf := ip qu1 hf
    refine r_iconst (v := 0) d_Te_stands_15 (by decide) ?_
    refine r_istore_n (lv' := [some (.ref 11), some (.ref (100 + p0)), some (.int p1), some (.int 0)]) 3 d_Te_stands_16 rfl (by decide) rfl ?_
    exact l_Te_stands_17 (G := G) (ru := ru) Nu p0 p1 Mu h_p0  Nu 0 hf
  · replace hf := im qu1 hf
    refine r_iconst (v := 0) d_Te_stands_13 (by decide) ?_
    obtain rfl := Option.some.inj hf
    exact r_zreturn d_Te_stands_14 rfl (Or.inl rfl) rfl
def L_Te_readWord_5 (Nu : Nat) (ju2 : Mm → Option (Int32 × Mm)) : Nat → Mm → Option (Int32 × Mm)
  | 0, _ => none
  | nu + 1, M_5 => if (M_5.1 11 2) ≤ (M_5.1 11 3) then ju2 M_5 else if inb (M_5.1 11 3) 400 = true then if (M_5.1 12 (Int32.toNatClampNeg (M_5.1 11 3))) < 97 then ju2 M_5 else if inb (M_5.1 11 3) 400 = true then if 122 < (M_5.1 12 (Int32.toNatClampNeg (M_5.1 11 3))) then ju2 M_5 else lt (si M_5 11 3 ((M_5.1 11 3) + 1)) fun Mu19 => L_Te_readWord_5 Nu ju2 nu Mu19 else none else none
def f_Te_readWord (Nu : Nat) (Mu : Mm) : Option (Int32 × Mm) := lt (Mu.1 11 3) fun xu1 => lt (fun (Mu3 : Mm) => (f_Te_stands Nu 0 xu1 Mu3).bind fun vu4 => if vu4 = 0 then (f_Te_stands Nu 1 xu1 Mu3).bind fun vu6 => if vu6 = 0 then (f_Te_stands Nu 2 xu1 Mu3).bind fun vu8 => if vu8 = 0 then (f_Te_stands Nu 3 xu1 Mu3).bind fun vu10 => if vu10 = 0 then (f_Te_stands Nu 4 xu1 Mu3).bind fun vu12 => if vu12 = 0 then some (0, Mu3) else some (5, Mu3) else some (4, Mu3) else some (3, Mu3) else some (2, Mu3) else some (1, Mu3)) fun ju2 => L_Te_readWord_5 Nu ju2 Nu Mu
theorem l_Te_readWord_5 {G : GT} {ru : Int32 × Mm} (Nu : Nat) (ju2 : Mm → Option (Int32 × Mm)) (xu1 : Int32)  (Kju2 : ∀ (Mw : Mm), ju2 Mw = some ru → SW G 7 c_Te_readWord R_Te 2 (some .int) (some (.int ru.1), ru.2) Mw 57 [some (.ref 11), some (.int xu1)] [])  : ∀ (nu : Nat) (M_5 : Mm), L_Te_readWord_5 Nu ju2 nu M_5 = some ru → SW G 7 c_Te_readWord R_Te 2 (some .int) (some (.int ru.1), ru.2) M_5 5 [some (.ref 11), some (.int xu1)] []
  | 0, _, hf => by cases hf
  | nu + 1, M_5, hf => by
    have ih := l_Te_readWord_5 (G := G) (ru := ru) Nu ju2 xu1  Kju2 nu
    rw [L_Te_readWord_5] at hf
    refine r_aload_n 0 d_Te_readWord_5 rfl rfl ?_
    refine r_getI d_Te_readWord_6 fl_Te_32 sh_11 (by decide) ?_
    refine r_aload_n 0 d_Te_readWord_9 rfl rfl ?_
    refine r_getI d_Te_readWord_10 fl_Te_26 sh_11 (by decide) ?_
    refine r_icmp_ge 57 d_Te_readWord_13 (by decide) (fun qu14 => ?_) (fun qu14 => ?_)
    · replace hf := ip qu14 hf
      exact Kju2 M_5  hf
    · replace hf := im qu14 hf
      refine r_aload_n 0 d_Te_readWord_16 rfl rfl ?_
      refine r_getR 12 d_Te_readWord_17 fl_Te_9 sh_11 rfl rf_11_0 ?_
      refine r_aload_n 0 d_Te_readWord_20 rfl rfl ?_
      refine r_getI d_Te_readWord_21 fl_Te_32 sh_11 (by decide) ?_
      obtain ⟨qu15, hf⟩ := ck hf
      refine r_bald d_Te_readWord_24 sh_12 qu15 ?_
      refine r_bipush (v := 97) d_Te_readWord_25 (by decide) ?_
      refine r_icmp_lt 57 d_Te_readWord_27 (by decide) (fun qu16 => ?_) (fun qu16 => ?_)
      · replace hf := ip qu16 hf
        exact Kju2 M_5  hf
      · replace hf := im qu16 hf
        refine r_aload_n 0 d_Te_readWord_30 rfl rfl ?_
        refine r_getR 12 d_Te_readWord_31 fl_Te_9 sh_11 rfl rf_11_0 ?_
        refine r_aload_n 0 d_Te_readWord_34 rfl rfl ?_
        refine r_getI d_Te_readWord_35 fl_Te_32 sh_11 (by decide) ?_
        obtain ⟨qu17, hf⟩ := ck hf
        refine r_bald d_Te_readWord_38 sh_12 qu17 ?_
        refine r_bipush (v := 122) d_Te_readWord_39 (by decide) ?_
        refine r_icmp_gt 57 d_Te_readWord_41 (by decide) (fun qu18 => ?_) (fun qu18 => ?_)
        · replace hf := ip qu18 hf
          exact Kju2 M_5  hf
        · replace hf := im qu18 hf
          refine r_aload_n 0 d_Te_readWord_44 rfl rfl ?_
          refine r_dup d_Te_readWord_45 rfl ?_
          refine r_getI d_Te_readWord_46 fl_Te_32 sh_11 (by decide) ?_
          refine r_iconst (v := 1) d_Te_readWord_49 (by decide) ?_
          refine r_iadd d_Te_readWord_50 ?_
          refine r_putI d_Te_readWord_51 fl_Te_32 sh_11 (Or.inl rfl) rfl ?_
          refine nmM (fun Mu19 hMu19 => ?_)
          replace hf := lt_of hMu19 hf
          refine r_goto 5 d_Te_readWord_54 (by decide) ?_
          exact ih Mu19  hf
theorem cm_Te_readWord {G : GT} {Nu : Nat} {Mu : Mm}  {ru : Int32 × Mm}  (hf : f_Te_readWord Nu Mu = some ru) : CM G 7 y_Te_readWord c_Te_readWord 2 (some .int) (some (.int ru.1), ru.2) Mu [.ref 11] := by
  unfold f_Te_readWord at hf
  refine CM.of (own := R_Te) (lv := [some (.ref 11), none]) (by decide) rfl (Nat.le_of_ble_eq_true rfl) rfl ?_
  refine r_aload_n 0 d_Te_readWord_0 rfl rfl ?_
  refine r_getI d_Te_readWord_1 fl_Te_32 sh_11 (by decide) ?_
  refine nmI (fun xu1 hxu1 => ?_)
  replace hf := lt_of hxu1 hf
  refine r_istore_n (lv' := [some (.ref 11), some (.int xu1)]) 1 d_Te_readWord_4 rfl (by decide) rfl ?_
  obtain ⟨ju2, hju2, hf⟩ := lt_ex hf
  have Kju2 : ∀ (Mu3 : Mm), ju2 Mu3 = some ru → SW G 7 c_Te_readWord R_Te 2 (some .int) (some (.int ru.1), ru.2) Mu3 57 [some (.ref 11), some (.int xu1)] [] := by
    intro Mu3 hf
    rw [hju2] at hf
    refine r_aload_n 0 d_Te_readWord_57 rfl rfl ?_
    refine r_ldcS (j := 0) d_Te_readWord_58 rfl (by decide) ?_
    refine r_iload_n 1 d_Te_readWord_60 rfl rfl ?_
    obtain ⟨vu4, evu4, hf⟩ := bnd hf
    refine r_callV [.ref 100, .int xu1] d_Te_readWord_61 lk_Te_110 sh_11 (cm_Te_stands (by decide) evu4) (by decide) rfl rfl (Nat.le_of_ble_eq_true rfl) ?_
    refine r_if_eq 69 d_Te_readWord_64 (by decide) (fun qu5 => ?_) (fun qu5 => ?_)
    · replace hf := ip qu5 hf
      refine r_aload_n 0 d_Te_readWord_69 rfl rfl ?_
      refine r_ldcS (j := 1) d_Te_readWord_70 rfl (by decide) ?_
      refine r_iload_n 1 d_Te_readWord_72 rfl rfl ?_
      obtain ⟨vu6, evu6, hf⟩ := bnd hf
      refine r_callV [.ref 101, .int xu1] d_Te_readWord_73 lk_Te_110 sh_11 (cm_Te_stands (by decide) evu6) (by decide) rfl rfl (Nat.le_of_ble_eq_true rfl) ?_
      refine r_if_eq 81 d_Te_readWord_76 (by decide) (fun qu7 => ?_) (fun qu7 => ?_)
      · replace hf := ip qu7 hf
        refine r_aload_n 0 d_Te_readWord_81 rfl rfl ?_
        refine r_ldcS (j := 2) d_Te_readWord_82 rfl (by decide) ?_
        refine r_iload_n 1 d_Te_readWord_84 rfl rfl ?_
        obtain ⟨vu8, evu8, hf⟩ := bnd hf
        refine r_callV [.ref 102, .int xu1] d_Te_readWord_85 lk_Te_110 sh_11 (cm_Te_stands (by decide) evu8) (by decide) rfl rfl (Nat.le_of_ble_eq_true rfl) ?_
        refine r_if_eq 93 d_Te_readWord_88 (by decide) (fun qu9 => ?_) (fun qu9 => ?_)
        · replace hf := ip qu9 hf
          refine r_aload_n 0 d_Te_readWord_93 rfl rfl ?_
          refine r_ldcS (j := 3) d_Te_readWord_94 rfl (by decide) ?_
          refine r_iload_n 1 d_Te_readWord_96 rfl rfl ?_
          obtain ⟨vu10, evu10, hf⟩ := bnd hf
          refine r_callV [.ref 103, .int xu1] d_Te_readWord_97 lk_Te_110 sh_11 (cm_Te_stands (by decide) evu10) (by decide) rfl rfl (Nat.le_of_ble_eq_true rfl) ?_
          refine r_if_eq 105 d_Te_readWord_100 (by decide) (fun qu11 => ?_) (fun qu11 => ?_)
          · replace hf := ip qu11 hf
            refine r_aload_n 0 d_Te_readWord_105 rfl rfl ?_
            refine r_ldcS (j := 4) d_Te_readWord_106 rfl (by decide) ?_
            refine r_iload_n 1 d_Te_readWord_108 rfl rfl ?_
            obtain ⟨vu12, evu12, hf⟩ := bnd hf
            refine r_callV [.ref 104, .int xu1] d_Te_readWord_109 lk_Te_110 sh_11 (cm_Te_stands (by decide) evu12) (by decide) rfl rfl (Nat.le_of_ble_eq_true rfl) ?_
            refine r_if_eq 119 d_Te_readWord_112 (by decide) (fun qu13 => ?_) (fun qu13 => ?_)
            · replace hf := ip qu13 hf
              refine r_iconst (v := 0) d_Te_readWord_119 (by decide) ?_
              obtain rfl := Option.some.inj hf
              exact r_ireturn d_Te_readWord_120 rfl rfl
            · replace hf := im qu13 hf
              refine r_iconst (v := 5) d_Te_readWord_115 (by decide) ?_
              refine r_goto 120 d_Te_readWord_116 (by decide) ?_
              obtain rfl := Option.some.inj hf
              exact r_ireturn d_Te_readWord_120 rfl rfl
          · replace hf := im qu11 hf
            refine r_iconst (v := 4) d_Te_readWord_103 (by decide) ?_
            obtain rfl := Option.some.inj hf
            exact r_ireturn d_Te_readWord_104 rfl rfl
        · replace hf := im qu9 hf
          refine r_iconst (v := 3) d_Te_readWord_91 (by decide) ?_
          obtain rfl := Option.some.inj hf
          exact r_ireturn d_Te_readWord_92 rfl rfl
      · replace hf := im qu7 hf
        refine r_iconst (v := 2) d_Te_readWord_79 (by decide) ?_
        obtain rfl := Option.some.inj hf
        exact r_ireturn d_Te_readWord_80 rfl rfl
    · replace hf := im qu5 hf
      refine r_iconst (v := 1) d_Te_readWord_67 (by decide) ?_
      obtain rfl := Option.some.inj hf
      exact r_ireturn d_Te_readWord_68 rfl rfl
  exact l_Te_readWord_5 (G := G) (ru := ru) Nu ju2 xu1  Kju2 Nu Mu hf
def f_Te_wordFault (p0 : Int32) (Mu : Mm) : Int32 := if p0 = 0 then 1 else lt (fun (xu3 : Int32) => if xu3 = 0 then if p0 = 1 then 0 else 1 else lt (fun (_ : Unit) => 3) fun ju5 => if p0 = 1 then ju5 () else if p0 = 5 then if (Mu.1 11 4) = 0 then 0 else ju5 () else 0) fun ju2 => if (Mu.1 13 0) ≤ 0 then ju2 0 else ju2 1
theorem cm_Te_wordFault {G : GT} (p0 : Int32) (Mu : Mm)   : CM G 1 y_Te_wordFault c_Te_wordFault 3 (some .int) (some (.int (f_Te_wordFault p0 Mu)), Mu) Mu [.ref 11, .int p0] := by
  generalize hf : f_Te_wordFault p0 Mu = ru
  unfold f_Te_wordFault at hf
  refine CM.of (own := R_Te) (lv := [some (.ref 11), some (.int p0), none]) (by decide) rfl (Nat.le_of_ble_eq_true rfl) rfl ?_
  refine r_iload_n 1 d_Te_wordFault_0 rfl rfl ?_
  refine r_if_ne 6 d_Te_wordFault_1 (by decide) (fun qu1 => ?_) (fun qu1 => ?_)
  · replace hf := im qu1 hf
    refine r_aload_n 0 d_Te_wordFault_6 rfl rfl ?_
    refine r_getR 13 d_Te_wordFault_7 fl_Te_18 sh_11 rfl rf_11_1 ?_
    refine r_getI d_Te_wordFault_10 fl_Te_73 sh_13 (by decide) ?_
    obtain ⟨ju2, hju2, hf⟩ := lt_ex hf
    have Kju2 : ∀ (xu3 : Int32), ju2 xu3 = ru → SW G 1 c_Te_wordFault R_Te 3 (some .int) (some (.int ru), Mu) Mu 21 [some (.ref 11), some (.int p0), none] [.int xu3] := by
      intro xu3 hf
      rw [hju2] at hf
      refine r_istore_n (lv' := [some (.ref 11), some (.int p0), some (.int xu3)]) 2 d_Te_wordFault_21 rfl (by decide) rfl ?_
      refine r_iload_n 2 d_Te_wordFault_22 rfl rfl ?_
      refine r_if_ne 37 d_Te_wordFault_23 (by decide) (fun qu4 => ?_) (fun qu4 => ?_)
      · replace hf := im qu4 hf
        refine r_iload_n 1 d_Te_wordFault_37 rfl rfl ?_
        refine r_iconst (v := 1) d_Te_wordFault_38 (by decide) ?_
        obtain ⟨ju5, hju5, hf⟩ := lt_ex hf
        have Kju5 : ∀ (_ : Unit), ju5 () = ru → SW G 1 c_Te_wordFault R_Te 3 (some .int) (some (.int ru), Mu) Mu 54 [none, none, none] [] := by
          intro _ hf
          rw [hju5] at hf
          refine r_iconst (v := 3) d_Te_wordFault_54 (by decide) ?_
          refine r_goto 59 d_Te_wordFault_55 (by decide) ?_
          subst hf
          exact r_ireturn d_Te_wordFault_59 rfl rfl
        refine r_icmp_eq 54 d_Te_wordFault_39 (by decide) (fun qu6 => ?_) (fun qu6 => ?_)
        · replace hf := ip qu6 hf
          refine r_weak [0, 1, 2] (lv' := [none, none, none]) rfl ?_
          exact Kju5 ()  hf
        · replace hf := im qu6 hf
          refine r_iload_n 1 d_Te_wordFault_42 rfl rfl ?_
          refine r_iconst (v := 5) d_Te_wordFault_43 (by decide) ?_
          refine r_icmp_ne 58 d_Te_wordFault_44 (by decide) (fun qu7 => ?_) (fun qu7 => ?_)
          · replace hf := im qu7 hf
            refine r_iconst (v := 0) d_Te_wordFault_58 (by decide) ?_
            subst hf
            exact r_ireturn d_Te_wordFault_59 rfl rfl
          · replace hf := ip qu7 hf
            refine r_aload_n 0 d_Te_wordFault_47 rfl rfl ?_
            refine r_getI d_Te_wordFault_48 fl_Te_35 sh_11 (by decide) ?_
            refine r_if_eq 58 d_Te_wordFault_51 (by decide) (fun qu8 => ?_) (fun qu8 => ?_)
            · replace hf := ip qu8 hf
              refine r_iconst (v := 0) d_Te_wordFault_58 (by decide) ?_
              subst hf
              exact r_ireturn d_Te_wordFault_59 rfl rfl
            · replace hf := im qu8 hf
              refine r_weak [0, 1, 2] (lv' := [none, none, none]) rfl ?_
              exact Kju5 ()  hf
      · replace hf := ip qu4 hf
        refine r_iload_n 1 d_Te_wordFault_26 rfl rfl ?_
        refine r_iconst (v := 1) d_Te_wordFault_27 (by decide) ?_
        refine r_icmp_ne 35 d_Te_wordFault_28 (by decide) (fun qu9 => ?_) (fun qu9 => ?_)
        · replace hf := im qu9 hf
          refine r_iconst (v := 1) d_Te_wordFault_35 (by decide) ?_
          subst hf
          exact r_ireturn d_Te_wordFault_36 rfl rfl
        · replace hf := ip qu9 hf
          refine r_iconst (v := 0) d_Te_wordFault_31 (by decide) ?_
          refine r_goto 36 d_Te_wordFault_32 (by decide) ?_
          subst hf
          exact r_ireturn d_Te_wordFault_36 rfl rfl
    refine r_if_le 20 d_Te_wordFault_13 (by decide) (fun qu10 => ?_) (fun qu10 => ?_)
    · replace hf := ip qu10 hf
      refine r_iconst (v := 0) d_Te_wordFault_20 (by decide) ?_
      exact Kju2 0  hf
    · replace hf := im qu10 hf
      refine r_iconst (v := 1) d_Te_wordFault_16 (by decide) ?_
      refine r_goto 21 d_Te_wordFault_17 (by decide) ?_
      exact Kju2 1  hf
  · replace hf := ip qu1 hf
    refine r_iconst (v := 1) d_Te_wordFault_4 (by decide) ?_
    subst hf
    exact r_ireturn d_Te_wordFault_5 rfl rfl
def f_Te_blame (p0 : Int32) (p1 : Int32) (Mu : Mm) : Mm := lt (si Mu 11 5 p0) fun Mu1 => lt (si Mu1 11 6 p1) fun Mu2 => Mu2
theorem cm_Te_blame {G : GT} (p0 : Int32) (p1 : Int32) (Mu : Mm)   : CM G 1 y_Te_blame c_Te_blame 3 none (none, (f_Te_blame p0 p1 Mu)) Mu [.ref 11, .int p0, .int p1] := by
  generalize hf : f_Te_blame p0 p1 Mu = ru
  unfold f_Te_blame at hf
  refine CM.of (own := R_Te) (lv := [some (.ref 11), some (.int p0), some (.int p1)]) (by decide) rfl (Nat.le_of_ble_eq_true rfl) rfl ?_
  refine r_aload_n 0 d_Te_blame_0 rfl rfl ?_
  refine r_iload_n 1 d_Te_blame_1 rfl rfl ?_
  refine r_putI d_Te_blame_2 fl_Te_29 sh_11 (Or.inl rfl) rfl ?_
  refine nmM (fun Mu1 hMu1 => ?_)
  replace hf := lt_of hMu1 hf
  refine r_aload_n 0 d_Te_blame_5 rfl rfl ?_
  refine r_iload_n 2 d_Te_blame_6 rfl rfl ?_
  refine r_putI d_Te_blame_7 fl_Te_22 sh_11 (Or.inl rfl) rfl ?_
  refine nmM (fun Mu2 hMu2 => ?_)
  replace hf := lt_of hMu2 hf
  subst hf
  exact r_return d_Te_blame_10 rfl rfl
def L_Te_readNumber_12 (Nu : Nat) (xu2 : Int32) (ju3 : Int32 → Mm → Option (Int32 × Mm)) : Nat → Int32 → Mm → Option (Int32 × Mm)
  | 0, _, _ => none
  | nu + 1, z4_12, M_12 => if (M_12.1 11 2) ≤ (M_12.1 11 3) then ju3 z4_12 M_12 else if inb (M_12.1 11 3) 400 = true then if (M_12.1 12 (Int32.toNatClampNeg (M_12.1 11 3))) < 48 then ju3 z4_12 M_12 else if inb (M_12.1 11 3) 400 = true then if 57 < (M_12.1 12 (Int32.toNatClampNeg (M_12.1 11 3))) then ju3 z4_12 M_12 else lt (fun (xu21 : Int32) => lt (si M_12 11 3 ((M_12.1 11 3) + 1)) fun Mu22 => L_Te_readNumber_12 Nu xu2 ju3 nu xu21 Mu22) fun ju20 => if 3 ≤ ((M_12.1 11 3) - xu2) then ju20 z4_12 else if inb (M_12.1 11 3) 400 = true then lt (((z4_12 * 10) + (M_12.1 12 (Int32.toNatClampNeg (M_12.1 11 3)))) - 48) fun xu25 => ju20 xu25 else none else none else none
def f_Te_readNumber (Nu : Nat) (p0 : Int32) (p1 : Int32) (Mu : Mm) : Option (Int32 × Mm) := (f_Te_skipBlanks Nu Mu).bind fun vu1 => lt (vu1.1 11 3) fun xu2 => lt (fun (xu4 : Int32) (Mu5 : Mm) => lt (fun (Mu7 : Mm) => some (xu4, Mu7)) fun ju6 => if (Mu5.1 11 3) = xu2 then lt (f_Te_blame 1 xu2 Mu5) fun Mu14 => ju6 Mu14 else lt (fun (_ : Unit) => lt (f_Te_blame 2 xu2 Mu5) fun Mu10 => ju6 Mu10) fun ju9 => if 3 < ((Mu5.1 11 3) - xu2) then ju9 () else if xu4 < p0 then ju9 () else if xu4 ≤ p1 then ju6 Mu5 else ju9 ()) fun ju3 => L_Te_readNumber_12 Nu xu2 ju3 Nu 0 vu1
theorem l_Te_readNumber_12 {G : GT} {ru : Int32 × Mm} (Nu : Nat) (xu2 : Int32) (ju3 : Int32 → Mm → Option (Int32 × Mm)) (p0 : Int32) (p1 : Int32)  (Kju3 : ∀ (w4 : Int32) (Mw : Mm), ju3 w4 Mw = some ru → SW G 2 c_Te_readNumber R_Te 5 (some .int) (some (.int ru.1), ru.2) Mw 94 [some (.ref 11), some (.int p0), some (.int p1), some (.int xu2), some (.int w4)] [])  : ∀ (nu : Nat) (z4_12 : Int32) (M_12 : Mm), L_Te_readNumber_12 Nu xu2 ju3 nu z4_12 M_12 = some ru → SW G 2 c_Te_readNumber R_Te 5 (some .int) (some (.int ru.1), ru.2) M_12 12 [some (.ref 11), some (.int p0), some (.int p1), some (.int xu2), some (.int z4_12)] []
  | 0, _, _, hf => by cases hf
  | nu + 1, z4_12, M_12, hf => by
    have ih := l_Te_readNumber_12 (G := G) (ru := ru) Nu xu2 ju3 p0 p1  Kju3 nu
    rw [L_Te_readNumber_12] at hf
    refine r_aload_n 0 d_Te_readNumber_12 rfl rfl ?_
    refine r_getI d_Te_readNumber_13 fl_Te_32 sh_11 (by decide) ?_
    refine r_aload_n 0 d_Te_readNumber_16 rfl rfl ?_
    refine r_getI d_Te_readNumber_17 fl_Te_26 sh_11 (by decide) ?_
    refine r_icmp_ge 94 d_Te_readNumber_20 (by decide) (fun qu15 => ?_) (fun qu15 => ?_)
    · replace hf := ip qu15 hf
      exact Kju3 z4_12 M_12  hf
    · replace hf := im qu15 hf
      refine r_aload_n 0 d_Te_readNumber_23 rfl rfl ?_
      refine r_getR 12 d_Te_readNumber_24 fl_Te_9 sh_11 rfl rf_11_0 ?_
      refine r_aload_n 0 d_Te_readNumber_27 rfl rfl ?_
      refine r_getI d_Te_readNumber_28 fl_Te_32 sh_11 (by decide) ?_
      obtain ⟨qu16, hf⟩ := ck hf
      refine r_bald d_Te_readNumber_31 sh_12 qu16 ?_
      refine r_bipush (v := 48) d_Te_readNumber_32 (by decide) ?_
      refine r_icmp_lt 94 d_Te_readNumber_34 (by decide) (fun qu17 => ?_) (fun qu17 => ?_)
      · replace hf := ip qu17 hf
        exact Kju3 z4_12 M_12  hf
      · replace hf := im qu17 hf
        refine r_aload_n 0 d_Te_readNumber_37 rfl rfl ?_
        refine r_getR 12 d_Te_readNumber_38 fl_Te_9 sh_11 rfl rf_11_0 ?_
        refine r_aload_n 0 d_Te_readNumber_41 rfl rfl ?_
        refine r_getI d_Te_readNumber_42 fl_Te_32 sh_11 (by decide) ?_
        obtain ⟨qu18, hf⟩ := ck hf
        refine r_bald d_Te_readNumber_45 sh_12 qu18 ?_
        refine r_bipush (v := 57) d_Te_readNumber_46 (by decide) ?_
        refine r_icmp_gt 94 d_Te_readNumber_48 (by decide) (fun qu19 => ?_) (fun qu19 => ?_)
        · replace hf := ip qu19 hf
          exact Kju3 z4_12 M_12  hf
        · replace hf := im qu19 hf
          refine r_aload_n 0 d_Te_readNumber_51 rfl rfl ?_
          refine r_getI d_Te_readNumber_52 fl_Te_32 sh_11 (by decide) ?_
          refine r_iload_n 3 d_Te_readNumber_55 rfl rfl ?_
          refine r_isub d_Te_readNumber_56 ?_
          refine r_iconst (v := 3) d_Te_readNumber_57 (by decide) ?_
          obtain ⟨ju20, hju20, hf⟩ := lt_ex hf
          have Kju20 : ∀ (xu21 : Int32), ju20 xu21 = some ru → SW G 2 c_Te_readNumber R_Te 5 (some .int) (some (.int ru.1), ru.2) M_12 81 [some (.ref 11), some (.int p0), some (.int p1), some (.int xu2), some (.int xu21)] [] := by
            intro xu21 hf
            rw [hju20] at hf
            refine r_aload_n 0 d_Te_readNumber_81 rfl rfl ?_
            refine r_dup d_Te_readNumber_82 rfl ?_
            refine r_getI d_Te_readNumber_83 fl_Te_32 sh_11 (by decide) ?_
            refine r_iconst (v := 1) d_Te_readNumber_86 (by decide) ?_
            refine r_iadd d_Te_readNumber_87 ?_
            refine r_putI d_Te_readNumber_88 fl_Te_32 sh_11 (Or.inl rfl) rfl ?_
            refine nmM (fun Mu22 hMu22 => ?_)
            replace hf := lt_of hMu22 hf
            refine r_goto 12 d_Te_readNumber_91 (by decide) ?_
            exact ih xu21 Mu22  hf
          refine r_icmp_ge 81 d_Te_readNumber_58 (by decide) (fun qu23 => ?_) (fun qu23 => ?_)
          · replace hf := ip qu23 hf
            exact Kju20 z4_12  hf
          · replace hf := im qu23 hf
            refine r_iload d_Te_readNumber_61 rfl ?_
            refine r_bipush (v := 10) d_Te_readNumber_63 (by decide) ?_
            refine r_imul d_Te_readNumber_65 ?_
            refine r_aload_n 0 d_Te_readNumber_66 rfl rfl ?_
            refine r_getR 12 d_Te_readNumber_67 fl_Te_9 sh_11 rfl rf_11_0 ?_
            refine r_aload_n 0 d_Te_readNumber_70 rfl rfl ?_
            refine r_getI d_Te_readNumber_71 fl_Te_32 sh_11 (by decide) ?_
            obtain ⟨qu24, hf⟩ := ck hf
            refine r_bald d_Te_readNumber_74 sh_12 qu24 ?_
            refine r_iadd d_Te_readNumber_75 ?_
            refine r_bipush (v := 48) d_Te_readNumber_76 (by decide) ?_
            refine r_isub d_Te_readNumber_78 ?_
            refine nmI (fun xu25 hxu25 => ?_)
            replace hf := lt_of hxu25 hf
            refine r_istore (lv' := [some (.ref 11), some (.int p0), some (.int p1), some (.int xu2), some (.int xu25)]) d_Te_readNumber_79 (by decide) rfl ?_
            exact Kju20 xu25  hf
theorem cm_Te_readNumber {G : GT} {Nu : Nat} {p0 : Int32} {p1 : Int32} {Mu : Mm}  {ru : Int32 × Mm}  (hf : f_Te_readNumber Nu p0 p1 Mu = some ru) : CM G 2 y_Te_readNumber c_Te_readNumber 5 (some .int) (some (.int ru.1), ru.2) Mu [.ref 11, .int p0, .int p1] := by
  unfold f_Te_readNumber at hf
  refine CM.of (own := R_Te) (lv := [some (.ref 11), some (.int p0), some (.int p1), none, none]) (by decide) rfl (Nat.le_of_ble_eq_true rfl) rfl ?_
  refine r_aload_n 0 d_Te_readNumber_0 rfl rfl ?_
  obtain ⟨vu1, evu1, hf⟩ := bnd hf
  refine r_callV [] d_Te_readNumber_1 lk_Te_42 sh_11 (cm_Te_skipBlanks evu1) (by decide) rfl rfl (Nat.le_of_ble_eq_true rfl) ?_
  refine r_aload_n 0 d_Te_readNumber_4 rfl rfl ?_
  refine r_getI d_Te_readNumber_5 fl_Te_32 sh_11 (by decide) ?_
  refine nmI (fun xu2 hxu2 => ?_)
  replace hf := lt_of hxu2 hf
  refine r_istore_n (lv' := [some (.ref 11), some (.int p0), some (.int p1), some (.int xu2), none]) 3 d_Te_readNumber_8 rfl (by decide) rfl ?_
  refine r_iconst (v := 0) d_Te_readNumber_9 (by decide) ?_
  refine r_istore (lv' := [some (.ref 11), some (.int p0), some (.int p1), some (.int xu2), some (.int 0)]) d_Te_readNumber_10 (by decide) rfl ?_
  obtain ⟨ju3, hju3, hf⟩ := lt_ex hf
  have Kju3 : ∀ (xu4 : Int32) (Mu5 : Mm), ju3 xu4 Mu5 = some ru → SW G 2 c_Te_readNumber R_Te 5 (some .int) (some (.int ru.1), ru.2) Mu5 94 [some (.ref 11), some (.int p0), some (.int p1), some (.int xu2), some (.int xu4)] [] := by
    intro xu4 Mu5 hf
    rw [hju3] at hf
    refine r_aload_n 0 d_Te_readNumber_94 rfl rfl ?_
    refine r_getI d_Te_readNumber_95 fl_Te_32 sh_11 (by decide) ?_
    refine r_iload_n 3 d_Te_readNumber_98 rfl rfl ?_
    obtain ⟨ju6, hju6, hf⟩ := lt_ex hf
    have Kju6 : ∀ (Mu7 : Mm), ju6 Mu7 = some ru → SW G 2 c_Te_readNumber R_Te 5 (some .int) (some (.int ru.1), ru.2) Mu7 139 [none, none, none, none, some (.int xu4)] [] := by
      intro Mu7 hf
      rw [hju6] at hf
      refine r_iload d_Te_readNumber_139 rfl ?_
      obtain rfl := Option.some.inj hf
      exact r_ireturn d_Te_readNumber_141 rfl rfl
    refine r_icmp_ne 111 d_Te_readNumber_99 (by decide) (fun qu8 => ?_) (fun qu8 => ?_)
    · replace hf := im qu8 hf
      refine r_aload_n 0 d_Te_readNumber_111 rfl rfl ?_
      refine r_getI d_Te_readNumber_112 fl_Te_32 sh_11 (by decide) ?_
      refine r_iload_n 3 d_Te_readNumber_115 rfl rfl ?_
      refine r_isub d_Te_readNumber_116 ?_
      refine r_iconst (v := 3) d_Te_readNumber_117 (by decide) ?_
      obtain ⟨ju9, hju9, hf⟩ := lt_ex hf
      have Kju9 : ∀ (_ : Unit), ju9 () = some ru → SW G 2 c_Te_readNumber R_Te 5 (some .int) (some (.int ru.1), ru.2) Mu5 133 [some (.ref 11), none, none, some (.int xu2), some (.int xu4)] [] := by
        intro _ hf
        rw [hju9] at hf
        refine r_aload_n 0 d_Te_readNumber_133 rfl rfl ?_
        refine r_iconst (v := 2) d_Te_readNumber_134 (by decide) ?_
        refine r_iload_n 3 d_Te_readNumber_135 rfl rfl ?_
        refine r_callV [.int 2, .int xu2] d_Te_readNumber_136 lk_Te_56 sh_11 (cm_Te_blame 2 xu2 Mu5) (by decide) rfl rfl (Nat.le_of_ble_eq_true rfl) ?_
        refine nmM (fun Mu10 hMu10 => ?_)
        replace hf := lt_of hMu10 hf
        refine r_weak [0, 3] (lv' := [none, none, none, none, some (.int xu4)]) rfl ?_
        exact Kju6 Mu10  hf
      refine r_icmp_gt 133 d_Te_readNumber_118 (by decide) (fun qu11 => ?_) (fun qu11 => ?_)
      · replace hf := ip qu11 hf
        refine r_weak [1, 2] (lv' := [some (.ref 11), none, none, some (.int xu2), some (.int xu4)]) rfl ?_
        exact Kju9 ()  hf
      · replace hf := im qu11 hf
        refine r_iload d_Te_readNumber_121 rfl ?_
        refine r_iload_n 1 d_Te_readNumber_123 rfl rfl ?_
        refine r_icmp_lt 133 d_Te_readNumber_124 (by decide) (fun qu12 => ?_) (fun qu12 => ?_)
        · replace hf := ip qu12 hf
          refine r_weak [1, 2] (lv' := [some (.ref 11), none, none, some (.int xu2), some (.int xu4)]) rfl ?_
          exact Kju9 ()  hf
        · replace hf := im qu12 hf
          refine r_iload d_Te_readNumber_127 rfl ?_
          refine r_iload_n 2 d_Te_readNumber_129 rfl rfl ?_
          refine r_icmp_le 139 d_Te_readNumber_130 (by decide) (fun qu13 => ?_) (fun qu13 => ?_)
          · replace hf := ip qu13 hf
            refine r_weak [0, 1, 2, 3] (lv' := [none, none, none, none, some (.int xu4)]) rfl ?_
            exact Kju6 Mu5  hf
          · replace hf := im qu13 hf
            refine r_weak [1, 2] (lv' := [some (.ref 11), none, none, some (.int xu2), some (.int xu4)]) rfl ?_
            exact Kju9 ()  hf
    · replace hf := ip qu8 hf
      refine r_aload_n 0 d_Te_readNumber_102 rfl rfl ?_
      refine r_iconst (v := 1) d_Te_readNumber_103 (by decide) ?_
      refine r_iload_n 3 d_Te_readNumber_104 rfl rfl ?_
      refine r_callV [.int 1, .int xu2] d_Te_readNumber_105 lk_Te_56 sh_11 (cm_Te_blame 1 xu2 Mu5) (by decide) rfl rfl (Nat.le_of_ble_eq_true rfl) ?_
      refine nmM (fun Mu14 hMu14 => ?_)
      replace hf := lt_of hMu14 hf
      refine r_goto 139 d_Te_readNumber_108 (by decide) ?_
      refine r_weak [0, 1, 2, 3] (lv' := [none, none, none, none, some (.int xu4)]) rfl ?_
      exact Kju6 Mu14  hf
  exact l_Te_readNumber_12 (G := G) (ru := ru) Nu xu2 ju3 p0 p1  Kju3 Nu 0 vu1 hf
def f_Te_readPeople (Nu : Nat) (Mu : Mm) : Option (Mm) := (f_Te_readNumber Nu 1 8 Mu).bind fun vu1 => lt vu1.1 fun vu2 => lt vu1.2 fun Mu3 => if (Mu3.1 11 5) = 0 then lt (si Mu3 13 0 vu2) fun Mu5 => some Mu5 else some Mu3
theorem cm_Te_readPeople {G : GT} {Nu : Nat} {Mu : Mm}  {ru : Mm}  (hf : f_Te_readPeople Nu Mu = some ru) : CM G 3 y_Te_readPeople c_Te_readPeople 2 none (none, ru) Mu [.ref 11] := by
  unfold f_Te_readPeople at hf
  refine CM.of (own := R_Te) (lv := [some (.ref 11), none]) (by decide) rfl (Nat.le_of_ble_eq_true rfl) rfl ?_
  refine r_aload_n 0 d_Te_readPeople_0 rfl rfl ?_
  refine r_iconst (v := 1) d_Te_readPeople_1 (by decide) ?_
  refine r_bipush (v := 8) d_Te_readPeople_2 (by decide) ?_
  obtain ⟨vu1, evu1, hf⟩ := bnd hf
  obtain ⟨vu2, Mu3⟩ := vu1
  replace hf := lt_of (rfl : vu2 = (vu2, Mu3).1) hf
  replace hf := lt_of (rfl : Mu3 = (vu2, Mu3).2) hf
  refine r_callV [.int 1, .int 8] d_Te_readPeople_4 lk_Te_76 sh_11 (cm_Te_readNumber evu1) (by decide) rfl rfl (Nat.le_of_ble_eq_true rfl) ?_
  refine r_istore_n (lv' := [some (.ref 11), some (.int vu2)]) 1 d_Te_readPeople_7 rfl (by decide) rfl ?_
  refine r_aload_n 0 d_Te_readPeople_8 rfl rfl ?_
  refine r_getI d_Te_readPeople_9 fl_Te_29 sh_11 (by decide) ?_
  refine r_if_ne 23 d_Te_readPeople_12 (by decide) (fun qu4 => ?_) (fun qu4 => ?_)
  · replace hf := im qu4 hf
    obtain rfl := Option.some.inj hf
    exact r_return d_Te_readPeople_23 rfl rfl
  · replace hf := ip qu4 hf
    refine r_aload_n 0 d_Te_readPeople_15 rfl rfl ?_
    refine r_getR 13 d_Te_readPeople_16 fl_Te_18 sh_11 rfl rf_11_1 ?_
    refine r_iload_n 1 d_Te_readPeople_19 rfl rfl ?_
    refine r_putI d_Te_readPeople_20 fl_Te_73 sh_13 (Or.inl rfl) rfl ?_
    refine nmM (fun Mu5 hMu5 => ?_)
    replace hf := lt_of hMu5 hf
    obtain rfl := Option.some.inj hf
    exact r_return d_Te_readPeople_23 rfl rfl
def f_Te_readCost (Nu : Nat) (Mu : Mm) : Option (Mm) := (f_Te_readNumber Nu 1 9 Mu).bind fun vu1 => lt vu1.1 fun vu2 => lt vu1.2 fun Mu3 => if (Mu3.1 11 5) = 0 then (f_Te_readNumber Nu 1 9 Mu3).bind fun vu5 => lt vu5.1 fun vu6 => lt vu5.2 fun Mu7 => if (Mu7.1 11 5) = 0 then lt (si Mu7 13 1 vu2) fun Mu9 => lt (si Mu9 13 2 vu6) fun Mu10 => lt (si Mu10 11 4 1) fun Mu11 => some Mu11 else some Mu7 else some Mu3
theorem cm_Te_readCost {G : GT} {Nu : Nat} {Mu : Mm}  {ru : Mm}  (hf : f_Te_readCost Nu Mu = some ru) : CM G 3 y_Te_readCost c_Te_readCost 3 none (none, ru) Mu [.ref 11] := by
  unfold f_Te_readCost at hf
  refine CM.of (own := R_Te) (lv := [some (.ref 11), none, none]) (by decide) rfl (Nat.le_of_ble_eq_true rfl) rfl ?_
  refine r_aload_n 0 d_Te_readCost_0 rfl rfl ?_
  refine r_iconst (v := 1) d_Te_readCost_1 (by decide) ?_
  refine r_bipush (v := 9) d_Te_readCost_2 (by decide) ?_
  obtain ⟨vu1, evu1, hf⟩ := bnd hf
  obtain ⟨vu2, Mu3⟩ := vu1
  replace hf := lt_of (rfl : vu2 = (vu2, Mu3).1) hf
  replace hf := lt_of (rfl : Mu3 = (vu2, Mu3).2) hf
  refine r_callV [.int 1, .int 9] d_Te_readCost_4 lk_Te_76 sh_11 (cm_Te_readNumber evu1) (by decide) rfl rfl (Nat.le_of_ble_eq_true rfl) ?_
  refine r_istore_n (lv' := [some (.ref 11), some (.int vu2), none]) 1 d_Te_readCost_7 rfl (by decide) rfl ?_
  refine r_aload_n 0 d_Te_readCost_8 rfl rfl ?_
  refine r_getI d_Te_readCost_9 fl_Te_29 sh_11 (by decide) ?_
  refine r_if_eq 16 d_Te_readCost_12 (by decide) (fun qu4 => ?_) (fun qu4 => ?_)
  · replace hf := ip qu4 hf
    refine r_aload_n 0 d_Te_readCost_16 rfl rfl ?_
    refine r_iconst (v := 1) d_Te_readCost_17 (by decide) ?_
    refine r_bipush (v := 9) d_Te_readCost_18 (by decide) ?_
    obtain ⟨vu5, evu5, hf⟩ := bnd hf
    obtain ⟨vu6, Mu7⟩ := vu5
    replace hf := lt_of (rfl : vu6 = (vu6, Mu7).1) hf
    replace hf := lt_of (rfl : Mu7 = (vu6, Mu7).2) hf
    refine r_callV [.int 1, .int 9] d_Te_readCost_20 lk_Te_76 sh_11 (cm_Te_readNumber evu5) (by decide) rfl rfl (Nat.le_of_ble_eq_true rfl) ?_
    refine r_istore_n (lv' := [some (.ref 11), some (.int vu2), some (.int vu6)]) 2 d_Te_readCost_23 rfl (by decide) rfl ?_
    refine r_aload_n 0 d_Te_readCost_24 rfl rfl ?_
    refine r_getI d_Te_readCost_25 fl_Te_29 sh_11 (by decide) ?_
    refine r_if_ne 52 d_Te_readCost_28 (by decide) (fun qu8 => ?_) (fun qu8 => ?_)
    · replace hf := im qu8 hf
      obtain rfl := Option.some.inj hf
      exact r_return d_Te_readCost_52 rfl rfl
    · replace hf := ip qu8 hf
      refine r_aload_n 0 d_Te_readCost_31 rfl rfl ?_
      refine r_getR 13 d_Te_readCost_32 fl_Te_18 sh_11 rfl rf_11_1 ?_
      refine r_iload_n 1 d_Te_readCost_35 rfl rfl ?_
      refine r_putI d_Te_readCost_36 fl_Te_80 sh_13 (Or.inl rfl) rfl ?_
      refine nmM (fun Mu9 hMu9 => ?_)
      replace hf := lt_of hMu9 hf
      refine r_aload_n 0 d_Te_readCost_39 rfl rfl ?_
      refine r_getR 13 d_Te_readCost_40 fl_Te_18 sh_11 rfl rf_11_1 ?_
      refine r_iload_n 2 d_Te_readCost_43 rfl rfl ?_
      refine r_putI d_Te_readCost_44 fl_Te_83 sh_13 (Or.inl rfl) rfl ?_
      refine nmM (fun Mu10 hMu10 => ?_)
      replace hf := lt_of hMu10 hf
      refine r_aload_n 0 d_Te_readCost_47 rfl rfl ?_
      refine r_iconst (v := 1) d_Te_readCost_48 (by decide) ?_
      refine r_putI d_Te_readCost_49 fl_Te_35 sh_11 (Or.inr ⟨rfl, Or.inr rfl⟩) rfl ?_
      refine nmM (fun Mu11 hMu11 => ?_)
      replace hf := lt_of hMu11 hf
      obtain rfl := Option.some.inj hf
      exact r_return d_Te_readCost_52 rfl rfl
  · replace hf := im qu4 hf
    obtain rfl := Option.some.inj hf
    exact r_return d_Te_readCost_15 rfl rfl
def f_Te_readTwo (Nu : Nat) (p0 : Int32) (Mu : Mm) : Option (Mm) := (f_Te_readNumber Nu 0 ((Mu.1 13 0) - 1) Mu).bind fun vu1 => lt vu1.1 fun vu2 => lt vu1.2 fun Mu3 => if (Mu3.1 11 5) = 0 then (f_Te_skipBlanks Nu Mu3).bind fun vu5 => lt (vu5.1 11 3) fun xu6 => (f_Te_readNumber Nu 0 ((vu5.1 13 0) - 1) vu5).bind fun vu7 => lt vu7.1 fun vu8 => lt vu7.2 fun Mu9 => if (Mu9.1 11 5) = 0 then lt (fun (_ : Unit) => lt (f_Te_blame 4 xu6 Mu9) fun Mu12 => some Mu12) fun ju11 => if (f_To_hasTwo 13 vu2 vu8 Mu9) = 0 then ju11 () else (f_To_areFriends 13 vu2 vu8 Mu9).bind fun vu14 => if vu14 = 0 then (f_To_barOf 13 vu2 vu8 Mu9).bind fun vu16 => if vu16 = 0 then if p0 = 2 then (f_To_mark 13 14 vu2 vu8 1 Mu9).bind fun vu23 => some vu23 else lt (fun (xu20 : Int32) => (f_To_setBar 13 vu2 vu8 xu20 Mu9).bind fun vu21 => some vu21) fun ju19 => if p0 = 4 then ju19 2 else ju19 1 else ju11 () else ju11 () else some Mu9 else some Mu3
theorem cm_Te_readTwo {G : GT} {Nu : Nat} {p0 : Int32} {Mu : Mm}  {ru : Mm}  (hf : f_Te_readTwo Nu p0 Mu = some ru) : CM G 3 y_Te_readTwo c_Te_readTwo 5 none (none, ru) Mu [.ref 11, .int p0] := by
  unfold f_Te_readTwo at hf
  refine CM.of (own := R_Te) (lv := [some (.ref 11), some (.int p0), none, none, none]) (by decide) rfl (Nat.le_of_ble_eq_true rfl) rfl ?_
  refine r_aload_n 0 d_Te_readTwo_0 rfl rfl ?_
  refine r_iconst (v := 0) d_Te_readTwo_1 (by decide) ?_
  refine r_aload_n 0 d_Te_readTwo_2 rfl rfl ?_
  refine r_getR 13 d_Te_readTwo_3 fl_Te_18 sh_11 rfl rf_11_1 ?_
  refine r_getI d_Te_readTwo_6 fl_Te_73 sh_13 (by decide) ?_
  refine r_iconst (v := 1) d_Te_readTwo_9 (by decide) ?_
  refine r_isub d_Te_readTwo_10 ?_
  obtain ⟨vu1, evu1, hf⟩ := bnd hf
  obtain ⟨vu2, Mu3⟩ := vu1
  replace hf := lt_of (rfl : vu2 = (vu2, Mu3).1) hf
  replace hf := lt_of (rfl : Mu3 = (vu2, Mu3).2) hf
  refine r_callV [.int 0, .int ((Mu.1 13 0) - 1)] d_Te_readTwo_11 lk_Te_76 sh_11 (cm_Te_readNumber evu1) (by decide) rfl rfl (Nat.le_of_ble_eq_true rfl) ?_
  refine r_istore_n (lv' := [some (.ref 11), some (.int p0), some (.int vu2), none, none]) 2 d_Te_readTwo_14 rfl (by decide) rfl ?_
  refine r_aload_n 0 d_Te_readTwo_15 rfl rfl ?_
  refine r_getI d_Te_readTwo_16 fl_Te_29 sh_11 (by decide) ?_
  refine r_if_eq 23 d_Te_readTwo_19 (by decide) (fun qu4 => ?_) (fun qu4 => ?_)
  · replace hf := ip qu4 hf
    refine r_aload_n 0 d_Te_readTwo_23 rfl rfl ?_
    obtain ⟨vu5, evu5, hf⟩ := bnd hf
    refine r_callV [] d_Te_readTwo_24 lk_Te_42 sh_11 (cm_Te_skipBlanks evu5) (by decide) rfl rfl (Nat.le_of_ble_eq_true rfl) ?_
    refine r_aload_n 0 d_Te_readTwo_27 rfl rfl ?_
    refine r_getI d_Te_readTwo_28 fl_Te_32 sh_11 (by decide) ?_
    refine nmI (fun xu6 hxu6 => ?_)
    replace hf := lt_of hxu6 hf
    refine r_istore_n (lv' := [some (.ref 11), some (.int p0), some (.int vu2), some (.int xu6), none]) 3 d_Te_readTwo_31 rfl (by decide) rfl ?_
    refine r_aload_n 0 d_Te_readTwo_32 rfl rfl ?_
    refine r_iconst (v := 0) d_Te_readTwo_33 (by decide) ?_
    refine r_aload_n 0 d_Te_readTwo_34 rfl rfl ?_
    refine r_getR 13 d_Te_readTwo_35 fl_Te_18 sh_11 rfl rf_11_1 ?_
    refine r_getI d_Te_readTwo_38 fl_Te_73 sh_13 (by decide) ?_
    refine r_iconst (v := 1) d_Te_readTwo_41 (by decide) ?_
    refine r_isub d_Te_readTwo_42 ?_
    obtain ⟨vu7, evu7, hf⟩ := bnd hf
    obtain ⟨vu8, Mu9⟩ := vu7
    replace hf := lt_of (rfl : vu8 = (vu8, Mu9).1) hf
    replace hf := lt_of (rfl : Mu9 = (vu8, Mu9).2) hf
    refine r_callV [.int 0, .int ((vu5.1 13 0) - 1)] d_Te_readTwo_43 lk_Te_76 sh_11 (cm_Te_readNumber evu7) (by decide) rfl rfl (Nat.le_of_ble_eq_true rfl) ?_
    refine r_istore (lv' := [some (.ref 11), some (.int p0), some (.int vu2), some (.int xu6), some (.int vu8)]) d_Te_readTwo_46 (by decide) rfl ?_
    refine r_aload_n 0 d_Te_readTwo_48 rfl rfl ?_
    refine r_getI d_Te_readTwo_49 fl_Te_29 sh_11 (by decide) ?_
    refine r_if_eq 56 d_Te_readTwo_52 (by decide) (fun qu10 => ?_) (fun qu10 => ?_)
    · replace hf := ip qu10 hf
      refine r_aload_n 0 d_Te_readTwo_56 rfl rfl ?_
      refine r_getR 13 d_Te_readTwo_57 fl_Te_18 sh_11 rfl rf_11_1 ?_
      refine r_iload_n 2 d_Te_readTwo_60 rfl rfl ?_
      refine r_iload d_Te_readTwo_61 rfl ?_
      refine r_callV [.int vu2, .int vu8] d_Te_readTwo_63 lk_Te_86 sh_13 (cm_To_hasTwo 13 vu2 vu8 Mu9 sh_13) (by decide) rfl rfl (Nat.le_of_ble_eq_true rfl) ?_
      obtain ⟨ju11, hju11, hf⟩ := lt_ex hf
      have Kju11 : ∀ (_ : Unit), ju11 () = some ru → SW G 3 c_Te_readTwo R_Te 5 none (none, ru) Mu9 95 [some (.ref 11), none, none, some (.int xu6), none] [] := by
        intro _ hf
        rw [hju11] at hf
        refine r_aload_n 0 d_Te_readTwo_95 rfl rfl ?_
        refine r_iconst (v := 4) d_Te_readTwo_96 (by decide) ?_
        refine r_iload_n 3 d_Te_readTwo_97 rfl rfl ?_
        refine r_callV [.int 4, .int xu6] d_Te_readTwo_98 lk_Te_56 sh_11 (cm_Te_blame 4 xu6 Mu9) (by decide) rfl rfl (Nat.le_of_ble_eq_true rfl) ?_
        refine nmM (fun Mu12 hMu12 => ?_)
        replace hf := lt_of hMu12 hf
        refine r_goto 150 d_Te_readTwo_101 (by decide) ?_
        obtain rfl := Option.some.inj hf
        exact r_return d_Te_readTwo_150 rfl rfl
      refine r_if_eq 95 d_Te_readTwo_66 (by decide) (fun qu13 => ?_) (fun qu13 => ?_)
      · replace hf := ip qu13 hf
        refine r_weak [1, 2, 4] (lv' := [some (.ref 11), none, none, some (.int xu6), none]) rfl ?_
        exact Kju11 ()  hf
      · replace hf := im qu13 hf
        refine r_aload_n 0 d_Te_readTwo_69 rfl rfl ?_
        refine r_getR 13 d_Te_readTwo_70 fl_Te_18 sh_11 rfl rf_11_1 ?_
        refine r_iload_n 2 d_Te_readTwo_73 rfl rfl ?_
        refine r_iload d_Te_readTwo_74 rfl ?_
        obtain ⟨vu14, evu14, hf⟩ := bnd hf
        refine r_callV [.int vu2, .int vu8] d_Te_readTwo_76 lk_Te_90 sh_13 (cm_To_areFriends sh_13 evu14) (by decide) rfl rfl (Nat.le_of_ble_eq_true rfl) ?_
        refine r_if_ne 95 d_Te_readTwo_79 (by decide) (fun qu15 => ?_) (fun qu15 => ?_)
        · replace hf := im qu15 hf
          refine r_weak [1, 2, 4] (lv' := [some (.ref 11), none, none, some (.int xu6), none]) rfl ?_
          exact Kju11 ()  hf
        · replace hf := ip qu15 hf
          refine r_aload_n 0 d_Te_readTwo_82 rfl rfl ?_
          refine r_getR 13 d_Te_readTwo_83 fl_Te_18 sh_11 rfl rf_11_1 ?_
          refine r_iload_n 2 d_Te_readTwo_86 rfl rfl ?_
          refine r_iload d_Te_readTwo_87 rfl ?_
          obtain ⟨vu16, evu16, hf⟩ := bnd hf
          refine r_callV [.int vu2, .int vu8] d_Te_readTwo_89 lk_Te_93 sh_13 (cm_To_barOf sh_13 evu16) (by decide) rfl rfl (Nat.le_of_ble_eq_true rfl) ?_
          refine r_if_eq 104 d_Te_readTwo_92 (by decide) (fun qu17 => ?_) (fun qu17 => ?_)
          · replace hf := ip qu17 hf
            refine r_iload_n 1 d_Te_readTwo_104 rfl rfl ?_
            refine r_iconst (v := 2) d_Te_readTwo_105 (by decide) ?_
            refine r_icmp_ne 130 d_Te_readTwo_106 (by decide) (fun qu18 => ?_) (fun qu18 => ?_)
            · replace hf := im qu18 hf
              refine r_aload_n 0 d_Te_readTwo_130 rfl rfl ?_
              refine r_getR 13 d_Te_readTwo_131 fl_Te_18 sh_11 rfl rf_11_1 ?_
              refine r_iload_n 2 d_Te_readTwo_134 rfl rfl ?_
              refine r_iload d_Te_readTwo_135 rfl ?_
              refine r_iload_n 1 d_Te_readTwo_137 rfl rfl ?_
              refine r_iconst (v := 4) d_Te_readTwo_138 (by decide) ?_
              obtain ⟨ju19, hju19, hf⟩ := lt_ex hf
              have Kju19 : ∀ (xu20 : Int32), ju19 xu20 = some ru → SW G 3 c_Te_readTwo R_Te 5 none (none, ru) Mu9 147 [none, none, none, none, none] [.int xu20, .int vu8, .int vu2, .ref 13] := by
                intro xu20 hf
                rw [hju19] at hf
                obtain ⟨vu21, evu21, hf⟩ := bnd hf
                refine r_callV [.int vu2, .int vu8, .int xu20] d_Te_readTwo_147 lk_Te_104 sh_13 (cm_To_setBar sh_13 evu21) (by decide) rfl rfl (Nat.le_of_ble_eq_true rfl) ?_
                obtain rfl := Option.some.inj hf
                exact r_return d_Te_readTwo_150 rfl rfl
              refine r_icmp_ne 146 d_Te_readTwo_139 (by decide) (fun qu22 => ?_) (fun qu22 => ?_)
              · replace hf := im qu22 hf
                refine r_iconst (v := 1) d_Te_readTwo_146 (by decide) ?_
                refine r_weak [0, 1, 2, 3, 4] (lv' := [none, none, none, none, none]) rfl ?_
                exact Kju19 1  hf
              · replace hf := ip qu22 hf
                refine r_iconst (v := 2) d_Te_readTwo_142 (by decide) ?_
                refine r_goto 147 d_Te_readTwo_143 (by decide) ?_
                refine r_weak [0, 1, 2, 3, 4] (lv' := [none, none, none, none, none]) rfl ?_
                exact Kju19 2  hf
            · replace hf := ip qu18 hf
              refine r_aload_n 0 d_Te_readTwo_109 rfl rfl ?_
              refine r_getR 13 d_Te_readTwo_110 fl_Te_18 sh_11 rfl rf_11_1 ?_
              refine r_aload_n 0 d_Te_readTwo_113 rfl rfl ?_
              refine r_getR 13 d_Te_readTwo_114 fl_Te_18 sh_11 rfl rf_11_1 ?_
              refine r_getR 14 d_Te_readTwo_117 fl_Te_96 sh_13 rfl rf_13_3 ?_
              refine r_iload_n 2 d_Te_readTwo_120 rfl rfl ?_
              refine r_iload d_Te_readTwo_121 rfl ?_
              refine r_iconst (v := 1) d_Te_readTwo_123 (by decide) ?_
              obtain ⟨vu23, evu23, hf⟩ := bnd hf
              refine r_callV [.ref 14, .int vu2, .int vu8, .int 1] d_Te_readTwo_124 lk_Te_100 sh_13 (cm_To_mark sh_13 sh_14 evu23) (by decide) rfl rfl (Nat.le_of_ble_eq_true rfl) ?_
              refine r_goto 150 d_Te_readTwo_127 (by decide) ?_
              obtain rfl := Option.some.inj hf
              exact r_return d_Te_readTwo_150 rfl rfl
          · replace hf := im qu17 hf
            refine r_weak [1, 2, 4] (lv' := [some (.ref 11), none, none, some (.int xu6), none]) rfl ?_
            exact Kju11 ()  hf
    · replace hf := im qu10 hf
      obtain rfl := Option.some.inj hf
      exact r_return d_Te_readTwo_55 rfl rfl
  · replace hf := im qu4 hf
    obtain rfl := Option.some.inj hf
    exact r_return d_Te_readTwo_22 rfl rfl
def f_Te_readEnd (Nu : Nat) (Mu : Mm) : Option (Mm) := (f_Te_skipBlanks Nu Mu).bind fun vu1 => lt (fun (_ : Unit) => lt (f_Te_blame 1 (vu1.1 11 3) vu1) fun Mu3 => some Mu3) fun ju2 => if (vu1.1 11 2) ≤ (vu1.1 11 3) then ju2 () else if inb (vu1.1 11 3) 400 = true then if (vu1.1 12 (Int32.toNatClampNeg (vu1.1 11 3))) = 59 then lt (si vu1 11 3 ((vu1.1 11 3) + 1)) fun Mu7 => some Mu7 else ju2 () else none
theorem cm_Te_readEnd {G : GT} {Nu : Nat} {Mu : Mm}  {ru : Mm}  (hf : f_Te_readEnd Nu Mu = some ru) : CM G 2 y_Te_readEnd c_Te_readEnd 1 none (none, ru) Mu [.ref 11] := by
  unfold f_Te_readEnd at hf
  refine CM.of (own := R_Te) (lv := [some (.ref 11)]) (by decide) rfl (Nat.le_of_ble_eq_true rfl) rfl ?_
  refine r_aload_n 0 d_Te_readEnd_0 rfl rfl ?_
  obtain ⟨vu1, evu1, hf⟩ := bnd hf
  refine r_callV [] d_Te_readEnd_1 lk_Te_42 sh_11 (cm_Te_skipBlanks evu1) (by decide) rfl rfl (Nat.le_of_ble_eq_true rfl) ?_
  refine r_aload_n 0 d_Te_readEnd_4 rfl rfl ?_
  refine r_getI d_Te_readEnd_5 fl_Te_32 sh_11 (by decide) ?_
  refine r_aload_n 0 d_Te_readEnd_8 rfl rfl ?_
  refine r_getI d_Te_readEnd_9 fl_Te_26 sh_11 (by decide) ?_
  obtain ⟨ju2, hju2, hf⟩ := lt_ex hf
  have Kju2 : ∀ (_ : Unit), ju2 () = some ru → SW G 2 c_Te_readEnd R_Te 1 none (none, ru) vu1 42 [some (.ref 11)] [] := by
    intro _ hf
    rw [hju2] at hf
    refine r_aload_n 0 d_Te_readEnd_42 rfl rfl ?_
    refine r_iconst (v := 1) d_Te_readEnd_43 (by decide) ?_
    refine r_aload_n 0 d_Te_readEnd_44 rfl rfl ?_
    refine r_getI d_Te_readEnd_45 fl_Te_32 sh_11 (by decide) ?_
    refine r_callV [.int 1, .int (vu1.1 11 3)] d_Te_readEnd_48 lk_Te_56 sh_11 (cm_Te_blame 1 (vu1.1 11 3) vu1) (by decide) rfl rfl (Nat.le_of_ble_eq_true rfl) ?_
    refine nmM (fun Mu3 hMu3 => ?_)
    replace hf := lt_of hMu3 hf
    obtain rfl := Option.some.inj hf
    exact r_return d_Te_readEnd_51 rfl rfl
  refine r_icmp_ge 42 d_Te_readEnd_12 (by decide) (fun qu4 => ?_) (fun qu4 => ?_)
  · replace hf := ip qu4 hf
    exact Kju2 ()  hf
  · replace hf := im qu4 hf
    refine r_aload_n 0 d_Te_readEnd_15 rfl rfl ?_
    refine r_getR 12 d_Te_readEnd_16 fl_Te_9 sh_11 rfl rf_11_0 ?_
    refine r_aload_n 0 d_Te_readEnd_19 rfl rfl ?_
    refine r_getI d_Te_readEnd_20 fl_Te_32 sh_11 (by decide) ?_
    obtain ⟨qu5, hf⟩ := ck hf
    refine r_bald d_Te_readEnd_23 sh_12 qu5 ?_
    refine r_bipush (v := 59) d_Te_readEnd_24 (by decide) ?_
    refine r_icmp_ne 42 d_Te_readEnd_26 (by decide) (fun qu6 => ?_) (fun qu6 => ?_)
    · replace hf := im qu6 hf
      exact Kju2 ()  hf
    · replace hf := ip qu6 hf
      refine r_aload_n 0 d_Te_readEnd_29 rfl rfl ?_
      refine r_dup d_Te_readEnd_30 rfl ?_
      refine r_getI d_Te_readEnd_31 fl_Te_32 sh_11 (by decide) ?_
      refine r_iconst (v := 1) d_Te_readEnd_34 (by decide) ?_
      refine r_iadd d_Te_readEnd_35 ?_
      refine r_putI d_Te_readEnd_36 fl_Te_32 sh_11 (Or.inl rfl) rfl ?_
      refine nmM (fun Mu7 hMu7 => ?_)
      replace hf := lt_of hMu7 hf
      refine r_goto 51 d_Te_readEnd_39 (by decide) ?_
      obtain rfl := Option.some.inj hf
      exact r_return d_Te_readEnd_51 rfl rfl
def f_Te_readClause (Nu : Nat) (Mu : Mm) : Option (Mm) := lt (Mu.1 11 3) fun xu1 => (f_Te_readWord Nu Mu).bind fun vu2 => lt vu2.1 fun vu3 => lt vu2.2 fun Mu4 => lt (f_Te_wordFault vu3 Mu4) fun xu5 => if xu5 = 0 then lt (fun (Mu8 : Mm) => if (Mu8.1 11 5) = 0 then (f_Te_readEnd Nu Mu8).bind fun vu10 => some vu10 else some Mu8) fun ju7 => if vu3 = 1 then (f_Te_readPeople Nu Mu4).bind fun vu15 => ju7 vu15 else if vu3 = 5 then (f_Te_readCost Nu Mu4).bind fun vu14 => ju7 vu14 else (f_Te_readTwo Nu vu3 Mu4).bind fun vu13 => ju7 vu13 else lt (f_Te_blame xu5 xu1 Mu4) fun Mu16 => some Mu16
theorem cm_Te_readClause {G : GT} {Nu : Nat} {Mu : Mm}  {ru : Mm}  (hf : f_Te_readClause Nu Mu = some ru) : CM G 8 y_Te_readClause c_Te_readClause 4 none (none, ru) Mu [.ref 11] := by
  unfold f_Te_readClause at hf
  refine CM.of (own := R_Te) (lv := [some (.ref 11), none, none, none]) (by decide) rfl (Nat.le_of_ble_eq_true rfl) rfl ?_
  refine r_aload_n 0 d_Te_readClause_0 rfl rfl ?_
  refine r_getI d_Te_readClause_1 fl_Te_32 sh_11 (by decide) ?_
  refine nmI (fun xu1 hxu1 => ?_)
  replace hf := lt_of hxu1 hf
  refine r_istore_n (lv' := [some (.ref 11), some (.int xu1), none, none]) 1 d_Te_readClause_4 rfl (by decide) rfl ?_
  refine r_aload_n 0 d_Te_readClause_5 rfl rfl ?_
  obtain ⟨vu2, evu2, hf⟩ := bnd hf
  obtain ⟨vu3, Mu4⟩ := vu2
  replace hf := lt_of (rfl : vu3 = (vu3, Mu4).1) hf
  replace hf := lt_of (rfl : Mu4 = (vu3, Mu4).2) hf
  refine r_callV [] d_Te_readClause_6 lk_Te_48 sh_11 (cm_Te_readWord evu2) (by decide) rfl rfl (Nat.le_of_ble_eq_true rfl) ?_
  refine r_istore_n (lv' := [some (.ref 11), some (.int xu1), some (.int vu3), none]) 2 d_Te_readClause_9 rfl (by decide) rfl ?_
  refine r_aload_n 0 d_Te_readClause_10 rfl rfl ?_
  refine r_iload_n 2 d_Te_readClause_11 rfl rfl ?_
  refine r_callV [.int vu3] d_Te_readClause_12 lk_Te_52 sh_11 (cm_Te_wordFault vu3 Mu4) (by decide) rfl rfl (Nat.le_of_ble_eq_true rfl) ?_
  refine nmI (fun xu5 hxu5 => ?_)
  replace hf := lt_of hxu5 hf
  refine r_istore_n (lv' := [some (.ref 11), some (.int xu1), some (.int vu3), some (.int xu5)]) 3 d_Te_readClause_15 rfl (by decide) rfl ?_
  refine r_iload_n 3 d_Te_readClause_16 rfl rfl ?_
  refine r_if_eq 27 d_Te_readClause_17 (by decide) (fun qu6 => ?_) (fun qu6 => ?_)
  · replace hf := ip qu6 hf
    refine r_iload_n 2 d_Te_readClause_27 rfl rfl ?_
    refine r_iconst (v := 1) d_Te_readClause_28 (by decide) ?_
    obtain ⟨ju7, hju7, hf⟩ := lt_ex hf
    have Kju7 : ∀ (Mu8 : Mm), ju7 Mu8 = some ru → SW G 8 c_Te_readClause R_Te 4 none (none, ru) Mu8 56 [some (.ref 11), none, none, none] [] := by
      intro Mu8 hf
      rw [hju7] at hf
      refine r_aload_n 0 d_Te_readClause_56 rfl rfl ?_
      refine r_getI d_Te_readClause_57 fl_Te_29 sh_11 (by decide) ?_
      refine r_if_ne 67 d_Te_readClause_60 (by decide) (fun qu9 => ?_) (fun qu9 => ?_)
      · replace hf := im qu9 hf
        obtain rfl := Option.some.inj hf
        exact r_return d_Te_readClause_67 rfl rfl
      · replace hf := ip qu9 hf
        refine r_aload_n 0 d_Te_readClause_63 rfl rfl ?_
        obtain ⟨vu10, evu10, hf⟩ := bnd hf
        refine r_callV [] d_Te_readClause_64 lk_Te_70 sh_11 (cm_Te_readEnd evu10) (by decide) rfl rfl (Nat.le_of_ble_eq_true rfl) ?_
        obtain rfl := Option.some.inj hf
        exact r_return d_Te_readClause_67 rfl rfl
    refine r_icmp_ne 39 d_Te_readClause_29 (by decide) (fun qu11 => ?_) (fun qu11 => ?_)
    · replace hf := im qu11 hf
      refine r_iload_n 2 d_Te_readClause_39 rfl rfl ?_
      refine r_iconst (v := 5) d_Te_readClause_40 (by decide) ?_
      refine r_icmp_ne 51 d_Te_readClause_41 (by decide) (fun qu12 => ?_) (fun qu12 => ?_)
      · replace hf := im qu12 hf
        refine r_aload_n 0 d_Te_readClause_51 rfl rfl ?_
        refine r_iload_n 2 d_Te_readClause_52 rfl rfl ?_
        obtain ⟨vu13, evu13, hf⟩ := bnd hf
        refine r_callV [.int vu3] d_Te_readClause_53 lk_Te_66 sh_11 (cm_Te_readTwo evu13) (by decide) rfl rfl (Nat.le_of_ble_eq_true rfl) ?_
        refine r_weak [1, 2, 3] (lv' := [some (.ref 11), none, none, none]) rfl ?_
        exact Kju7 vu13  hf
      · replace hf := ip qu12 hf
        refine r_aload_n 0 d_Te_readClause_44 rfl rfl ?_
        obtain ⟨vu14, evu14, hf⟩ := bnd hf
        refine r_callV [] d_Te_readClause_45 lk_Te_63 sh_11 (cm_Te_readCost evu14) (by decide) rfl rfl (Nat.le_of_ble_eq_true rfl) ?_
        refine r_goto 56 d_Te_readClause_48 (by decide) ?_
        refine r_weak [1, 2, 3] (lv' := [some (.ref 11), none, none, none]) rfl ?_
        exact Kju7 vu14  hf
    · replace hf := ip qu11 hf
      refine r_aload_n 0 d_Te_readClause_32 rfl rfl ?_
      obtain ⟨vu15, evu15, hf⟩ := bnd hf
      refine r_callV [] d_Te_readClause_33 lk_Te_60 sh_11 (cm_Te_readPeople evu15) (by decide) rfl rfl (Nat.le_of_ble_eq_true rfl) ?_
      refine r_goto 56 d_Te_readClause_36 (by decide) ?_
      refine r_weak [1, 2, 3] (lv' := [some (.ref 11), none, none, none]) rfl ?_
      exact Kju7 vu15  hf
  · replace hf := im qu6 hf
    refine r_aload_n 0 d_Te_readClause_20 rfl rfl ?_
    refine r_iload_n 3 d_Te_readClause_21 rfl rfl ?_
    refine r_iload_n 1 d_Te_readClause_22 rfl rfl ?_
    refine r_callV [.int xu5, .int xu1] d_Te_readClause_23 lk_Te_56 sh_11 (cm_Te_blame xu5 xu1 Mu4) (by decide) rfl rfl (Nat.le_of_ble_eq_true rfl) ?_
    refine nmM (fun Mu16 hMu16 => ?_)
    replace hf := lt_of hMu16 hf
    obtain rfl := Option.some.inj hf
    exact r_return d_Te_readClause_26 rfl rfl
def L_Te_read_33 (Nu : Nat) (ju7 : Mm → Option (Mm)) : Nat → Int32 → Mm → Option (Mm)
  | 0, _, _ => none
  | nu + 1, z1_33, M_33 => if 400 ≤ z1_33 then ju7 M_33 else if (M_33.1 11 2) ≤ (M_33.1 11 3) then ju7 M_33 else if (M_33.1 11 5) = 0 then (f_Te_readClause Nu M_33).bind fun vu13 => (f_Te_skipBlanks Nu vu13).bind fun vu14 => lt (z1_33 + 1) fun xu15 => L_Te_read_33 Nu ju7 nu xu15 vu14 else ju7 M_33
def f_Te_read (Nu : Nat) (Mu : Mm) : Option (Mm) := lt (si Mu 11 3 0) fun Mu1 => lt (si Mu1 11 4 0) fun Mu2 => lt (si Mu2 11 5 0) fun Mu3 => lt (si Mu3 11 6 (-1)) fun Mu4 => (f_To_clear Nu 13 Mu4).bind fun vu5 => (f_Te_skipBlanks Nu vu5).bind fun vu6 => lt (fun (Mu8 : Mm) => lt (si Mu8 11 2 0) fun Mu9 => some Mu9) fun ju7 => L_Te_read_33 Nu ju7 Nu 0 vu6
theorem l_Te_read_33 {G : GT} {ru : Mm} (Nu : Nat) (ju7 : Mm → Option (Mm))  (Kju7 : ∀ (Mw : Mm), ju7 Mw = some ru → SW G 9 c_Te_read R_Te 2 none (none, ru) Mw 72 [some (.ref 11), none] [])  : ∀ (nu : Nat) (z1_33 : Int32) (M_33 : Mm), L_Te_read_33 Nu ju7 nu z1_33 M_33 = some ru → SW G 9 c_Te_read R_Te 2 none (none, ru) M_33 33 [some (.ref 11), some (.int z1_33)] []
  | 0, _, _, hf => by cases hf
  | nu + 1, z1_33, M_33, hf => by
    have ih := l_Te_read_33 (G := G) (ru := ru) Nu ju7  Kju7 nu
    rw [L_Te_read_33] at hf
    refine r_iload_n 1 d_Te_read_33 rfl rfl ?_
    refine r_sipush (v := 400) d_Te_read_34 (by decide) ?_
    refine r_icmp_ge 72 d_Te_read_37 (by decide) (fun qu10 => ?_) (fun qu10 => ?_)
    · replace hf := ip qu10 hf
      refine r_weak [1] (lv' := [some (.ref 11), none]) rfl ?_
      exact Kju7 M_33  hf
    · replace hf := im qu10 hf
      refine r_aload_n 0 d_Te_read_40 rfl rfl ?_
      refine r_getI d_Te_read_41 fl_Te_32 sh_11 (by decide) ?_
      refine r_aload_n 0 d_Te_read_44 rfl rfl ?_
      refine r_getI d_Te_read_45 fl_Te_26 sh_11 (by decide) ?_
      refine r_icmp_ge 72 d_Te_read_48 (by decide) (fun qu11 => ?_) (fun qu11 => ?_)
      · replace hf := ip qu11 hf
        refine r_weak [1] (lv' := [some (.ref 11), none]) rfl ?_
        exact Kju7 M_33  hf
      · replace hf := im qu11 hf
        refine r_aload_n 0 d_Te_read_51 rfl rfl ?_
        refine r_getI d_Te_read_52 fl_Te_29 sh_11 (by decide) ?_
        refine r_if_ne 72 d_Te_read_55 (by decide) (fun qu12 => ?_) (fun qu12 => ?_)
        · replace hf := im qu12 hf
          refine r_weak [1] (lv' := [some (.ref 11), none]) rfl ?_
          exact Kju7 M_33  hf
        · replace hf := ip qu12 hf
          refine r_aload_n 0 d_Te_read_58 rfl rfl ?_
          obtain ⟨vu13, evu13, hf⟩ := bnd hf
          refine r_callV [] d_Te_read_59 lk_Te_45 sh_11 (cm_Te_readClause evu13) (by decide) rfl rfl (Nat.le_of_ble_eq_true rfl) ?_
          refine r_aload_n 0 d_Te_read_62 rfl rfl ?_
          obtain ⟨vu14, evu14, hf⟩ := bnd hf
          refine r_callV [] d_Te_read_63 lk_Te_42 sh_11 (cm_Te_skipBlanks evu14) (by decide) rfl rfl (Nat.le_of_ble_eq_true rfl) ?_
          obtain ⟨xu15, hxu15⟩ : ∃ y : Int32, y = z1_33 + 1 := ⟨_, rfl⟩
          replace hf := lt_of hxu15 hf
          refine r_iinc (lv' := [some (.ref 11), some (.int xu15)]) d_Te_read_66 rfl (by rw [hxu15]; rfl) (by decide) rfl ?_
          refine r_goto 33 d_Te_read_69 (by decide) ?_
          exact ih xu15 vu14  hf
theorem cm_Te_read {G : GT} {Nu : Nat} {Mu : Mm}  {ru : Mm}  (hf : f_Te_read Nu Mu = some ru) : CM G 9 y_Te_read c_Te_read 2 none (none, ru) Mu [.ref 11] := by
  unfold f_Te_read at hf
  refine CM.of (own := R_Te) (lv := [some (.ref 11), none]) (by decide) rfl (Nat.le_of_ble_eq_true rfl) rfl ?_
  refine r_aload_n 0 d_Te_read_0 rfl rfl ?_
  refine r_iconst (v := 0) d_Te_read_1 (by decide) ?_
  refine r_putI d_Te_read_2 fl_Te_32 sh_11 (Or.inl rfl) rfl ?_
  refine nmM (fun Mu1 hMu1 => ?_)
  replace hf := lt_of hMu1 hf
  refine r_aload_n 0 d_Te_read_5 rfl rfl ?_
  refine r_iconst (v := 0) d_Te_read_6 (by decide) ?_
  refine r_putI d_Te_read_7 fl_Te_35 sh_11 (Or.inr ⟨rfl, Or.inl rfl⟩) rfl ?_
  refine nmM (fun Mu2 hMu2 => ?_)
  replace hf := lt_of hMu2 hf
  refine r_aload_n 0 d_Te_read_10 rfl rfl ?_
  refine r_iconst (v := 0) d_Te_read_11 (by decide) ?_
  refine r_putI d_Te_read_12 fl_Te_29 sh_11 (Or.inl rfl) rfl ?_
  refine nmM (fun Mu3 hMu3 => ?_)
  replace hf := lt_of hMu3 hf
  refine r_aload_n 0 d_Te_read_15 rfl rfl ?_
  refine r_iconst (v := (-1)) d_Te_read_16 (by decide) ?_
  refine r_putI d_Te_read_17 fl_Te_22 sh_11 (Or.inl rfl) rfl ?_
  refine nmM (fun Mu4 hMu4 => ?_)
  replace hf := lt_of hMu4 hf
  refine r_aload_n 0 d_Te_read_20 rfl rfl ?_
  refine r_getR 13 d_Te_read_21 fl_Te_18 sh_11 rfl rf_11_1 ?_
  obtain ⟨vu5, evu5, hf⟩ := bnd hf
  refine r_callV [] d_Te_read_24 lk_Te_39 sh_13 (cm_To_clear sh_13 evu5) (by decide) rfl rfl (Nat.le_of_ble_eq_true rfl) ?_
  refine r_aload_n 0 d_Te_read_27 rfl rfl ?_
  obtain ⟨vu6, evu6, hf⟩ := bnd hf
  refine r_callV [] d_Te_read_28 lk_Te_42 sh_11 (cm_Te_skipBlanks evu6) (by decide) rfl rfl (Nat.le_of_ble_eq_true rfl) ?_
  refine r_iconst (v := 0) d_Te_read_31 (by decide) ?_
  refine r_istore_n (lv' := [some (.ref 11), some (.int 0)]) 1 d_Te_read_32 rfl (by decide) rfl ?_
  obtain ⟨ju7, hju7, hf⟩ := lt_ex hf
  have Kju7 : ∀ (Mu8 : Mm), ju7 Mu8 = some ru → SW G 9 c_Te_read R_Te 2 none (none, ru) Mu8 72 [some (.ref 11), none] [] := by
    intro Mu8 hf
    rw [hju7] at hf
    refine r_aload_n 0 d_Te_read_72 rfl rfl ?_
    refine r_iconst (v := 0) d_Te_read_73 (by decide) ?_
    refine r_putI d_Te_read_74 fl_Te_26 sh_11 (Or.inl rfl) rfl ?_
    refine nmM (fun Mu9 hMu9 => ?_)
    replace hf := lt_of hMu9 hf
    obtain rfl := Option.some.inj hf
    exact r_return d_Te_read_77 rfl rfl
  exact l_Te_read_33 (G := G) (ru := ru) Nu ju7  Kju7 Nu 0 vu6 hf
def f_Te_faultKind (Mu : Mm) : Int32 := Mu.1 11 5
theorem cm_Te_faultKind {G : GT} (Mu : Mm)   : CM G 1 y_Te_faultKind c_Te_faultKind 1 (some .int) (some (.int (f_Te_faultKind Mu)), Mu) Mu [.ref 11] := by
  generalize hf : f_Te_faultKind Mu = ru
  unfold f_Te_faultKind at hf
  refine CM.of (own := R_Te) (lv := [some (.ref 11)]) (by decide) rfl (Nat.le_of_ble_eq_true rfl) rfl ?_
  refine r_aload_n 0 d_Te_faultKind_0 rfl rfl ?_
  refine r_getI d_Te_faultKind_1 fl_Te_29 sh_11 (by decide) ?_
  subst hf
  exact r_ireturn d_Te_faultKind_4 rfl rfl
def f_Te_draftTown (Mu : Mm) : Nat := 13
theorem cm_Te_draftTown {G : GT} (Mu : Mm)   : CM G 1 y_Te_draftTown c_Te_draftTown 1 (some (.object "UnlikeCounts$Town")) (some (.ref (f_Te_draftTown Mu)), Mu) Mu [.ref 11] := by
  generalize hf : f_Te_draftTown Mu = ru
  unfold f_Te_draftTown at hf
  refine CM.of (own := R_Te) (lv := [some (.ref 11)]) (by decide) rfl (Nat.le_of_ble_eq_true rfl) rfl ?_
  refine r_aload_n 0 d_Te_draftTown_0 rfl rfl ?_
  refine r_getR 13 d_Te_draftTown_1 fl_Te_18 sh_11 rfl rf_11_1 ?_
  subst hf
  exact r_areturn "UnlikeCounts$Town" d_Te_draftTown_4 rfl rfl
def f_Bk_empty (Mu : Mm) : Mm := lt (si Mu 33 3 0) fun Mu1 => Mu1
theorem cm_Bk_empty {G : GT} (Mu : Mm)   : CM G 1 y_Bk_empty c_Bk_empty 1 none (none, (f_Bk_empty Mu)) Mu [.ref 33] := by
  generalize hf : f_Bk_empty Mu = ru
  unfold f_Bk_empty at hf
  refine CM.of (own := R_Bk) (lv := [some (.ref 33)]) (by decide) rfl (Nat.le_of_ble_eq_true rfl) rfl ?_
  refine r_aload_n 0 d_Bk_empty_0 rfl rfl ?_
  refine r_iconst (v := 0) d_Bk_empty_1 (by decide) ?_
  refine r_putI d_Bk_empty_2 fl_Bk_22 sh_33 (Or.inl rfl) rfl ?_
  refine nmM (fun Mu1 hMu1 => ?_)
  replace hf := lt_of hMu1 hf
  subst hf
  exact r_return d_Bk_empty_5 rfl rfl
def f_Te_faultPlace (Mu : Mm) : Int32 := Mu.1 11 6
theorem cm_Te_faultPlace {G : GT} (Mu : Mm)   : CM G 1 y_Te_faultPlace c_Te_faultPlace 1 (some .int) (some (.int (f_Te_faultPlace Mu)), Mu) Mu [.ref 11] := by
  generalize hf : f_Te_faultPlace Mu = ru
  unfold f_Te_faultPlace at hf
  refine CM.of (own := R_Te) (lv := [some (.ref 11)]) (by decide) rfl (Nat.le_of_ble_eq_true rfl) rfl ?_
  refine r_aload_n 0 d_Te_faultPlace_0 rfl rfl ?_
  refine r_getI d_Te_faultPlace_1 fl_Te_22 sh_11 (by decide) ?_
  subst hf
  exact r_ireturn d_Te_faultPlace_4 rfl rfl
def f_Bk_add (p0 : Int32) (p1 : Int32) (p2 : Int32) (Mu : Mm) : Option (Mm) := if 30 ≤ (Mu.1 33 3) then some Mu else if inb (Mu.1 33 3) 30 = true then lt (si Mu 34 (Int32.toNatClampNeg (Mu.1 33 3)) p0) fun Mu3 => if inb (Mu3.1 33 3) 30 = true then lt (si Mu3 35 (Int32.toNatClampNeg (Mu3.1 33 3)) p1) fun Mu5 => if inb (Mu5.1 33 3) 30 = true then lt (si Mu5 36 (Int32.toNatClampNeg (Mu5.1 33 3)) (vp_nar .boolean p2)) fun Mu7 => lt (si Mu7 33 3 ((Mu7.1 33 3) + 1)) fun Mu8 => some Mu8 else none else none else none
theorem cm_Bk_add {G : GT} {p0 : Int32} {p1 : Int32} {p2 : Int32} {Mu : Mm}  {ru : Mm}  (hf : f_Bk_add p0 p1 p2 Mu = some ru) : CM G 1 y_Bk_add c_Bk_add 4 none (none, ru) Mu [.ref 33, .int p0, .int p1, .int p2] := by
  unfold f_Bk_add at hf
  refine CM.of (own := R_Bk) (lv := [some (.ref 33), some (.int p0), some (.int p1), some (.int p2)]) (by decide) rfl (Nat.le_of_ble_eq_true rfl) rfl ?_
  refine r_aload_n 0 d_Bk_add_0 rfl rfl ?_
  refine r_getI d_Bk_add_1 fl_Bk_22 sh_33 (by decide) ?_
  refine r_bipush (v := 30) d_Bk_add_4 (by decide) ?_
  refine r_icmp_ge 49 d_Bk_add_6 (by decide) (fun qu1 => ?_) (fun qu1 => ?_)
  · replace hf := ip qu1 hf
    obtain rfl := Option.some.inj hf
    exact r_return d_Bk_add_49 rfl rfl
  · replace hf := im qu1 hf
    refine r_aload_n 0 d_Bk_add_9 rfl rfl ?_
    refine r_getR 34 d_Bk_add_10 fl_Bk_9 sh_33 rfl rf_33_0 ?_
    refine r_aload_n 0 d_Bk_add_13 rfl rfl ?_
    refine r_getI d_Bk_add_14 fl_Bk_22 sh_33 (by decide) ?_
    refine r_iload_n 1 d_Bk_add_17 rfl rfl ?_
    obtain ⟨qu2, hf⟩ := ck hf
    refine r_iast d_Bk_add_18 sh_34 qu2 ?_
    refine nmM (fun Mu3 hMu3 => ?_)
    replace hf := lt_of hMu3 hf
    refine r_aload_n 0 d_Bk_add_19 rfl rfl ?_
    refine r_getR 35 d_Bk_add_20 fl_Bk_15 sh_33 rfl rf_33_1 ?_
    refine r_aload_n 0 d_Bk_add_23 rfl rfl ?_
    refine r_getI d_Bk_add_24 fl_Bk_22 sh_33 (by decide) ?_
    refine r_iload_n 2 d_Bk_add_27 rfl rfl ?_
    obtain ⟨qu4, hf⟩ := ck hf
    refine r_iast d_Bk_add_28 sh_35 qu4 ?_
    refine nmM (fun Mu5 hMu5 => ?_)
    replace hf := lt_of hMu5 hf
    refine r_aload_n 0 d_Bk_add_29 rfl rfl ?_
    refine r_getR 36 d_Bk_add_30 fl_Bk_18 sh_33 rfl rf_33_2 ?_
    refine r_aload_n 0 d_Bk_add_33 rfl rfl ?_
    refine r_getI d_Bk_add_34 fl_Bk_22 sh_33 (by decide) ?_
    refine r_iload_n 3 d_Bk_add_37 rfl rfl ?_
    obtain ⟨qu6, hf⟩ := ck hf
    refine r_zast d_Bk_add_38 sh_36 qu6 ?_
    refine nmM (fun Mu7 hMu7 => ?_)
    replace hf := lt_of hMu7 hf
    refine r_aload_n 0 d_Bk_add_39 rfl rfl ?_
    refine r_dup d_Bk_add_40 rfl ?_
    refine r_getI d_Bk_add_41 fl_Bk_22 sh_33 (by decide) ?_
    refine r_iconst (v := 1) d_Bk_add_44 (by decide) ?_
    refine r_iadd d_Bk_add_45 ?_
    refine r_putI d_Bk_add_46 fl_Bk_22 sh_33 (Or.inl rfl) rfl ?_
    refine nmM (fun Mu8 hMu8 => ?_)
    replace hf := lt_of hMu8 hf
    obtain rfl := Option.some.inj hf
    exact r_return d_Bk_add_49 rfl rfl
def L_Bk_tryOn_2 (Nu : Nat) (p0 : Nat) : Nat → Int32 → Mm → Option (Int32 × Mm)
  | 0, _, _ => none
  | nu + 1, z2_2, M_2 => if (M_2.1 33 3) ≤ z2_2 then some ((-1), M_2) else if inb z2_2 30 = true then lt (M_2.1 34 (Int32.toNatClampNeg z2_2)) fun xu3 => if inb z2_2 30 = true then lt (M_2.1 35 (Int32.toNatClampNeg z2_2)) fun xu5 => lt (fun (_ : Unit) => some (z2_2, M_2)) fun ju6 => if (f_To_hasTwo p0 xu3 xu5 M_2) = 0 then ju6 () else if inb z2_2 30 = true then (f_To_allows p0 xu3 xu5 (M_2.1 36 (Int32.toNatClampNeg z2_2)) M_2).bind fun vu9 => if vu9 = 0 then ju6 () else if inb z2_2 30 = true then (f_To_mark p0 (p0 + 1) xu3 xu5 (M_2.1 36 (Int32.toNatClampNeg z2_2)) M_2).bind fun vu12 => lt (z2_2 + 1) fun xu13 => L_Bk_tryOn_2 Nu p0 nu xu13 vu12 else none else none else none else none
def f_Bk_tryOn (Nu : Nat) (p0 : Nat) (Mu : Mm) : Option (Int32 × Mm) := L_Bk_tryOn_2 Nu p0 Nu 0 Mu
theorem l_Bk_tryOn_2 {G : GT} {ru : Int32 × Mm} (Nu : Nat) (p0 : Nat) (h_p0 : sh p0 = (5, 0))   : ∀ (nu : Nat) (z2_2 : Int32) (M_2 : Mm), L_Bk_tryOn_2 Nu p0 nu z2_2 M_2 = some ru → SW G 3 c_Bk_tryOn R_Bk 5 (some .int) (some (.int ru.1), ru.2) M_2 2 [some (.ref 33), some (.ref p0), some (.int z2_2), none, none] []
  | 0, _, _, hf => by cases hf
  | nu + 1, z2_2, M_2, hf => by
    have ih := l_Bk_tryOn_2 (G := G) (ru := ru) Nu p0 h_p0  nu
    rw [L_Bk_tryOn_2] at hf
    refine r_iload_n 2 d_Bk_tryOn_2 rfl rfl ?_
    refine r_aload_n 0 d_Bk_tryOn_3 rfl rfl ?_
    refine r_getI d_Bk_tryOn_4 fl_Bk_22 sh_33 (by decide) ?_
    refine r_icmp_ge 76 d_Bk_tryOn_7 (by decide) (fun qu1 => ?_) (fun qu1 => ?_)
    · replace hf := ip qu1 hf
      refine r_iconst (v := (-1)) d_Bk_tryOn_76 (by decide) ?_
      obtain rfl := Option.some.inj hf
      exact r_ireturn d_Bk_tryOn_77 rfl rfl
    · replace hf := im qu1 hf
      refine r_aload_n 0 d_Bk_tryOn_10 rfl rfl ?_
      refine r_getR 34 d_Bk_tryOn_11 fl_Bk_9 sh_33 rfl rf_33_0 ?_
      refine r_iload_n 2 d_Bk_tryOn_14 rfl rfl ?_
      obtain ⟨qu2, hf⟩ := ck hf
      refine r_iald d_Bk_tryOn_15 sh_34 qu2 ?_
      refine nmI (fun xu3 hxu3 => ?_)
      replace hf := lt_of hxu3 hf
      refine r_istore_n (lv' := [some (.ref 33), some (.ref p0), some (.int z2_2), some (.int xu3), none]) 3 d_Bk_tryOn_16 rfl (by decide) rfl ?_
      refine r_aload_n 0 d_Bk_tryOn_17 rfl rfl ?_
      refine r_getR 35 d_Bk_tryOn_18 fl_Bk_15 sh_33 rfl rf_33_1 ?_
      refine r_iload_n 2 d_Bk_tryOn_21 rfl rfl ?_
      obtain ⟨qu4, hf⟩ := ck hf
      refine r_iald d_Bk_tryOn_22 sh_35 qu4 ?_
      refine nmI (fun xu5 hxu5 => ?_)
      replace hf := lt_of hxu5 hf
      refine r_istore (lv' := [some (.ref 33), some (.ref p0), some (.int z2_2), some (.int xu3), some (.int xu5)]) d_Bk_tryOn_23 (by decide) rfl ?_
      refine r_aload_n 1 d_Bk_tryOn_25 rfl rfl ?_
      refine r_iload_n 3 d_Bk_tryOn_26 rfl rfl ?_
      refine r_iload d_Bk_tryOn_27 rfl ?_
      refine r_callV [.int xu3, .int xu5] d_Bk_tryOn_29 lk_Bk_26 h_p0 (cm_To_hasTwo p0 xu3 xu5 M_2 h_p0) (by decide) rfl rfl (Nat.le_of_ble_eq_true rfl) ?_
      obtain ⟨ju6, hju6, hf⟩ := lt_ex hf
      have Kju6 : ∀ (_ : Unit), ju6 () = some ru → SW G 3 c_Bk_tryOn R_Bk 5 (some .int) (some (.int ru.1), ru.2) M_2 51 [none, none, some (.int z2_2), none, none] [] := by
        intro _ hf
        rw [hju6] at hf
        refine r_iload_n 2 d_Bk_tryOn_51 rfl rfl ?_
        obtain rfl := Option.some.inj hf
        exact r_ireturn d_Bk_tryOn_52 rfl rfl
      refine r_if_eq 51 d_Bk_tryOn_32 (by decide) (fun qu7 => ?_) (fun qu7 => ?_)
      · replace hf := ip qu7 hf
        refine r_weak [0, 1, 3, 4] (lv' := [none, none, some (.int z2_2), none, none]) rfl ?_
        exact Kju6 ()  hf
      · replace hf := im qu7 hf
        refine r_aload_n 1 d_Bk_tryOn_35 rfl rfl ?_
        refine r_iload_n 3 d_Bk_tryOn_36 rfl rfl ?_
        refine r_iload d_Bk_tryOn_37 rfl ?_
        refine r_aload_n 0 d_Bk_tryOn_39 rfl rfl ?_
        refine r_getR 36 d_Bk_tryOn_40 fl_Bk_18 sh_33 rfl rf_33_2 ?_
        refine r_iload_n 2 d_Bk_tryOn_43 rfl rfl ?_
        obtain ⟨qu8, hf⟩ := ck hf
        refine r_zald d_Bk_tryOn_44 sh_36 qu8 ?_
        obtain ⟨vu9, evu9, hf⟩ := bnd hf
        refine r_callV [.int xu3, .int xu5, .int (M_2.1 36 (Int32.toNatClampNeg z2_2))] d_Bk_tryOn_45 lk_Bk_32 h_p0 (cm_To_allows h_p0 evu9) (by decide) rfl rfl (Nat.le_of_ble_eq_true rfl) ?_
        refine r_if_ne 53 d_Bk_tryOn_48 (by decide) (fun qu10 => ?_) (fun qu10 => ?_)
        · replace hf := im qu10 hf
          refine r_aload_n 1 d_Bk_tryOn_53 rfl rfl ?_
          refine r_aload_n 1 d_Bk_tryOn_54 rfl rfl ?_
          refine r_getR (p0 + 1) d_Bk_tryOn_55 fl_Bk_36 h_p0 rfl (to_r3 h_p0) ?_
          refine r_iload_n 3 d_Bk_tryOn_58 rfl rfl ?_
          refine r_iload d_Bk_tryOn_59 rfl ?_
          refine r_aload_n 0 d_Bk_tryOn_61 rfl rfl ?_
          refine r_getR 36 d_Bk_tryOn_62 fl_Bk_18 sh_33 rfl rf_33_2 ?_
          refine r_iload_n 2 d_Bk_tryOn_65 rfl rfl ?_
          obtain ⟨qu11, hf⟩ := ck hf
          refine r_zald d_Bk_tryOn_66 sh_36 qu11 ?_
          obtain ⟨vu12, evu12, hf⟩ := bnd hf
          refine r_callV [.ref (p0 + 1), .int xu3, .int xu5, .int (M_2.1 36 (Int32.toNatClampNeg z2_2))] d_Bk_tryOn_67 lk_Bk_39 h_p0 (cm_To_mark h_p0 (to_s3 h_p0) evu12) (by decide) rfl rfl (Nat.le_of_ble_eq_true rfl) ?_
          obtain ⟨xu13, hxu13⟩ : ∃ y : Int32, y = z2_2 + 1 := ⟨_, rfl⟩
          replace hf := lt_of hxu13 hf
          refine r_iinc (lv' := [some (.ref 33), some (.ref p0), some (.int xu13), some (.int xu3), some (.int xu5)]) d_Bk_tryOn_70 rfl (by rw [hxu13]; rfl) (by decide) rfl ?_
          refine r_goto 2 d_Bk_tryOn_73 (by decide) ?_
          refine r_weak [3, 4] (lv' := [some (.ref 33), some (.ref p0), some (.int xu13), none, none]) rfl ?_
          exact ih xu13 vu12  hf
        · replace hf := ip qu10 hf
          refine r_weak [0, 1, 3, 4] (lv' := [none, none, some (.int z2_2), none, none]) rfl ?_
          exact Kju6 ()  hf
theorem cm_Bk_tryOn {G : GT} {Nu : Nat} {p0 : Nat} {Mu : Mm}  {ru : Int32 × Mm} (h_p0 : sh p0 = (5, 0)) (hf : f_Bk_tryOn Nu p0 Mu = some ru) : CM G 3 y_Bk_tryOn c_Bk_tryOn 5 (some .int) (some (.int ru.1), ru.2) Mu [.ref 33, .ref p0] := by
  unfold f_Bk_tryOn at hf
  refine CM.of (own := R_Bk) (lv := [some (.ref 33), some (.ref p0), none, none, none]) (by decide) rfl (Nat.le_of_ble_eq_true rfl) rfl ?_
  refine r_iconst (v := 0) d_Bk_tryOn_0 (by decide) ?_
  refine r_istore_n (lv' := [some (.ref 33), some (.ref p0), some (.int 0), none, none]) 2 d_Bk_tryOn_1 rfl (by decide) rfl ?_
  exact l_Bk_tryOn_2 (G := G) (ru := ru) Nu p0 h_p0  Nu 0 Mu hf
