def f_Uc_feed (Nu : Nat) (p0 : Int32) (p1 : Int64) (Mu : Mm) : Option (Int32 × Mm) := if p0 < 1 then some ((-1000000002), Mu) else if p0 ≤ 8 then if ((f_Te_length Mu) + p0) ≤ 400 then (f_Te_append Nu p0 p1 Mu).bind fun vu4 => some (f_Te_length vu4, vu4) else some ((-1000000004), Mu) else some ((-1000000002), Mu)
theorem cm_Uc_feed {G : GT} {Nu : Nat} {p0 : Int32} {p1 : Int64} {Mu : Mm}  {ru : Int32 × Mm}  (hf : f_Uc_feed Nu p0 p1 Mu = some ru) : CM G 2 y_Uc_feed c_Uc_feed 4 (some .int) (some (.int ru.1), ru.2) Mu [.ref 0, .int p0, .long p1] := by
  unfold f_Uc_feed at hf
  refine CM.of (own := R_Uc) (lv := [some (.ref 0), some (.int p0), some (.long p1), none]) (by decide) rfl (Nat.le_of_ble_eq_true rfl) rfl ?_
  refine r_iload_n 1 d_Uc_feed_0 rfl rfl ?_
  refine r_iconst (v := 1) d_Uc_feed_1 (by decide) ?_
  refine r_icmp_lt 11 d_Uc_feed_2 (by decide) (fun qu1 => ?_) (fun qu1 => ?_)
  · replace hf := ip qu1 hf
    refine r_ldc d_Uc_feed_11 k_Uc_71 ?_
    obtain rfl := Option.some.inj hf
    exact r_ireturn d_Uc_feed_13 rfl rfl
  · replace hf := im qu1 hf
    refine r_iload_n 1 d_Uc_feed_5 rfl rfl ?_
    refine r_bipush (v := 8) d_Uc_feed_6 (by decide) ?_
    refine r_icmp_le 14 d_Uc_feed_8 (by decide) (fun qu2 => ?_) (fun qu2 => ?_)
    · replace hf := ip qu2 hf
      refine r_aload_n 0 d_Uc_feed_14 rfl rfl ?_
      refine r_getR 11 d_Uc_feed_15 fl_Uc_22 sh_0 rfl rf_0_2 ?_
      refine r_callV [] d_Uc_feed_18 lk_Uc_72 sh_11 (cm_Te_length Mu) (by decide) rfl rfl (Nat.le_of_ble_eq_true rfl) ?_
      refine r_iload_n 1 d_Uc_feed_21 rfl rfl ?_
      refine r_iadd d_Uc_feed_22 ?_
      refine r_sipush (v := 400) d_Uc_feed_23 (by decide) ?_
      refine r_icmp_le 32 d_Uc_feed_26 (by decide) (fun qu3 => ?_) (fun qu3 => ?_)
      · replace hf := ip qu3 hf
        refine r_aload_n 0 d_Uc_feed_32 rfl rfl ?_
        refine r_getR 11 d_Uc_feed_33 fl_Uc_22 sh_0 rfl rf_0_2 ?_
        refine r_iload_n 1 d_Uc_feed_36 rfl rfl ?_
        refine r_lload_n 2 d_Uc_feed_37 rfl rfl ?_
        obtain ⟨vu4, evu4, hf⟩ := bnd hf
        refine r_callV [.int p0, .long p1] d_Uc_feed_38 lk_Uc_77 sh_11 (cm_Te_append evu4) (by decide) rfl rfl (Nat.le_of_ble_eq_true rfl) ?_
        refine r_aload_n 0 d_Uc_feed_41 rfl rfl ?_
        refine r_getR 11 d_Uc_feed_42 fl_Uc_22 sh_0 rfl rf_0_2 ?_
        refine r_callV [] d_Uc_feed_45 lk_Uc_72 sh_11 (cm_Te_length vu4) (by decide) rfl rfl (Nat.le_of_ble_eq_true rfl) ?_
        obtain rfl := Option.some.inj hf
        exact r_ireturn d_Uc_feed_48 rfl rfl
      · replace hf := im qu3 hf
        refine r_ldc d_Uc_feed_29 k_Uc_76 ?_
        obtain rfl := Option.some.inj hf
        exact r_ireturn d_Uc_feed_31 rfl rfl
    · replace hf := im qu2 hf
      refine r_ldc d_Uc_feed_11 k_Uc_71 ?_
      obtain rfl := Option.some.inj hf
      exact r_ireturn d_Uc_feed_13 rfl rfl
def f_Uc_town (Nu : Nat) (Mu : Mm) : Option (Int32 × Mm) := (f_Te_read Nu Mu).bind fun vu1 => if (f_Te_faultKind vu1) = 0 then (f_To_copyFrom Nu 1 13 vu1).bind fun vu3 => (f_To_sayCounts Nu 1 vu3).bind fun vu4 => lt (f_Bk_empty vu4) fun Mu5 => lt (si Mu5 37 2 0) fun Mu6 => lt (si Mu6 43 2 0) fun Mu7 => some (Mu7.1 1 0, Mu7) else some (((-10) : Int32) - (f_Te_faultKind vu1), vu1)
theorem cm_Uc_town {G : GT} {Nu : Nat} {Mu : Mm}  {ru : Int32 × Mm}  (hf : f_Uc_town Nu Mu = some ru) : CM G 10 y_Uc_town c_Uc_town 1 (some .int) (some (.int ru.1), ru.2) Mu [.ref 0] := by
  unfold f_Uc_town at hf
  refine CM.of (own := R_Uc) (lv := [some (.ref 0)]) (by decide) rfl (Nat.le_of_ble_eq_true rfl) rfl ?_
  refine r_aload_n 0 d_Uc_town_0 rfl rfl ?_
  refine r_getR 11 d_Uc_town_1 fl_Uc_22 sh_0 rfl rf_0_2 ?_
  obtain ⟨vu1, evu1, hf⟩ := bnd hf
  refine r_callV [] d_Uc_town_4 lk_Uc_81 sh_11 (cm_Te_read evu1) (by decide) rfl rfl (Nat.le_of_ble_eq_true rfl) ?_
  refine r_aload_n 0 d_Uc_town_7 rfl rfl ?_
  refine r_getR 11 d_Uc_town_8 fl_Uc_22 sh_0 rfl rf_0_2 ?_
  refine r_callV [] d_Uc_town_11 lk_Uc_84 sh_11 (cm_Te_faultKind vu1) (by decide) rfl rfl (Nat.le_of_ble_eq_true rfl) ?_
  refine r_if_eq 28 d_Uc_town_14 (by decide) (fun qu2 => ?_) (fun qu2 => ?_)
  · replace hf := ip qu2 hf
    refine r_aload_n 0 d_Uc_town_28 rfl rfl ?_
    refine r_getR 1 d_Uc_town_29 fl_Uc_10 sh_0 rfl rf_0_0 ?_
    refine r_aload_n 0 d_Uc_town_32 rfl rfl ?_
    refine r_getR 11 d_Uc_town_33 fl_Uc_22 sh_0 rfl rf_0_2 ?_
    refine r_callV [] d_Uc_town_36 lk_Uc_87 sh_11 (cm_Te_draftTown vu1) (by decide) rfl rfl (Nat.le_of_ble_eq_true rfl) ?_
    obtain ⟨vu3, evu3, hf⟩ := bnd hf
    refine r_callV [.ref 13] d_Uc_town_39 lk_Uc_91 sh_1 (cm_To_copyFrom sh_1 sh_13 evu3) (by decide) rfl rfl (Nat.le_of_ble_eq_true rfl) ?_
    refine r_aload_n 0 d_Uc_town_42 rfl rfl ?_
    refine r_getR 1 d_Uc_town_43 fl_Uc_10 sh_0 rfl rf_0_0 ?_
    obtain ⟨vu4, evu4, hf⟩ := bnd hf
    refine r_callV [] d_Uc_town_46 lk_Uc_95 sh_1 (cm_To_sayCounts sh_1 evu4) (by decide) rfl rfl (Nat.le_of_ble_eq_true rfl) ?_
    refine r_aload_n 0 d_Uc_town_49 rfl rfl ?_
    refine r_getR 33 d_Uc_town_50 fl_Uc_57 sh_0 rfl rf_0_7 ?_
    refine r_callV [] d_Uc_town_53 lk_Uc_98 sh_33 (cm_Bk_empty vu4) (by decide) rfl rfl (Nat.le_of_ble_eq_true rfl) ?_
    refine nmM (fun Mu5 hMu5 => ?_)
    replace hf := lt_of hMu5 hf
    refine r_aload_n 0 d_Uc_town_56 rfl rfl ?_
    refine r_getR 37 d_Uc_town_57 fl_Uc_64 sh_0 rfl rf_0_8 ?_
    refine r_iconst (v := 0) d_Uc_town_60 (by decide) ?_
    refine r_putI d_Uc_town_61 fl_Uc_101 sh_37 (Or.inr ⟨rfl, Or.inl rfl⟩) rfl ?_
    refine nmM (fun Mu6 hMu6 => ?_)
    replace hf := lt_of hMu6 hf
    refine r_aload_n 0 d_Uc_town_64 rfl rfl ?_
    refine r_getR 43 d_Uc_town_65 fl_Uc_68 sh_0 rfl rf_0_9 ?_
    refine r_iconst (v := 0) d_Uc_town_68 (by decide) ?_
    refine r_putI d_Uc_town_69 fl_Uc_101 sh_43 (Or.inr ⟨rfl, Or.inl rfl⟩) rfl ?_
    refine nmM (fun Mu7 hMu7 => ?_)
    replace hf := lt_of hMu7 hf
    refine r_aload_n 0 d_Uc_town_72 rfl rfl ?_
    refine r_getR 1 d_Uc_town_73 fl_Uc_10 sh_0 rfl rf_0_0 ?_
    refine r_getI d_Uc_town_76 fl_Uc_105 sh_1 (by decide) ?_
    obtain rfl := Option.some.inj hf
    exact r_ireturn d_Uc_town_79 rfl rfl
  · replace hf := im qu2 hf
    refine r_bipush (v := (-10)) d_Uc_town_17 (by decide) ?_
    refine r_aload_n 0 d_Uc_town_19 rfl rfl ?_
    refine r_getR 11 d_Uc_town_20 fl_Uc_22 sh_0 rfl rf_0_2 ?_
    refine r_callV [] d_Uc_town_23 lk_Uc_84 sh_11 (cm_Te_faultKind vu1) (by decide) rfl rfl (Nat.le_of_ble_eq_true rfl) ?_
    refine r_isub d_Uc_town_26 ?_
    obtain rfl := Option.some.inj hf
    exact r_ireturn d_Uc_town_27 rfl rfl
def f_Uc_fault (Mu : Mm) : Int32 := f_Te_faultPlace Mu
theorem cm_Uc_fault {G : GT} (Mu : Mm)   : CM G 2 y_Uc_fault c_Uc_fault 1 (some .int) (some (.int (f_Uc_fault Mu)), Mu) Mu [.ref 0] := by
  generalize hf : f_Uc_fault Mu = ru
  unfold f_Uc_fault at hf
  refine CM.of (own := R_Uc) (lv := [some (.ref 0)]) (by decide) rfl (Nat.le_of_ble_eq_true rfl) rfl ?_
  refine r_aload_n 0 d_Uc_fault_0 rfl rfl ?_
  refine r_getR 11 d_Uc_fault_1 fl_Uc_22 sh_0 rfl rf_0_2 ?_
  refine r_callV [] d_Uc_fault_4 lk_Uc_109 sh_11 (cm_Te_faultPlace Mu) (by decide) rfl rfl (Nat.le_of_ble_eq_true rfl) ?_
  subst hf
  exact r_ireturn d_Uc_fault_7 rfl rfl
def f_Uc_told (Nu : Nat) (p0 : Int32) (Mu : Mm) : Option (Int32) := if p0 = 0 then some (Mu.1 1 0) else if p0 = 1 then (f_To_friendships Nu 1 Mu).bind fun vu3 => some vu3 else if p0 = 2 then (f_To_asNumber Nu 1 2 Mu).bind fun vu5 => some vu5 else if p0 = 3 then (f_To_asNumber Nu 1 3 Mu).bind fun vu7 => some vu7 else if p0 = 4 then (f_To_asNumber Nu 1 4 Mu).bind fun vu9 => some vu9 else if p0 = 5 then some (Mu.1 1 1) else if p0 = 6 then some (Mu.1 1 2) else if p0 = 7 then (f_To_alikePairs Nu 1 Mu).bind fun vu13 => some vu13 else if p0 = 8 then if (Mu.1 1 0) ≤ 1 then some 0 else (f_To_alikePairs Nu 1 Mu).bind fun vu16 => if vu16 = 1 then some 1 else some 0 else if p0 = 9 then some (f_Te_length Mu) else if p0 = 10 then some (Mu.1 33 3) else some (-1000000002)
theorem cm_Uc_told {G : GT} {Nu : Nat} {p0 : Int32} {Mu : Mm}  {ru : Int32}  (hf : f_Uc_told Nu p0 Mu = some ru) : CM G 5 y_Uc_told c_Uc_told 2 (some .int) (some (.int ru), Mu) Mu [.ref 0, .int p0] := by
  unfold f_Uc_told at hf
  refine CM.of (own := R_Uc) (lv := [some (.ref 0), some (.int p0)]) (by decide) rfl (Nat.le_of_ble_eq_true rfl) rfl ?_
  refine r_iload_n 1 d_Uc_told_0 rfl rfl ?_
  by_cases qu1 : p0 = 0
  · replace hf := ip qu1 hf
    refine r_tabIn 60 d_Uc_told_1 (by rw [qu1]; decide) (by rw [qu1]; decide) (by rw [qu1]; rfl) (by decide) ?_
    refine r_aload_n 0 d_Uc_told_60 rfl rfl ?_
    refine r_getR 1 d_Uc_told_61 fl_Uc_10 sh_0 rfl rf_0_0 ?_
    refine r_getI d_Uc_told_64 fl_Uc_105 sh_1 (by decide) ?_
    obtain rfl := Option.some.inj hf
    exact r_ireturn d_Uc_told_67 rfl rfl
  replace hf := im qu1 hf
  by_cases qu2 : p0 = 1
  · replace hf := ip qu2 hf
    refine r_tabIn 68 d_Uc_told_1 (by rw [qu2]; decide) (by rw [qu2]; decide) (by rw [qu2]; rfl) (by decide) ?_
    refine r_aload_n 0 d_Uc_told_68 rfl rfl ?_
    refine r_getR 1 d_Uc_told_69 fl_Uc_10 sh_0 rfl rf_0_0 ?_
    obtain ⟨vu3, evu3, hf⟩ := bnd hf
    refine r_callV [] d_Uc_told_72 lk_Uc_112 sh_1 (cm_To_friendships sh_1 evu3) (by decide) rfl rfl (Nat.le_of_ble_eq_true rfl) ?_
    obtain rfl := Option.some.inj hf
    exact r_ireturn d_Uc_told_75 rfl rfl
  replace hf := im qu2 hf
  by_cases qu4 : p0 = 2
  · replace hf := ip qu4 hf
    refine r_tabIn 76 d_Uc_told_1 (by rw [qu4]; decide) (by rw [qu4]; decide) (by rw [qu4]; rfl) (by decide) ?_
    refine r_aload_n 0 d_Uc_told_76 rfl rfl ?_
    refine r_getR 1 d_Uc_told_77 fl_Uc_10 sh_0 rfl rf_0_0 ?_
    refine r_aload_n 0 d_Uc_told_80 rfl rfl ?_
    refine r_getR 1 d_Uc_told_81 fl_Uc_10 sh_0 rfl rf_0_0 ?_
    refine r_getR 2 d_Uc_told_84 fl_Uc_115 sh_1 rfl rf_1_3 ?_
    obtain ⟨vu5, evu5, hf⟩ := bnd hf
    refine r_callV [.ref 2] d_Uc_told_87 lk_Uc_119 sh_1 (cm_To_asNumber sh_1 sh_2 evu5) (by decide) rfl rfl (Nat.le_of_ble_eq_true rfl) ?_
    obtain rfl := Option.some.inj hf
    exact r_ireturn d_Uc_told_90 rfl rfl
  replace hf := im qu4 hf
  by_cases qu6 : p0 = 3
  · replace hf := ip qu6 hf
    refine r_tabIn 91 d_Uc_told_1 (by rw [qu6]; decide) (by rw [qu6]; decide) (by rw [qu6]; rfl) (by decide) ?_
    refine r_aload_n 0 d_Uc_told_91 rfl rfl ?_
    refine r_getR 1 d_Uc_told_92 fl_Uc_10 sh_0 rfl rf_0_0 ?_
    refine r_aload_n 0 d_Uc_told_95 rfl rfl ?_
    refine r_getR 1 d_Uc_told_96 fl_Uc_10 sh_0 rfl rf_0_0 ?_
    refine r_getR 3 d_Uc_told_99 fl_Uc_123 sh_1 rfl rf_1_4 ?_
    obtain ⟨vu7, evu7, hf⟩ := bnd hf
    refine r_callV [.ref 3] d_Uc_told_102 lk_Uc_119 sh_1 (cm_To_asNumber sh_1 sh_3 evu7) (by decide) rfl rfl (Nat.le_of_ble_eq_true rfl) ?_
    obtain rfl := Option.some.inj hf
    exact r_ireturn d_Uc_told_105 rfl rfl
  replace hf := im qu6 hf
  by_cases qu8 : p0 = 4
  · replace hf := ip qu8 hf
    refine r_tabIn 106 d_Uc_told_1 (by rw [qu8]; decide) (by rw [qu8]; decide) (by rw [qu8]; rfl) (by decide) ?_
    refine r_aload_n 0 d_Uc_told_106 rfl rfl ?_
    refine r_getR 1 d_Uc_told_107 fl_Uc_10 sh_0 rfl rf_0_0 ?_
    refine r_aload_n 0 d_Uc_told_110 rfl rfl ?_
    refine r_getR 1 d_Uc_told_111 fl_Uc_10 sh_0 rfl rf_0_0 ?_
    refine r_getR 4 d_Uc_told_114 fl_Uc_126 sh_1 rfl rf_1_5 ?_
    obtain ⟨vu9, evu9, hf⟩ := bnd hf
    refine r_callV [.ref 4] d_Uc_told_117 lk_Uc_119 sh_1 (cm_To_asNumber sh_1 sh_4 evu9) (by decide) rfl rfl (Nat.le_of_ble_eq_true rfl) ?_
    obtain rfl := Option.some.inj hf
    exact r_ireturn d_Uc_told_120 rfl rfl
  replace hf := im qu8 hf
  by_cases qu10 : p0 = 5
  · replace hf := ip qu10 hf
    refine r_tabIn 121 d_Uc_told_1 (by rw [qu10]; decide) (by rw [qu10]; decide) (by rw [qu10]; rfl) (by decide) ?_
    refine r_aload_n 0 d_Uc_told_121 rfl rfl ?_
    refine r_getR 1 d_Uc_told_122 fl_Uc_10 sh_0 rfl rf_0_0 ?_
    refine r_getI d_Uc_told_125 fl_Uc_129 sh_1 (by decide) ?_
    obtain rfl := Option.some.inj hf
    exact r_ireturn d_Uc_told_128 rfl rfl
  replace hf := im qu10 hf
  by_cases qu11 : p0 = 6
  · replace hf := ip qu11 hf
    refine r_tabIn 129 d_Uc_told_1 (by rw [qu11]; decide) (by rw [qu11]; decide) (by rw [qu11]; rfl) (by decide) ?_
    refine r_aload_n 0 d_Uc_told_129 rfl rfl ?_
    refine r_getR 1 d_Uc_told_130 fl_Uc_10 sh_0 rfl rf_0_0 ?_
    refine r_getI d_Uc_told_133 fl_Uc_132 sh_1 (by decide) ?_
    obtain rfl := Option.some.inj hf
    exact r_ireturn d_Uc_told_136 rfl rfl
  replace hf := im qu11 hf
  by_cases qu12 : p0 = 7
  · replace hf := ip qu12 hf
    refine r_tabIn 137 d_Uc_told_1 (by rw [qu12]; decide) (by rw [qu12]; decide) (by rw [qu12]; rfl) (by decide) ?_
    refine r_aload_n 0 d_Uc_told_137 rfl rfl ?_
    refine r_getR 1 d_Uc_told_138 fl_Uc_10 sh_0 rfl rf_0_0 ?_
    obtain ⟨vu13, evu13, hf⟩ := bnd hf
    refine r_callV [] d_Uc_told_141 lk_Uc_135 sh_1 (cm_To_alikePairs sh_1 evu13) (by decide) rfl rfl (Nat.le_of_ble_eq_true rfl) ?_
    obtain rfl := Option.some.inj hf
    exact r_ireturn d_Uc_told_144 rfl rfl
  replace hf := im qu12 hf
  by_cases qu14 : p0 = 8
  · replace hf := ip qu14 hf
    refine r_tabIn 145 d_Uc_told_1 (by rw [qu14]; decide) (by rw [qu14]; decide) (by rw [qu14]; rfl) (by decide) ?_
    refine r_aload_n 0 d_Uc_told_145 rfl rfl ?_
    refine r_getR 1 d_Uc_told_146 fl_Uc_10 sh_0 rfl rf_0_0 ?_
    refine r_getI d_Uc_told_149 fl_Uc_105 sh_1 (by decide) ?_
    refine r_iconst (v := 1) d_Uc_told_152 (by decide) ?_
    refine r_icmp_le 171 d_Uc_told_153 (by decide) (fun qu15 => ?_) (fun qu15 => ?_)
    · replace hf := ip qu15 hf
      refine r_iconst (v := 0) d_Uc_told_171 (by decide) ?_
      obtain rfl := Option.some.inj hf
      exact r_ireturn d_Uc_told_172 rfl rfl
    · replace hf := im qu15 hf
      refine r_aload_n 0 d_Uc_told_156 rfl rfl ?_
      refine r_getR 1 d_Uc_told_157 fl_Uc_10 sh_0 rfl rf_0_0 ?_
      obtain ⟨vu16, evu16, hf⟩ := bnd hf
      refine r_callV [] d_Uc_told_160 lk_Uc_135 sh_1 (cm_To_alikePairs sh_1 evu16) (by decide) rfl rfl (Nat.le_of_ble_eq_true rfl) ?_
      refine r_iconst (v := 1) d_Uc_told_163 (by decide) ?_
      refine r_icmp_ne 171 d_Uc_told_164 (by decide) (fun qu17 => ?_) (fun qu17 => ?_)
      · replace hf := im qu17 hf
        refine r_iconst (v := 0) d_Uc_told_171 (by decide) ?_
        obtain rfl := Option.some.inj hf
        exact r_ireturn d_Uc_told_172 rfl rfl
      · replace hf := ip qu17 hf
        refine r_iconst (v := 1) d_Uc_told_167 (by decide) ?_
        refine r_goto 172 d_Uc_told_168 (by decide) ?_
        obtain rfl := Option.some.inj hf
        exact r_ireturn d_Uc_told_172 rfl rfl
  replace hf := im qu14 hf
  by_cases qu18 : p0 = 9
  · replace hf := ip qu18 hf
    refine r_tabIn 173 d_Uc_told_1 (by rw [qu18]; decide) (by rw [qu18]; decide) (by rw [qu18]; rfl) (by decide) ?_
    refine r_aload_n 0 d_Uc_told_173 rfl rfl ?_
    refine r_getR 11 d_Uc_told_174 fl_Uc_22 sh_0 rfl rf_0_2 ?_
    refine r_callV [] d_Uc_told_177 lk_Uc_72 sh_11 (cm_Te_length Mu) (by decide) rfl rfl (Nat.le_of_ble_eq_true rfl) ?_
    obtain rfl := Option.some.inj hf
    exact r_ireturn d_Uc_told_180 rfl rfl
  replace hf := im qu18 hf
  by_cases qu19 : p0 = 10
  · replace hf := ip qu19 hf
    refine r_tabIn 181 d_Uc_told_1 (by rw [qu19]; decide) (by rw [qu19]; decide) (by rw [qu19]; rfl) (by decide) ?_
    refine r_aload_n 0 d_Uc_told_181 rfl rfl ?_
    refine r_getR 33 d_Uc_told_182 fl_Uc_57 sh_0 rfl rf_0_7 ?_
    refine r_getI d_Uc_told_185 fl_Uc_138 sh_33 (by decide) ?_
    obtain rfl := Option.some.inj hf
    exact r_ireturn d_Uc_told_188 rfl rfl
  replace hf := im qu19 hf
  refine r_tabOut 189 d_Uc_told_1 (by have tq1 := lv_neT qu1 (a := 0) (by decide); have tq2 := lv_neT qu2 (a := 1) (by decide); have tq4 := lv_neT qu4 (a := 2) (by decide); have tq6 := lv_neT qu6 (a := 3) (by decide); have tq8 := lv_neT qu8 (a := 4) (by decide); have tq10 := lv_neT qu10 (a := 5) (by decide); have tq11 := lv_neT qu11 (a := 6) (by decide); have tq12 := lv_neT qu12 (a := 7) (by decide); have tq14 := lv_neT qu14 (a := 8) (by decide); have tq18 := lv_neT qu18 (a := 9) (by decide); have tq19 := lv_neT qu19 (a := 10) (by decide); omega) (by decide) ?_
  refine r_ldc d_Uc_told_189 k_Uc_71 ?_
  obtain rfl := Option.some.inj hf
  exact r_ireturn d_Uc_told_191 rfl rfl
def f_Uc_count (p0 : Int32) (Mu : Mm) : Option (Int32) := if (f_To_has 1 p0 Mu) = 0 then some (-1000000001) else (f_To_countOf 1 p0 Mu).bind fun vu2 => some vu2
theorem cm_Uc_count {G : GT} {p0 : Int32} {Mu : Mm}  {ru : Int32}  (hf : f_Uc_count p0 Mu = some ru) : CM G 3 y_Uc_count c_Uc_count 2 (some .int) (some (.int ru), Mu) Mu [.ref 0, .int p0] := by
  unfold f_Uc_count at hf
  refine CM.of (own := R_Uc) (lv := [some (.ref 0), some (.int p0)]) (by decide) rfl (Nat.le_of_ble_eq_true rfl) rfl ?_
  refine r_aload_n 0 d_Uc_count_0 rfl rfl ?_
  refine r_getR 1 d_Uc_count_1 fl_Uc_10 sh_0 rfl rf_0_0 ?_
  refine r_iload_n 1 d_Uc_count_4 rfl rfl ?_
  refine r_callV [.int p0] d_Uc_count_5 lk_Uc_141 sh_1 (cm_To_has 1 p0 Mu sh_1) (by decide) rfl rfl (Nat.le_of_ble_eq_true rfl) ?_
  refine r_if_eq 22 d_Uc_count_8 (by decide) (fun qu1 => ?_) (fun qu1 => ?_)
  · replace hf := ip qu1 hf
    refine r_ldc d_Uc_count_22 k_Uc_149 ?_
    obtain rfl := Option.some.inj hf
    exact r_ireturn d_Uc_count_24 rfl rfl
  · replace hf := im qu1 hf
    refine r_aload_n 0 d_Uc_count_11 rfl rfl ?_
    refine r_getR 1 d_Uc_count_12 fl_Uc_10 sh_0 rfl rf_0_0 ?_
    refine r_iload_n 1 d_Uc_count_15 rfl rfl ?_
    obtain ⟨vu2, evu2, hf⟩ := bnd hf
    refine r_callV [.int p0] d_Uc_count_16 lk_Uc_145 sh_1 (cm_To_countOf sh_1 evu2) (by decide) rfl rfl (Nat.le_of_ble_eq_true rfl) ?_
    refine r_goto 24 d_Uc_count_19 (by decide) ?_
    obtain rfl := Option.some.inj hf
    exact r_ireturn d_Uc_count_24 rfl rfl
def f_Uc_friends (p0 : Int32) (Mu : Mm) : Option (Int32) := if (f_To_has 1 p0 Mu) = 0 then some (-1000000001) else if inb p0 8 = true then some (Mu.1 2 (Int32.toNatClampNeg p0)) else none
theorem cm_Uc_friends {G : GT} {p0 : Int32} {Mu : Mm}  {ru : Int32}  (hf : f_Uc_friends p0 Mu = some ru) : CM G 2 y_Uc_friends c_Uc_friends 2 (some .int) (some (.int ru), Mu) Mu [.ref 0, .int p0] := by
  unfold f_Uc_friends at hf
  refine CM.of (own := R_Uc) (lv := [some (.ref 0), some (.int p0)]) (by decide) rfl (Nat.le_of_ble_eq_true rfl) rfl ?_
  refine r_aload_n 0 d_Uc_friends_0 rfl rfl ?_
  refine r_getR 1 d_Uc_friends_1 fl_Uc_10 sh_0 rfl rf_0_0 ?_
  refine r_iload_n 1 d_Uc_friends_4 rfl rfl ?_
  refine r_callV [.int p0] d_Uc_friends_5 lk_Uc_141 sh_1 (cm_To_has 1 p0 Mu sh_1) (by decide) rfl rfl (Nat.le_of_ble_eq_true rfl) ?_
  refine r_if_eq 23 d_Uc_friends_8 (by decide) (fun qu1 => ?_) (fun qu1 => ?_)
  · replace hf := ip qu1 hf
    refine r_ldc d_Uc_friends_23 k_Uc_149 ?_
    obtain rfl := Option.some.inj hf
    exact r_ireturn d_Uc_friends_25 rfl rfl
  · replace hf := im qu1 hf
    refine r_aload_n 0 d_Uc_friends_11 rfl rfl ?_
    refine r_getR 1 d_Uc_friends_12 fl_Uc_10 sh_0 rfl rf_0_0 ?_
    refine r_getR 2 d_Uc_friends_15 fl_Uc_115 sh_1 rfl rf_1_3 ?_
    refine r_iload_n 1 d_Uc_friends_18 rfl rfl ?_
    obtain ⟨qu2, hf⟩ := ck hf
    refine r_iald d_Uc_friends_19 sh_2 qu2 ?_
    refine r_goto 25 d_Uc_friends_20 (by decide) ?_
    obtain rfl := Option.some.inj hf
    exact r_ireturn d_Uc_friends_25 rfl rfl
def f_Uc_alike (Nu : Nat) (p0 : Int32) (Mu : Mm) : Option (Int32) := if (f_To_has 1 p0 Mu) = 0 then some (-1000000001) else (f_To_alikeWith Nu 1 p0 Mu).bind fun vu2 => some vu2
theorem cm_Uc_alike {G : GT} {Nu : Nat} {p0 : Int32} {Mu : Mm}  {ru : Int32}  (hf : f_Uc_alike Nu p0 Mu = some ru) : CM G 4 y_Uc_alike c_Uc_alike 2 (some .int) (some (.int ru), Mu) Mu [.ref 0, .int p0] := by
  unfold f_Uc_alike at hf
  refine CM.of (own := R_Uc) (lv := [some (.ref 0), some (.int p0)]) (by decide) rfl (Nat.le_of_ble_eq_true rfl) rfl ?_
  refine r_aload_n 0 d_Uc_alike_0 rfl rfl ?_
  refine r_getR 1 d_Uc_alike_1 fl_Uc_10 sh_0 rfl rf_0_0 ?_
  refine r_iload_n 1 d_Uc_alike_4 rfl rfl ?_
  refine r_callV [.int p0] d_Uc_alike_5 lk_Uc_141 sh_1 (cm_To_has 1 p0 Mu sh_1) (by decide) rfl rfl (Nat.le_of_ble_eq_true rfl) ?_
  refine r_if_eq 22 d_Uc_alike_8 (by decide) (fun qu1 => ?_) (fun qu1 => ?_)
  · replace hf := ip qu1 hf
    refine r_ldc d_Uc_alike_22 k_Uc_149 ?_
    obtain rfl := Option.some.inj hf
    exact r_ireturn d_Uc_alike_24 rfl rfl
  · replace hf := im qu1 hf
    refine r_aload_n 0 d_Uc_alike_11 rfl rfl ?_
    refine r_getR 1 d_Uc_alike_12 fl_Uc_10 sh_0 rfl rf_0_0 ?_
    refine r_iload_n 1 d_Uc_alike_15 rfl rfl ?_
    obtain ⟨vu2, evu2, hf⟩ := bnd hf
    refine r_callV [.int p0] d_Uc_alike_16 lk_Uc_150 sh_1 (cm_To_alikeWith sh_1 evu2) (by decide) rfl rfl (Nat.le_of_ble_eq_true rfl) ?_
    refine r_goto 24 d_Uc_alike_19 (by decide) ?_
    obtain rfl := Option.some.inj hf
    exact r_ireturn d_Uc_alike_24 rfl rfl
def f_Uc_pair (p0 : Int32) (p1 : Int32) (Mu : Mm) : Int32 := if (f_To_hasTwo 1 p0 p1 Mu) = 0 then (-1000000001) else f_To_pairNumber 1 p0 p1 Mu
theorem cm_Uc_pair {G : GT} (p0 : Int32) (p1 : Int32) (Mu : Mm)   : CM G 3 y_Uc_pair c_Uc_pair 3 (some .int) (some (.int (f_Uc_pair p0 p1 Mu)), Mu) Mu [.ref 0, .int p0, .int p1] := by
  generalize hf : f_Uc_pair p0 p1 Mu = ru
  unfold f_Uc_pair at hf
  refine CM.of (own := R_Uc) (lv := [some (.ref 0), some (.int p0), some (.int p1)]) (by decide) rfl (Nat.le_of_ble_eq_true rfl) rfl ?_
  refine r_aload_n 0 d_Uc_pair_0 rfl rfl ?_
  refine r_getR 1 d_Uc_pair_1 fl_Uc_10 sh_0 rfl rf_0_0 ?_
  refine r_iload_n 1 d_Uc_pair_4 rfl rfl ?_
  refine r_iload_n 2 d_Uc_pair_5 rfl rfl ?_
  refine r_callV [.int p0, .int p1] d_Uc_pair_6 lk_Uc_153 sh_1 (cm_To_hasTwo 1 p0 p1 Mu sh_1) (by decide) rfl rfl (Nat.le_of_ble_eq_true rfl) ?_
  refine r_if_eq 24 d_Uc_pair_9 (by decide) (fun qu1 => ?_) (fun qu1 => ?_)
  · replace hf := ip qu1 hf
    refine r_ldc d_Uc_pair_24 k_Uc_149 ?_
    subst hf
    exact r_ireturn d_Uc_pair_26 rfl rfl
  · replace hf := im qu1 hf
    refine r_aload_n 0 d_Uc_pair_12 rfl rfl ?_
    refine r_getR 1 d_Uc_pair_13 fl_Uc_10 sh_0 rfl rf_0_0 ?_
    refine r_iload_n 1 d_Uc_pair_16 rfl rfl ?_
    refine r_iload_n 2 d_Uc_pair_17 rfl rfl ?_
    refine r_callV [.int p0, .int p1] d_Uc_pair_18 lk_Uc_157 sh_1 (cm_To_pairNumber 1 p0 p1 Mu sh_1) (by decide) rfl rfl (Nat.le_of_ble_eq_true rfl) ?_
    refine r_goto 26 d_Uc_pair_21 (by decide) ?_
    subst hf
    exact r_ireturn d_Uc_pair_26 rfl rfl
def f_Uc_tie (p0 : Int32) (p1 : Int32) (p2 : Int32) (Mu : Mm) : Option (Int32 × Mm) := if (f_To_hasTwo 1 p0 p1 Mu) = 0 then some ((-1000000001), Mu) else (f_To_allows 1 p0 p1 p2 Mu).bind fun vu2 => if vu2 = 0 then some ((-1000000003), Mu) else (f_To_areFriends 1 p0 p1 Mu).bind fun vu4 => (f_To_mark 1 2 p0 p1 p2 Mu).bind fun vu5 => if vu4 = p2 then some (0, vu5) else some (1, vu5)
theorem cm_Uc_tie {G : GT} {p0 : Int32} {p1 : Int32} {p2 : Int32} {Mu : Mm}  {ru : Int32 × Mm}  (hf : f_Uc_tie p0 p1 p2 Mu = some ru) : CM G 3 y_Uc_tie c_Uc_tie 5 (some .int) (some (.int ru.1), ru.2) Mu [.ref 0, .int p0, .int p1, .int p2] := by
  unfold f_Uc_tie at hf
  refine CM.of (own := R_Uc) (lv := [some (.ref 0), some (.int p0), some (.int p1), some (.int p2), none]) (by decide) rfl (Nat.le_of_ble_eq_true rfl) rfl ?_
  refine r_aload_n 0 d_Uc_tie_0 rfl rfl ?_
  refine r_getR 1 d_Uc_tie_1 fl_Uc_10 sh_0 rfl rf_0_0 ?_
  refine r_iload_n 1 d_Uc_tie_4 rfl rfl ?_
  refine r_iload_n 2 d_Uc_tie_5 rfl rfl ?_
  refine r_callV [.int p0, .int p1] d_Uc_tie_6 lk_Uc_153 sh_1 (cm_To_hasTwo 1 p0 p1 Mu sh_1) (by decide) rfl rfl (Nat.le_of_ble_eq_true rfl) ?_
  refine r_if_ne 15 d_Uc_tie_9 (by decide) (fun qu1 => ?_) (fun qu1 => ?_)
  · replace hf := im qu1 hf
    refine r_aload_n 0 d_Uc_tie_15 rfl rfl ?_
    refine r_getR 1 d_Uc_tie_16 fl_Uc_10 sh_0 rfl rf_0_0 ?_
    refine r_iload_n 1 d_Uc_tie_19 rfl rfl ?_
    refine r_iload_n 2 d_Uc_tie_20 rfl rfl ?_
    refine r_iload_n 3 d_Uc_tie_21 rfl rfl ?_
    obtain ⟨vu2, evu2, hf⟩ := bnd hf
    refine r_callV [.int p0, .int p1, .int p2] d_Uc_tie_22 lk_Uc_161 sh_1 (cm_To_allows sh_1 evu2) (by decide) rfl rfl (Nat.le_of_ble_eq_true rfl) ?_
    refine r_if_ne 31 d_Uc_tie_25 (by decide) (fun qu3 => ?_) (fun qu3 => ?_)
    · replace hf := im qu3 hf
      refine r_aload_n 0 d_Uc_tie_31 rfl rfl ?_
      refine r_getR 1 d_Uc_tie_32 fl_Uc_10 sh_0 rfl rf_0_0 ?_
      refine r_iload_n 1 d_Uc_tie_35 rfl rfl ?_
      refine r_iload_n 2 d_Uc_tie_36 rfl rfl ?_
      obtain ⟨vu4, evu4, hf⟩ := bnd hf
      refine r_callV [.int p0, .int p1] d_Uc_tie_37 lk_Uc_166 sh_1 (cm_To_areFriends sh_1 evu4) (by decide) rfl rfl (Nat.le_of_ble_eq_true rfl) ?_
      refine r_istore (lv' := [some (.ref 0), some (.int p0), some (.int p1), some (.int p2), some (.int vu4)]) d_Uc_tie_40 (by decide) rfl ?_
      refine r_aload_n 0 d_Uc_tie_42 rfl rfl ?_
      refine r_getR 1 d_Uc_tie_43 fl_Uc_10 sh_0 rfl rf_0_0 ?_
      refine r_aload_n 0 d_Uc_tie_46 rfl rfl ?_
      refine r_getR 1 d_Uc_tie_47 fl_Uc_10 sh_0 rfl rf_0_0 ?_
      refine r_getR 2 d_Uc_tie_50 fl_Uc_115 sh_1 rfl rf_1_3 ?_
      refine r_iload_n 1 d_Uc_tie_53 rfl rfl ?_
      refine r_iload_n 2 d_Uc_tie_54 rfl rfl ?_
      refine r_iload_n 3 d_Uc_tie_55 rfl rfl ?_
      obtain ⟨vu5, evu5, hf⟩ := bnd hf
      refine r_callV [.ref 2, .int p0, .int p1, .int p2] d_Uc_tie_56 lk_Uc_169 sh_1 (cm_To_mark sh_1 sh_2 evu5) (by decide) rfl rfl (Nat.le_of_ble_eq_true rfl) ?_
      refine r_iload d_Uc_tie_59 rfl ?_
      refine r_iload_n 3 d_Uc_tie_61 rfl rfl ?_
      refine r_icmp_ne 69 d_Uc_tie_62 (by decide) (fun qu6 => ?_) (fun qu6 => ?_)
      · replace hf := im qu6 hf
        refine r_iconst (v := 1) d_Uc_tie_69 (by decide) ?_
        obtain rfl := Option.some.inj hf
        exact r_ireturn d_Uc_tie_70 rfl rfl
      · replace hf := ip qu6 hf
        refine r_iconst (v := 0) d_Uc_tie_65 (by decide) ?_
        refine r_goto 70 d_Uc_tie_66 (by decide) ?_
        obtain rfl := Option.some.inj hf
        exact r_ireturn d_Uc_tie_70 rfl rfl
    · replace hf := ip qu3 hf
      refine r_ldc d_Uc_tie_28 k_Uc_165 ?_
      obtain rfl := Option.some.inj hf
      exact r_ireturn d_Uc_tie_30 rfl rfl
  · replace hf := ip qu1 hf
    refine r_ldc d_Uc_tie_12 k_Uc_149 ?_
    obtain rfl := Option.some.inj hf
    exact r_ireturn d_Uc_tie_14 rfl rfl
def f_Uc_bar (p0 : Int32) (p1 : Int32) (p2 : Int32) (Mu : Mm) : Option (Int32 × Mm) := if (f_To_hasTwo 1 p0 p1 Mu) = 0 then some ((-1000000001), Mu) else if p2 < 0 then some ((-1000000002), Mu) else if p2 ≤ 2 then (f_To_barOf 1 p0 p1 Mu).bind fun vu4 => (f_To_setBar 1 p0 p1 p2 Mu).bind fun vu5 => some (vu4, vu5) else some ((-1000000002), Mu)
theorem cm_Uc_bar {G : GT} {p0 : Int32} {p1 : Int32} {p2 : Int32} {Mu : Mm}  {ru : Int32 × Mm}  (hf : f_Uc_bar p0 p1 p2 Mu = some ru) : CM G 3 y_Uc_bar c_Uc_bar 5 (some .int) (some (.int ru.1), ru.2) Mu [.ref 0, .int p0, .int p1, .int p2] := by
  unfold f_Uc_bar at hf
  refine CM.of (own := R_Uc) (lv := [some (.ref 0), some (.int p0), some (.int p1), some (.int p2), none]) (by decide) rfl (Nat.le_of_ble_eq_true rfl) rfl ?_
  refine r_aload_n 0 d_Uc_bar_0 rfl rfl ?_
  refine r_getR 1 d_Uc_bar_1 fl_Uc_10 sh_0 rfl rf_0_0 ?_
  refine r_iload_n 1 d_Uc_bar_4 rfl rfl ?_
  refine r_iload_n 2 d_Uc_bar_5 rfl rfl ?_
  refine r_callV [.int p0, .int p1] d_Uc_bar_6 lk_Uc_153 sh_1 (cm_To_hasTwo 1 p0 p1 Mu sh_1) (by decide) rfl rfl (Nat.le_of_ble_eq_true rfl) ?_
  refine r_if_ne 15 d_Uc_bar_9 (by decide) (fun qu1 => ?_) (fun qu1 => ?_)
  · replace hf := im qu1 hf
    refine r_iload_n 3 d_Uc_bar_15 rfl rfl ?_
    refine r_if_lt 24 d_Uc_bar_16 (by decide) (fun qu2 => ?_) (fun qu2 => ?_)
    · replace hf := ip qu2 hf
      refine r_ldc d_Uc_bar_24 k_Uc_71 ?_
      obtain rfl := Option.some.inj hf
      exact r_ireturn d_Uc_bar_26 rfl rfl
    · replace hf := im qu2 hf
      refine r_iload_n 3 d_Uc_bar_19 rfl rfl ?_
      refine r_iconst (v := 2) d_Uc_bar_20 (by decide) ?_
      refine r_icmp_le 27 d_Uc_bar_21 (by decide) (fun qu3 => ?_) (fun qu3 => ?_)
      · replace hf := ip qu3 hf
        refine r_aload_n 0 d_Uc_bar_27 rfl rfl ?_
        refine r_getR 1 d_Uc_bar_28 fl_Uc_10 sh_0 rfl rf_0_0 ?_
        refine r_iload_n 1 d_Uc_bar_31 rfl rfl ?_
        refine r_iload_n 2 d_Uc_bar_32 rfl rfl ?_
        obtain ⟨vu4, evu4, hf⟩ := bnd hf
        refine r_callV [.int p0, .int p1] d_Uc_bar_33 lk_Uc_173 sh_1 (cm_To_barOf sh_1 evu4) (by decide) rfl rfl (Nat.le_of_ble_eq_true rfl) ?_
        refine r_istore (lv' := [some (.ref 0), some (.int p0), some (.int p1), some (.int p2), some (.int vu4)]) d_Uc_bar_36 (by decide) rfl ?_
        refine r_aload_n 0 d_Uc_bar_38 rfl rfl ?_
        refine r_getR 1 d_Uc_bar_39 fl_Uc_10 sh_0 rfl rf_0_0 ?_
        refine r_iload_n 1 d_Uc_bar_42 rfl rfl ?_
        refine r_iload_n 2 d_Uc_bar_43 rfl rfl ?_
        refine r_iload_n 3 d_Uc_bar_44 rfl rfl ?_
        obtain ⟨vu5, evu5, hf⟩ := bnd hf
        refine r_callV [.int p0, .int p1, .int p2] d_Uc_bar_45 lk_Uc_176 sh_1 (cm_To_setBar sh_1 evu5) (by decide) rfl rfl (Nat.le_of_ble_eq_true rfl) ?_
        refine r_iload d_Uc_bar_48 rfl ?_
        obtain rfl := Option.some.inj hf
        exact r_ireturn d_Uc_bar_50 rfl rfl
      · replace hf := im qu3 hf
        refine r_ldc d_Uc_bar_24 k_Uc_71 ?_
        obtain rfl := Option.some.inj hf
        exact r_ireturn d_Uc_bar_26 rfl rfl
  · replace hf := ip qu1 hf
    refine r_ldc d_Uc_bar_12 k_Uc_149 ?_
    obtain rfl := Option.some.inj hf
    exact r_ireturn d_Uc_bar_14 rfl rfl
def f_Uc_birth (Nu : Nat) (Mu : Mm) : Option (Int32 × Mm) := if (Mu.1 1 0) < 8 then (f_To_addPerson Nu 1 Mu).bind fun vu2 => some ((vu2.1 1 0) - 1, vu2) else some ((-1000000004), Mu)
theorem cm_Uc_birth {G : GT} {Nu : Nat} {Mu : Mm}  {ru : Int32 × Mm}  (hf : f_Uc_birth Nu Mu = some ru) : CM G 5 y_Uc_birth c_Uc_birth 1 (some .int) (some (.int ru.1), ru.2) Mu [.ref 0] := by
  unfold f_Uc_birth at hf
  refine CM.of (own := R_Uc) (lv := [some (.ref 0)]) (by decide) rfl (Nat.le_of_ble_eq_true rfl) rfl ?_
  refine r_aload_n 0 d_Uc_birth_0 rfl rfl ?_
  refine r_getR 1 d_Uc_birth_1 fl_Uc_10 sh_0 rfl rf_0_0 ?_
  refine r_getI d_Uc_birth_4 fl_Uc_105 sh_1 (by decide) ?_
  refine r_bipush (v := 8) d_Uc_birth_7 (by decide) ?_
  refine r_icmp_lt 15 d_Uc_birth_9 (by decide) (fun qu1 => ?_) (fun qu1 => ?_)
  · replace hf := ip qu1 hf
    refine r_aload_n 0 d_Uc_birth_15 rfl rfl ?_
    refine r_getR 1 d_Uc_birth_16 fl_Uc_10 sh_0 rfl rf_0_0 ?_
    obtain ⟨vu2, evu2, hf⟩ := bnd hf
    refine r_callV [] d_Uc_birth_19 lk_Uc_180 sh_1 (cm_To_addPerson sh_1 evu2) (by decide) rfl rfl (Nat.le_of_ble_eq_true rfl) ?_
    refine r_aload_n 0 d_Uc_birth_22 rfl rfl ?_
    refine r_getR 1 d_Uc_birth_23 fl_Uc_10 sh_0 rfl rf_0_0 ?_
    refine r_getI d_Uc_birth_26 fl_Uc_105 sh_1 (by decide) ?_
    refine r_iconst (v := 1) d_Uc_birth_29 (by decide) ?_
    refine r_isub d_Uc_birth_30 ?_
    obtain rfl := Option.some.inj hf
    exact r_ireturn d_Uc_birth_31 rfl rfl
  · replace hf := im qu1 hf
    refine r_ldc d_Uc_birth_12 k_Uc_76 ?_
    obtain rfl := Option.some.inj hf
    exact r_ireturn d_Uc_birth_14 rfl rfl
def f_Uc_death (Nu : Nat) (p0 : Int32) (Mu : Mm) : Option (Int32 × Mm) := if (f_To_has 1 p0 Mu) = 0 then some ((-1000000001), Mu) else (f_To_removePerson Nu 1 p0 Mu).bind fun vu2 => some (vu2.1 1 0, vu2)
theorem cm_Uc_death {G : GT} {Nu : Nat} {p0 : Int32} {Mu : Mm}  {ru : Int32 × Mm}  (hf : f_Uc_death Nu p0 Mu = some ru) : CM G 5 y_Uc_death c_Uc_death 2 (some .int) (some (.int ru.1), ru.2) Mu [.ref 0, .int p0] := by
  unfold f_Uc_death at hf
  refine CM.of (own := R_Uc) (lv := [some (.ref 0), some (.int p0)]) (by decide) rfl (Nat.le_of_ble_eq_true rfl) rfl ?_
  refine r_aload_n 0 d_Uc_death_0 rfl rfl ?_
  refine r_getR 1 d_Uc_death_1 fl_Uc_10 sh_0 rfl rf_0_0 ?_
  refine r_iload_n 1 d_Uc_death_4 rfl rfl ?_
  refine r_callV [.int p0] d_Uc_death_5 lk_Uc_141 sh_1 (cm_To_has 1 p0 Mu sh_1) (by decide) rfl rfl (Nat.le_of_ble_eq_true rfl) ?_
  refine r_if_ne 14 d_Uc_death_8 (by decide) (fun qu1 => ?_) (fun qu1 => ?_)
  · replace hf := im qu1 hf
    refine r_aload_n 0 d_Uc_death_14 rfl rfl ?_
    refine r_getR 1 d_Uc_death_15 fl_Uc_10 sh_0 rfl rf_0_0 ?_
    refine r_iload_n 1 d_Uc_death_18 rfl rfl ?_
    obtain ⟨vu2, evu2, hf⟩ := bnd hf
    refine r_callV [.int p0] d_Uc_death_19 lk_Uc_183 sh_1 (cm_To_removePerson sh_1 evu2) (by decide) rfl rfl (Nat.le_of_ble_eq_true rfl) ?_
    refine r_aload_n 0 d_Uc_death_22 rfl rfl ?_
    refine r_getR 1 d_Uc_death_23 fl_Uc_10 sh_0 rfl rf_0_0 ?_
    refine r_getI d_Uc_death_26 fl_Uc_105 sh_1 (by decide) ?_
    obtain rfl := Option.some.inj hf
    exact r_ireturn d_Uc_death_29 rfl rfl
  · replace hf := ip qu1 hf
    refine r_ldc d_Uc_death_11 k_Uc_149 ?_
    obtain rfl := Option.some.inj hf
    exact r_ireturn d_Uc_death_13 rfl rfl
def f_Uc_made (p0 : Int32) (p1 : Int32) (p2 : Int32) (p3 : Int32) : Int32 := if p0 < 2 then (-1000000002) else if 8 < p0 then (-1000000002) else if p1 < 0 then (-1000000002) else if p1 ≤ 1 then if p2 < 0 then (-1000000002) else if p0 ≤ p2 then (-1000000002) else if p3 < 0 then (-1000000002) else if p0 ≤ p3 then (-1000000002) else if p2 = p3 then (-1000000002) else if (f_Uc_placesTied p0 p1 p2 p3) = 0 then 0 else 1 else (-1000000002)
theorem cm_Uc_made {G : GT} (p0 : Int32) (p1 : Int32) (p2 : Int32) (p3 : Int32) (Mu : Mm)  : CM G 2 y_Uc_made c_Uc_made 5 (some .int) (some (.int (f_Uc_made p0 p1 p2 p3)), Mu) Mu [.ref 0, .int p0, .int p1, .int p2, .int p3] := by
  generalize hf : f_Uc_made p0 p1 p2 p3 = ru
  unfold f_Uc_made at hf
  refine CM.of (own := R_Uc) (lv := [some (.ref 0), some (.int p0), some (.int p1), some (.int p2), some (.int p3)]) (by decide) rfl (Nat.le_of_ble_eq_true rfl) rfl ?_
  refine r_iload_n 1 d_Uc_made_0 rfl rfl ?_
  refine r_iconst (v := 2) d_Uc_made_1 (by decide) ?_
  refine r_icmp_lt 20 d_Uc_made_2 (by decide) (fun qu1 => ?_) (fun qu1 => ?_)
  · replace hf := ip qu1 hf
    refine r_ldc d_Uc_made_20 k_Uc_71 ?_
    subst hf
    exact r_ireturn d_Uc_made_22 rfl rfl
  · replace hf := im qu1 hf
    refine r_iload_n 1 d_Uc_made_5 rfl rfl ?_
    refine r_bipush (v := 8) d_Uc_made_6 (by decide) ?_
    refine r_icmp_gt 20 d_Uc_made_8 (by decide) (fun qu2 => ?_) (fun qu2 => ?_)
    · replace hf := ip qu2 hf
      refine r_ldc d_Uc_made_20 k_Uc_71 ?_
      subst hf
      exact r_ireturn d_Uc_made_22 rfl rfl
    · replace hf := im qu2 hf
      refine r_iload_n 2 d_Uc_made_11 rfl rfl ?_
      refine r_if_lt 20 d_Uc_made_12 (by decide) (fun qu3 => ?_) (fun qu3 => ?_)
      · replace hf := ip qu3 hf
        refine r_ldc d_Uc_made_20 k_Uc_71 ?_
        subst hf
        exact r_ireturn d_Uc_made_22 rfl rfl
      · replace hf := im qu3 hf
        refine r_iload_n 2 d_Uc_made_15 rfl rfl ?_
        refine r_iconst (v := 1) d_Uc_made_16 (by decide) ?_
        refine r_icmp_le 23 d_Uc_made_17 (by decide) (fun qu4 => ?_) (fun qu4 => ?_)
        · replace hf := ip qu4 hf
          refine r_iload_n 3 d_Uc_made_23 rfl rfl ?_
          refine r_if_lt 49 d_Uc_made_24 (by decide) (fun qu5 => ?_) (fun qu5 => ?_)
          · replace hf := ip qu5 hf
            refine r_ldc d_Uc_made_49 k_Uc_71 ?_
            subst hf
            exact r_ireturn d_Uc_made_51 rfl rfl
          · replace hf := im qu5 hf
            refine r_iload_n 3 d_Uc_made_27 rfl rfl ?_
            refine r_iload_n 1 d_Uc_made_28 rfl rfl ?_
            refine r_icmp_ge 49 d_Uc_made_29 (by decide) (fun qu6 => ?_) (fun qu6 => ?_)
            · replace hf := ip qu6 hf
              refine r_ldc d_Uc_made_49 k_Uc_71 ?_
              subst hf
              exact r_ireturn d_Uc_made_51 rfl rfl
            · replace hf := im qu6 hf
              refine r_iload d_Uc_made_32 rfl ?_
              refine r_if_lt 49 d_Uc_made_34 (by decide) (fun qu7 => ?_) (fun qu7 => ?_)
              · replace hf := ip qu7 hf
                refine r_ldc d_Uc_made_49 k_Uc_71 ?_
                subst hf
                exact r_ireturn d_Uc_made_51 rfl rfl
              · replace hf := im qu7 hf
                refine r_iload d_Uc_made_37 rfl ?_
                refine r_iload_n 1 d_Uc_made_39 rfl rfl ?_
                refine r_icmp_ge 49 d_Uc_made_40 (by decide) (fun qu8 => ?_) (fun qu8 => ?_)
                · replace hf := ip qu8 hf
                  refine r_ldc d_Uc_made_49 k_Uc_71 ?_
                  subst hf
                  exact r_ireturn d_Uc_made_51 rfl rfl
                · replace hf := im qu8 hf
                  refine r_iload_n 3 d_Uc_made_43 rfl rfl ?_
                  refine r_iload d_Uc_made_44 rfl ?_
                  refine r_icmp_ne 52 d_Uc_made_46 (by decide) (fun qu9 => ?_) (fun qu9 => ?_)
                  · replace hf := im qu9 hf
                    refine r_iload_n 1 d_Uc_made_52 rfl rfl ?_
                    refine r_iload_n 2 d_Uc_made_53 rfl rfl ?_
                    refine r_iload_n 3 d_Uc_made_54 rfl rfl ?_
                    refine r_iload d_Uc_made_55 rfl ?_
                    refine r_callS [.int p0, .int p1, .int p2, .int p3] d_Uc_made_57 lk_Uc_187 (cm_Uc_placesTied p0 p1 p2 p3 Mu) (by decide) rfl rfl (Nat.le_of_ble_eq_true rfl) ?_
                    refine r_if_eq 67 d_Uc_made_60 (by decide) (fun qu10 => ?_) (fun qu10 => ?_)
                    · replace hf := ip qu10 hf
                      refine r_iconst (v := 0) d_Uc_made_67 (by decide) ?_
                      subst hf
                      exact r_ireturn d_Uc_made_68 rfl rfl
                    · replace hf := im qu10 hf
                      refine r_iconst (v := 1) d_Uc_made_63 (by decide) ?_
                      refine r_goto 68 d_Uc_made_64 (by decide) ?_
                      subst hf
                      exact r_ireturn d_Uc_made_68 rfl rfl
                  · replace hf := ip qu9 hf
                    refine r_ldc d_Uc_made_49 k_Uc_71 ?_
                    subst hf
                    exact r_ireturn d_Uc_made_51 rfl rfl
        · replace hf := im qu4 hf
          refine r_ldc d_Uc_made_20 k_Uc_71 ?_
          subst hf
          exact r_ireturn d_Uc_made_22 rfl rfl
def f_Uc_good (Nu : Nat) (p0 : Int32) (Mu : Mm) : Option (Int32 × Mm) := if p0 < (-3) then some ((-1000000001), Mu) else if p0 < (Mu.1 1 0) then if 2 ≤ (Mu.1 1 0) then (f_Mk_solve Nu 1 Mu).bind fun vu4 => if (vu4.1 18 2) = (-1) then some ((-1), vu4) else if p0 = (-3) then (f_Mk_townMade Nu vu4).bind fun vu7 => some (vu7, vu4) else if p0 = (-2) then some (vu4.1 18 3, vu4) else if p0 = (-1) then some (vu4.1 18 2, vu4) else some (f_Mk_placeOf p0 vu4, vu4) else some ((-1000000003), Mu) else some ((-1000000001), Mu)
theorem cm_Uc_good {G : GT} {Nu : Nat} {p0 : Int32} {Mu : Mm}  {ru : Int32 × Mm}  (hf : f_Uc_good Nu p0 Mu = some ru) : CM G 5 y_Uc_good c_Uc_good 2 (some .int) (some (.int ru.1), ru.2) Mu [.ref 0, .int p0] := by
  unfold f_Uc_good at hf
  refine CM.of (own := R_Uc) (lv := [some (.ref 0), some (.int p0)]) (by decide) rfl (Nat.le_of_ble_eq_true rfl) rfl ?_
  refine r_iload_n 1 d_Uc_good_0 rfl rfl ?_
  refine r_bipush (v := (-3)) d_Uc_good_1 (by decide) ?_
  refine r_icmp_lt 17 d_Uc_good_3 (by decide) (fun qu1 => ?_) (fun qu1 => ?_)
  · replace hf := ip qu1 hf
    refine r_ldc d_Uc_good_17 k_Uc_149 ?_
    obtain rfl := Option.some.inj hf
    exact r_ireturn d_Uc_good_19 rfl rfl
  · replace hf := im qu1 hf
    refine r_iload_n 1 d_Uc_good_6 rfl rfl ?_
    refine r_aload_n 0 d_Uc_good_7 rfl rfl ?_
    refine r_getR 1 d_Uc_good_8 fl_Uc_10 sh_0 rfl rf_0_0 ?_
    refine r_getI d_Uc_good_11 fl_Uc_105 sh_1 (by decide) ?_
    refine r_icmp_lt 20 d_Uc_good_14 (by decide) (fun qu2 => ?_) (fun qu2 => ?_)
    · replace hf := ip qu2 hf
      refine r_aload_n 0 d_Uc_good_20 rfl rfl ?_
      refine r_getR 1 d_Uc_good_21 fl_Uc_10 sh_0 rfl rf_0_0 ?_
      refine r_getI d_Uc_good_24 fl_Uc_105 sh_1 (by decide) ?_
      refine r_iconst (v := 2) d_Uc_good_27 (by decide) ?_
      refine r_icmp_ge 34 d_Uc_good_28 (by decide) (fun qu3 => ?_) (fun qu3 => ?_)
      · replace hf := ip qu3 hf
        refine r_aload_n 0 d_Uc_good_34 rfl rfl ?_
        refine r_getR 18 d_Uc_good_35 fl_Uc_29 sh_0 rfl rf_0_3 ?_
        refine r_aload_n 0 d_Uc_good_38 rfl rfl ?_
        refine r_getR 1 d_Uc_good_39 fl_Uc_10 sh_0 rfl rf_0_0 ?_
        obtain ⟨vu4, evu4, hf⟩ := bnd hf
        refine r_callV [.ref 1] d_Uc_good_42 lk_Uc_191 sh_18 (cm_Mk_solve sh_1 evu4) (by decide) rfl rfl (Nat.le_of_ble_eq_true rfl) ?_
        refine r_aload_n 0 d_Uc_good_45 rfl rfl ?_
        refine r_getR 18 d_Uc_good_46 fl_Uc_29 sh_0 rfl rf_0_3 ?_
        refine r_getI d_Uc_good_49 fl_Uc_194 sh_18 (by decide) ?_
        refine r_iconst (v := (-1)) d_Uc_good_52 (by decide) ?_
        refine r_icmp_ne 58 d_Uc_good_53 (by decide) (fun qu5 => ?_) (fun qu5 => ?_)
        · replace hf := im qu5 hf
          refine r_iload_n 1 d_Uc_good_58 rfl rfl ?_
          by_cases qu6 : p0 = (-3)
          · replace hf := ip qu6 hf
            refine r_tabIn 100 d_Uc_good_59 (by rw [qu6]; decide) (by rw [qu6]; decide) (by rw [qu6]; rfl) (by decide) ?_
            refine r_aload_n 0 d_Uc_good_100 rfl rfl ?_
            refine r_getR 18 d_Uc_good_101 fl_Uc_29 sh_0 rfl rf_0_3 ?_
            obtain ⟨vu7, evu7, hf⟩ := bnd hf
            refine r_callV [] d_Uc_good_104 lk_Uc_200 sh_18 (cm_Mk_townMade evu7) (by decide) rfl rfl (Nat.le_of_ble_eq_true rfl) ?_
            obtain rfl := Option.some.inj hf
            exact r_ireturn d_Uc_good_107 rfl rfl
          replace hf := im qu6 hf
          by_cases qu8 : p0 = (-2)
          · replace hf := ip qu8 hf
            refine r_tabIn 92 d_Uc_good_59 (by rw [qu8]; decide) (by rw [qu8]; decide) (by rw [qu8]; rfl) (by decide) ?_
            refine r_aload_n 0 d_Uc_good_92 rfl rfl ?_
            refine r_getR 18 d_Uc_good_93 fl_Uc_29 sh_0 rfl rf_0_3 ?_
            refine r_getI d_Uc_good_96 fl_Uc_197 sh_18 (by decide) ?_
            obtain rfl := Option.some.inj hf
            exact r_ireturn d_Uc_good_99 rfl rfl
          replace hf := im qu8 hf
          by_cases qu9 : p0 = (-1)
          · replace hf := ip qu9 hf
            refine r_tabIn 84 d_Uc_good_59 (by rw [qu9]; decide) (by rw [qu9]; decide) (by rw [qu9]; rfl) (by decide) ?_
            refine r_aload_n 0 d_Uc_good_84 rfl rfl ?_
            refine r_getR 18 d_Uc_good_85 fl_Uc_29 sh_0 rfl rf_0_3 ?_
            refine r_getI d_Uc_good_88 fl_Uc_194 sh_18 (by decide) ?_
            obtain rfl := Option.some.inj hf
            exact r_ireturn d_Uc_good_91 rfl rfl
          replace hf := im qu9 hf
          refine r_tabOut 108 d_Uc_good_59 (by have tq6 := lv_neT qu6 (a := -3) (by decide); have tq8 := lv_neT qu8 (a := -2) (by decide); have tq9 := lv_neT qu9 (a := -1) (by decide); omega) (by decide) ?_
          refine r_aload_n 0 d_Uc_good_108 rfl rfl ?_
          refine r_getR 18 d_Uc_good_109 fl_Uc_29 sh_0 rfl rf_0_3 ?_
          refine r_iload_n 1 d_Uc_good_112 rfl rfl ?_
          refine r_callV [.int p0] d_Uc_good_113 lk_Uc_203 sh_18 (cm_Mk_placeOf p0 vu4) (by decide) rfl rfl (Nat.le_of_ble_eq_true rfl) ?_
          obtain rfl := Option.some.inj hf
          exact r_ireturn d_Uc_good_116 rfl rfl
        · replace hf := ip qu5 hf
          refine r_iconst (v := (-1)) d_Uc_good_56 (by decide) ?_
          obtain rfl := Option.some.inj hf
          exact r_ireturn d_Uc_good_57 rfl rfl
      · replace hf := im qu3 hf
        refine r_ldc d_Uc_good_31 k_Uc_165 ?_
        obtain rfl := Option.some.inj hf
        exact r_ireturn d_Uc_good_33 rfl rfl
    · replace hf := im qu2 hf
      refine r_ldc d_Uc_good_17 k_Uc_149 ?_
      obtain rfl := Option.some.inj hf
      exact r_ireturn d_Uc_good_19 rfl rfl
def f_Uc_born (Nu : Nat) (Mu : Mm) : Option (Int32 × Mm) := if (Mu.1 1 0) < 1 then some ((-1000000003), Mu) else if (Mu.1 1 0) < 8 then (f_To_copyFrom Nu 6 1 Mu).bind fun vu3 => (f_To_addPerson Nu 6 vu3).bind fun vu4 => (f_Mk_solve Nu 6 vu4).bind fun vu5 => some (vu5.1 18 2, vu5) else some ((-1000000003), Mu)
theorem cm_Uc_born {G : GT} {Nu : Nat} {Mu : Mm}  {ru : Int32 × Mm}  (hf : f_Uc_born Nu Mu = some ru) : CM G 5 y_Uc_born c_Uc_born 1 (some .int) (some (.int ru.1), ru.2) Mu [.ref 0] := by
  unfold f_Uc_born at hf
  refine CM.of (own := R_Uc) (lv := [some (.ref 0)]) (by decide) rfl (Nat.le_of_ble_eq_true rfl) rfl ?_
  refine r_aload_n 0 d_Uc_born_0 rfl rfl ?_
  refine r_getR 1 d_Uc_born_1 fl_Uc_10 sh_0 rfl rf_0_0 ?_
  refine r_getI d_Uc_born_4 fl_Uc_105 sh_1 (by decide) ?_
  refine r_iconst (v := 1) d_Uc_born_7 (by decide) ?_
  refine r_icmp_lt 23 d_Uc_born_8 (by decide) (fun qu1 => ?_) (fun qu1 => ?_)
  · replace hf := ip qu1 hf
    refine r_ldc d_Uc_born_23 k_Uc_165 ?_
    obtain rfl := Option.some.inj hf
    exact r_ireturn d_Uc_born_25 rfl rfl
  · replace hf := im qu1 hf
    refine r_aload_n 0 d_Uc_born_11 rfl rfl ?_
    refine r_getR 1 d_Uc_born_12 fl_Uc_10 sh_0 rfl rf_0_0 ?_
    refine r_getI d_Uc_born_15 fl_Uc_105 sh_1 (by decide) ?_
    refine r_bipush (v := 8) d_Uc_born_18 (by decide) ?_
    refine r_icmp_lt 26 d_Uc_born_20 (by decide) (fun qu2 => ?_) (fun qu2 => ?_)
    · replace hf := ip qu2 hf
      refine r_aload_n 0 d_Uc_born_26 rfl rfl ?_
      refine r_getR 6 d_Uc_born_27 fl_Uc_16 sh_0 rfl rf_0_1 ?_
      refine r_aload_n 0 d_Uc_born_30 rfl rfl ?_
      refine r_getR 1 d_Uc_born_31 fl_Uc_10 sh_0 rfl rf_0_0 ?_
      obtain ⟨vu3, evu3, hf⟩ := bnd hf
      refine r_callV [.ref 1] d_Uc_born_34 lk_Uc_91 sh_6 (cm_To_copyFrom sh_6 sh_1 evu3) (by decide) rfl rfl (Nat.le_of_ble_eq_true rfl) ?_
      refine r_aload_n 0 d_Uc_born_37 rfl rfl ?_
      refine r_getR 6 d_Uc_born_38 fl_Uc_16 sh_0 rfl rf_0_1 ?_
      obtain ⟨vu4, evu4, hf⟩ := bnd hf
      refine r_callV [] d_Uc_born_41 lk_Uc_180 sh_6 (cm_To_addPerson sh_6 evu4) (by decide) rfl rfl (Nat.le_of_ble_eq_true rfl) ?_
      refine r_aload_n 0 d_Uc_born_44 rfl rfl ?_
      refine r_getR 18 d_Uc_born_45 fl_Uc_29 sh_0 rfl rf_0_3 ?_
      refine r_aload_n 0 d_Uc_born_48 rfl rfl ?_
      refine r_getR 6 d_Uc_born_49 fl_Uc_16 sh_0 rfl rf_0_1 ?_
      obtain ⟨vu5, evu5, hf⟩ := bnd hf
      refine r_callV [.ref 6] d_Uc_born_52 lk_Uc_191 sh_18 (cm_Mk_solve sh_6 evu5) (by decide) rfl rfl (Nat.le_of_ble_eq_true rfl) ?_
      refine r_aload_n 0 d_Uc_born_55 rfl rfl ?_
      refine r_getR 18 d_Uc_born_56 fl_Uc_29 sh_0 rfl rf_0_3 ?_
      refine r_getI d_Uc_born_59 fl_Uc_194 sh_18 (by decide) ?_
      obtain rfl := Option.some.inj hf
      exact r_ireturn d_Uc_born_62 rfl rfl
    · replace hf := im qu2 hf
      refine r_ldc d_Uc_born_23 k_Uc_165 ?_
      obtain rfl := Option.some.inj hf
      exact r_ireturn d_Uc_born_25 rfl rfl
def f_Uc_dies (Nu : Nat) (p0 : Int32) (Mu : Mm) : Option (Int32 × Mm) := if (f_To_has 1 p0 Mu) = 0 then some ((-1000000001), Mu) else if 3 ≤ (Mu.1 1 0) then (f_To_copyFrom Nu 6 1 Mu).bind fun vu3 => (f_To_removePerson Nu 6 p0 vu3).bind fun vu4 => (f_Mk_solve Nu 6 vu4).bind fun vu5 => some (vu5.1 18 2, vu5) else some ((-1000000003), Mu)
theorem cm_Uc_dies {G : GT} {Nu : Nat} {p0 : Int32} {Mu : Mm}  {ru : Int32 × Mm}  (hf : f_Uc_dies Nu p0 Mu = some ru) : CM G 5 y_Uc_dies c_Uc_dies 2 (some .int) (some (.int ru.1), ru.2) Mu [.ref 0, .int p0] := by
  unfold f_Uc_dies at hf
  refine CM.of (own := R_Uc) (lv := [some (.ref 0), some (.int p0)]) (by decide) rfl (Nat.le_of_ble_eq_true rfl) rfl ?_
  refine r_aload_n 0 d_Uc_dies_0 rfl rfl ?_
  refine r_getR 1 d_Uc_dies_1 fl_Uc_10 sh_0 rfl rf_0_0 ?_
  refine r_iload_n 1 d_Uc_dies_4 rfl rfl ?_
  refine r_callV [.int p0] d_Uc_dies_5 lk_Uc_141 sh_1 (cm_To_has 1 p0 Mu sh_1) (by decide) rfl rfl (Nat.le_of_ble_eq_true rfl) ?_
  refine r_if_ne 14 d_Uc_dies_8 (by decide) (fun qu1 => ?_) (fun qu1 => ?_)
  · replace hf := im qu1 hf
    refine r_aload_n 0 d_Uc_dies_14 rfl rfl ?_
    refine r_getR 1 d_Uc_dies_15 fl_Uc_10 sh_0 rfl rf_0_0 ?_
    refine r_getI d_Uc_dies_18 fl_Uc_105 sh_1 (by decide) ?_
    refine r_iconst (v := 3) d_Uc_dies_21 (by decide) ?_
    refine r_icmp_ge 28 d_Uc_dies_22 (by decide) (fun qu2 => ?_) (fun qu2 => ?_)
    · replace hf := ip qu2 hf
      refine r_aload_n 0 d_Uc_dies_28 rfl rfl ?_
      refine r_getR 6 d_Uc_dies_29 fl_Uc_16 sh_0 rfl rf_0_1 ?_
      refine r_aload_n 0 d_Uc_dies_32 rfl rfl ?_
      refine r_getR 1 d_Uc_dies_33 fl_Uc_10 sh_0 rfl rf_0_0 ?_
      obtain ⟨vu3, evu3, hf⟩ := bnd hf
      refine r_callV [.ref 1] d_Uc_dies_36 lk_Uc_91 sh_6 (cm_To_copyFrom sh_6 sh_1 evu3) (by decide) rfl rfl (Nat.le_of_ble_eq_true rfl) ?_
      refine r_aload_n 0 d_Uc_dies_39 rfl rfl ?_
      refine r_getR 6 d_Uc_dies_40 fl_Uc_16 sh_0 rfl rf_0_1 ?_
      refine r_iload_n 1 d_Uc_dies_43 rfl rfl ?_
      obtain ⟨vu4, evu4, hf⟩ := bnd hf
      refine r_callV [.int p0] d_Uc_dies_44 lk_Uc_183 sh_6 (cm_To_removePerson sh_6 evu4) (by decide) rfl rfl (Nat.le_of_ble_eq_true rfl) ?_
      refine r_aload_n 0 d_Uc_dies_47 rfl rfl ?_
      refine r_getR 18 d_Uc_dies_48 fl_Uc_29 sh_0 rfl rf_0_3 ?_
      refine r_aload_n 0 d_Uc_dies_51 rfl rfl ?_
      refine r_getR 6 d_Uc_dies_52 fl_Uc_16 sh_0 rfl rf_0_1 ?_
      obtain ⟨vu5, evu5, hf⟩ := bnd hf
      refine r_callV [.ref 6] d_Uc_dies_55 lk_Uc_191 sh_18 (cm_Mk_solve sh_6 evu5) (by decide) rfl rfl (Nat.le_of_ble_eq_true rfl) ?_
      refine r_aload_n 0 d_Uc_dies_58 rfl rfl ?_
      refine r_getR 18 d_Uc_dies_59 fl_Uc_29 sh_0 rfl rf_0_3 ?_
      refine r_getI d_Uc_dies_62 fl_Uc_194 sh_18 (by decide) ?_
      obtain rfl := Option.some.inj hf
      exact r_ireturn d_Uc_dies_65 rfl rfl
    · replace hf := im qu2 hf
      refine r_ldc d_Uc_dies_25 k_Uc_165 ?_
      obtain rfl := Option.some.inj hf
      exact r_ireturn d_Uc_dies_27 rfl rfl
  · replace hf := ip qu1 hf
    refine r_ldc d_Uc_dies_11 k_Uc_149 ?_
    obtain rfl := Option.some.inj hf
    exact r_ireturn d_Uc_dies_13 rfl rfl
def f_Uc_nearest (Nu : Nat) (p0 : Int32) (Mu : Mm) : Option (Int32 × Mm) := if p0 < 0 then some ((-1000000002), Mu) else if p0 ≤ 2 then if (Mu.1 1 0) ≤ 6 then (f_Se_findNearest Nu 1 Mu).bind fun vu4 => if p0 = 0 then some (vu4.1 20 10, vu4) else if p0 = 1 then some (vu4.1 20 11, vu4) else some (vu4.1 20 12, vu4) else some ((-1000000003), Mu) else some ((-1000000002), Mu)
theorem cm_Uc_nearest {G : GT} {Nu : Nat} {p0 : Int32} {Mu : Mm}  {ru : Int32 × Mm}  (hf : f_Uc_nearest Nu p0 Mu = some ru) : CM G 26 y_Uc_nearest c_Uc_nearest 2 (some .int) (some (.int ru.1), ru.2) Mu [.ref 0, .int p0] := by
  unfold f_Uc_nearest at hf
  refine CM.of (own := R_Uc) (lv := [some (.ref 0), some (.int p0)]) (by decide) rfl (Nat.le_of_ble_eq_true rfl) rfl ?_
  refine r_iload_n 1 d_Uc_nearest_0 rfl rfl ?_
  refine r_if_lt 9 d_Uc_nearest_1 (by decide) (fun qu1 => ?_) (fun qu1 => ?_)
  · replace hf := ip qu1 hf
    refine r_ldc d_Uc_nearest_9 k_Uc_71 ?_
    obtain rfl := Option.some.inj hf
    exact r_ireturn d_Uc_nearest_11 rfl rfl
  · replace hf := im qu1 hf
    refine r_iload_n 1 d_Uc_nearest_4 rfl rfl ?_
    refine r_iconst (v := 2) d_Uc_nearest_5 (by decide) ?_
    refine r_icmp_le 12 d_Uc_nearest_6 (by decide) (fun qu2 => ?_) (fun qu2 => ?_)
    · replace hf := ip qu2 hf
      refine r_aload_n 0 d_Uc_nearest_12 rfl rfl ?_
      refine r_getR 1 d_Uc_nearest_13 fl_Uc_10 sh_0 rfl rf_0_0 ?_
      refine r_getI d_Uc_nearest_16 fl_Uc_105 sh_1 (by decide) ?_
      refine r_bipush (v := 6) d_Uc_nearest_19 (by decide) ?_
      refine r_icmp_le 27 d_Uc_nearest_21 (by decide) (fun qu3 => ?_) (fun qu3 => ?_)
      · replace hf := ip qu3 hf
        refine r_aload_n 0 d_Uc_nearest_27 rfl rfl ?_
        refine r_getR 20 d_Uc_nearest_28 fl_Uc_36 sh_0 rfl rf_0_4 ?_
        refine r_aload_n 0 d_Uc_nearest_31 rfl rfl ?_
        refine r_getR 1 d_Uc_nearest_32 fl_Uc_10 sh_0 rfl rf_0_0 ?_
        obtain ⟨vu4, evu4, hf⟩ := bnd hf
        refine r_callV [.ref 1] d_Uc_nearest_35 lk_Uc_206 sh_20 (cm_Se_findNearest sh_1 evu4) (by decide) rfl rfl (Nat.le_of_ble_eq_true rfl) ?_
        refine r_iload_n 1 d_Uc_nearest_38 rfl rfl ?_
        by_cases qu5 : p0 = 0
        · replace hf := ip qu5 hf
          refine r_lookup (off := 25) 64 d_Uc_nearest_39 (by decide) (by subst qu5; decide) (by decide) ?_
          refine r_aload_n 0 d_Uc_nearest_64 rfl rfl ?_
          refine r_getR 20 d_Uc_nearest_65 fl_Uc_36 sh_0 rfl rf_0_4 ?_
          refine r_getI d_Uc_nearest_68 fl_Uc_209 sh_20 (by decide) ?_
          obtain rfl := Option.some.inj hf
          exact r_ireturn d_Uc_nearest_71 rfl rfl
        replace hf := im qu5 hf
        by_cases qu6 : p0 = 1
        · replace hf := ip qu6 hf
          refine r_lookup (off := 33) 72 d_Uc_nearest_39 (by decide) (by subst qu6; decide) (by decide) ?_
          refine r_aload_n 0 d_Uc_nearest_72 rfl rfl ?_
          refine r_getR 20 d_Uc_nearest_73 fl_Uc_36 sh_0 rfl rf_0_4 ?_
          refine r_getI d_Uc_nearest_76 fl_Uc_212 sh_20 (by decide) ?_
          obtain rfl := Option.some.inj hf
          exact r_ireturn d_Uc_nearest_79 rfl rfl
        replace hf := im qu6 hf
        refine r_lookup (off := 41) 80 d_Uc_nearest_39 (by decide) ((lv_osw qu5 (by decide)).trans ((lv_osw qu6 (by decide)).trans rfl)) (by decide) ?_
        refine r_aload_n 0 d_Uc_nearest_80 rfl rfl ?_
        refine r_getR 20 d_Uc_nearest_81 fl_Uc_36 sh_0 rfl rf_0_4 ?_
        refine r_getI d_Uc_nearest_84 fl_Uc_215 sh_20 (by decide) ?_
        obtain rfl := Option.some.inj hf
        exact r_ireturn d_Uc_nearest_87 rfl rfl
      · replace hf := im qu3 hf
        refine r_ldc d_Uc_nearest_24 k_Uc_165 ?_
        obtain rfl := Option.some.inj hf
        exact r_ireturn d_Uc_nearest_26 rfl rfl
    · replace hf := im qu2 hf
      refine r_ldc d_Uc_nearest_9 k_Uc_71 ?_
      obtain rfl := Option.some.inj hf
      exact r_ireturn d_Uc_nearest_11 rfl rfl
def f_Uc_even (Nu : Nat) (p0 : Int32) (p1 : Int32) (Mu : Mm) : Option (Int32 × Mm) := if p0 < 0 then some ((-1000000002), Mu) else if 5 < p0 then some ((-1000000002), Mu) else if p1 < 0 then some ((-1000000002), Mu) else if p1 ≤ 1 then if (Mu.1 1 0) ≤ 6 then (f_Se_findEven Nu 1 p0 Mu).bind fun vu6 => if p1 = 0 then some (vu6.1 20 11, vu6) else some (vu6.1 20 12, vu6) else some ((-1000000003), Mu) else some ((-1000000002), Mu)
theorem cm_Uc_even {G : GT} {Nu : Nat} {p0 : Int32} {p1 : Int32} {Mu : Mm}  {ru : Int32 × Mm}  (hf : f_Uc_even Nu p0 p1 Mu = some ru) : CM G 26 y_Uc_even c_Uc_even 3 (some .int) (some (.int ru.1), ru.2) Mu [.ref 0, .int p0, .int p1] := by
  unfold f_Uc_even at hf
  refine CM.of (own := R_Uc) (lv := [some (.ref 0), some (.int p0), some (.int p1)]) (by decide) rfl (Nat.le_of_ble_eq_true rfl) rfl ?_
  refine r_iload_n 1 d_Uc_even_0 rfl rfl ?_
  refine r_if_lt 18 d_Uc_even_1 (by decide) (fun qu1 => ?_) (fun qu1 => ?_)
  · replace hf := ip qu1 hf
    refine r_ldc d_Uc_even_18 k_Uc_71 ?_
    obtain rfl := Option.some.inj hf
    exact r_ireturn d_Uc_even_20 rfl rfl
  · replace hf := im qu1 hf
    refine r_iload_n 1 d_Uc_even_4 rfl rfl ?_
    refine r_iconst (v := 5) d_Uc_even_5 (by decide) ?_
    refine r_icmp_gt 18 d_Uc_even_6 (by decide) (fun qu2 => ?_) (fun qu2 => ?_)
    · replace hf := ip qu2 hf
      refine r_ldc d_Uc_even_18 k_Uc_71 ?_
      obtain rfl := Option.some.inj hf
      exact r_ireturn d_Uc_even_20 rfl rfl
    · replace hf := im qu2 hf
      refine r_iload_n 2 d_Uc_even_9 rfl rfl ?_
      refine r_if_lt 18 d_Uc_even_10 (by decide) (fun qu3 => ?_) (fun qu3 => ?_)
      · replace hf := ip qu3 hf
        refine r_ldc d_Uc_even_18 k_Uc_71 ?_
        obtain rfl := Option.some.inj hf
        exact r_ireturn d_Uc_even_20 rfl rfl
      · replace hf := im qu3 hf
        refine r_iload_n 2 d_Uc_even_13 rfl rfl ?_
        refine r_iconst (v := 1) d_Uc_even_14 (by decide) ?_
        refine r_icmp_le 21 d_Uc_even_15 (by decide) (fun qu4 => ?_) (fun qu4 => ?_)
        · replace hf := ip qu4 hf
          refine r_aload_n 0 d_Uc_even_21 rfl rfl ?_
          refine r_getR 1 d_Uc_even_22 fl_Uc_10 sh_0 rfl rf_0_0 ?_
          refine r_getI d_Uc_even_25 fl_Uc_105 sh_1 (by decide) ?_
          refine r_bipush (v := 6) d_Uc_even_28 (by decide) ?_
          refine r_icmp_le 36 d_Uc_even_30 (by decide) (fun qu5 => ?_) (fun qu5 => ?_)
          · replace hf := ip qu5 hf
            refine r_aload_n 0 d_Uc_even_36 rfl rfl ?_
            refine r_getR 20 d_Uc_even_37 fl_Uc_36 sh_0 rfl rf_0_4 ?_
            refine r_aload_n 0 d_Uc_even_40 rfl rfl ?_
            refine r_getR 1 d_Uc_even_41 fl_Uc_10 sh_0 rfl rf_0_0 ?_
            refine r_iload_n 1 d_Uc_even_44 rfl rfl ?_
            obtain ⟨vu6, evu6, hf⟩ := bnd hf
            refine r_callV [.ref 1, .int p0] d_Uc_even_45 lk_Uc_218 sh_20 (cm_Se_findEven sh_1 evu6) (by decide) rfl rfl (Nat.le_of_ble_eq_true rfl) ?_
            refine r_iload_n 2 d_Uc_even_48 rfl rfl ?_
            refine r_if_ne 62 d_Uc_even_49 (by decide) (fun qu7 => ?_) (fun qu7 => ?_)
            · replace hf := im qu7 hf
              refine r_aload_n 0 d_Uc_even_62 rfl rfl ?_
              refine r_getR 20 d_Uc_even_63 fl_Uc_36 sh_0 rfl rf_0_4 ?_
              refine r_getI d_Uc_even_66 fl_Uc_215 sh_20 (by decide) ?_
              obtain rfl := Option.some.inj hf
              exact r_ireturn d_Uc_even_69 rfl rfl
            · replace hf := ip qu7 hf
              refine r_aload_n 0 d_Uc_even_52 rfl rfl ?_
              refine r_getR 20 d_Uc_even_53 fl_Uc_36 sh_0 rfl rf_0_4 ?_
              refine r_getI d_Uc_even_56 fl_Uc_212 sh_20 (by decide) ?_
              refine r_goto 69 d_Uc_even_59 (by decide) ?_
              obtain rfl := Option.some.inj hf
              exact r_ireturn d_Uc_even_69 rfl rfl
          · replace hf := im qu5 hf
            refine r_ldc d_Uc_even_33 k_Uc_165 ?_
            obtain rfl := Option.some.inj hf
            exact r_ireturn d_Uc_even_35 rfl rfl
        · replace hf := im qu4 hf
          refine r_ldc d_Uc_even_18 k_Uc_71 ?_
          obtain rfl := Option.some.inj hf
          exact r_ireturn d_Uc_even_20 rfl rfl
def f_Uc_tell (p0 : Int32) (p1 : Int32) (Mu : Mm) : Option (Int32 × Mm) := if (f_To_has 1 p0 Mu) = 0 then some ((-1000000001), Mu) else if p1 < 0 then some ((-1000000002), Mu) else if p1 ≤ 7 then if inb p0 8 = true then lt (Mu.1 5 (Int32.toNatClampNeg p0)) fun xu5 => if inb p0 8 = true then lt (si Mu 5 (Int32.toNatClampNeg p0) p1) fun Mu7 => some (xu5, Mu7) else none else none else some ((-1000000002), Mu)
theorem cm_Uc_tell {G : GT} {p0 : Int32} {p1 : Int32} {Mu : Mm}  {ru : Int32 × Mm}  (hf : f_Uc_tell p0 p1 Mu = some ru) : CM G 2 y_Uc_tell c_Uc_tell 4 (some .int) (some (.int ru.1), ru.2) Mu [.ref 0, .int p0, .int p1] := by
  unfold f_Uc_tell at hf
  refine CM.of (own := R_Uc) (lv := [some (.ref 0), some (.int p0), some (.int p1), none]) (by decide) rfl (Nat.le_of_ble_eq_true rfl) rfl ?_
  refine r_aload_n 0 d_Uc_tell_0 rfl rfl ?_
  refine r_getR 1 d_Uc_tell_1 fl_Uc_10 sh_0 rfl rf_0_0 ?_
  refine r_iload_n 1 d_Uc_tell_4 rfl rfl ?_
  refine r_callV [.int p0] d_Uc_tell_5 lk_Uc_141 sh_1 (cm_To_has 1 p0 Mu sh_1) (by decide) rfl rfl (Nat.le_of_ble_eq_true rfl) ?_
  refine r_if_ne 14 d_Uc_tell_8 (by decide) (fun qu1 => ?_) (fun qu1 => ?_)
  · replace hf := im qu1 hf
    refine r_iload_n 2 d_Uc_tell_14 rfl rfl ?_
    refine r_if_lt 24 d_Uc_tell_15 (by decide) (fun qu2 => ?_) (fun qu2 => ?_)
    · replace hf := ip qu2 hf
      refine r_ldc d_Uc_tell_24 k_Uc_71 ?_
      obtain rfl := Option.some.inj hf
      exact r_ireturn d_Uc_tell_26 rfl rfl
    · replace hf := im qu2 hf
      refine r_iload_n 2 d_Uc_tell_18 rfl rfl ?_
      refine r_bipush (v := 7) d_Uc_tell_19 (by decide) ?_
      refine r_icmp_le 27 d_Uc_tell_21 (by decide) (fun qu3 => ?_) (fun qu3 => ?_)
      · replace hf := ip qu3 hf
        refine r_aload_n 0 d_Uc_tell_27 rfl rfl ?_
        refine r_getR 1 d_Uc_tell_28 fl_Uc_10 sh_0 rfl rf_0_0 ?_
        refine r_getR 5 d_Uc_tell_31 fl_Uc_222 sh_1 rfl rf_1_6 ?_
        refine r_iload_n 1 d_Uc_tell_34 rfl rfl ?_
        obtain ⟨qu4, hf⟩ := ck hf
        refine r_iald d_Uc_tell_35 sh_5 qu4 ?_
        refine nmI (fun xu5 hxu5 => ?_)
        replace hf := lt_of hxu5 hf
        refine r_istore_n (lv' := [some (.ref 0), some (.int p0), some (.int p1), some (.int xu5)]) 3 d_Uc_tell_36 rfl (by decide) rfl ?_
        refine r_aload_n 0 d_Uc_tell_37 rfl rfl ?_
        refine r_getR 1 d_Uc_tell_38 fl_Uc_10 sh_0 rfl rf_0_0 ?_
        refine r_getR 5 d_Uc_tell_41 fl_Uc_222 sh_1 rfl rf_1_6 ?_
        refine r_iload_n 1 d_Uc_tell_44 rfl rfl ?_
        refine r_iload_n 2 d_Uc_tell_45 rfl rfl ?_
        obtain ⟨qu6, hf⟩ := ck hf
        refine r_iast d_Uc_tell_46 sh_5 qu6 ?_
        refine nmM (fun Mu7 hMu7 => ?_)
        replace hf := lt_of hMu7 hf
        refine r_iload_n 3 d_Uc_tell_47 rfl rfl ?_
        obtain rfl := Option.some.inj hf
        exact r_ireturn d_Uc_tell_48 rfl rfl
      · replace hf := im qu3 hf
        refine r_ldc d_Uc_tell_24 k_Uc_71 ?_
        obtain rfl := Option.some.inj hf
        exact r_ireturn d_Uc_tell_26 rfl rfl
  · replace hf := ip qu1 hf
    refine r_ldc d_Uc_tell_11 k_Uc_149 ?_
    obtain rfl := Option.some.inj hf
    exact r_ireturn d_Uc_tell_13 rfl rfl
def f_Uc_canBe (Nu : Nat) (Mu : Mm) : Option (Int32 × Mm) := if (Mu.1 1 0) ≤ 6 then (f_Se_findTold Nu 1 0 Mu).bind fun vu2 => some (vu2.1 20 13, vu2) else some ((-1000000003), Mu)
theorem cm_Uc_canBe {G : GT} {Nu : Nat} {Mu : Mm}  {ru : Int32 × Mm}  (hf : f_Uc_canBe Nu Mu = some ru) : CM G 25 y_Uc_canBe c_Uc_canBe 1 (some .int) (some (.int ru.1), ru.2) Mu [.ref 0] := by
  unfold f_Uc_canBe at hf
  refine CM.of (own := R_Uc) (lv := [some (.ref 0)]) (by decide) rfl (Nat.le_of_ble_eq_true rfl) rfl ?_
  refine r_aload_n 0 d_Uc_canBe_0 rfl rfl ?_
  refine r_getR 1 d_Uc_canBe_1 fl_Uc_10 sh_0 rfl rf_0_0 ?_
  refine r_getI d_Uc_canBe_4 fl_Uc_105 sh_1 (by decide) ?_
  refine r_bipush (v := 6) d_Uc_canBe_7 (by decide) ?_
  refine r_icmp_le 15 d_Uc_canBe_9 (by decide) (fun qu1 => ?_) (fun qu1 => ?_)
  · replace hf := ip qu1 hf
    refine r_aload_n 0 d_Uc_canBe_15 rfl rfl ?_
    refine r_getR 20 d_Uc_canBe_16 fl_Uc_36 sh_0 rfl rf_0_4 ?_
    refine r_aload_n 0 d_Uc_canBe_19 rfl rfl ?_
    refine r_getR 1 d_Uc_canBe_20 fl_Uc_10 sh_0 rfl rf_0_0 ?_
    refine r_iconst (v := 0) d_Uc_canBe_23 (by decide) ?_
    obtain ⟨vu2, evu2, hf⟩ := bnd hf
    refine r_callV [.ref 1, .int 0] d_Uc_canBe_24 lk_Uc_225 sh_20 (cm_Se_findTold sh_1 evu2) (by decide) rfl rfl (Nat.le_of_ble_eq_true rfl) ?_
    refine r_aload_n 0 d_Uc_canBe_27 rfl rfl ?_
    refine r_getR 20 d_Uc_canBe_28 fl_Uc_36 sh_0 rfl rf_0_4 ?_
    refine r_getI d_Uc_canBe_31 fl_Uc_228 sh_20 (by decide) ?_
    obtain rfl := Option.some.inj hf
    exact r_ireturn d_Uc_canBe_34 rfl rfl
  · replace hf := im qu1 hf
    refine r_ldc d_Uc_canBe_12 k_Uc_165 ?_
    obtain rfl := Option.some.inj hf
    exact r_ireturn d_Uc_canBe_14 rfl rfl
def f_Uc_sure (Nu : Nat) (p0 : Int32) (p1 : Int32) (Mu : Mm) : Option (Int32 × Mm) := if (f_To_has 1 p0 Mu) = 0 then some ((-1000000001), Mu) else if p1 < 0 then some ((-1000000002), Mu) else if p1 ≤ 1 then if (Mu.1 1 0) ≤ 6 then (f_Se_findTold Nu 1 0 Mu).bind fun vu5 => if (vu5.1 20 13) = 0 then some (0, vu5) else lt (fun (xu8 : Int32) => (f_To_friendsIn Nu 1 xu8 p0 vu5).bind fun vu9 => some (vu9, vu5)) fun ju7 => if p1 = 0 then ju7 (vu5.1 20 14) else ju7 (vu5.1 20 15) else some ((-1000000003), Mu) else some ((-1000000002), Mu)
theorem cm_Uc_sure {G : GT} {Nu : Nat} {p0 : Int32} {p1 : Int32} {Mu : Mm}  {ru : Int32 × Mm}  (hf : f_Uc_sure Nu p0 p1 Mu = some ru) : CM G 25 y_Uc_sure c_Uc_sure 3 (some .int) (some (.int ru.1), ru.2) Mu [.ref 0, .int p0, .int p1] := by
  unfold f_Uc_sure at hf
  refine CM.of (own := R_Uc) (lv := [some (.ref 0), some (.int p0), some (.int p1)]) (by decide) rfl (Nat.le_of_ble_eq_true rfl) rfl ?_
  refine r_aload_n 0 d_Uc_sure_0 rfl rfl ?_
  refine r_getR 1 d_Uc_sure_1 fl_Uc_10 sh_0 rfl rf_0_0 ?_
  refine r_iload_n 1 d_Uc_sure_4 rfl rfl ?_
  refine r_callV [.int p0] d_Uc_sure_5 lk_Uc_141 sh_1 (cm_To_has 1 p0 Mu sh_1) (by decide) rfl rfl (Nat.le_of_ble_eq_true rfl) ?_
  refine r_if_ne 14 d_Uc_sure_8 (by decide) (fun qu1 => ?_) (fun qu1 => ?_)
  · replace hf := im qu1 hf
    refine r_iload_n 2 d_Uc_sure_14 rfl rfl ?_
    refine r_if_lt 23 d_Uc_sure_15 (by decide) (fun qu2 => ?_) (fun qu2 => ?_)
    · replace hf := ip qu2 hf
      refine r_ldc d_Uc_sure_23 k_Uc_71 ?_
      obtain rfl := Option.some.inj hf
      exact r_ireturn d_Uc_sure_25 rfl rfl
    · replace hf := im qu2 hf
      refine r_iload_n 2 d_Uc_sure_18 rfl rfl ?_
      refine r_iconst (v := 1) d_Uc_sure_19 (by decide) ?_
      refine r_icmp_le 26 d_Uc_sure_20 (by decide) (fun qu3 => ?_) (fun qu3 => ?_)
      · replace hf := ip qu3 hf
        refine r_aload_n 0 d_Uc_sure_26 rfl rfl ?_
        refine r_getR 1 d_Uc_sure_27 fl_Uc_10 sh_0 rfl rf_0_0 ?_
        refine r_getI d_Uc_sure_30 fl_Uc_105 sh_1 (by decide) ?_
        refine r_bipush (v := 6) d_Uc_sure_33 (by decide) ?_
        refine r_icmp_le 41 d_Uc_sure_35 (by decide) (fun qu4 => ?_) (fun qu4 => ?_)
        · replace hf := ip qu4 hf
          refine r_aload_n 0 d_Uc_sure_41 rfl rfl ?_
          refine r_getR 20 d_Uc_sure_42 fl_Uc_36 sh_0 rfl rf_0_4 ?_
          refine r_aload_n 0 d_Uc_sure_45 rfl rfl ?_
          refine r_getR 1 d_Uc_sure_46 fl_Uc_10 sh_0 rfl rf_0_0 ?_
          refine r_iconst (v := 0) d_Uc_sure_49 (by decide) ?_
          obtain ⟨vu5, evu5, hf⟩ := bnd hf
          refine r_callV [.ref 1, .int 0] d_Uc_sure_50 lk_Uc_225 sh_20 (cm_Se_findTold sh_1 evu5) (by decide) rfl rfl (Nat.le_of_ble_eq_true rfl) ?_
          refine r_aload_n 0 d_Uc_sure_53 rfl rfl ?_
          refine r_getR 20 d_Uc_sure_54 fl_Uc_36 sh_0 rfl rf_0_4 ?_
          refine r_getI d_Uc_sure_57 fl_Uc_228 sh_20 (by decide) ?_
          refine r_if_ne 65 d_Uc_sure_60 (by decide) (fun qu6 => ?_) (fun qu6 => ?_)
          · replace hf := im qu6 hf
            refine r_aload_n 0 d_Uc_sure_65 rfl rfl ?_
            refine r_getR 1 d_Uc_sure_66 fl_Uc_10 sh_0 rfl rf_0_0 ?_
            refine r_iload_n 2 d_Uc_sure_69 rfl rfl ?_
            obtain ⟨ju7, hju7, hf⟩ := lt_ex hf
            have Kju7 : ∀ (xu8 : Int32), ju7 xu8 = some ru → SW G 25 c_Uc_sure R_Uc 3 (some .int) (some (.int ru.1), ru.2) vu5 90 [none, some (.int p0), none] [.int xu8, .ref 1] := by
              intro xu8 hf
              rw [hju7] at hf
              refine r_iload_n 1 d_Uc_sure_90 rfl rfl ?_
              obtain ⟨vu9, evu9, hf⟩ := bnd hf
              refine r_callV [.int xu8, .int p0] d_Uc_sure_91 lk_Uc_237 sh_1 (cm_To_friendsIn sh_1 evu9) (by decide) rfl rfl (Nat.le_of_ble_eq_true rfl) ?_
              obtain rfl := Option.some.inj hf
              exact r_ireturn d_Uc_sure_94 rfl rfl
            refine r_if_ne 83 d_Uc_sure_70 (by decide) (fun qu10 => ?_) (fun qu10 => ?_)
            · replace hf := im qu10 hf
              refine r_aload_n 0 d_Uc_sure_83 rfl rfl ?_
              refine r_getR 20 d_Uc_sure_84 fl_Uc_36 sh_0 rfl rf_0_4 ?_
              refine r_getI d_Uc_sure_87 fl_Uc_234 sh_20 (by decide) ?_
              refine r_weak [0, 2] (lv' := [none, some (.int p0), none]) rfl ?_
              exact Kju7 (vu5.1 20 15)  hf
            · replace hf := ip qu10 hf
              refine r_aload_n 0 d_Uc_sure_73 rfl rfl ?_
              refine r_getR 20 d_Uc_sure_74 fl_Uc_36 sh_0 rfl rf_0_4 ?_
              refine r_getI d_Uc_sure_77 fl_Uc_231 sh_20 (by decide) ?_
              refine r_goto 90 d_Uc_sure_80 (by decide) ?_
              refine r_weak [0, 2] (lv' := [none, some (.int p0), none]) rfl ?_
              exact Kju7 (vu5.1 20 14)  hf
          · replace hf := ip qu6 hf
            refine r_iconst (v := 0) d_Uc_sure_63 (by decide) ?_
            obtain rfl := Option.some.inj hf
            exact r_ireturn d_Uc_sure_64 rfl rfl
        · replace hf := im qu4 hf
          refine r_ldc d_Uc_sure_38 k_Uc_165 ?_
          obtain rfl := Option.some.inj hf
          exact r_ireturn d_Uc_sure_40 rfl rfl
      · replace hf := im qu3 hf
        refine r_ldc d_Uc_sure_23 k_Uc_71 ?_
        obtain rfl := Option.some.inj hf
        exact r_ireturn d_Uc_sure_25 rfl rfl
  · replace hf := ip qu1 hf
    refine r_ldc d_Uc_sure_11 k_Uc_149 ?_
    obtain rfl := Option.some.inj hf
    exact r_ireturn d_Uc_sure_13 rfl rfl
def f_Uc_liar (Nu : Nat) (Mu : Mm) : Option (Int32 × Mm) := if (Mu.1 1 0) ≤ 6 then (f_Se_findTold Nu 1 1 Mu).bind fun vu2 => if (vu2.1 20 13) ≤ 0 then some (vu2.1 20 16, vu2) else some (0, vu2) else some ((-1000000003), Mu)
theorem cm_Uc_liar {G : GT} {Nu : Nat} {Mu : Mm}  {ru : Int32 × Mm}  (hf : f_Uc_liar Nu Mu = some ru) : CM G 25 y_Uc_liar c_Uc_liar 1 (some .int) (some (.int ru.1), ru.2) Mu [.ref 0] := by
  unfold f_Uc_liar at hf
  refine CM.of (own := R_Uc) (lv := [some (.ref 0)]) (by decide) rfl (Nat.le_of_ble_eq_true rfl) rfl ?_
  refine r_aload_n 0 d_Uc_liar_0 rfl rfl ?_
  refine r_getR 1 d_Uc_liar_1 fl_Uc_10 sh_0 rfl rf_0_0 ?_
  refine r_getI d_Uc_liar_4 fl_Uc_105 sh_1 (by decide) ?_
  refine r_bipush (v := 6) d_Uc_liar_7 (by decide) ?_
  refine r_icmp_le 15 d_Uc_liar_9 (by decide) (fun qu1 => ?_) (fun qu1 => ?_)
  · replace hf := ip qu1 hf
    refine r_aload_n 0 d_Uc_liar_15 rfl rfl ?_
    refine r_getR 20 d_Uc_liar_16 fl_Uc_36 sh_0 rfl rf_0_4 ?_
    refine r_aload_n 0 d_Uc_liar_19 rfl rfl ?_
    refine r_getR 1 d_Uc_liar_20 fl_Uc_10 sh_0 rfl rf_0_0 ?_
    refine r_iconst (v := 1) d_Uc_liar_23 (by decide) ?_
    obtain ⟨vu2, evu2, hf⟩ := bnd hf
    refine r_callV [.ref 1, .int 1] d_Uc_liar_24 lk_Uc_225 sh_20 (cm_Se_findTold sh_1 evu2) (by decide) rfl rfl (Nat.le_of_ble_eq_true rfl) ?_
    refine r_aload_n 0 d_Uc_liar_27 rfl rfl ?_
    refine r_getR 20 d_Uc_liar_28 fl_Uc_36 sh_0 rfl rf_0_4 ?_
    refine r_getI d_Uc_liar_31 fl_Uc_228 sh_20 (by decide) ?_
    refine r_if_le 41 d_Uc_liar_34 (by decide) (fun qu3 => ?_) (fun qu3 => ?_)
    · replace hf := ip qu3 hf
      refine r_aload_n 0 d_Uc_liar_41 rfl rfl ?_
      refine r_getR 20 d_Uc_liar_42 fl_Uc_36 sh_0 rfl rf_0_4 ?_
      refine r_getI d_Uc_liar_45 fl_Uc_240 sh_20 (by decide) ?_
      obtain rfl := Option.some.inj hf
      exact r_ireturn d_Uc_liar_48 rfl rfl
    · replace hf := im qu3 hf
      refine r_iconst (v := 0) d_Uc_liar_37 (by decide) ?_
      refine r_goto 48 d_Uc_liar_38 (by decide) ?_
      obtain rfl := Option.some.inj hf
      exact r_ireturn d_Uc_liar_48 rfl rfl
  · replace hf := im qu1 hf
    refine r_ldc d_Uc_liar_12 k_Uc_165 ?_
    obtain rfl := Option.some.inj hf
    exact r_ireturn d_Uc_liar_14 rfl rfl
def f_Uc_weight (Nu : Nat) (p0 : Int32) (p1 : Int32) (Mu : Mm) : Option (Int32 × Mm) := lt (fun (_ : Unit) => (f_To_friendships Nu 1 Mu).bind fun vu2 => if vu2 ≤ 8 then (f_We_solve Nu 1 Mu).bind fun vu4 => lt (fun (_ : Unit) => some (vu4.1 24 6, vu4)) fun ju5 => if p0 = (-1) then ju5 () else if (vu4.1 24 6) = (-1) then ju5 () else (f_We_weightOf Nu p0 p1 vu4).bind fun vu8 => some (vu8, vu4) else some ((-1000000003), Mu)) fun ju1 => if p0 = (-1) then ju1 () else if (f_To_hasTwo 1 p0 p1 Mu) = 0 then some ((-1000000001), Mu) else ju1 ()
theorem cm_Uc_weight {G : GT} {Nu : Nat} {p0 : Int32} {p1 : Int32} {Mu : Mm}  {ru : Int32 × Mm}  (hf : f_Uc_weight Nu p0 p1 Mu = some ru) : CM G 25 y_Uc_weight c_Uc_weight 3 (some .int) (some (.int ru.1), ru.2) Mu [.ref 0, .int p0, .int p1] := by
  unfold f_Uc_weight at hf
  refine CM.of (own := R_Uc) (lv := [some (.ref 0), some (.int p0), some (.int p1)]) (by decide) rfl (Nat.le_of_ble_eq_true rfl) rfl ?_
  refine r_iload_n 1 d_Uc_weight_0 rfl rfl ?_
  refine r_iconst (v := (-1)) d_Uc_weight_1 (by decide) ?_
  obtain ⟨ju1, hju1, hf⟩ := lt_ex hf
  have Kju1 : ∀ (_ : Unit), ju1 () = some ru → SW G 25 c_Uc_weight R_Uc 3 (some .int) (some (.int ru.1), ru.2) Mu 20 [some (.ref 0), some (.int p0), some (.int p1)] [] := by
    intro _ hf
    rw [hju1] at hf
    refine r_aload_n 0 d_Uc_weight_20 rfl rfl ?_
    refine r_getR 1 d_Uc_weight_21 fl_Uc_10 sh_0 rfl rf_0_0 ?_
    obtain ⟨vu2, evu2, hf⟩ := bnd hf
    refine r_callV [] d_Uc_weight_24 lk_Uc_112 sh_1 (cm_To_friendships sh_1 evu2) (by decide) rfl rfl (Nat.le_of_ble_eq_true rfl) ?_
    refine r_bipush (v := 8) d_Uc_weight_27 (by decide) ?_
    refine r_icmp_le 35 d_Uc_weight_29 (by decide) (fun qu3 => ?_) (fun qu3 => ?_)
    · replace hf := ip qu3 hf
      refine r_aload_n 0 d_Uc_weight_35 rfl rfl ?_
      refine r_getR 24 d_Uc_weight_36 fl_Uc_43 sh_0 rfl rf_0_5 ?_
      refine r_aload_n 0 d_Uc_weight_39 rfl rfl ?_
      refine r_getR 1 d_Uc_weight_40 fl_Uc_10 sh_0 rfl rf_0_0 ?_
      obtain ⟨vu4, evu4, hf⟩ := bnd hf
      refine r_callV [.ref 1] d_Uc_weight_43 lk_Uc_243 sh_24 (cm_We_solve sh_1 evu4) (by decide) rfl rfl (Nat.le_of_ble_eq_true rfl) ?_
      refine r_iload_n 1 d_Uc_weight_46 rfl rfl ?_
      refine r_iconst (v := (-1)) d_Uc_weight_47 (by decide) ?_
      obtain ⟨ju5, hju5, hf⟩ := lt_ex hf
      have Kju5 : ∀ (_ : Unit), ju5 () = some ru → SW G 25 c_Uc_weight R_Uc 3 (some .int) (some (.int ru.1), ru.2) vu4 62 [some (.ref 0), none, none] [] := by
        intro _ hf
        rw [hju5] at hf
        refine r_aload_n 0 d_Uc_weight_62 rfl rfl ?_
        refine r_getR 24 d_Uc_weight_63 fl_Uc_43 sh_0 rfl rf_0_5 ?_
        refine r_getI d_Uc_weight_66 fl_Uc_244 sh_24 (by decide) ?_
        obtain rfl := Option.some.inj hf
        exact r_ireturn d_Uc_weight_69 rfl rfl
      refine r_icmp_eq 62 d_Uc_weight_48 (by decide) (fun qu6 => ?_) (fun qu6 => ?_)
      · replace hf := ip qu6 hf
        refine r_weak [1, 2] (lv' := [some (.ref 0), none, none]) rfl ?_
        exact Kju5 ()  hf
      · replace hf := im qu6 hf
        refine r_aload_n 0 d_Uc_weight_51 rfl rfl ?_
        refine r_getR 24 d_Uc_weight_52 fl_Uc_43 sh_0 rfl rf_0_5 ?_
        refine r_getI d_Uc_weight_55 fl_Uc_244 sh_24 (by decide) ?_
        refine r_iconst (v := (-1)) d_Uc_weight_58 (by decide) ?_
        refine r_icmp_ne 70 d_Uc_weight_59 (by decide) (fun qu7 => ?_) (fun qu7 => ?_)
        · replace hf := im qu7 hf
          refine r_aload_n 0 d_Uc_weight_70 rfl rfl ?_
          refine r_getR 24 d_Uc_weight_71 fl_Uc_43 sh_0 rfl rf_0_5 ?_
          refine r_iload_n 1 d_Uc_weight_74 rfl rfl ?_
          refine r_iload_n 2 d_Uc_weight_75 rfl rfl ?_
          obtain ⟨vu8, evu8, hf⟩ := bnd hf
          refine r_callV [.int p0, .int p1] d_Uc_weight_76 lk_Uc_247 sh_24 (cm_We_weightOf evu8) (by decide) rfl rfl (Nat.le_of_ble_eq_true rfl) ?_
          obtain rfl := Option.some.inj hf
          exact r_ireturn d_Uc_weight_79 rfl rfl
        · replace hf := ip qu7 hf
          refine r_weak [1, 2] (lv' := [some (.ref 0), none, none]) rfl ?_
          exact Kju5 ()  hf
    · replace hf := im qu3 hf
      refine r_ldc d_Uc_weight_32 k_Uc_165 ?_
      obtain rfl := Option.some.inj hf
      exact r_ireturn d_Uc_weight_34 rfl rfl
  refine r_icmp_eq 20 d_Uc_weight_2 (by decide) (fun qu9 => ?_) (fun qu9 => ?_)
  · replace hf := ip qu9 hf
    exact Kju1 ()  hf
  · replace hf := im qu9 hf
    refine r_aload_n 0 d_Uc_weight_5 rfl rfl ?_
    refine r_getR 1 d_Uc_weight_6 fl_Uc_10 sh_0 rfl rf_0_0 ?_
    refine r_iload_n 1 d_Uc_weight_9 rfl rfl ?_
    refine r_iload_n 2 d_Uc_weight_10 rfl rfl ?_
    refine r_callV [.int p0, .int p1] d_Uc_weight_11 lk_Uc_153 sh_1 (cm_To_hasTwo 1 p0 p1 Mu sh_1) (by decide) rfl rfl (Nat.le_of_ble_eq_true rfl) ?_
    refine r_if_ne 20 d_Uc_weight_14 (by decide) (fun qu10 => ?_) (fun qu10 => ?_)
    · replace hf := im qu10 hf
      exact Kju1 ()  hf
    · replace hf := ip qu10 hf
      refine r_ldc d_Uc_weight_17 k_Uc_149 ?_
      obtain rfl := Option.some.inj hf
      exact r_ireturn d_Uc_weight_19 rfl rfl
def f_Uc_sides (Nu : Nat) (p0 : Int32) (p1 : Int32) (Mu : Mm) : Option (Int32 × Mm) := if p0 < 1 then some ((-1000000002), Mu) else if 4 < p0 then some ((-1000000002), Mu) else if p1 < 1 then some ((-1000000002), Mu) else if p1 ≤ 4 then (f_Wa_acrossSides Nu p0 p1 Mu).bind fun vu5 => lt vu5.1 fun vu6 => lt vu5.2 fun Mu7 => some (vu6, Mu7) else some ((-1000000002), Mu)
theorem cm_Uc_sides {G : GT} {Nu : Nat} {p0 : Int32} {p1 : Int32} {Mu : Mm}  {ru : Int32 × Mm}  (hf : f_Uc_sides Nu p0 p1 Mu = some ru) : CM G 25 y_Uc_sides c_Uc_sides 3 (some .int) (some (.int ru.1), ru.2) Mu [.ref 0, .int p0, .int p1] := by
  unfold f_Uc_sides at hf
  refine CM.of (own := R_Uc) (lv := [some (.ref 0), some (.int p0), some (.int p1)]) (by decide) rfl (Nat.le_of_ble_eq_true rfl) rfl ?_
  refine r_iload_n 1 d_Uc_sides_0 rfl rfl ?_
  refine r_iconst (v := 1) d_Uc_sides_1 (by decide) ?_
  refine r_icmp_lt 20 d_Uc_sides_2 (by decide) (fun qu1 => ?_) (fun qu1 => ?_)
  · replace hf := ip qu1 hf
    refine r_ldc d_Uc_sides_20 k_Uc_71 ?_
    obtain rfl := Option.some.inj hf
    exact r_ireturn d_Uc_sides_22 rfl rfl
  · replace hf := im qu1 hf
    refine r_iload_n 1 d_Uc_sides_5 rfl rfl ?_
    refine r_iconst (v := 4) d_Uc_sides_6 (by decide) ?_
    refine r_icmp_gt 20 d_Uc_sides_7 (by decide) (fun qu2 => ?_) (fun qu2 => ?_)
    · replace hf := ip qu2 hf
      refine r_ldc d_Uc_sides_20 k_Uc_71 ?_
      obtain rfl := Option.some.inj hf
      exact r_ireturn d_Uc_sides_22 rfl rfl
    · replace hf := im qu2 hf
      refine r_iload_n 2 d_Uc_sides_10 rfl rfl ?_
      refine r_iconst (v := 1) d_Uc_sides_11 (by decide) ?_
      refine r_icmp_lt 20 d_Uc_sides_12 (by decide) (fun qu3 => ?_) (fun qu3 => ?_)
      · replace hf := ip qu3 hf
        refine r_ldc d_Uc_sides_20 k_Uc_71 ?_
        obtain rfl := Option.some.inj hf
        exact r_ireturn d_Uc_sides_22 rfl rfl
      · replace hf := im qu3 hf
        refine r_iload_n 2 d_Uc_sides_15 rfl rfl ?_
        refine r_iconst (v := 4) d_Uc_sides_16 (by decide) ?_
        refine r_icmp_le 23 d_Uc_sides_17 (by decide) (fun qu4 => ?_) (fun qu4 => ?_)
        · replace hf := ip qu4 hf
          refine r_aload_n 0 d_Uc_sides_23 rfl rfl ?_
          refine r_getR 30 d_Uc_sides_24 fl_Uc_50 sh_0 rfl rf_0_6 ?_
          refine r_iload_n 1 d_Uc_sides_27 rfl rfl ?_
          refine r_iload_n 2 d_Uc_sides_28 rfl rfl ?_
          obtain ⟨vu5, evu5, hf⟩ := bnd hf
          obtain ⟨vu6, Mu7⟩ := vu5
          replace hf := lt_of (rfl : vu6 = (vu6, Mu7).1) hf
          replace hf := lt_of (rfl : Mu7 = (vu6, Mu7).2) hf
          refine r_callV [.int p0, .int p1] d_Uc_sides_29 lk_Uc_250 sh_30 (cm_Wa_acrossSides evu5) (by decide) rfl rfl (Nat.le_of_ble_eq_true rfl) ?_
          obtain rfl := Option.some.inj hf
          exact r_ireturn d_Uc_sides_32 rfl rfl
        · replace hf := im qu4 hf
          refine r_ldc d_Uc_sides_20 k_Uc_71 ?_
          obtain rfl := Option.some.inj hf
          exact r_ireturn d_Uc_sides_22 rfl rfl
def f_Uc_sorts (Nu : Nat) (p0 : Int32) (Mu : Mm) : Option (Int32 × Mm) := if p0 < 1 then some ((-1000000002), Mu) else if p0 ≤ 5 then (f_Wa_ofTwoSorts Nu p0 Mu).bind fun vu3 => lt vu3.1 fun vu4 => lt vu3.2 fun Mu5 => some (vu4, Mu5) else some ((-1000000002), Mu)
theorem cm_Uc_sorts {G : GT} {Nu : Nat} {p0 : Int32} {Mu : Mm}  {ru : Int32 × Mm}  (hf : f_Uc_sorts Nu p0 Mu = some ru) : CM G 24 y_Uc_sorts c_Uc_sorts 2 (some .int) (some (.int ru.1), ru.2) Mu [.ref 0, .int p0] := by
  unfold f_Uc_sorts at hf
  refine CM.of (own := R_Uc) (lv := [some (.ref 0), some (.int p0)]) (by decide) rfl (Nat.le_of_ble_eq_true rfl) rfl ?_
  refine r_iload_n 1 d_Uc_sorts_0 rfl rfl ?_
  refine r_iconst (v := 1) d_Uc_sorts_1 (by decide) ?_
  refine r_icmp_lt 10 d_Uc_sorts_2 (by decide) (fun qu1 => ?_) (fun qu1 => ?_)
  · replace hf := ip qu1 hf
    refine r_ldc d_Uc_sorts_10 k_Uc_71 ?_
    obtain rfl := Option.some.inj hf
    exact r_ireturn d_Uc_sorts_12 rfl rfl
  · replace hf := im qu1 hf
    refine r_iload_n 1 d_Uc_sorts_5 rfl rfl ?_
    refine r_iconst (v := 5) d_Uc_sorts_6 (by decide) ?_
    refine r_icmp_le 13 d_Uc_sorts_7 (by decide) (fun qu2 => ?_) (fun qu2 => ?_)
    · replace hf := ip qu2 hf
      refine r_aload_n 0 d_Uc_sorts_13 rfl rfl ?_
      refine r_getR 30 d_Uc_sorts_14 fl_Uc_50 sh_0 rfl rf_0_6 ?_
      refine r_iload_n 1 d_Uc_sorts_17 rfl rfl ?_
      obtain ⟨vu3, evu3, hf⟩ := bnd hf
      obtain ⟨vu4, Mu5⟩ := vu3
      replace hf := lt_of (rfl : vu4 = (vu4, Mu5).1) hf
      replace hf := lt_of (rfl : Mu5 = (vu4, Mu5).2) hf
      refine r_callV [.int p0] d_Uc_sorts_18 lk_Uc_253 sh_30 (cm_Wa_ofTwoSorts evu3) (by decide) rfl rfl (Nat.le_of_ble_eq_true rfl) ?_
      obtain rfl := Option.some.inj hf
      exact r_ireturn d_Uc_sorts_21 rfl rfl
    · replace hf := im qu2 hf
      refine r_ldc d_Uc_sorts_10 k_Uc_71 ?_
      obtain rfl := Option.some.inj hf
      exact r_ireturn d_Uc_sorts_12 rfl rfl
def f_Uc_write (p0 : Int32) (p1 : Int32) (p2 : Int32) (Mu : Mm) : Option (Int32 × Mm) := if (f_To_hasTwo 1 p0 p1 Mu) = 0 then some ((-1000000001), Mu) else if (Mu.1 33 3) < 30 then (f_Bk_add p0 p1 p2 Mu).bind fun vu3 => some (vu3.1 33 3, vu3) else some ((-1000000004), Mu)
theorem cm_Uc_write {G : GT} {p0 : Int32} {p1 : Int32} {p2 : Int32} {Mu : Mm}  {ru : Int32 × Mm}  (hf : f_Uc_write p0 p1 p2 Mu = some ru) : CM G 3 y_Uc_write c_Uc_write 4 (some .int) (some (.int ru.1), ru.2) Mu [.ref 0, .int p0, .int p1, .int p2] := by
  unfold f_Uc_write at hf
  refine CM.of (own := R_Uc) (lv := [some (.ref 0), some (.int p0), some (.int p1), some (.int p2)]) (by decide) rfl (Nat.le_of_ble_eq_true rfl) rfl ?_
  refine r_aload_n 0 d_Uc_write_0 rfl rfl ?_
  refine r_getR 1 d_Uc_write_1 fl_Uc_10 sh_0 rfl rf_0_0 ?_
  refine r_iload_n 1 d_Uc_write_4 rfl rfl ?_
  refine r_iload_n 2 d_Uc_write_5 rfl rfl ?_
  refine r_callV [.int p0, .int p1] d_Uc_write_6 lk_Uc_153 sh_1 (cm_To_hasTwo 1 p0 p1 Mu sh_1) (by decide) rfl rfl (Nat.le_of_ble_eq_true rfl) ?_
  refine r_if_ne 15 d_Uc_write_9 (by decide) (fun qu1 => ?_) (fun qu1 => ?_)
  · replace hf := im qu1 hf
    refine r_aload_n 0 d_Uc_write_15 rfl rfl ?_
    refine r_getR 33 d_Uc_write_16 fl_Uc_57 sh_0 rfl rf_0_7 ?_
    refine r_getI d_Uc_write_19 fl_Uc_138 sh_33 (by decide) ?_
    refine r_bipush (v := 30) d_Uc_write_22 (by decide) ?_
    refine r_icmp_lt 30 d_Uc_write_24 (by decide) (fun qu2 => ?_) (fun qu2 => ?_)
    · replace hf := ip qu2 hf
      refine r_aload_n 0 d_Uc_write_30 rfl rfl ?_
      refine r_getR 33 d_Uc_write_31 fl_Uc_57 sh_0 rfl rf_0_7 ?_
      refine r_iload_n 1 d_Uc_write_34 rfl rfl ?_
      refine r_iload_n 2 d_Uc_write_35 rfl rfl ?_
      refine r_iload_n 3 d_Uc_write_36 rfl rfl ?_
      obtain ⟨vu3, evu3, hf⟩ := bnd hf
      refine r_callV [.int p0, .int p1, .int p2] d_Uc_write_37 lk_Uc_256 sh_33 (cm_Bk_add evu3) (by decide) rfl rfl (Nat.le_of_ble_eq_true rfl) ?_
      refine r_aload_n 0 d_Uc_write_40 rfl rfl ?_
      refine r_getR 33 d_Uc_write_41 fl_Uc_57 sh_0 rfl rf_0_7 ?_
      refine r_getI d_Uc_write_44 fl_Uc_138 sh_33 (by decide) ?_
      obtain rfl := Option.some.inj hf
      exact r_ireturn d_Uc_write_47 rfl rfl
    · replace hf := im qu2 hf
      refine r_ldc d_Uc_write_27 k_Uc_76 ?_
      obtain rfl := Option.some.inj hf
      exact r_ireturn d_Uc_write_29 rfl rfl
  · replace hf := ip qu1 hf
    refine r_ldc d_Uc_write_12 k_Uc_149 ?_
    obtain rfl := Option.some.inj hf
    exact r_ireturn d_Uc_write_14 rfl rfl
def f_Uc_tear (Mu : Mm) : Int32 × Mm := lt (Mu.1 33 3) fun xu1 => lt (f_Bk_empty Mu) fun Mu2 => (xu1, Mu2)
theorem cm_Uc_tear {G : GT} (Mu : Mm)   : CM G 2 y_Uc_tear c_Uc_tear 2 (some .int) (some (.int (f_Uc_tear Mu).1), (f_Uc_tear Mu).2) Mu [.ref 0] := by
  generalize hf : f_Uc_tear Mu = ru
  unfold f_Uc_tear at hf
  refine CM.of (own := R_Uc) (lv := [some (.ref 0), none]) (by decide) rfl (Nat.le_of_ble_eq_true rfl) rfl ?_
  refine r_aload_n 0 d_Uc_tear_0 rfl rfl ?_
  refine r_getR 33 d_Uc_tear_1 fl_Uc_57 sh_0 rfl rf_0_7 ?_
  refine r_getI d_Uc_tear_4 fl_Uc_138 sh_33 (by decide) ?_
  refine nmI (fun xu1 hxu1 => ?_)
  replace hf := lt_of hxu1 hf
  refine r_istore_n (lv' := [some (.ref 0), some (.int xu1)]) 1 d_Uc_tear_7 rfl (by decide) rfl ?_
  refine r_aload_n 0 d_Uc_tear_8 rfl rfl ?_
  refine r_getR 33 d_Uc_tear_9 fl_Uc_57 sh_0 rfl rf_0_7 ?_
  refine r_callV [] d_Uc_tear_12 lk_Uc_98 sh_33 (cm_Bk_empty Mu) (by decide) rfl rfl (Nat.le_of_ble_eq_true rfl) ?_
  refine nmM (fun Mu2 hMu2 => ?_)
  replace hf := lt_of hMu2 hf
  refine r_iload_n 1 d_Uc_tear_15 rfl rfl ?_
  subst hf
  exact r_ireturn d_Uc_tear_16 rfl rfl
def f_Uc_judge (Nu : Nat) (p0 : Int32) (Mu : Mm) : Option (Int32 × Mm) := if p0 < 0 then some ((-1000000002), Mu) else if p0 ≤ 1 then (f_To_copyFrom Nu 6 1 Mu).bind fun vu3 => (f_Bk_tryOn Nu 6 vu3).bind fun vu4 => lt vu4.1 fun vu5 => lt vu4.2 fun Mu6 => if p0 = 0 then some (vu5, Mu6) else (f_To_alikePairs Nu 6 Mu6).bind fun vu8 => some (vu8, Mu6) else some ((-1000000002), Mu)
theorem cm_Uc_judge {G : GT} {Nu : Nat} {p0 : Int32} {Mu : Mm}  {ru : Int32 × Mm}  (hf : f_Uc_judge Nu p0 Mu = some ru) : CM G 5 y_Uc_judge c_Uc_judge 3 (some .int) (some (.int ru.1), ru.2) Mu [.ref 0, .int p0] := by
  unfold f_Uc_judge at hf
  refine CM.of (own := R_Uc) (lv := [some (.ref 0), some (.int p0), none]) (by decide) rfl (Nat.le_of_ble_eq_true rfl) rfl ?_
  refine r_iload_n 1 d_Uc_judge_0 rfl rfl ?_
  refine r_if_lt 9 d_Uc_judge_1 (by decide) (fun qu1 => ?_) (fun qu1 => ?_)
  · replace hf := ip qu1 hf
    refine r_ldc d_Uc_judge_9 k_Uc_71 ?_
    obtain rfl := Option.some.inj hf
    exact r_ireturn d_Uc_judge_11 rfl rfl
  · replace hf := im qu1 hf
    refine r_iload_n 1 d_Uc_judge_4 rfl rfl ?_
    refine r_iconst (v := 1) d_Uc_judge_5 (by decide) ?_
    refine r_icmp_le 12 d_Uc_judge_6 (by decide) (fun qu2 => ?_) (fun qu2 => ?_)
    · replace hf := ip qu2 hf
      refine r_aload_n 0 d_Uc_judge_12 rfl rfl ?_
      refine r_getR 6 d_Uc_judge_13 fl_Uc_16 sh_0 rfl rf_0_1 ?_
      refine r_aload_n 0 d_Uc_judge_16 rfl rfl ?_
      refine r_getR 1 d_Uc_judge_17 fl_Uc_10 sh_0 rfl rf_0_0 ?_
      obtain ⟨vu3, evu3, hf⟩ := bnd hf
      refine r_callV [.ref 1] d_Uc_judge_20 lk_Uc_91 sh_6 (cm_To_copyFrom sh_6 sh_1 evu3) (by decide) rfl rfl (Nat.le_of_ble_eq_true rfl) ?_
      refine r_aload_n 0 d_Uc_judge_23 rfl rfl ?_
      refine r_getR 33 d_Uc_judge_24 fl_Uc_57 sh_0 rfl rf_0_7 ?_
      refine r_aload_n 0 d_Uc_judge_27 rfl rfl ?_
      refine r_getR 6 d_Uc_judge_28 fl_Uc_16 sh_0 rfl rf_0_1 ?_
      obtain ⟨vu4, evu4, hf⟩ := bnd hf
      obtain ⟨vu5, Mu6⟩ := vu4
      replace hf := lt_of (rfl : vu5 = (vu5, Mu6).1) hf
      replace hf := lt_of (rfl : Mu6 = (vu5, Mu6).2) hf
      refine r_callV [.ref 6] d_Uc_judge_31 lk_Uc_260 sh_33 (cm_Bk_tryOn sh_6 evu4) (by decide) rfl rfl (Nat.le_of_ble_eq_true rfl) ?_
      refine r_istore_n (lv' := [some (.ref 0), some (.int p0), some (.int vu5)]) 2 d_Uc_judge_34 rfl (by decide) rfl ?_
      refine r_iload_n 1 d_Uc_judge_35 rfl rfl ?_
      refine r_if_ne 43 d_Uc_judge_36 (by decide) (fun qu7 => ?_) (fun qu7 => ?_)
      · replace hf := im qu7 hf
        refine r_aload_n 0 d_Uc_judge_43 rfl rfl ?_
        refine r_getR 6 d_Uc_judge_44 fl_Uc_16 sh_0 rfl rf_0_1 ?_
        obtain ⟨vu8, evu8, hf⟩ := bnd hf
        refine r_callV [] d_Uc_judge_47 lk_Uc_135 sh_6 (cm_To_alikePairs sh_6 evu8) (by decide) rfl rfl (Nat.le_of_ble_eq_true rfl) ?_
        obtain rfl := Option.some.inj hf
        exact r_ireturn d_Uc_judge_50 rfl rfl
      · replace hf := ip qu7 hf
        refine r_iload_n 2 d_Uc_judge_39 rfl rfl ?_
        refine r_goto 50 d_Uc_judge_40 (by decide) ?_
        obtain rfl := Option.some.inj hf
        exact r_ireturn d_Uc_judge_50 rfl rfl
    · replace hf := im qu2 hf
      refine r_ldc d_Uc_judge_9 k_Uc_71 ?_
      obtain rfl := Option.some.inj hf
      exact r_ireturn d_Uc_judge_11 rfl rfl
def f_Uc_draw (p0 : Int32) (Mu : Mm) : Option (Int32 × Mm) := lt (si Mu 0 10 ((((Mu.1 0 10) * 1103515245) + 12345) &&& 2147483647)) fun Mu1 => if p0 ≤ 0 then some (0, Mu1) else if ¬ p0 = 0 then some (((Mu1.1 0 10) / 65536) - ((Mu1.1 0 10) / 65536) / p0 * p0, Mu1) else none
theorem cm_Uc_draw {G : GT} {p0 : Int32} {Mu : Mm}  {ru : Int32 × Mm}  (hf : f_Uc_draw p0 Mu = some ru) : CM G 1 y_Uc_draw c_Uc_draw 2 (some .int) (some (.int ru.1), ru.2) Mu [.ref 0, .int p0] := by
  unfold f_Uc_draw at hf
  refine CM.of (own := R_Uc) (lv := [some (.ref 0), some (.int p0)]) (by decide) rfl (Nat.le_of_ble_eq_true rfl) rfl ?_
  refine r_aload_n 0 d_Uc_draw_0 rfl rfl ?_
  refine r_aload_n 0 d_Uc_draw_1 rfl rfl ?_
  refine r_getI d_Uc_draw_2 fl_Uc_267 sh_0 (by decide) ?_
  refine r_ldc_w d_Uc_draw_5 k_Uc_282 ?_
  refine r_imul d_Uc_draw_8 ?_
  refine r_sipush (v := 12345) d_Uc_draw_9 (by decide) ?_
  refine r_iadd d_Uc_draw_12 ?_
  refine r_ldc_w d_Uc_draw_13 k_Uc_283 ?_
  refine r_iand d_Uc_draw_16 ?_
  refine r_putI d_Uc_draw_17 fl_Uc_267 sh_0 (Or.inl rfl) rfl ?_
  refine nmM (fun Mu1 hMu1 => ?_)
  replace hf := lt_of hMu1 hf
  refine r_iload_n 1 d_Uc_draw_20 rfl rfl ?_
  refine r_if_le 37 d_Uc_draw_21 (by decide) (fun qu2 => ?_) (fun qu2 => ?_)
  · replace hf := ip qu2 hf
    refine r_iconst (v := 0) d_Uc_draw_37 (by decide) ?_
    obtain rfl := Option.some.inj hf
    exact r_ireturn d_Uc_draw_38 rfl rfl
  · replace hf := im qu2 hf
    refine r_aload_n 0 d_Uc_draw_24 rfl rfl ?_
    refine r_getI d_Uc_draw_25 fl_Uc_267 sh_0 (by decide) ?_
    refine r_ldc_w d_Uc_draw_28 k_Uc_284 ?_
    refine r_idiv d_Uc_draw_31 (by decide) ?_
    refine r_iload_n 1 d_Uc_draw_32 rfl rfl ?_
    obtain ⟨qu3, hf⟩ := ckz hf
    refine r_irem d_Uc_draw_33 qu3 ?_
    refine r_goto 38 d_Uc_draw_34 (by decide) ?_
    obtain rfl := Option.some.inj hf
    exact r_ireturn d_Uc_draw_38 rfl rfl
def L_Uc_changePair_4 (Nu : Nat) (p0 : Int32) (Mu : Mm) (ju1 : Int32 → Int32 → Option (Mm)) : Nat → Int32 → Int32 → Option (Mm)
  | 0, _, _ => none
  | nu + 1, z2_4, z3_4 => if ((Mu.1 1 0) - 2) ≤ z2_4 then ju1 z2_4 z3_4 else if p0 < (((z3_4 + (Mu.1 1 0)) - 1) - z2_4) then ju1 z2_4 z3_4 else lt (z3_4 + (((Mu.1 1 0) - 1) - z2_4)) fun xu15 => lt (z2_4 + 1) fun xu16 => L_Uc_changePair_4 Nu p0 Mu ju1 nu xu16 xu15
def f_Uc_changePair (Nu : Nat) (p0 : Int32) (Mu : Mm) : Option (Mm) := lt (fun (xu2 : Int32) (xu3 : Int32) => lt (((xu2 + 1) + p0) - xu3) fun xu4 => if (f_To_hasTwo 1 xu2 xu4 Mu) = 0 then some Mu else (f_To_areFriends 1 xu2 xu4 Mu).bind fun vu6 => lt (fun (xu8 : Int32) => (f_To_allows 1 xu2 xu4 xu8 Mu).bind fun vu9 => if vu9 = 0 then some Mu else (f_To_mark 1 2 xu2 xu4 xu8 Mu).bind fun vu11 => some vu11) fun ju7 => if vu6 = 0 then ju7 1 else ju7 0) fun ju1 => L_Uc_changePair_4 Nu p0 Mu ju1 Nu 0 0
theorem l_Uc_changePair_4 {G : GT} {ru : Mm} (Nu : Nat) (p0 : Int32) (Mu : Mm) (ju1 : Int32 → Int32 → Option (Mm))  (Kju1 : ∀ (w2 : Int32) (w3 : Int32), ju1 w2 w3 = some ru → SW G 3 c_Uc_changePair R_Uc 6 none (none, ru) Mu 54 [some (.ref 0), some (.int p0), some (.int w2), some (.int w3), none, none] [])  : ∀ (nu : Nat) (z2_4 : Int32) (z3_4 : Int32), L_Uc_changePair_4 Nu p0 Mu ju1 nu z2_4 z3_4 = some ru → SW G 3 c_Uc_changePair R_Uc 6 none (none, ru) Mu 4 [some (.ref 0), some (.int p0), some (.int z2_4), some (.int z3_4), none, none] []
  | 0, _, _, hf => by cases hf
  | nu + 1, z2_4, z3_4, hf => by
    have ih := l_Uc_changePair_4 (G := G) (ru := ru) Nu p0 Mu ju1  Kju1 nu
    rw [L_Uc_changePair_4] at hf
    refine r_iload_n 2 d_Uc_changePair_4 rfl rfl ?_
    refine r_aload_n 0 d_Uc_changePair_5 rfl rfl ?_
    refine r_getR 1 d_Uc_changePair_6 fl_Uc_10 sh_0 rfl rf_0_0 ?_
    refine r_getI d_Uc_changePair_9 fl_Uc_105 sh_1 (by decide) ?_
    refine r_iconst (v := 2) d_Uc_changePair_12 (by decide) ?_
    refine r_isub d_Uc_changePair_13 ?_
    refine r_icmp_ge 54 d_Uc_changePair_14 (by decide) (fun qu13 => ?_) (fun qu13 => ?_)
    · replace hf := ip qu13 hf
      exact Kju1 z2_4 z3_4  hf
    · replace hf := im qu13 hf
      refine r_iload_n 1 d_Uc_changePair_17 rfl rfl ?_
      refine r_iload_n 3 d_Uc_changePair_18 rfl rfl ?_
      refine r_aload_n 0 d_Uc_changePair_19 rfl rfl ?_
      refine r_getR 1 d_Uc_changePair_20 fl_Uc_10 sh_0 rfl rf_0_0 ?_
      refine r_getI d_Uc_changePair_23 fl_Uc_105 sh_1 (by decide) ?_
      refine r_iadd d_Uc_changePair_26 ?_
      refine r_iconst (v := 1) d_Uc_changePair_27 (by decide) ?_
      refine r_isub d_Uc_changePair_28 ?_
      refine r_iload_n 2 d_Uc_changePair_29 rfl rfl ?_
      refine r_isub d_Uc_changePair_30 ?_
      refine r_icmp_lt 54 d_Uc_changePair_31 (by decide) (fun qu14 => ?_) (fun qu14 => ?_)
      · replace hf := ip qu14 hf
        exact Kju1 z2_4 z3_4  hf
      · replace hf := im qu14 hf
        refine r_iload_n 3 d_Uc_changePair_34 rfl rfl ?_
        refine r_aload_n 0 d_Uc_changePair_35 rfl rfl ?_
        refine r_getR 1 d_Uc_changePair_36 fl_Uc_10 sh_0 rfl rf_0_0 ?_
        refine r_getI d_Uc_changePair_39 fl_Uc_105 sh_1 (by decide) ?_
        refine r_iconst (v := 1) d_Uc_changePair_42 (by decide) ?_
        refine r_isub d_Uc_changePair_43 ?_
        refine r_iload_n 2 d_Uc_changePair_44 rfl rfl ?_
        refine r_isub d_Uc_changePair_45 ?_
        refine r_iadd d_Uc_changePair_46 ?_
        refine nmI (fun xu15 hxu15 => ?_)
        replace hf := lt_of hxu15 hf
        refine r_istore_n (lv' := [some (.ref 0), some (.int p0), some (.int z2_4), some (.int xu15), none, none]) 3 d_Uc_changePair_47 rfl (by decide) rfl ?_
        obtain ⟨xu16, hxu16⟩ : ∃ y : Int32, y = z2_4 + 1 := ⟨_, rfl⟩
        replace hf := lt_of hxu16 hf
        refine r_iinc (lv' := [some (.ref 0), some (.int p0), some (.int xu16), some (.int xu15), none, none]) d_Uc_changePair_48 rfl (by rw [hxu16]; rfl) (by decide) rfl ?_
        refine r_goto 4 d_Uc_changePair_51 (by decide) ?_
        exact ih xu16 xu15  hf
theorem cm_Uc_changePair {G : GT} {Nu : Nat} {p0 : Int32} {Mu : Mm}  {ru : Mm}  (hf : f_Uc_changePair Nu p0 Mu = some ru) : CM G 3 y_Uc_changePair c_Uc_changePair 6 none (none, ru) Mu [.ref 0, .int p0] := by
  unfold f_Uc_changePair at hf
  refine CM.of (own := R_Uc) (lv := [some (.ref 0), some (.int p0), none, none, none, none]) (by decide) rfl (Nat.le_of_ble_eq_true rfl) rfl ?_
  refine r_iconst (v := 0) d_Uc_changePair_0 (by decide) ?_
  refine r_istore_n (lv' := [some (.ref 0), some (.int p0), some (.int 0), none, none, none]) 2 d_Uc_changePair_1 rfl (by decide) rfl ?_
  refine r_iconst (v := 0) d_Uc_changePair_2 (by decide) ?_
  refine r_istore_n (lv' := [some (.ref 0), some (.int p0), some (.int 0), some (.int 0), none, none]) 3 d_Uc_changePair_3 rfl (by decide) rfl ?_
  obtain ⟨ju1, hju1, hf⟩ := lt_ex hf
  have Kju1 : ∀ (xu2 : Int32) (xu3 : Int32), ju1 xu2 xu3 = some ru → SW G 3 c_Uc_changePair R_Uc 6 none (none, ru) Mu 54 [some (.ref 0), some (.int p0), some (.int xu2), some (.int xu3), none, none] [] := by
    intro xu2 xu3 hf
    rw [hju1] at hf
    refine r_iload_n 2 d_Uc_changePair_54 rfl rfl ?_
    refine r_iconst (v := 1) d_Uc_changePair_55 (by decide) ?_
    refine r_iadd d_Uc_changePair_56 ?_
    refine r_iload_n 1 d_Uc_changePair_57 rfl rfl ?_
    refine r_iadd d_Uc_changePair_58 ?_
    refine r_iload_n 3 d_Uc_changePair_59 rfl rfl ?_
    refine r_isub d_Uc_changePair_60 ?_
    refine nmI (fun xu4 hxu4 => ?_)
    replace hf := lt_of hxu4 hf
    refine r_istore (lv' := [some (.ref 0), some (.int p0), some (.int xu2), some (.int xu3), some (.int xu4), none]) d_Uc_changePair_61 (by decide) rfl ?_
    refine r_aload_n 0 d_Uc_changePair_63 rfl rfl ?_
    refine r_getR 1 d_Uc_changePair_64 fl_Uc_10 sh_0 rfl rf_0_0 ?_
    refine r_iload_n 2 d_Uc_changePair_67 rfl rfl ?_
    refine r_iload d_Uc_changePair_68 rfl ?_
    refine r_callV [.int xu2, .int xu4] d_Uc_changePair_70 lk_Uc_153 sh_1 (cm_To_hasTwo 1 xu2 xu4 Mu sh_1) (by decide) rfl rfl (Nat.le_of_ble_eq_true rfl) ?_
    refine r_if_ne 77 d_Uc_changePair_73 (by decide) (fun qu5 => ?_) (fun qu5 => ?_)
    · replace hf := im qu5 hf
      refine r_aload_n 0 d_Uc_changePair_77 rfl rfl ?_
      refine r_getR 1 d_Uc_changePair_78 fl_Uc_10 sh_0 rfl rf_0_0 ?_
      refine r_iload_n 2 d_Uc_changePair_81 rfl rfl ?_
      refine r_iload d_Uc_changePair_82 rfl ?_
      obtain ⟨vu6, evu6, hf⟩ := bnd hf
      refine r_callV [.int xu2, .int xu4] d_Uc_changePair_84 lk_Uc_166 sh_1 (cm_To_areFriends sh_1 evu6) (by decide) rfl rfl (Nat.le_of_ble_eq_true rfl) ?_
      obtain ⟨ju7, hju7, hf⟩ := lt_ex hf
      have Kju7 : ∀ (xu8 : Int32), ju7 xu8 = some ru → SW G 3 c_Uc_changePair R_Uc 6 none (none, ru) Mu 95 [some (.ref 0), none, some (.int xu2), none, some (.int xu4), none] [.int xu8] := by
        intro xu8 hf
        rw [hju7] at hf
        refine r_istore (lv' := [some (.ref 0), none, some (.int xu2), none, some (.int xu4), some (.int xu8)]) d_Uc_changePair_95 (by decide) rfl ?_
        refine r_aload_n 0 d_Uc_changePair_97 rfl rfl ?_
        refine r_getR 1 d_Uc_changePair_98 fl_Uc_10 sh_0 rfl rf_0_0 ?_
        refine r_iload_n 2 d_Uc_changePair_101 rfl rfl ?_
        refine r_iload d_Uc_changePair_102 rfl ?_
        refine r_iload d_Uc_changePair_104 rfl ?_
        obtain ⟨vu9, evu9, hf⟩ := bnd hf
        refine r_callV [.int xu2, .int xu4, .int xu8] d_Uc_changePair_106 lk_Uc_161 sh_1 (cm_To_allows sh_1 evu9) (by decide) rfl rfl (Nat.le_of_ble_eq_true rfl) ?_
        refine r_if_eq 131 d_Uc_changePair_109 (by decide) (fun qu10 => ?_) (fun qu10 => ?_)
        · replace hf := ip qu10 hf
          obtain rfl := Option.some.inj hf
          exact r_return d_Uc_changePair_131 rfl rfl
        · replace hf := im qu10 hf
          refine r_aload_n 0 d_Uc_changePair_112 rfl rfl ?_
          refine r_getR 1 d_Uc_changePair_113 fl_Uc_10 sh_0 rfl rf_0_0 ?_
          refine r_aload_n 0 d_Uc_changePair_116 rfl rfl ?_
          refine r_getR 1 d_Uc_changePair_117 fl_Uc_10 sh_0 rfl rf_0_0 ?_
          refine r_getR 2 d_Uc_changePair_120 fl_Uc_115 sh_1 rfl rf_1_3 ?_
          refine r_iload_n 2 d_Uc_changePair_123 rfl rfl ?_
          refine r_iload d_Uc_changePair_124 rfl ?_
          refine r_iload d_Uc_changePair_126 rfl ?_
          obtain ⟨vu11, evu11, hf⟩ := bnd hf
          refine r_callV [.ref 2, .int xu2, .int xu4, .int xu8] d_Uc_changePair_128 lk_Uc_169 sh_1 (cm_To_mark sh_1 sh_2 evu11) (by decide) rfl rfl (Nat.le_of_ble_eq_true rfl) ?_
          obtain rfl := Option.some.inj hf
          exact r_return d_Uc_changePair_131 rfl rfl
      refine r_if_ne 94 d_Uc_changePair_87 (by decide) (fun qu12 => ?_) (fun qu12 => ?_)
      · replace hf := im qu12 hf
        refine r_iconst (v := 0) d_Uc_changePair_94 (by decide) ?_
        refine r_weak [1, 3] (lv' := [some (.ref 0), none, some (.int xu2), none, some (.int xu4), none]) rfl ?_
        exact Kju7 0  hf
      · replace hf := ip qu12 hf
        refine r_iconst (v := 1) d_Uc_changePair_90 (by decide) ?_
        refine r_goto 95 d_Uc_changePair_91 (by decide) ?_
        refine r_weak [1, 3] (lv' := [some (.ref 0), none, some (.int xu2), none, some (.int xu4), none]) rfl ?_
        exact Kju7 1  hf
    · replace hf := ip qu5 hf
      obtain rfl := Option.some.inj hf
      exact r_return d_Uc_changePair_76 rfl rfl
  exact l_Uc_changePair_4 (G := G) (ru := ru) Nu p0 Mu ju1  Kju1 Nu 0 0 hf
def f_Uc_liveWeek (Nu : Nat) (Mu : Mm) : Option (Mm) := (f_Uc_draw 8 Mu).bind fun vu1 => lt vu1.1 fun vu2 => lt vu1.2 fun Mu3 => if vu2 = 0 then if 8 ≤ (Mu3.1 1 0) then some Mu3 else (f_To_addPerson Nu 1 Mu3).bind fun vu17 => some vu17 else if vu2 = 1 then if (Mu3.1 1 0) ≤ 1 then some Mu3 else (f_Uc_draw (Mu3.1 1 0) Mu3).bind fun vu12 => lt vu12.1 fun vu13 => lt vu12.2 fun Mu14 => (f_To_removePerson Nu 1 vu13 Mu14).bind fun vu15 => some vu15 else if (Mu3.1 1 0) ≤ 1 then some Mu3 else (f_Uc_draw (((Mu3.1 1 0) * ((Mu3.1 1 0) - 1)) / 2) Mu3).bind fun vu7 => lt vu7.1 fun vu8 => lt vu7.2 fun Mu9 => (f_Uc_changePair Nu vu8 Mu9).bind fun vu10 => some vu10
theorem cm_Uc_liveWeek {G : GT} {Nu : Nat} {Mu : Mm}  {ru : Mm}  (hf : f_Uc_liveWeek Nu Mu = some ru) : CM G 5 y_Uc_liveWeek c_Uc_liveWeek 2 none (none, ru) Mu [.ref 0] := by
  unfold f_Uc_liveWeek at hf
  refine CM.of (own := R_Uc) (lv := [some (.ref 0), none]) (by decide) rfl (Nat.le_of_ble_eq_true rfl) rfl ?_
  refine r_aload_n 0 d_Uc_liveWeek_0 rfl rfl ?_
  refine r_bipush (v := 8) d_Uc_liveWeek_1 (by decide) ?_
  obtain ⟨vu1, evu1, hf⟩ := bnd hf
  obtain ⟨vu2, Mu3⟩ := vu1
  replace hf := lt_of (rfl : vu2 = (vu2, Mu3).1) hf
  replace hf := lt_of (rfl : Mu3 = (vu2, Mu3).2) hf
  refine r_callV [.int 8] d_Uc_liveWeek_3 lk_Uc_276 sh_0 (cm_Uc_draw evu1) (by decide) rfl rfl (Nat.le_of_ble_eq_true rfl) ?_
  refine r_istore_n (lv' := [some (.ref 0), some (.int vu2)]) 1 d_Uc_liveWeek_6 rfl (by decide) rfl ?_
  refine r_iload_n 1 d_Uc_liveWeek_7 rfl rfl ?_
  refine r_if_ne 33 d_Uc_liveWeek_8 (by decide) (fun qu4 => ?_) (fun qu4 => ?_)
  · replace hf := im qu4 hf
    refine r_iload_n 1 d_Uc_liveWeek_33 rfl rfl ?_
    refine r_iconst (v := 1) d_Uc_liveWeek_34 (by decide) ?_
    refine r_icmp_ne 70 d_Uc_liveWeek_35 (by decide) (fun qu5 => ?_) (fun qu5 => ?_)
    · replace hf := im qu5 hf
      refine r_aload_n 0 d_Uc_liveWeek_70 rfl rfl ?_
      refine r_getR 1 d_Uc_liveWeek_71 fl_Uc_10 sh_0 rfl rf_0_0 ?_
      refine r_getI d_Uc_liveWeek_74 fl_Uc_105 sh_1 (by decide) ?_
      refine r_iconst (v := 1) d_Uc_liveWeek_77 (by decide) ?_
      refine r_icmp_le 108 d_Uc_liveWeek_78 (by decide) (fun qu6 => ?_) (fun qu6 => ?_)
      · replace hf := ip qu6 hf
        obtain rfl := Option.some.inj hf
        exact r_return d_Uc_liveWeek_108 rfl rfl
      · replace hf := im qu6 hf
        refine r_aload_n 0 d_Uc_liveWeek_81 rfl rfl ?_
        refine r_aload_n 0 d_Uc_liveWeek_82 rfl rfl ?_
        refine r_aload_n 0 d_Uc_liveWeek_83 rfl rfl ?_
        refine r_getR 1 d_Uc_liveWeek_84 fl_Uc_10 sh_0 rfl rf_0_0 ?_
        refine r_getI d_Uc_liveWeek_87 fl_Uc_105 sh_1 (by decide) ?_
        refine r_aload_n 0 d_Uc_liveWeek_90 rfl rfl ?_
        refine r_getR 1 d_Uc_liveWeek_91 fl_Uc_10 sh_0 rfl rf_0_0 ?_
        refine r_getI d_Uc_liveWeek_94 fl_Uc_105 sh_1 (by decide) ?_
        refine r_iconst (v := 1) d_Uc_liveWeek_97 (by decide) ?_
        refine r_isub d_Uc_liveWeek_98 ?_
        refine r_imul d_Uc_liveWeek_99 ?_
        refine r_iconst (v := 2) d_Uc_liveWeek_100 (by decide) ?_
        refine r_idiv d_Uc_liveWeek_101 (by decide) ?_
        obtain ⟨vu7, evu7, hf⟩ := bnd hf
        obtain ⟨vu8, Mu9⟩ := vu7
        replace hf := lt_of (rfl : vu8 = (vu8, Mu9).1) hf
        replace hf := lt_of (rfl : Mu9 = (vu8, Mu9).2) hf
        refine r_callV [.int (((Mu3.1 1 0) * ((Mu3.1 1 0) - 1)) / 2)] d_Uc_liveWeek_102 lk_Uc_276 sh_0 (cm_Uc_draw evu7) (by decide) rfl rfl (Nat.le_of_ble_eq_true rfl) ?_
        obtain ⟨vu10, evu10, hf⟩ := bnd hf
        refine r_callV [.int vu8] d_Uc_liveWeek_105 lk_Uc_279 sh_0 (cm_Uc_changePair evu10) (by decide) rfl rfl (Nat.le_of_ble_eq_true rfl) ?_
        obtain rfl := Option.some.inj hf
        exact r_return d_Uc_liveWeek_108 rfl rfl
    · replace hf := ip qu5 hf
      refine r_aload_n 0 d_Uc_liveWeek_38 rfl rfl ?_
      refine r_getR 1 d_Uc_liveWeek_39 fl_Uc_10 sh_0 rfl rf_0_0 ?_
      refine r_getI d_Uc_liveWeek_42 fl_Uc_105 sh_1 (by decide) ?_
      refine r_iconst (v := 1) d_Uc_liveWeek_45 (by decide) ?_
      refine r_icmp_le 108 d_Uc_liveWeek_46 (by decide) (fun qu11 => ?_) (fun qu11 => ?_)
      · replace hf := ip qu11 hf
        obtain rfl := Option.some.inj hf
        exact r_return d_Uc_liveWeek_108 rfl rfl
      · replace hf := im qu11 hf
        refine r_aload_n 0 d_Uc_liveWeek_49 rfl rfl ?_
        refine r_getR 1 d_Uc_liveWeek_50 fl_Uc_10 sh_0 rfl rf_0_0 ?_
        refine r_aload_n 0 d_Uc_liveWeek_53 rfl rfl ?_
        refine r_aload_n 0 d_Uc_liveWeek_54 rfl rfl ?_
        refine r_getR 1 d_Uc_liveWeek_55 fl_Uc_10 sh_0 rfl rf_0_0 ?_
        refine r_getI d_Uc_liveWeek_58 fl_Uc_105 sh_1 (by decide) ?_
        obtain ⟨vu12, evu12, hf⟩ := bnd hf
        obtain ⟨vu13, Mu14⟩ := vu12
        replace hf := lt_of (rfl : vu13 = (vu13, Mu14).1) hf
        replace hf := lt_of (rfl : Mu14 = (vu13, Mu14).2) hf
        refine r_callV [.int (Mu3.1 1 0)] d_Uc_liveWeek_61 lk_Uc_276 sh_0 (cm_Uc_draw evu12) (by decide) rfl rfl (Nat.le_of_ble_eq_true rfl) ?_
        obtain ⟨vu15, evu15, hf⟩ := bnd hf
        refine r_callV [.int vu13] d_Uc_liveWeek_64 lk_Uc_183 sh_1 (cm_To_removePerson sh_1 evu15) (by decide) rfl rfl (Nat.le_of_ble_eq_true rfl) ?_
        refine r_goto 108 d_Uc_liveWeek_67 (by decide) ?_
        obtain rfl := Option.some.inj hf
        exact r_return d_Uc_liveWeek_108 rfl rfl
  · replace hf := ip qu4 hf
    refine r_aload_n 0 d_Uc_liveWeek_11 rfl rfl ?_
    refine r_getR 1 d_Uc_liveWeek_12 fl_Uc_10 sh_0 rfl rf_0_0 ?_
    refine r_getI d_Uc_liveWeek_15 fl_Uc_105 sh_1 (by decide) ?_
    refine r_bipush (v := 8) d_Uc_liveWeek_18 (by decide) ?_
    refine r_icmp_ge 108 d_Uc_liveWeek_20 (by decide) (fun qu16 => ?_) (fun qu16 => ?_)
    · replace hf := ip qu16 hf
      obtain rfl := Option.some.inj hf
      exact r_return d_Uc_liveWeek_108 rfl rfl
    · replace hf := im qu16 hf
      refine r_aload_n 0 d_Uc_liveWeek_23 rfl rfl ?_
      refine r_getR 1 d_Uc_liveWeek_24 fl_Uc_10 sh_0 rfl rf_0_0 ?_
      obtain ⟨vu17, evu17, hf⟩ := bnd hf
      refine r_callV [] d_Uc_liveWeek_27 lk_Uc_180 sh_1 (cm_To_addPerson sh_1 evu17) (by decide) rfl rfl (Nat.le_of_ble_eq_true rfl) ?_
      refine r_goto 108 d_Uc_liveWeek_30 (by decide) ?_
      obtain rfl := Option.some.inj hf
      exact r_return d_Uc_liveWeek_108 rfl rfl
def L_Uc_drift_30 (Nu : Nat) (p0 : Int32) (ju4 : Mm → Option (Int32 × Mm)) : Nat → Int32 → Mm → Option (Int32 × Mm)
  | 0, _, _ => none
  | nu + 1, z2_30, M_30 => if p0 ≤ z2_30 then ju4 M_30 else (f_Uc_liveWeek Nu M_30).bind fun vu8 => lt (z2_30 + 1) fun xu9 => L_Uc_drift_30 Nu p0 ju4 nu xu9 vu8
def f_Uc_drift (Nu : Nat) (p0 : Int32) (Mu : Mm) : Option (Int32 × Mm) := if p0 < 1 then some ((-1000000002), Mu) else if p0 ≤ 99 then if 1 ≤ (Mu.1 1 0) then lt (fun (Mu5 : Mm) => (f_To_asNumber Nu 1 2 Mu5).bind fun vu6 => some (vu6, Mu5)) fun ju4 => L_Uc_drift_30 Nu p0 ju4 Nu 0 Mu else some ((-1000000003), Mu) else some ((-1000000002), Mu)
theorem l_Uc_drift_30 {G : GT} {ru : Int32 × Mm} (Nu : Nat) (p0 : Int32) (ju4 : Mm → Option (Int32 × Mm))  (Kju4 : ∀ (Mw : Mm), ju4 Mw = some ru → SW G 6 c_Uc_drift R_Uc 3 (some .int) (some (.int ru.1), ru.2) Mw 45 [some (.ref 0), none, none] [])  : ∀ (nu : Nat) (z2_30 : Int32) (M_30 : Mm), L_Uc_drift_30 Nu p0 ju4 nu z2_30 M_30 = some ru → SW G 6 c_Uc_drift R_Uc 3 (some .int) (some (.int ru.1), ru.2) M_30 30 [some (.ref 0), some (.int p0), some (.int z2_30)] []
  | 0, _, _, hf => by cases hf
  | nu + 1, z2_30, M_30, hf => by
    have ih := l_Uc_drift_30 (G := G) (ru := ru) Nu p0 ju4  Kju4 nu
    rw [L_Uc_drift_30] at hf
    refine r_iload_n 2 d_Uc_drift_30 rfl rfl ?_
    refine r_iload_n 1 d_Uc_drift_31 rfl rfl ?_
    refine r_icmp_ge 45 d_Uc_drift_32 (by decide) (fun qu7 => ?_) (fun qu7 => ?_)
    · replace hf := ip qu7 hf
      refine r_weak [1, 2] (lv' := [some (.ref 0), none, none]) rfl ?_
      exact Kju4 M_30  hf
    · replace hf := im qu7 hf
      refine r_aload_n 0 d_Uc_drift_35 rfl rfl ?_
      obtain ⟨vu8, evu8, hf⟩ := bnd hf
      refine r_callV [] d_Uc_drift_36 lk_Uc_264 sh_0 (cm_Uc_liveWeek evu8) (by decide) rfl rfl (Nat.le_of_ble_eq_true rfl) ?_
      obtain ⟨xu9, hxu9⟩ : ∃ y : Int32, y = z2_30 + 1 := ⟨_, rfl⟩
      replace hf := lt_of hxu9 hf
      refine r_iinc (lv' := [some (.ref 0), some (.int p0), some (.int xu9)]) d_Uc_drift_39 rfl (by rw [hxu9]; rfl) (by decide) rfl ?_
      refine r_goto 30 d_Uc_drift_42 (by decide) ?_
      exact ih xu9 vu8  hf
theorem cm_Uc_drift {G : GT} {Nu : Nat} {p0 : Int32} {Mu : Mm}  {ru : Int32 × Mm}  (hf : f_Uc_drift Nu p0 Mu = some ru) : CM G 6 y_Uc_drift c_Uc_drift 3 (some .int) (some (.int ru.1), ru.2) Mu [.ref 0, .int p0] := by
  unfold f_Uc_drift at hf
  refine CM.of (own := R_Uc) (lv := [some (.ref 0), some (.int p0), none]) (by decide) rfl (Nat.le_of_ble_eq_true rfl) rfl ?_
  refine r_iload_n 1 d_Uc_drift_0 rfl rfl ?_
  refine r_iconst (v := 1) d_Uc_drift_1 (by decide) ?_
  refine r_icmp_lt 11 d_Uc_drift_2 (by decide) (fun qu1 => ?_) (fun qu1 => ?_)
  · replace hf := ip qu1 hf
    refine r_ldc d_Uc_drift_11 k_Uc_71 ?_
    obtain rfl := Option.some.inj hf
    exact r_ireturn d_Uc_drift_13 rfl rfl
  · replace hf := im qu1 hf
    refine r_iload_n 1 d_Uc_drift_5 rfl rfl ?_
    refine r_bipush (v := 99) d_Uc_drift_6 (by decide) ?_
    refine r_icmp_le 14 d_Uc_drift_8 (by decide) (fun qu2 => ?_) (fun qu2 => ?_)
    · replace hf := ip qu2 hf
      refine r_aload_n 0 d_Uc_drift_14 rfl rfl ?_
      refine r_getR 1 d_Uc_drift_15 fl_Uc_10 sh_0 rfl rf_0_0 ?_
      refine r_getI d_Uc_drift_18 fl_Uc_105 sh_1 (by decide) ?_
      refine r_iconst (v := 1) d_Uc_drift_21 (by decide) ?_
      refine r_icmp_ge 28 d_Uc_drift_22 (by decide) (fun qu3 => ?_) (fun qu3 => ?_)
      · replace hf := ip qu3 hf
        refine r_iconst (v := 0) d_Uc_drift_28 (by decide) ?_
        refine r_istore_n (lv' := [some (.ref 0), some (.int p0), some (.int 0)]) 2 d_Uc_drift_29 rfl (by decide) rfl ?_
        obtain ⟨ju4, hju4, hf⟩ := lt_ex hf
        have Kju4 : ∀ (Mu5 : Mm), ju4 Mu5 = some ru → SW G 6 c_Uc_drift R_Uc 3 (some .int) (some (.int ru.1), ru.2) Mu5 45 [some (.ref 0), none, none] [] := by
          intro Mu5 hf
          rw [hju4] at hf
          refine r_aload_n 0 d_Uc_drift_45 rfl rfl ?_
          refine r_getR 1 d_Uc_drift_46 fl_Uc_10 sh_0 rfl rf_0_0 ?_
          refine r_aload_n 0 d_Uc_drift_49 rfl rfl ?_
          refine r_getR 1 d_Uc_drift_50 fl_Uc_10 sh_0 rfl rf_0_0 ?_
          refine r_getR 2 d_Uc_drift_53 fl_Uc_115 sh_1 rfl rf_1_3 ?_
          obtain ⟨vu6, evu6, hf⟩ := bnd hf
          refine r_callV [.ref 2] d_Uc_drift_56 lk_Uc_119 sh_1 (cm_To_asNumber sh_1 sh_2 evu6) (by decide) rfl rfl (Nat.le_of_ble_eq_true rfl) ?_
          obtain rfl := Option.some.inj hf
          exact r_ireturn d_Uc_drift_59 rfl rfl
        exact l_Uc_drift_30 (G := G) (ru := ru) Nu p0 ju4  Kju4 Nu 0 Mu hf
      · replace hf := im qu3 hf
        refine r_ldc d_Uc_drift_25 k_Uc_165 ?_
        obtain rfl := Option.some.inj hf
        exact r_ireturn d_Uc_drift_27 rfl rfl
    · replace hf := im qu2 hf
      refine r_ldc d_Uc_drift_11 k_Uc_71 ?_
      obtain rfl := Option.some.inj hf
      exact r_ireturn d_Uc_drift_13 rfl rfl
def f_Uc_seed (p0 : Int32) (Mu : Mm) : Int32 × Mm := if 0 ≤ p0 then lt (Mu.1 0 10) fun xu2 => lt (si Mu 0 10 p0) fun Mu3 => (xu2, Mu3) else ((-1000000002), Mu)
theorem cm_Uc_seed {G : GT} (p0 : Int32) (Mu : Mm)   : CM G 1 y_Uc_seed c_Uc_seed 3 (some .int) (some (.int (f_Uc_seed p0 Mu).1), (f_Uc_seed p0 Mu).2) Mu [.ref 0, .int p0] := by
  generalize hf : f_Uc_seed p0 Mu = ru
  unfold f_Uc_seed at hf
  refine CM.of (own := R_Uc) (lv := [some (.ref 0), some (.int p0), none]) (by decide) rfl (Nat.le_of_ble_eq_true rfl) rfl ?_
  refine r_iload_n 1 d_Uc_seed_0 rfl rfl ?_
  refine r_if_ge 7 d_Uc_seed_1 (by decide) (fun qu1 => ?_) (fun qu1 => ?_)
  · replace hf := ip qu1 hf
    refine r_aload_n 0 d_Uc_seed_7 rfl rfl ?_
    refine r_getI d_Uc_seed_8 fl_Uc_267 sh_0 (by decide) ?_
    refine nmI (fun xu2 hxu2 => ?_)
    replace hf := lt_of hxu2 hf
    refine r_istore_n (lv' := [some (.ref 0), some (.int p0), some (.int xu2)]) 2 d_Uc_seed_11 rfl (by decide) rfl ?_
    refine r_aload_n 0 d_Uc_seed_12 rfl rfl ?_
    refine r_iload_n 1 d_Uc_seed_13 rfl rfl ?_
    refine r_putI d_Uc_seed_14 fl_Uc_267 sh_0 (Or.inl rfl) rfl ?_
    refine nmM (fun Mu3 hMu3 => ?_)
    replace hf := lt_of hMu3 hf
    refine r_iload_n 2 d_Uc_seed_17 rfl rfl ?_
    subst hf
    exact r_ireturn d_Uc_seed_18 rfl rfl
  · replace hf := im qu1 hf
    refine r_ldc d_Uc_seed_4 k_Uc_71 ?_
    subst hf
    exact r_ireturn d_Uc_seed_6 rfl rfl
def f_Uc_keep (Nu : Nat) (p0 : Int32) (Mu : Mm) : Option (Int32 × Mm) := if p0 < 0 then some ((-1000000001), Mu) else if p0 ≤ 1 then lt (fun (xu4 : Nat) => (f_To_copyFrom Nu (xu4 + 1) 1 Mu).bind fun vu5 => lt (si vu5 xu4 1 (vu5.1 0 10)) fun Mu6 => lt (si Mu6 xu4 2 1) fun Mu7 => some (1, Mu7)) fun ju3 => if p0 = 0 then ju3 37 else ju3 43 else some ((-1000000001), Mu)
theorem cm_Uc_keep {G : GT} {Nu : Nat} {p0 : Int32} {Mu : Mm}  {ru : Int32 × Mm}  (hf : f_Uc_keep Nu p0 Mu = some ru) : CM G 2 y_Uc_keep c_Uc_keep 3 (some .int) (some (.int ru.1), ru.2) Mu [.ref 0, .int p0] := by
  unfold f_Uc_keep at hf
  refine CM.of (own := R_Uc) (lv := [some (.ref 0), some (.int p0), none]) (by decide) rfl (Nat.le_of_ble_eq_true rfl) rfl ?_
  refine r_iload_n 1 d_Uc_keep_0 rfl rfl ?_
  refine r_if_lt 9 d_Uc_keep_1 (by decide) (fun qu1 => ?_) (fun qu1 => ?_)
  · replace hf := ip qu1 hf
    refine r_ldc d_Uc_keep_9 k_Uc_149 ?_
    obtain rfl := Option.some.inj hf
    exact r_ireturn d_Uc_keep_11 rfl rfl
  · replace hf := im qu1 hf
    refine r_iload_n 1 d_Uc_keep_4 rfl rfl ?_
    refine r_iconst (v := 1) d_Uc_keep_5 (by decide) ?_
    refine r_icmp_le 12 d_Uc_keep_6 (by decide) (fun qu2 => ?_) (fun qu2 => ?_)
    · replace hf := ip qu2 hf
      refine r_iload_n 1 d_Uc_keep_12 rfl rfl ?_
      obtain ⟨ju3, hju3, hf⟩ := lt_ex hf
      have Kju3 : ∀ (xu4 : Nat), sh xu4 = (1, 0) → ju3 xu4 = some ru → SW G 2 c_Uc_keep R_Uc 3 (some .int) (some (.int ru.1), ru.2) Mu 27 [some (.ref 0), none, none] [.ref xu4] := by
        intro xu4 h_x4 hf
        rw [hju3] at hf
        refine r_astore_n (lv' := [some (.ref 0), none, some (.ref xu4)]) 2 d_Uc_keep_27 rfl (by decide) rfl ?_
        refine r_aload_n 2 d_Uc_keep_28 rfl rfl ?_
        refine r_getR (xu4 + 1) d_Uc_keep_29 fl_Uc_270 h_x4 rfl (im_r h_x4) ?_
        refine r_aload_n 0 d_Uc_keep_32 rfl rfl ?_
        refine r_getR 1 d_Uc_keep_33 fl_Uc_10 sh_0 rfl rf_0_0 ?_
        obtain ⟨vu5, evu5, hf⟩ := bnd hf
        refine r_callV [.ref 1] d_Uc_keep_36 lk_Uc_91 (im_s h_x4) (cm_To_copyFrom (im_s h_x4) sh_1 evu5) (by decide) rfl rfl (Nat.le_of_ble_eq_true rfl) ?_
        refine r_aload_n 2 d_Uc_keep_39 rfl rfl ?_
        refine r_aload_n 0 d_Uc_keep_40 rfl rfl ?_
        refine r_getI d_Uc_keep_41 fl_Uc_267 sh_0 (by decide) ?_
        refine r_putI d_Uc_keep_44 fl_Uc_273 h_x4 (Or.inl rfl) rfl ?_
        refine nmM (fun Mu6 hMu6 => ?_)
        replace hf := lt_of hMu6 hf
        refine r_aload_n 2 d_Uc_keep_47 rfl rfl ?_
        refine r_iconst (v := 1) d_Uc_keep_48 (by decide) ?_
        refine r_putI d_Uc_keep_49 fl_Uc_101 h_x4 (Or.inr ⟨rfl, Or.inr rfl⟩) rfl ?_
        refine nmM (fun Mu7 hMu7 => ?_)
        replace hf := lt_of hMu7 hf
        refine r_iconst (v := 1) d_Uc_keep_52 (by decide) ?_
        obtain rfl := Option.some.inj hf
        exact r_ireturn d_Uc_keep_53 rfl rfl
      refine r_if_ne 23 d_Uc_keep_13 (by decide) (fun qu8 => ?_) (fun qu8 => ?_)
      · replace hf := im qu8 hf
        refine r_aload_n 0 d_Uc_keep_23 rfl rfl ?_
        refine r_getR 43 d_Uc_keep_24 fl_Uc_68 sh_0 rfl rf_0_9 ?_
        refine r_weak [1] (lv' := [some (.ref 0), none, none]) rfl ?_
        exact Kju3 43 sh_43 hf
      · replace hf := ip qu8 hf
        refine r_aload_n 0 d_Uc_keep_16 rfl rfl ?_
        refine r_getR 37 d_Uc_keep_17 fl_Uc_64 sh_0 rfl rf_0_8 ?_
        refine r_goto 27 d_Uc_keep_20 (by decide) ?_
        refine r_weak [1] (lv' := [some (.ref 0), none, none]) rfl ?_
        exact Kju3 37 sh_37 hf
    · replace hf := im qu2 hf
      refine r_ldc d_Uc_keep_9 k_Uc_149 ?_
      obtain rfl := Option.some.inj hf
      exact r_ireturn d_Uc_keep_11 rfl rfl
def f_Uc_goBack (Nu : Nat) (p0 : Int32) (Mu : Mm) : Option (Int32 × Mm) := if p0 < 0 then some ((-1000000001), Mu) else if p0 ≤ 1 then lt (fun (xu4 : Nat) => if (Mu.1 xu4 2) = 0 then some ((-1000000003), Mu) else (f_To_copyFrom Nu 1 (xu4 + 1) Mu).bind fun vu6 => lt (si vu6 0 10 (vu6.1 xu4 1)) fun Mu7 => some (1, Mu7)) fun ju3 => if p0 = 0 then ju3 37 else ju3 43 else some ((-1000000001), Mu)
theorem cm_Uc_goBack {G : GT} {Nu : Nat} {p0 : Int32} {Mu : Mm}  {ru : Int32 × Mm}  (hf : f_Uc_goBack Nu p0 Mu = some ru) : CM G 2 y_Uc_goBack c_Uc_goBack 3 (some .int) (some (.int ru.1), ru.2) Mu [.ref 0, .int p0] := by
  unfold f_Uc_goBack at hf
  refine CM.of (own := R_Uc) (lv := [some (.ref 0), some (.int p0), none]) (by decide) rfl (Nat.le_of_ble_eq_true rfl) rfl ?_
  refine r_iload_n 1 d_Uc_goBack_0 rfl rfl ?_
  refine r_if_lt 9 d_Uc_goBack_1 (by decide) (fun qu1 => ?_) (fun qu1 => ?_)
  · replace hf := ip qu1 hf
    refine r_ldc d_Uc_goBack_9 k_Uc_149 ?_
    obtain rfl := Option.some.inj hf
    exact r_ireturn d_Uc_goBack_11 rfl rfl
  · replace hf := im qu1 hf
    refine r_iload_n 1 d_Uc_goBack_4 rfl rfl ?_
    refine r_iconst (v := 1) d_Uc_goBack_5 (by decide) ?_
    refine r_icmp_le 12 d_Uc_goBack_6 (by decide) (fun qu2 => ?_) (fun qu2 => ?_)
    · replace hf := ip qu2 hf
      refine r_iload_n 1 d_Uc_goBack_12 rfl rfl ?_
      obtain ⟨ju3, hju3, hf⟩ := lt_ex hf
      have Kju3 : ∀ (xu4 : Nat), sh xu4 = (1, 0) → ju3 xu4 = some ru → SW G 2 c_Uc_goBack R_Uc 3 (some .int) (some (.int ru.1), ru.2) Mu 27 [some (.ref 0), none, none] [.ref xu4] := by
        intro xu4 h_x4 hf
        rw [hju3] at hf
        refine r_astore_n (lv' := [some (.ref 0), none, some (.ref xu4)]) 2 d_Uc_goBack_27 rfl (by decide) rfl ?_
        refine r_aload_n 2 d_Uc_goBack_28 rfl rfl ?_
        refine r_getI d_Uc_goBack_29 fl_Uc_101 h_x4 (by decide) ?_
        refine r_if_ne 38 d_Uc_goBack_32 (by decide) (fun qu5 => ?_) (fun qu5 => ?_)
        · replace hf := im qu5 hf
          refine r_aload_n 0 d_Uc_goBack_38 rfl rfl ?_
          refine r_getR 1 d_Uc_goBack_39 fl_Uc_10 sh_0 rfl rf_0_0 ?_
          refine r_aload_n 2 d_Uc_goBack_42 rfl rfl ?_
          refine r_getR (xu4 + 1) d_Uc_goBack_43 fl_Uc_270 h_x4 rfl (im_r h_x4) ?_
          obtain ⟨vu6, evu6, hf⟩ := bnd hf
          refine r_callV [.ref (xu4 + 1)] d_Uc_goBack_46 lk_Uc_91 sh_1 (cm_To_copyFrom sh_1 (im_s h_x4) evu6) (by decide) rfl rfl (Nat.le_of_ble_eq_true rfl) ?_
          refine r_aload_n 0 d_Uc_goBack_49 rfl rfl ?_
          refine r_aload_n 2 d_Uc_goBack_50 rfl rfl ?_
          refine r_getI d_Uc_goBack_51 fl_Uc_273 h_x4 (by decide) ?_
          refine r_putI d_Uc_goBack_54 fl_Uc_267 sh_0 (Or.inl rfl) rfl ?_
          refine nmM (fun Mu7 hMu7 => ?_)
          replace hf := lt_of hMu7 hf
          refine r_iconst (v := 1) d_Uc_goBack_57 (by decide) ?_
          obtain rfl := Option.some.inj hf
          exact r_ireturn d_Uc_goBack_58 rfl rfl
        · replace hf := ip qu5 hf
          refine r_ldc d_Uc_goBack_35 k_Uc_165 ?_
          obtain rfl := Option.some.inj hf
          exact r_ireturn d_Uc_goBack_37 rfl rfl
      refine r_if_ne 23 d_Uc_goBack_13 (by decide) (fun qu8 => ?_) (fun qu8 => ?_)
      · replace hf := im qu8 hf
        refine r_aload_n 0 d_Uc_goBack_23 rfl rfl ?_
        refine r_getR 43 d_Uc_goBack_24 fl_Uc_68 sh_0 rfl rf_0_9 ?_
        refine r_weak [1] (lv' := [some (.ref 0), none, none]) rfl ?_
        exact Kju3 43 sh_43 hf
      · replace hf := ip qu8 hf
        refine r_aload_n 0 d_Uc_goBack_16 rfl rfl ?_
        refine r_getR 37 d_Uc_goBack_17 fl_Uc_64 sh_0 rfl rf_0_8 ?_
        refine r_goto 27 d_Uc_goBack_20 (by decide) ?_
        refine r_weak [1] (lv' := [some (.ref 0), none, none]) rfl ?_
        exact Kju3 37 sh_37 hf
    · replace hf := im qu2 hf
      refine r_ldc d_Uc_goBack_9 k_Uc_149 ?_
      obtain rfl := Option.some.inj hf
      exact r_ireturn d_Uc_goBack_11 rfl rfl
