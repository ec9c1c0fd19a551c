def f_To_forget (a0 : Nat) (p0 : Int32) (Mu : Mm) : Option (Mm) := if inb p0 8 = true then lt (si Mu (a0 + 1) (Int32.toNatClampNeg p0) 0) fun Mu2 => if inb p0 8 = true then lt (si Mu2 (a0 + 2) (Int32.toNatClampNeg p0) 0) fun Mu4 => if inb p0 8 = true then lt (si Mu4 (a0 + 3) (Int32.toNatClampNeg p0) 0) fun Mu6 => if inb p0 8 = true then lt (si Mu6 (a0 + 4) (Int32.toNatClampNeg p0) 0) fun Mu8 => some Mu8 else none else none else none else none
theorem cm_To_forget {G : GT} {a0 : Nat} {p0 : Int32} {Mu : Mm}  {ru : Mm} (h_a0 : sh a0 = (5, 0)) (hf : f_To_forget a0 p0 Mu = some ru) : CM G 1 y_To_forget c_To_forget 2 none (none, ru) Mu [.ref a0, .int p0] := by
  unfold f_To_forget at hf
  refine CM.of (own := R_To) (lv := [some (.ref a0), some (.int p0)]) (by decide) rfl (Nat.le_of_ble_eq_true rfl) rfl ?_
  refine r_aload_n 0 d_To_forget_0 rfl rfl ?_
  refine r_getR (a0 + 1) d_To_forget_1 fl_To_18 h_a0 rfl (to_r3 h_a0) ?_
  refine r_iload_n 1 d_To_forget_4 rfl rfl ?_
  refine r_iconst (v := 0) d_To_forget_5 (by decide) ?_
  obtain ⟨qu1, hf⟩ := ck hf
  refine r_iast d_To_forget_6 (to_s3 h_a0) qu1 ?_
  refine nmM (fun Mu2 hMu2 => ?_)
  replace hf := lt_of hMu2 hf
  refine r_aload_n 0 d_To_forget_7 rfl rfl ?_
  refine r_getR (a0 + 2) d_To_forget_8 fl_To_22 h_a0 rfl (to_r4 h_a0) ?_
  refine r_iload_n 1 d_To_forget_11 rfl rfl ?_
  refine r_iconst (v := 0) d_To_forget_12 (by decide) ?_
  obtain ⟨qu3, hf⟩ := ck hf
  refine r_iast d_To_forget_13 (to_s4 h_a0) qu3 ?_
  refine nmM (fun Mu4 hMu4 => ?_)
  replace hf := lt_of hMu4 hf
  refine r_aload_n 0 d_To_forget_14 rfl rfl ?_
  refine r_getR (a0 + 3) d_To_forget_15 fl_To_25 h_a0 rfl (to_r5 h_a0) ?_
  refine r_iload_n 1 d_To_forget_18 rfl rfl ?_
  refine r_iconst (v := 0) d_To_forget_19 (by decide) ?_
  obtain ⟨qu5, hf⟩ := ck hf
  refine r_iast d_To_forget_20 (to_s5 h_a0) qu5 ?_
  refine nmM (fun Mu6 hMu6 => ?_)
  replace hf := lt_of hMu6 hf
  refine r_aload_n 0 d_To_forget_21 rfl rfl ?_
  refine r_getR (a0 + 4) d_To_forget_22 fl_To_28 h_a0 rfl (to_r6 h_a0) ?_
  refine r_iload_n 1 d_To_forget_25 rfl rfl ?_
  refine r_iconst (v := 0) d_To_forget_26 (by decide) ?_
  obtain ⟨qu7, hf⟩ := ck hf
  refine r_iast d_To_forget_27 (to_s6 h_a0) qu7 ?_
  refine nmM (fun Mu8 hMu8 => ?_)
  replace hf := lt_of hMu8 hf
  obtain rfl := Option.some.inj hf
  exact r_return d_To_forget_28 rfl rfl
def L_To_clear_17 (Nu : Nat) (a0 : Nat) : Nat → Int32 → Mm → Option (Mm)
  | 0, _, _ => none
  | nu + 1, z1_17, M_17 => if 8 ≤ z1_17 then some M_17 else (f_To_forget a0 z1_17 M_17).bind fun vu5 => lt (z1_17 + 1) fun xu6 => L_To_clear_17 Nu a0 nu xu6 vu5
def f_To_clear (Nu : Nat) (a0 : Nat) (Mu : Mm) : Option (Mm) := lt (si Mu a0 0 0) fun Mu1 => lt (si Mu1 a0 1 1) fun Mu2 => lt (si Mu2 a0 2 1) fun Mu3 => L_To_clear_17 Nu a0 Nu 0 Mu3
theorem l_To_clear_17 {G : GT} {ru : Mm} (Nu : Nat) (a0 : Nat) (h_a0 : sh a0 = (5, 0))   : ∀ (nu : Nat) (z1_17 : Int32) (M_17 : Mm), L_To_clear_17 Nu a0 nu z1_17 M_17 = some ru → SW G 2 c_To_clear R_To 2 none (none, ru) M_17 17 [some (.ref a0), some (.int z1_17)] []
  | 0, _, _, hf => by cases hf
  | nu + 1, z1_17, M_17, hf => by
    have ih := l_To_clear_17 (G := G) (ru := ru) Nu a0 h_a0  nu
    rw [L_To_clear_17] at hf
    refine r_iload_n 1 d_To_clear_17 rfl rfl ?_
    refine r_bipush (v := 8) d_To_clear_18 (by decide) ?_
    refine r_icmp_ge 34 d_To_clear_20 (by decide) (fun qu4 => ?_) (fun qu4 => ?_)
    · replace hf := ip qu4 hf
      obtain rfl := Option.some.inj hf
      exact r_return d_To_clear_34 rfl rfl
    · replace hf := im qu4 hf
      refine r_aload_n 0 d_To_clear_23 rfl rfl ?_
      refine r_iload_n 1 d_To_clear_24 rfl rfl ?_
      obtain ⟨vu5, evu5, hf⟩ := bnd hf
      refine r_callV [.int z1_17] d_To_clear_25 lk_To_34 h_a0 (cm_To_forget h_a0 evu5) (by decide) rfl rfl (Nat.le_of_ble_eq_true rfl) ?_
      obtain ⟨xu6, hxu6⟩ : ∃ y : Int32, y = z1_17 + 1 := ⟨_, rfl⟩
      replace hf := lt_of hxu6 hf
      refine r_iinc (lv' := [some (.ref a0), some (.int xu6)]) d_To_clear_28 rfl (by rw [hxu6]; rfl) (by decide) rfl ?_
      refine r_goto 17 d_To_clear_31 (by decide) ?_
      exact ih xu6 vu5  hf
theorem cm_To_clear {G : GT} {Nu : Nat} {a0 : Nat} {Mu : Mm}  {ru : Mm} (h_a0 : sh a0 = (5, 0)) (hf : f_To_clear Nu a0 Mu = some ru) : CM G 2 y_To_clear c_To_clear 2 none (none, ru) Mu [.ref a0] := by
  unfold f_To_clear at hf
  refine CM.of (own := R_To) (lv := [some (.ref a0), none]) (by decide) rfl (Nat.le_of_ble_eq_true rfl) rfl ?_
  refine r_aload_n 0 d_To_clear_0 rfl rfl ?_
  refine r_iconst (v := 0) d_To_clear_1 (by decide) ?_
  refine r_putI d_To_clear_2 fl_To_31 h_a0 (Or.inl rfl) rfl ?_
  refine nmM (fun Mu1 hMu1 => ?_)
  replace hf := lt_of hMu1 hf
  refine r_aload_n 0 d_To_clear_5 rfl rfl ?_
  refine r_iconst (v := 1) d_To_clear_6 (by decide) ?_
  refine r_putI d_To_clear_7 fl_To_9 h_a0 (Or.inl rfl) rfl ?_
  refine nmM (fun Mu2 hMu2 => ?_)
  replace hf := lt_of hMu2 hf
  refine r_aload_n 0 d_To_clear_10 rfl rfl ?_
  refine r_iconst (v := 1) d_To_clear_11 (by decide) ?_
  refine r_putI d_To_clear_12 fl_To_15 h_a0 (Or.inl rfl) rfl ?_
  refine nmM (fun Mu3 hMu3 => ?_)
  replace hf := lt_of hMu3 hf
  refine r_iconst (v := 0) d_To_clear_15 (by decide) ?_
  refine r_istore_n (lv' := [some (.ref a0), some (.int 0)]) 1 d_To_clear_16 rfl (by decide) rfl ?_
  exact l_To_clear_17 (G := G) (ru := ru) Nu a0 h_a0  Nu 0 Mu3 hf
def f_To_has (a0 : Nat) (p0 : Int32) (Mu : Mm) : Int32 := if p0 < 0 then 0 else if (Mu.1 a0 0) ≤ p0 then 0 else 1
theorem cm_To_has {G : GT} (a0 : Nat) (p0 : Int32) (Mu : Mm)  (h_a0 : sh a0 = (5, 0)) : CM G 1 y_To_has c_To_has 2 (some .boolean) (some (.int (f_To_has a0 p0 Mu)), Mu) Mu [.ref a0, .int p0] := by
  generalize hf : f_To_has a0 p0 Mu = ru
  unfold f_To_has at hf
  refine CM.of (own := R_To) (lv := [some (.ref a0), some (.int p0)]) (by decide) rfl (Nat.le_of_ble_eq_true rfl) rfl ?_
  refine r_iload_n 1 d_To_has_0 rfl rfl ?_
  refine r_if_lt 16 d_To_has_1 (by decide) (fun qu1 => ?_) (fun qu1 => ?_)
  · replace hf := ip qu1 hf
    refine r_iconst (v := 0) d_To_has_16 (by decide) ?_
    subst hf
    exact r_zreturn d_To_has_17 rfl (Or.inl rfl) rfl
  · replace hf := im qu1 hf
    refine r_iload_n 1 d_To_has_4 rfl rfl ?_
    refine r_aload_n 0 d_To_has_5 rfl rfl ?_
    refine r_getI d_To_has_6 fl_To_31 h_a0 (by decide) ?_
    refine r_icmp_ge 16 d_To_has_9 (by decide) (fun qu2 => ?_) (fun qu2 => ?_)
    · replace hf := ip qu2 hf
      refine r_iconst (v := 0) d_To_has_16 (by decide) ?_
      subst hf
      exact r_zreturn d_To_has_17 rfl (Or.inl rfl) rfl
    · replace hf := im qu2 hf
      refine r_iconst (v := 1) d_To_has_12 (by decide) ?_
      refine r_goto 17 d_To_has_13 (by decide) ?_
      subst hf
      exact r_zreturn d_To_has_17 rfl (Or.inr rfl) rfl
theorem z_To_has (a0 : Nat) (p0 : Int32) (Mu : Mm) : f_To_has a0 p0 Mu = 0 ∨ f_To_has a0 p0 Mu = 1 := by unfold f_To_has; repeat (first | (with_reducible exact Or.inl rfl) | (with_reducible exact Or.inr rfl) | refine z_ite ?_ ?_)
def f_To_hasTwo (a0 : Nat) (p0 : Int32) (p1 : Int32) (Mu : Mm) : Int32 := if (f_To_has a0 p0 Mu) = 0 then 0 else if (f_To_has a0 p1 Mu) = 0 then 0 else if p0 = p1 then 0 else 1
theorem cm_To_hasTwo {G : GT} (a0 : Nat) (p0 : Int32) (p1 : Int32) (Mu : Mm)  (h_a0 : sh a0 = (5, 0)) : CM G 2 y_To_hasTwo c_To_hasTwo 3 (some .boolean) (some (.int (f_To_hasTwo a0 p0 p1 Mu)), Mu) Mu [.ref a0, .int p0, .int p1] := by
  generalize hf : f_To_hasTwo a0 p0 p1 Mu = ru
  unfold f_To_hasTwo at hf
  refine CM.of (own := R_To) (lv := [some (.ref a0), some (.int p0), some (.int p1)]) (by decide) rfl (Nat.le_of_ble_eq_true rfl) rfl ?_
  refine r_aload_n 0 d_To_hasTwo_0 rfl rfl ?_
  refine r_iload_n 1 d_To_hasTwo_1 rfl rfl ?_
  refine r_callV [.int p0] d_To_hasTwo_2 lk_To_38 h_a0 (cm_To_has a0 p0 Mu h_a0) (by decide) rfl rfl (Nat.le_of_ble_eq_true rfl) ?_
  refine r_if_eq 25 d_To_hasTwo_5 (by decide) (fun qu1 => ?_) (fun qu1 => ?_)
  · replace hf := ip qu1 hf
    refine r_iconst (v := 0) d_To_hasTwo_25 (by decide) ?_
    subst hf
    exact r_zreturn d_To_hasTwo_26 rfl (Or.inl rfl) rfl
  · replace hf := im qu1 hf
    refine r_aload_n 0 d_To_hasTwo_8 rfl rfl ?_
    refine r_iload_n 2 d_To_hasTwo_9 rfl rfl ?_
    refine r_callV [.int p1] d_To_hasTwo_10 lk_To_38 h_a0 (cm_To_has a0 p1 Mu h_a0) (by decide) rfl rfl (Nat.le_of_ble_eq_true rfl) ?_
    refine r_if_eq 25 d_To_hasTwo_13 (by decide) (fun qu2 => ?_) (fun qu2 => ?_)
    · replace hf := ip qu2 hf
      refine r_iconst (v := 0) d_To_hasTwo_25 (by decide) ?_
      subst hf
      exact r_zreturn d_To_hasTwo_26 rfl (Or.inl rfl) rfl
    · replace hf := im qu2 hf
      refine r_iload_n 1 d_To_hasTwo_16 rfl rfl ?_
      refine r_iload_n 2 d_To_hasTwo_17 rfl rfl ?_
      refine r_icmp_eq 25 d_To_hasTwo_18 (by decide) (fun qu3 => ?_) (fun qu3 => ?_)
      · replace hf := ip qu3 hf
        refine r_iconst (v := 0) d_To_hasTwo_25 (by decide) ?_
        subst hf
        exact r_zreturn d_To_hasTwo_26 rfl (Or.inl rfl) rfl
      · replace hf := im qu3 hf
        refine r_iconst (v := 1) d_To_hasTwo_21 (by decide) ?_
        refine r_goto 26 d_To_hasTwo_22 (by decide) ?_
        subst hf
        exact r_zreturn d_To_hasTwo_26 rfl (Or.inr rfl) rfl
theorem z_To_hasTwo (a0 : Nat) (p0 : Int32) (p1 : Int32) (Mu : Mm) : f_To_hasTwo a0 p0 p1 Mu = 0 ∨ f_To_hasTwo a0 p0 p1 Mu = 1 := by unfold f_To_hasTwo; repeat (first | (with_reducible exact Or.inl rfl) | (with_reducible exact Or.inr rfl) | refine z_ite ?_ ?_)
def f_To_areFriends (a0 : Nat) (p0 : Int32) (p1 : Int32) (Mu : Mm) : Option (Int32) := if inb p0 8 = true then if (((Mu.1 (a0 + 1) (Int32.toNatClampNeg p0)) >>> (p1 &&& 31)) &&& 1) = 1 then some 1 else some 0 else none
theorem cm_To_areFriends {G : GT} {a0 : Nat} {p0 : Int32} {p1 : Int32} {Mu : Mm}  {ru : Int32} (h_a0 : sh a0 = (5, 0)) (hf : f_To_areFriends a0 p0 p1 Mu = some ru) : CM G 1 y_To_areFriends c_To_areFriends 3 (some .boolean) (some (.int ru), Mu) Mu [.ref a0, .int p0, .int p1] := by
  unfold f_To_areFriends at hf
  refine CM.of (own := R_To) (lv := [some (.ref a0), some (.int p0), some (.int p1)]) (by decide) rfl (Nat.le_of_ble_eq_true rfl) rfl ?_
  refine r_aload_n 0 d_To_areFriends_0 rfl rfl ?_
  refine r_getR (a0 + 1) d_To_areFriends_1 fl_To_18 h_a0 rfl (to_r3 h_a0) ?_
  refine r_iload_n 1 d_To_areFriends_4 rfl rfl ?_
  obtain ⟨qu1, hf⟩ := ck hf
  refine r_iald d_To_areFriends_5 (to_s3 h_a0) qu1 ?_
  refine r_iload_n 2 d_To_areFriends_6 rfl rfl ?_
  refine r_ishr d_To_areFriends_7 ?_
  refine r_iconst (v := 1) d_To_areFriends_8 (by decide) ?_
  refine r_iand d_To_areFriends_9 ?_
  refine r_iconst (v := 1) d_To_areFriends_10 (by decide) ?_
  refine r_icmp_ne 18 d_To_areFriends_11 (by decide) (fun qu2 => ?_) (fun qu2 => ?_)
  · replace hf := im qu2 hf
    refine r_iconst (v := 0) d_To_areFriends_18 (by decide) ?_
    obtain rfl := Option.some.inj hf
    exact r_zreturn d_To_areFriends_19 rfl (Or.inl rfl) rfl
  · replace hf := ip qu2 hf
    refine r_iconst (v := 1) d_To_areFriends_14 (by decide) ?_
    refine r_goto 19 d_To_areFriends_15 (by decide) ?_
    obtain rfl := Option.some.inj hf
    exact r_zreturn d_To_areFriends_19 rfl (Or.inr rfl) rfl
def f_To_barOf (a0 : Nat) (p0 : Int32) (p1 : Int32) (Mu : Mm) : Option (Int32) := if inb p0 8 = true then if (((Mu.1 (a0 + 2) (Int32.toNatClampNeg p0)) >>> (p1 &&& 31)) &&& 1) = 1 then some 1 else if inb p0 8 = true then if (((Mu.1 (a0 + 3) (Int32.toNatClampNeg p0)) >>> (p1 &&& 31)) &&& 1) = 1 then some 2 else some 0 else none else none
theorem cm_To_barOf {G : GT} {a0 : Nat} {p0 : Int32} {p1 : Int32} {Mu : Mm}  {ru : Int32} (h_a0 : sh a0 = (5, 0)) (hf : f_To_barOf a0 p0 p1 Mu = some ru) : CM G 1 y_To_barOf c_To_barOf 3 (some .int) (some (.int ru), Mu) Mu [.ref a0, .int p0, .int p1] := by
  unfold f_To_barOf at hf
  refine CM.of (own := R_To) (lv := [some (.ref a0), some (.int p0), some (.int p1)]) (by decide) rfl (Nat.le_of_ble_eq_true rfl) rfl ?_
  refine r_aload_n 0 d_To_barOf_0 rfl rfl ?_
  refine r_getR (a0 + 2) d_To_barOf_1 fl_To_22 h_a0 rfl (to_r4 h_a0) ?_
  refine r_iload_n 1 d_To_barOf_4 rfl rfl ?_
  obtain ⟨qu1, hf⟩ := ck hf
  refine r_iald d_To_barOf_5 (to_s4 h_a0) qu1 ?_
  refine r_iload_n 2 d_To_barOf_6 rfl rfl ?_
  refine r_ishr d_To_barOf_7 ?_
  refine r_iconst (v := 1) d_To_barOf_8 (by decide) ?_
  refine r_iand d_To_barOf_9 ?_
  refine r_iconst (v := 1) d_To_barOf_10 (by decide) ?_
  refine r_icmp_ne 16 d_To_barOf_11 (by decide) (fun qu2 => ?_) (fun qu2 => ?_)
  · replace hf := im qu2 hf
    refine r_aload_n 0 d_To_barOf_16 rfl rfl ?_
    refine r_getR (a0 + 3) d_To_barOf_17 fl_To_25 h_a0 rfl (to_r5 h_a0) ?_
    refine r_iload_n 1 d_To_barOf_20 rfl rfl ?_
    obtain ⟨qu3, hf⟩ := ck hf
    refine r_iald d_To_barOf_21 (to_s5 h_a0) qu3 ?_
    refine r_iload_n 2 d_To_barOf_22 rfl rfl ?_
    refine r_ishr d_To_barOf_23 ?_
    refine r_iconst (v := 1) d_To_barOf_24 (by decide) ?_
    refine r_iand d_To_barOf_25 ?_
    refine r_iconst (v := 1) d_To_barOf_26 (by decide) ?_
    refine r_icmp_ne 34 d_To_barOf_27 (by decide) (fun qu4 => ?_) (fun qu4 => ?_)
    · replace hf := im qu4 hf
      refine r_iconst (v := 0) d_To_barOf_34 (by decide) ?_
      obtain rfl := Option.some.inj hf
      exact r_ireturn d_To_barOf_35 rfl rfl
    · replace hf := ip qu4 hf
      refine r_iconst (v := 2) d_To_barOf_30 (by decide) ?_
      refine r_goto 35 d_To_barOf_31 (by decide) ?_
      obtain rfl := Option.some.inj hf
      exact r_ireturn d_To_barOf_35 rfl rfl
  · replace hf := ip qu2 hf
    refine r_iconst (v := 1) d_To_barOf_14 (by decide) ?_
    obtain rfl := Option.some.inj hf
    exact r_ireturn d_To_barOf_15 rfl rfl
def f_To_mark (a0 : Nat) (p0 : Nat) (p1 : Int32) (p2 : Int32) (p3 : Int32) (Mu : Mm) : Option (Mm) := if p3 = 0 then if inb p1 8 = true then if inb p1 8 = true then lt (si Mu p0 (Int32.toNatClampNeg p1) ((Mu.1 p0 (Int32.toNatClampNeg p1)) &&& (((1 : Int32) <<< (p2 &&& 31)) ^^^ (-1)))) fun Mu4 => if inb p2 8 = true then if inb p2 8 = true then lt (si Mu4 p0 (Int32.toNatClampNeg p2) ((Mu4.1 p0 (Int32.toNatClampNeg p2)) &&& (((1 : Int32) <<< (p1 &&& 31)) ^^^ (-1)))) fun Mu7 => some Mu7 else none else none else none else none else if inb p1 8 = true then if inb p1 8 = true then lt (si Mu p0 (Int32.toNatClampNeg p1) ((Mu.1 p0 (Int32.toNatClampNeg p1)) ||| ((1 : Int32) <<< (p2 &&& 31)))) fun Mu10 => if inb p2 8 = true then if inb p2 8 = true then lt (si Mu10 p0 (Int32.toNatClampNeg p2) ((Mu10.1 p0 (Int32.toNatClampNeg p2)) ||| ((1 : Int32) <<< (p1 &&& 31)))) fun Mu13 => some Mu13 else none else none else none else none
theorem cm_To_mark {G : GT} {a0 : Nat} {p0 : Nat} {p1 : Int32} {p2 : Int32} {p3 : Int32} {Mu : Mm}  {ru : Mm} (h_a0 : sh a0 = (5, 0)) (h_p0 : sh p0 = (10, 8)) (hf : f_To_mark a0 p0 p1 p2 p3 Mu = some ru) : CM G 1 y_To_mark c_To_mark 5 none (none, ru) Mu [.ref a0, .ref p0, .int p1, .int p2, .int p3] := by
  unfold f_To_mark at hf
  refine CM.of (own := R_To) (lv := [some (.ref a0), some (.ref p0), some (.int p1), some (.int p2), some (.int p3)]) (by decide) rfl (Nat.le_of_ble_eq_true rfl) rfl ?_
  refine r_iload d_To_mark_0 rfl ?_
  refine r_if_eq 26 d_To_mark_2 (by decide) (fun qu1 => ?_) (fun qu1 => ?_)
  · replace hf := ip qu1 hf
    refine r_aload_n 1 d_To_mark_26 rfl rfl ?_
    refine r_iload_n 2 d_To_mark_27 rfl rfl ?_
    refine r_dup2 d_To_mark_28 rfl rfl ?_
    obtain ⟨qu2, hf⟩ := ck hf
    refine r_iald d_To_mark_29 h_p0 qu2 ?_
    refine r_iconst (v := 1) d_To_mark_30 (by decide) ?_
    refine r_iload_n 3 d_To_mark_31 rfl rfl ?_
    refine r_ishl d_To_mark_32 ?_
    refine r_iconst (v := (-1)) d_To_mark_33 (by decide) ?_
    refine r_ixor d_To_mark_34 ?_
    refine r_iand d_To_mark_35 ?_
    obtain ⟨qu3, hf⟩ := ck hf
    refine r_iast d_To_mark_36 h_p0 qu3 ?_
    refine nmM (fun Mu4 hMu4 => ?_)
    replace hf := lt_of hMu4 hf
    refine r_aload_n 1 d_To_mark_37 rfl rfl ?_
    refine r_iload_n 3 d_To_mark_38 rfl rfl ?_
    refine r_dup2 d_To_mark_39 rfl rfl ?_
    obtain ⟨qu5, hf⟩ := ck hf
    refine r_iald d_To_mark_40 h_p0 qu5 ?_
    refine r_iconst (v := 1) d_To_mark_41 (by decide) ?_
    refine r_iload_n 2 d_To_mark_42 rfl rfl ?_
    refine r_ishl d_To_mark_43 ?_
    refine r_iconst (v := (-1)) d_To_mark_44 (by decide) ?_
    refine r_ixor d_To_mark_45 ?_
    refine r_iand d_To_mark_46 ?_
    obtain ⟨qu6, hf⟩ := ck hf
    refine r_iast d_To_mark_47 h_p0 qu6 ?_
    refine nmM (fun Mu7 hMu7 => ?_)
    replace hf := lt_of hMu7 hf
    obtain rfl := Option.some.inj hf
    exact r_return d_To_mark_48 rfl rfl
  · replace hf := im qu1 hf
    refine r_aload_n 1 d_To_mark_5 rfl rfl ?_
    refine r_iload_n 2 d_To_mark_6 rfl rfl ?_
    refine r_dup2 d_To_mark_7 rfl rfl ?_
    obtain ⟨qu8, hf⟩ := ck hf
    refine r_iald d_To_mark_8 h_p0 qu8 ?_
    refine r_iconst (v := 1) d_To_mark_9 (by decide) ?_
    refine r_iload_n 3 d_To_mark_10 rfl rfl ?_
    refine r_ishl d_To_mark_11 ?_
    refine r_ior d_To_mark_12 ?_
    obtain ⟨qu9, hf⟩ := ck hf
    refine r_iast d_To_mark_13 h_p0 qu9 ?_
    refine nmM (fun Mu10 hMu10 => ?_)
    replace hf := lt_of hMu10 hf
    refine r_aload_n 1 d_To_mark_14 rfl rfl ?_
    refine r_iload_n 3 d_To_mark_15 rfl rfl ?_
    refine r_dup2 d_To_mark_16 rfl rfl ?_
    obtain ⟨qu11, hf⟩ := ck hf
    refine r_iald d_To_mark_17 h_p0 qu11 ?_
    refine r_iconst (v := 1) d_To_mark_18 (by decide) ?_
    refine r_iload_n 2 d_To_mark_19 rfl rfl ?_
    refine r_ishl d_To_mark_20 ?_
    refine r_ior d_To_mark_21 ?_
    obtain ⟨qu12, hf⟩ := ck hf
    refine r_iast d_To_mark_22 h_p0 qu12 ?_
    refine nmM (fun Mu13 hMu13 => ?_)
    replace hf := lt_of hMu13 hf
    refine r_goto 48 d_To_mark_23 (by decide) ?_
    obtain rfl := Option.some.inj hf
    exact r_return d_To_mark_48 rfl rfl
def f_To_setBar (a0 : Nat) (p0 : Int32) (p1 : Int32) (p2 : Int32) (Mu : Mm) : Option (Mm) := lt (fun (xu2 : Int32) => (f_To_mark a0 (a0 + 2) p0 p1 xu2 Mu).bind fun vu3 => lt (fun (xu5 : Int32) => (f_To_mark a0 (a0 + 3) p0 p1 xu5 vu3).bind fun vu6 => if p2 = 0 then some vu6 else lt (fun (xu9 : Int32) => (f_To_mark a0 (a0 + 1) p0 p1 xu9 vu6).bind fun vu10 => some vu10) fun ju8 => if p2 = 2 then ju8 1 else ju8 0) fun ju4 => if p2 = 2 then ju4 1 else ju4 0) fun ju1 => if p2 = 1 then ju1 1 else ju1 0
theorem cm_To_setBar {G : GT} {a0 : Nat} {p0 : Int32} {p1 : Int32} {p2 : Int32} {Mu : Mm}  {ru : Mm} (h_a0 : sh a0 = (5, 0)) (hf : f_To_setBar a0 p0 p1 p2 Mu = some ru) : CM G 2 y_To_setBar c_To_setBar 4 none (none, ru) Mu [.ref a0, .int p0, .int p1, .int p2] := by
  unfold f_To_setBar at hf
  refine CM.of (own := R_To) (lv := [some (.ref a0), some (.int p0), some (.int p1), some (.int p2)]) (by decide) rfl (Nat.le_of_ble_eq_true rfl) rfl ?_
  refine r_aload_n 0 d_To_setBar_0 rfl rfl ?_
  refine r_aload_n 0 d_To_setBar_1 rfl rfl ?_
  refine r_getR (a0 + 2) d_To_setBar_2 fl_To_22 h_a0 rfl (to_r4 h_a0) ?_
  refine r_iload_n 1 d_To_setBar_5 rfl rfl ?_
  refine r_iload_n 2 d_To_setBar_6 rfl rfl ?_
  refine r_iload_n 3 d_To_setBar_7 rfl rfl ?_
  refine r_iconst (v := 1) d_To_setBar_8 (by decide) ?_
  obtain ⟨ju1, hju1, hf⟩ := lt_ex hf
  have Kju1 : ∀ (xu2 : Int32), ju1 xu2 = some ru → SW G 2 c_To_setBar R_To 4 none (none, ru) Mu 17 [some (.ref a0), some (.int p0), some (.int p1), some (.int p2)] [.int xu2, .int p1, .int p0, .ref (a0 + 2), .ref a0] := by
    intro xu2 hf
    rw [hju1] at hf
    obtain ⟨vu3, evu3, hf⟩ := bnd hf
    refine r_callV [.ref (a0 + 2), .int p0, .int p1, .int xu2] d_To_setBar_17 lk_To_66 h_a0 (cm_To_mark h_a0 (to_s4 h_a0) evu3) (by decide) rfl rfl (Nat.le_of_ble_eq_true rfl) ?_
    refine r_aload_n 0 d_To_setBar_20 rfl rfl ?_
    refine r_aload_n 0 d_To_setBar_21 rfl rfl ?_
    refine r_getR (a0 + 3) d_To_setBar_22 fl_To_25 h_a0 rfl (to_r5 h_a0) ?_
    refine r_iload_n 1 d_To_setBar_25 rfl rfl ?_
    refine r_iload_n 2 d_To_setBar_26 rfl rfl ?_
    refine r_iload_n 3 d_To_setBar_27 rfl rfl ?_
    refine r_iconst (v := 2) d_To_setBar_28 (by decide) ?_
    obtain ⟨ju4, hju4, hf⟩ := lt_ex hf
    have Kju4 : ∀ (xu5 : Int32), ju4 xu5 = some ru → SW G 2 c_To_setBar R_To 4 none (none, ru) vu3 37 [some (.ref a0), some (.int p0), some (.int p1), some (.int p2)] [.int xu5, .int p1, .int p0, .ref (a0 + 3), .ref a0] := by
      intro xu5 hf
      rw [hju4] at hf
      obtain ⟨vu6, evu6, hf⟩ := bnd hf
      refine r_callV [.ref (a0 + 3), .int p0, .int p1, .int xu5] d_To_setBar_37 lk_To_66 h_a0 (cm_To_mark h_a0 (to_s5 h_a0) evu6) (by decide) rfl rfl (Nat.le_of_ble_eq_true rfl) ?_
      refine r_iload_n 3 d_To_setBar_40 rfl rfl ?_
      refine r_if_eq 64 d_To_setBar_41 (by decide) (fun qu7 => ?_) (fun qu7 => ?_)
      · replace hf := ip qu7 hf
        obtain rfl := Option.some.inj hf
        exact r_return d_To_setBar_64 rfl rfl
      · replace hf := im qu7 hf
        refine r_aload_n 0 d_To_setBar_44 rfl rfl ?_
        refine r_aload_n 0 d_To_setBar_45 rfl rfl ?_
        refine r_getR (a0 + 1) d_To_setBar_46 fl_To_18 h_a0 rfl (to_r3 h_a0) ?_
        refine r_iload_n 1 d_To_setBar_49 rfl rfl ?_
        refine r_iload_n 2 d_To_setBar_50 rfl rfl ?_
        refine r_iload_n 3 d_To_setBar_51 rfl rfl ?_
        refine r_iconst (v := 2) d_To_setBar_52 (by decide) ?_
        obtain ⟨ju8, hju8, hf⟩ := lt_ex hf
        have Kju8 : ∀ (xu9 : Int32), ju8 xu9 = some ru → SW G 2 c_To_setBar R_To 4 none (none, ru) vu6 61 [none, none, none, none] [.int xu9, .int p1, .int p0, .ref (a0 + 1), .ref a0] := by
          intro xu9 hf
          rw [hju8] at hf
          obtain ⟨vu10, evu10, hf⟩ := bnd hf
          refine r_callV [.ref (a0 + 1), .int p0, .int p1, .int xu9] d_To_setBar_61 lk_To_66 h_a0 (cm_To_mark h_a0 (to_s3 h_a0) evu10) (by decide) rfl rfl (Nat.le_of_ble_eq_true rfl) ?_
          obtain rfl := Option.some.inj hf
          exact r_return d_To_setBar_64 rfl rfl
        refine r_icmp_ne 60 d_To_setBar_53 (by decide) (fun qu11 => ?_) (fun qu11 => ?_)
        · replace hf := im qu11 hf
          refine r_iconst (v := 0) d_To_setBar_60 (by decide) ?_
          refine r_weak [0, 1, 2, 3] (lv' := [none, none, none, none]) rfl ?_
          exact Kju8 0  hf
        · replace hf := ip qu11 hf
          refine r_iconst (v := 1) d_To_setBar_56 (by decide) ?_
          refine r_goto 61 d_To_setBar_57 (by decide) ?_
          refine r_weak [0, 1, 2, 3] (lv' := [none, none, none, none]) rfl ?_
          exact Kju8 1  hf
    refine r_icmp_ne 36 d_To_setBar_29 (by decide) (fun qu12 => ?_) (fun qu12 => ?_)
    · replace hf := im qu12 hf
      refine r_iconst (v := 0) d_To_setBar_36 (by decide) ?_
      exact Kju4 0  hf
    · replace hf := ip qu12 hf
      refine r_iconst (v := 1) d_To_setBar_32 (by decide) ?_
      refine r_goto 37 d_To_setBar_33 (by decide) ?_
      exact Kju4 1  hf
  refine r_icmp_ne 16 d_To_setBar_9 (by decide) (fun qu13 => ?_) (fun qu13 => ?_)
  · replace hf := im qu13 hf
    refine r_iconst (v := 0) d_To_setBar_16 (by decide) ?_
    exact Kju1 0  hf
  · replace hf := ip qu13 hf
    refine r_iconst (v := 1) d_To_setBar_12 (by decide) ?_
    refine r_goto 17 d_To_setBar_13 (by decide) ?_
    exact Kju1 1  hf
def L_To_copyFrom_26 (Nu : Nat) (a0 : Nat) (p0 : Nat) : Nat → Int32 → Mm → Option (Mm)
  | 0, _, _ => none
  | nu + 1, z2_26, M_26 => if 8 ≤ z2_26 then some M_26 else if inb z2_26 8 = true then if inb z2_26 8 = true then lt (si M_26 (a0 + 1) (Int32.toNatClampNeg z2_26) (M_26.1 (p0 + 1) (Int32.toNatClampNeg z2_26))) fun Mu7 => if inb z2_26 8 = true then if inb z2_26 8 = true then lt (si Mu7 (a0 + 2) (Int32.toNatClampNeg z2_26) (Mu7.1 (p0 + 2) (Int32.toNatClampNeg z2_26))) fun Mu10 => if inb z2_26 8 = true then if inb z2_26 8 = true then lt (si Mu10 (a0 + 3) (Int32.toNatClampNeg z2_26) (Mu10.1 (p0 + 3) (Int32.toNatClampNeg z2_26))) fun Mu13 => if inb z2_26 8 = true then if inb z2_26 8 = true then lt (si Mu13 (a0 + 4) (Int32.toNatClampNeg z2_26) (Mu13.1 (p0 + 4) (Int32.toNatClampNeg z2_26))) fun Mu16 => lt (z2_26 + 1) fun xu17 => L_To_copyFrom_26 Nu a0 p0 nu xu17 Mu16 else none else none else none else none else none else none else none else none
def f_To_copyFrom (Nu : Nat) (a0 : Nat) (p0 : Nat) (Mu : Mm) : Option (Mm) := lt (si Mu a0 0 (Mu.1 p0 0)) fun Mu1 => lt (si Mu1 a0 1 (Mu1.1 p0 1)) fun Mu2 => lt (si Mu2 a0 2 (Mu2.1 p0 2)) fun Mu3 => L_To_copyFrom_26 Nu a0 p0 Nu 0 Mu3
theorem l_To_copyFrom_26 {G : GT} {ru : Mm} (Nu : Nat) (a0 : Nat) (p0 : Nat) (h_a0 : sh a0 = (5, 0)) (h_p0 : sh p0 = (5, 0))   : ∀ (nu : Nat) (z2_26 : Int32) (M_26 : Mm), L_To_copyFrom_26 Nu a0 p0 nu z2_26 M_26 = some ru → SW G 1 c_To_copyFrom R_To 3 none (none, ru) M_26 26 [some (.ref a0), some (.ref p0), some (.int z2_26)] []
  | 0, _, _, hf => by cases hf
  | nu + 1, z2_26, M_26, hf => by
    have ih := l_To_copyFrom_26 (G := G) (ru := ru) Nu a0 p0 h_a0 h_p0  nu
    rw [L_To_copyFrom_26] at hf
    refine r_iload_n 2 d_To_copyFrom_26 rfl rfl ?_
    refine r_bipush (v := 8) d_To_copyFrom_27 (by decide) ?_
    refine r_icmp_ge 86 d_To_copyFrom_29 (by decide) (fun qu4 => ?_) (fun qu4 => ?_)
    · replace hf := ip qu4 hf
      obtain rfl := Option.some.inj hf
      exact r_return d_To_copyFrom_86 rfl rfl
    · replace hf := im qu4 hf
      refine r_aload_n 0 d_To_copyFrom_32 rfl rfl ?_
      refine r_getR (a0 + 1) d_To_copyFrom_33 fl_To_18 h_a0 rfl (to_r3 h_a0) ?_
      refine r_iload_n 2 d_To_copyFrom_36 rfl rfl ?_
      refine r_aload_n 1 d_To_copyFrom_37 rfl rfl ?_
      refine r_getR (p0 + 1) d_To_copyFrom_38 fl_To_18 h_p0 rfl (to_r3 h_p0) ?_
      refine r_iload_n 2 d_To_copyFrom_41 rfl rfl ?_
      obtain ⟨qu5, hf⟩ := ck hf
      refine r_iald d_To_copyFrom_42 (to_s3 h_p0) qu5 ?_
      obtain ⟨qu6, hf⟩ := ck hf
      refine r_iast d_To_copyFrom_43 (to_s3 h_a0) qu6 ?_
      refine nmM (fun Mu7 hMu7 => ?_)
      replace hf := lt_of hMu7 hf
      refine r_aload_n 0 d_To_copyFrom_44 rfl rfl ?_
      refine r_getR (a0 + 2) d_To_copyFrom_45 fl_To_22 h_a0 rfl (to_r4 h_a0) ?_
      refine r_iload_n 2 d_To_copyFrom_48 rfl rfl ?_
      refine r_aload_n 1 d_To_copyFrom_49 rfl rfl ?_
      refine r_getR (p0 + 2) d_To_copyFrom_50 fl_To_22 h_p0 rfl (to_r4 h_p0) ?_
      refine r_iload_n 2 d_To_copyFrom_53 rfl rfl ?_
      obtain ⟨qu8, hf⟩ := ck hf
      refine r_iald d_To_copyFrom_54 (to_s4 h_p0) qu8 ?_
      obtain ⟨qu9, hf⟩ := ck hf
      refine r_iast d_To_copyFrom_55 (to_s4 h_a0) qu9 ?_
      refine nmM (fun Mu10 hMu10 => ?_)
      replace hf := lt_of hMu10 hf
      refine r_aload_n 0 d_To_copyFrom_56 rfl rfl ?_
      refine r_getR (a0 + 3) d_To_copyFrom_57 fl_To_25 h_a0 rfl (to_r5 h_a0) ?_
      refine r_iload_n 2 d_To_copyFrom_60 rfl rfl ?_
      refine r_aload_n 1 d_To_copyFrom_61 rfl rfl ?_
      refine r_getR (p0 + 3) d_To_copyFrom_62 fl_To_25 h_p0 rfl (to_r5 h_p0) ?_
      refine r_iload_n 2 d_To_copyFrom_65 rfl rfl ?_
      obtain ⟨qu11, hf⟩ := ck hf
      refine r_iald d_To_copyFrom_66 (to_s5 h_p0) qu11 ?_
      obtain ⟨qu12, hf⟩ := ck hf
      refine r_iast d_To_copyFrom_67 (to_s5 h_a0) qu12 ?_
      refine nmM (fun Mu13 hMu13 => ?_)
      replace hf := lt_of hMu13 hf
      refine r_aload_n 0 d_To_copyFrom_68 rfl rfl ?_
      refine r_getR (a0 + 4) d_To_copyFrom_69 fl_To_28 h_a0 rfl (to_r6 h_a0) ?_
      refine r_iload_n 2 d_To_copyFrom_72 rfl rfl ?_
      refine r_aload_n 1 d_To_copyFrom_73 rfl rfl ?_
      refine r_getR (p0 + 4) d_To_copyFrom_74 fl_To_28 h_p0 rfl (to_r6 h_p0) ?_
      refine r_iload_n 2 d_To_copyFrom_77 rfl rfl ?_
      obtain ⟨qu14, hf⟩ := ck hf
      refine r_iald d_To_copyFrom_78 (to_s6 h_p0) qu14 ?_
      obtain ⟨qu15, hf⟩ := ck hf
      refine r_iast d_To_copyFrom_79 (to_s6 h_a0) qu15 ?_
      refine nmM (fun Mu16 hMu16 => ?_)
      replace hf := lt_of hMu16 hf
      obtain ⟨xu17, hxu17⟩ : ∃ y : Int32, y = z2_26 + 1 := ⟨_, rfl⟩
      replace hf := lt_of hxu17 hf
      refine r_iinc (lv' := [some (.ref a0), some (.ref p0), some (.int xu17)]) d_To_copyFrom_80 rfl (by rw [hxu17]; rfl) (by decide) rfl ?_
      refine r_goto 26 d_To_copyFrom_83 (by decide) ?_
      exact ih xu17 Mu16  hf
theorem cm_To_copyFrom {G : GT} {Nu : Nat} {a0 : Nat} {p0 : Nat} {Mu : Mm}  {ru : Mm} (h_a0 : sh a0 = (5, 0)) (h_p0 : sh p0 = (5, 0)) (hf : f_To_copyFrom Nu a0 p0 Mu = some ru) : CM G 1 y_To_copyFrom c_To_copyFrom 3 none (none, ru) Mu [.ref a0, .ref p0] := by
  unfold f_To_copyFrom at hf
  refine CM.of (own := R_To) (lv := [some (.ref a0), some (.ref p0), none]) (by decide) rfl (Nat.le_of_ble_eq_true rfl) rfl ?_
  refine r_aload_n 0 d_To_copyFrom_0 rfl rfl ?_
  refine r_aload_n 1 d_To_copyFrom_1 rfl rfl ?_
  refine r_getI d_To_copyFrom_2 fl_To_31 h_p0 (by decide) ?_
  refine r_putI d_To_copyFrom_5 fl_To_31 h_a0 (Or.inl rfl) rfl ?_
  refine nmM (fun Mu1 hMu1 => ?_)
  replace hf := lt_of hMu1 hf
  refine r_aload_n 0 d_To_copyFrom_8 rfl rfl ?_
  refine r_aload_n 1 d_To_copyFrom_9 rfl rfl ?_
  refine r_getI d_To_copyFrom_10 fl_To_9 h_p0 (by decide) ?_
  refine r_putI d_To_copyFrom_13 fl_To_9 h_a0 (Or.inl rfl) rfl ?_
  refine nmM (fun Mu2 hMu2 => ?_)
  replace hf := lt_of hMu2 hf
  refine r_aload_n 0 d_To_copyFrom_16 rfl rfl ?_
  refine r_aload_n 1 d_To_copyFrom_17 rfl rfl ?_
  refine r_getI d_To_copyFrom_18 fl_To_15 h_p0 (by decide) ?_
  refine r_putI d_To_copyFrom_21 fl_To_15 h_a0 (Or.inl rfl) rfl ?_
  refine nmM (fun Mu3 hMu3 => ?_)
  replace hf := lt_of hMu3 hf
  refine r_iconst (v := 0) d_To_copyFrom_24 (by decide) ?_
  refine r_istore_n (lv' := [some (.ref a0), some (.ref p0), some (.int 0)]) 2 d_To_copyFrom_25 rfl (by decide) rfl ?_
  exact l_To_copyFrom_26 (G := G) (ru := ru) Nu a0 p0 h_a0 h_p0  Nu 0 Mu3 hf
def f_In_bitCount (p0 : Int32) : Int32 := lt (p0 - (((p0.toUInt32 >>> ((1 : Int32).toUInt32 &&& Int32.toUInt32 31)).toInt32) &&& 1431655765)) fun xu1 => lt ((xu1 &&& 858993459) + (((xu1.toUInt32 >>> ((2 : Int32).toUInt32 &&& Int32.toUInt32 31)).toInt32) &&& 858993459)) fun xu2 => lt ((xu2 + ((xu2.toUInt32 >>> ((4 : Int32).toUInt32 &&& Int32.toUInt32 31)).toInt32)) &&& 252645135) fun xu3 => lt (xu3 + ((xu3.toUInt32 >>> ((8 : Int32).toUInt32 &&& Int32.toUInt32 31)).toInt32)) fun xu4 => lt (xu4 + ((xu4.toUInt32 >>> ((16 : Int32).toUInt32 &&& Int32.toUInt32 31)).toInt32)) fun xu5 => xu5 &&& 63
theorem cm_In_bitCount {G : GT} (p0 : Int32) (Mu : Mm)  : CM G 1 y_In_bitCount c_In_bitCount 1 (some .int) (some (.int (f_In_bitCount p0)), Mu) Mu [.int p0] := by
  generalize hf : f_In_bitCount p0 = ru
  unfold f_In_bitCount at hf
  refine CM.of (own := R_In) (lv := [some (.int p0)]) (by decide) rfl (Nat.le_of_ble_eq_true rfl) rfl ?_
  refine r_iload_n 0 d_In_bitCount_0 rfl rfl ?_
  refine r_iload_n 0 d_In_bitCount_1 rfl rfl ?_
  refine r_iconst (v := 1) d_In_bitCount_2 (by decide) ?_
  refine r_iushr d_In_bitCount_3 ?_
  refine r_ldc_w d_In_bitCount_4 k_In_265 ?_
  refine r_iand d_In_bitCount_7 ?_
  refine r_isub d_In_bitCount_8 ?_
  refine nmI (fun xu1 hxu1 => ?_)
  replace hf := lt_of hxu1 hf
  refine r_istore_n (lv' := [some (.int xu1)]) 0 d_In_bitCount_9 rfl (by decide) rfl ?_
  refine r_iload_n 0 d_In_bitCount_10 rfl rfl ?_
  refine r_ldc_w d_In_bitCount_11 k_In_266 ?_
  refine r_iand d_In_bitCount_14 ?_
  refine r_iload_n 0 d_In_bitCount_15 rfl rfl ?_
  refine r_iconst (v := 2) d_In_bitCount_16 (by decide) ?_
  refine r_iushr d_In_bitCount_17 ?_
  refine r_ldc_w d_In_bitCount_18 k_In_266 ?_
  refine r_iand d_In_bitCount_21 ?_
  refine r_iadd d_In_bitCount_22 ?_
  refine nmI (fun xu2 hxu2 => ?_)
  replace hf := lt_of hxu2 hf
  refine r_istore_n (lv' := [some (.int xu2)]) 0 d_In_bitCount_23 rfl (by decide) rfl ?_
  refine r_iload_n 0 d_In_bitCount_24 rfl rfl ?_
  refine r_iload_n 0 d_In_bitCount_25 rfl rfl ?_
  refine r_iconst (v := 4) d_In_bitCount_26 (by decide) ?_
  refine r_iushr d_In_bitCount_27 ?_
  refine r_iadd d_In_bitCount_28 ?_
  refine r_ldc_w d_In_bitCount_29 k_In_267 ?_
  refine r_iand d_In_bitCount_32 ?_
  refine nmI (fun xu3 hxu3 => ?_)
  replace hf := lt_of hxu3 hf
  refine r_istore_n (lv' := [some (.int xu3)]) 0 d_In_bitCount_33 rfl (by decide) rfl ?_
  refine r_iload_n 0 d_In_bitCount_34 rfl rfl ?_
  refine r_iload_n 0 d_In_bitCount_35 rfl rfl ?_
  refine r_bipush (v := 8) d_In_bitCount_36 (by decide) ?_
  refine r_iushr d_In_bitCount_38 ?_
  refine r_iadd d_In_bitCount_39 ?_
  refine nmI (fun xu4 hxu4 => ?_)
  replace hf := lt_of hxu4 hf
  refine r_istore_n (lv' := [some (.int xu4)]) 0 d_In_bitCount_40 rfl (by decide) rfl ?_
  refine r_iload_n 0 d_In_bitCount_41 rfl rfl ?_
  refine r_iload_n 0 d_In_bitCount_42 rfl rfl ?_
  refine r_bipush (v := 16) d_In_bitCount_43 (by decide) ?_
  refine r_iushr d_In_bitCount_45 ?_
  refine r_iadd d_In_bitCount_46 ?_
  refine nmI (fun xu5 hxu5 => ?_)
  replace hf := lt_of hxu5 hf
  refine r_istore_n (lv' := [some (.int xu5)]) 0 d_In_bitCount_47 rfl (by decide) rfl ?_
  refine r_iload_n 0 d_In_bitCount_48 rfl rfl ?_
  refine r_bipush (v := 63) d_In_bitCount_49 (by decide) ?_
  refine r_iand d_In_bitCount_51 ?_
  subst hf
  exact r_ireturn d_In_bitCount_52 rfl rfl
def f_To_countOf (a0 : Nat) (p0 : Int32) (Mu : Mm) : Option (Int32) := if inb p0 8 = true then some (f_In_bitCount (Mu.1 (a0 + 1) (Int32.toNatClampNeg p0))) else none
theorem cm_To_countOf {G : GT} {a0 : Nat} {p0 : Int32} {Mu : Mm}  {ru : Int32} (h_a0 : sh a0 = (5, 0)) (hf : f_To_countOf a0 p0 Mu = some ru) : CM G 2 y_To_countOf c_To_countOf 2 (some .int) (some (.int ru), Mu) Mu [.ref a0, .int p0] := by
  unfold f_To_countOf at hf
  refine CM.of (own := R_To) (lv := [some (.ref a0), some (.int p0)]) (by decide) rfl (Nat.le_of_ble_eq_true rfl) rfl ?_
  refine r_aload_n 0 d_To_countOf_0 rfl rfl ?_
  refine r_getR (a0 + 1) d_To_countOf_1 fl_To_18 h_a0 rfl (to_r3 h_a0) ?_
  refine r_iload_n 1 d_To_countOf_4 rfl rfl ?_
  obtain ⟨qu1, hf⟩ := ck hf
  refine r_iald d_To_countOf_5 (to_s3 h_a0) qu1 ?_
  refine r_callS [.int (Mu.1 (a0 + 1) (Int32.toNatClampNeg p0))] d_To_countOf_6 lk_To_42 (cm_In_bitCount (Mu.1 (a0 + 1) (Int32.toNatClampNeg p0)) Mu) (by decide) rfl rfl (Nat.le_of_ble_eq_true rfl) ?_
  obtain rfl := Option.some.inj hf
  exact r_ireturn d_To_countOf_9 rfl rfl
def L_To_sayCounts_2 (Nu : Nat) (a0 : Nat) : Nat → Int32 → Mm → Option (Mm)
  | 0, _, _ => none
  | nu + 1, z1_2, M_2 => if (M_2.1 a0 0) ≤ z1_2 then some M_2 else (f_To_countOf a0 z1_2 M_2).bind fun vu2 => if inb z1_2 8 = true then lt (si M_2 (a0 + 4) (Int32.toNatClampNeg z1_2) vu2) fun Mu4 => lt (z1_2 + 1) fun xu5 => L_To_sayCounts_2 Nu a0 nu xu5 Mu4 else none
def f_To_sayCounts (Nu : Nat) (a0 : Nat) (Mu : Mm) : Option (Mm) := L_To_sayCounts_2 Nu a0 Nu 0 Mu
theorem l_To_sayCounts_2 {G : GT} {ru : Mm} (Nu : Nat) (a0 : Nat) (h_a0 : sh a0 = (5, 0))   : ∀ (nu : Nat) (z1_2 : Int32) (M_2 : Mm), L_To_sayCounts_2 Nu a0 nu z1_2 M_2 = some ru → SW G 3 c_To_sayCounts R_To 2 none (none, ru) M_2 2 [some (.ref a0), some (.int z1_2)] []
  | 0, _, _, hf => by cases hf
  | nu + 1, z1_2, M_2, hf => by
    have ih := l_To_sayCounts_2 (G := G) (ru := ru) Nu a0 h_a0  nu
    rw [L_To_sayCounts_2] at hf
    refine r_iload_n 1 d_To_sayCounts_2 rfl rfl ?_
    refine r_aload_n 0 d_To_sayCounts_3 rfl rfl ?_
    refine r_getI d_To_sayCounts_4 fl_To_31 h_a0 (by decide) ?_
    refine r_icmp_ge 27 d_To_sayCounts_7 (by decide) (fun qu1 => ?_) (fun qu1 => ?_)
    · replace hf := ip qu1 hf
      obtain rfl := Option.some.inj hf
      exact r_return d_To_sayCounts_27 rfl rfl
    · replace hf := im qu1 hf
      refine r_aload_n 0 d_To_sayCounts_10 rfl rfl ?_
      refine r_getR (a0 + 4) d_To_sayCounts_11 fl_To_28 h_a0 rfl (to_r6 h_a0) ?_
      refine r_iload_n 1 d_To_sayCounts_14 rfl rfl ?_
      refine r_aload_n 0 d_To_sayCounts_15 rfl rfl ?_
      refine r_iload_n 1 d_To_sayCounts_16 rfl rfl ?_
      obtain ⟨vu2, evu2, hf⟩ := bnd hf
      refine r_callV [.int z1_2] d_To_sayCounts_17 lk_To_48 h_a0 (cm_To_countOf h_a0 evu2) (by decide) rfl rfl (Nat.le_of_ble_eq_true rfl) ?_
      obtain ⟨qu3, hf⟩ := ck hf
      refine r_iast d_To_sayCounts_20 (to_s6 h_a0) qu3 ?_
      refine nmM (fun Mu4 hMu4 => ?_)
      replace hf := lt_of hMu4 hf
      obtain ⟨xu5, hxu5⟩ : ∃ y : Int32, y = z1_2 + 1 := ⟨_, rfl⟩
      replace hf := lt_of hxu5 hf
      refine r_iinc (lv' := [some (.ref a0), some (.int xu5)]) d_To_sayCounts_21 rfl (by rw [hxu5]; rfl) (by decide) rfl ?_
      refine r_goto 2 d_To_sayCounts_24 (by decide) ?_
      exact ih xu5 Mu4  hf
theorem cm_To_sayCounts {G : GT} {Nu : Nat} {a0 : Nat} {Mu : Mm}  {ru : Mm} (h_a0 : sh a0 = (5, 0)) (hf : f_To_sayCounts Nu a0 Mu = some ru) : CM G 3 y_To_sayCounts c_To_sayCounts 2 none (none, ru) Mu [.ref a0] := by
  unfold f_To_sayCounts at hf
  refine CM.of (own := R_To) (lv := [some (.ref a0), none]) (by decide) rfl (Nat.le_of_ble_eq_true rfl) rfl ?_
  refine r_iconst (v := 0) d_To_sayCounts_0 (by decide) ?_
  refine r_istore_n (lv' := [some (.ref a0), some (.int 0)]) 1 d_To_sayCounts_1 rfl (by decide) rfl ?_
  exact l_To_sayCounts_2 (G := G) (ru := ru) Nu a0 h_a0  Nu 0 Mu hf
def L_To_friendships_4 (Nu : Nat) (a0 : Nat) (Mu : Mm) (ju1 : Int32 → Option (Int32)) : Nat → Int32 → Int32 → Option (Int32)
  | 0, _, _ => none
  | nu + 1, z1_4, z2_4 => if (Mu.1 a0 0) ≤ z2_4 then ju1 z1_4 else (f_To_countOf a0 z2_4 Mu).bind fun vu4 => lt (z1_4 + vu4) fun xu5 => lt (z2_4 + 1) fun xu6 => L_To_friendships_4 Nu a0 Mu ju1 nu xu5 xu6
def f_To_friendships (Nu : Nat) (a0 : Nat) (Mu : Mm) : Option (Int32) := lt (fun (xu2 : Int32) => some (xu2 / 2)) fun ju1 => L_To_friendships_4 Nu a0 Mu ju1 Nu 0 0
theorem l_To_friendships_4 {G : GT} {ru : Int32} (Nu : Nat) (a0 : Nat) (Mu : Mm) (ju1 : Int32 → Option (Int32)) (h_a0 : sh a0 = (5, 0)) (Kju1 : ∀ (w1 : Int32), ju1 w1 = some ru → SW G 3 c_To_friendships R_To 3 (some .int) (some (.int ru), Mu) Mu 26 [none, some (.int w1), none] [])  : ∀ (nu : Nat) (z1_4 : Int32) (z2_4 : Int32), L_To_friendships_4 Nu a0 Mu ju1 nu z1_4 z2_4 = some ru → SW G 3 c_To_friendships R_To 3 (some .int) (some (.int ru), Mu) Mu 4 [some (.ref a0), some (.int z1_4), some (.int z2_4)] []
  | 0, _, _, hf => by cases hf
  | nu + 1, z1_4, z2_4, hf => by
    have ih := l_To_friendships_4 (G := G) (ru := ru) Nu a0 Mu ju1 h_a0 Kju1 nu
    rw [L_To_friendships_4] at hf
    refine r_iload_n 2 d_To_friendships_4 rfl rfl ?_
    refine r_aload_n 0 d_To_friendships_5 rfl rfl ?_
    refine r_getI d_To_friendships_6 fl_To_31 h_a0 (by decide) ?_
    refine r_icmp_ge 26 d_To_friendships_9 (by decide) (fun qu3 => ?_) (fun qu3 => ?_)
    · replace hf := ip qu3 hf
      refine r_weak [0, 2] (lv' := [none, some (.int z1_4), none]) rfl ?_
      exact Kju1 z1_4  hf
    · replace hf := im qu3 hf
      refine r_iload_n 1 d_To_friendships_12 rfl rfl ?_
      refine r_aload_n 0 d_To_friendships_13 rfl rfl ?_
      refine r_iload_n 2 d_To_friendships_14 rfl rfl ?_
      obtain ⟨vu4, evu4, hf⟩ := bnd hf
      refine r_callV [.int z2_4] d_To_friendships_15 lk_To_48 h_a0 (cm_To_countOf h_a0 evu4) (by decide) rfl rfl (Nat.le_of_ble_eq_true rfl) ?_
      refine r_iadd d_To_friendships_18 ?_
      refine nmI (fun xu5 hxu5 => ?_)
      replace hf := lt_of hxu5 hf
      refine r_istore_n (lv' := [some (.ref a0), some (.int xu5), some (.int z2_4)]) 1 d_To_friendships_19 rfl (by decide) rfl ?_
      obtain ⟨xu6, hxu6⟩ : ∃ y : Int32, y = z2_4 + 1 := ⟨_, rfl⟩
      replace hf := lt_of hxu6 hf
      refine r_iinc (lv' := [some (.ref a0), some (.int xu5), some (.int xu6)]) d_To_friendships_20 rfl (by rw [hxu6]; rfl) (by decide) rfl ?_
      refine r_goto 4 d_To_friendships_23 (by decide) ?_
      exact ih xu5 xu6  hf
theorem cm_To_friendships {G : GT} {Nu : Nat} {a0 : Nat} {Mu : Mm}  {ru : Int32} (h_a0 : sh a0 = (5, 0)) (hf : f_To_friendships Nu a0 Mu = some ru) : CM G 3 y_To_friendships c_To_friendships 3 (some .int) (some (.int ru), Mu) Mu [.ref a0] := by
  unfold f_To_friendships at hf
  refine CM.of (own := R_To) (lv := [some (.ref a0), none, none]) (by decide) rfl (Nat.le_of_ble_eq_true rfl) rfl ?_
  refine r_iconst (v := 0) d_To_friendships_0 (by decide) ?_
  refine r_istore_n (lv' := [some (.ref a0), some (.int 0), none]) 1 d_To_friendships_1 rfl (by decide) rfl ?_
  refine r_iconst (v := 0) d_To_friendships_2 (by decide) ?_
  refine r_istore_n (lv' := [some (.ref a0), some (.int 0), some (.int 0)]) 2 d_To_friendships_3 rfl (by decide) rfl ?_
  obtain ⟨ju1, hju1, hf⟩ := lt_ex hf
  have Kju1 : ∀ (xu2 : Int32), ju1 xu2 = some ru → SW G 3 c_To_friendships R_To 3 (some .int) (some (.int ru), Mu) Mu 26 [none, some (.int xu2), none] [] := by
    intro xu2 hf
    rw [hju1] at hf
    refine r_iload_n 1 d_To_friendships_26 rfl rfl ?_
    refine r_iconst (v := 2) d_To_friendships_27 (by decide) ?_
    refine r_idiv d_To_friendships_28 (by decide) ?_
    obtain rfl := Option.some.inj hf
    exact r_ireturn d_To_friendships_29 rfl rfl
  exact l_To_friendships_4 (G := G) (ru := ru) Nu a0 Mu ju1 h_a0 Kju1 Nu 0 0 hf
def L_To_asNumber_22 (Nu : Nat) (a0 : Nat) (p0 : Nat) (Mu : Mm) (z4_7 : Int32) (ju3 : Int32 → Int32 → Option (Int32)) : Nat → Int32 → Int32 → Int32 → Option (Int32)
  | 0, _, _, _ => none
  | nu + 1, z2_22, z3_22, z5_22 => if (Mu.1 a0 0) ≤ z5_22 then ju3 z2_22 z3_22 else if inb z4_7 8 = true then lt (fun (xu10 : Int32) => lt (z3_22 <<< (1 &&& 31)) fun xu11 => lt (z5_22 + 1) fun xu12 => L_To_asNumber_22 Nu a0 p0 Mu z4_7 ju3 nu xu10 xu11 xu12) fun ju9 => if (((Mu.1 p0 (Int32.toNatClampNeg z4_7)) >>> (z5_22 &&& 31)) &&& 1) = 1 then lt (z2_22 ||| z3_22) fun xu14 => ju9 xu14 else ju9 z2_22 else none
def L_To_asNumber_7 (Nu : Nat) (a0 : Nat) (p0 : Nat) (Mu : Mm) : Nat → Int32 → Int32 → Int32 → Option (Int32)
  | 0, _, _, _ => none
  | nu + 1, z2_7, z3_7, z4_7 => if (Mu.1 a0 0) ≤ z4_7 then some z2_7 else lt (z4_7 + 1) fun xu2 => lt (fun (xu4 : Int32) (xu5 : Int32) => lt (z4_7 + 1) fun xu6 => L_To_asNumber_7 Nu a0 p0 Mu nu xu4 xu5 xu6) fun ju3 => L_To_asNumber_22 Nu a0 p0 Mu z4_7 ju3 Nu z2_7 z3_7 xu2
def f_To_asNumber (Nu : Nat) (a0 : Nat) (p0 : Nat) (Mu : Mm) : Option (Int32) := L_To_asNumber_7 Nu a0 p0 Mu Nu 0 1 0
theorem l_To_asNumber_22 {G : GT} {ru : Int32} (Nu : Nat) (a0 : Nat) (p0 : Nat) (Mu : Mm) (z4_7 : Int32) (ju3 : Int32 → Int32 → Option (Int32)) (h_a0 : sh a0 = (5, 0)) (h_p0 : sh p0 = (10, 8)) (Kju3 : ∀ (w2 : Int32) (w3 : Int32), ju3 w2 w3 = some ru → SW G 1 c_To_asNumber R_To 6 (some .int) (some (.int ru), Mu) Mu 58 [some (.ref a0), some (.ref p0), some (.int w2), some (.int w3), some (.int z4_7), none] [])  : ∀ (nu : Nat) (z2_22 : Int32) (z3_22 : Int32) (z5_22 : Int32), L_To_asNumber_22 Nu a0 p0 Mu z4_7 ju3 nu z2_22 z3_22 z5_22 = some ru → SW G 1 c_To_asNumber R_To 6 (some .int) (some (.int ru), Mu) Mu 22 [some (.ref a0), some (.ref p0), some (.int z2_22), some (.int z3_22), some (.int z4_7), some (.int z5_22)] []
  | 0, _, _, _, hf => by cases hf
  | nu + 1, z2_22, z3_22, z5_22, hf => by
    have ih := l_To_asNumber_22 (G := G) (ru := ru) Nu a0 p0 Mu z4_7 ju3 h_a0 h_p0 Kju3 nu
    rw [L_To_asNumber_22] at hf
    refine r_iload d_To_asNumber_22 rfl ?_
    refine r_aload_n 0 d_To_asNumber_24 rfl rfl ?_
    refine r_getI d_To_asNumber_25 fl_To_31 h_a0 (by decide) ?_
    refine r_icmp_ge 58 d_To_asNumber_28 (by decide) (fun qu7 => ?_) (fun qu7 => ?_)
    · replace hf := ip qu7 hf
      refine r_weak [5] (lv' := [some (.ref a0), some (.ref p0), some (.int z2_22), some (.int z3_22), some (.int z4_7), none]) rfl ?_
      exact Kju3 z2_22 z3_22  hf
    · replace hf := im qu7 hf
      refine r_aload_n 1 d_To_asNumber_31 rfl rfl ?_
      refine r_iload d_To_asNumber_32 rfl ?_
      obtain ⟨qu8, hf⟩ := ck hf
      refine r_iald d_To_asNumber_34 h_p0 qu8 ?_
      refine r_iload d_To_asNumber_35 rfl ?_
      refine r_ishr d_To_asNumber_37 ?_
      refine r_iconst (v := 1) d_To_asNumber_38 (by decide) ?_
      refine r_iand d_To_asNumber_39 ?_
      refine r_iconst (v := 1) d_To_asNumber_40 (by decide) ?_
      obtain ⟨ju9, hju9, hf⟩ := lt_ex hf
      have Kju9 : ∀ (xu10 : Int32), ju9 xu10 = some ru → SW G 1 c_To_asNumber R_To 6 (some .int) (some (.int ru), Mu) Mu 48 [some (.ref a0), some (.ref p0), some (.int xu10), some (.int z3_22), some (.int z4_7), some (.int z5_22)] [] := by
        intro xu10 hf
        rw [hju9] at hf
        refine r_iload_n 3 d_To_asNumber_48 rfl rfl ?_
        refine r_iconst (v := 1) d_To_asNumber_49 (by decide) ?_
        refine r_ishl d_To_asNumber_50 ?_
        refine nmI (fun xu11 hxu11 => ?_)
        replace hf := lt_of hxu11 hf
        refine r_istore_n (lv' := [some (.ref a0), some (.ref p0), some (.int xu10), some (.int xu11), some (.int z4_7), some (.int z5_22)]) 3 d_To_asNumber_51 rfl (by decide) rfl ?_
        obtain ⟨xu12, hxu12⟩ : ∃ y : Int32, y = z5_22 + 1 := ⟨_, rfl⟩
        replace hf := lt_of hxu12 hf
        refine r_iinc (lv' := [some (.ref a0), some (.ref p0), some (.int xu10), some (.int xu11), some (.int z4_7), some (.int xu12)]) d_To_asNumber_52 rfl (by rw [hxu12]; rfl) (by decide) rfl ?_
        refine r_goto 22 d_To_asNumber_55 (by decide) ?_
        exact ih xu10 xu11 xu12  hf
      refine r_icmp_ne 48 d_To_asNumber_41 (by decide) (fun qu13 => ?_) (fun qu13 => ?_)
      · replace hf := im qu13 hf
        exact Kju9 z2_22  hf
      · replace hf := ip qu13 hf
        refine r_iload_n 2 d_To_asNumber_44 rfl rfl ?_
        refine r_iload_n 3 d_To_asNumber_45 rfl rfl ?_
        refine r_ior d_To_asNumber_46 ?_
        refine nmI (fun xu14 hxu14 => ?_)
        replace hf := lt_of hxu14 hf
        refine r_istore_n (lv' := [some (.ref a0), some (.ref p0), some (.int xu14), some (.int z3_22), some (.int z4_7), some (.int z5_22)]) 2 d_To_asNumber_47 rfl (by decide) rfl ?_
        exact Kju9 xu14  hf
theorem l_To_asNumber_7 {G : GT} {ru : Int32} (Nu : Nat) (a0 : Nat) (p0 : Nat) (Mu : Mm) (h_a0 : sh a0 = (5, 0)) (h_p0 : sh p0 = (10, 8))   : ∀ (nu : Nat) (z2_7 : Int32) (z3_7 : Int32) (z4_7 : Int32), L_To_asNumber_7 Nu a0 p0 Mu nu z2_7 z3_7 z4_7 = some ru → SW G 1 c_To_asNumber R_To 6 (some .int) (some (.int ru), Mu) Mu 7 [some (.ref a0), some (.ref p0), some (.int z2_7), some (.int z3_7), some (.int z4_7), none] []
  | 0, _, _, _, hf => by cases hf
  | nu + 1, z2_7, z3_7, z4_7, hf => by
    have ih := l_To_asNumber_7 (G := G) (ru := ru) Nu a0 p0 Mu h_a0 h_p0  nu
    rw [L_To_asNumber_7] at hf
    refine r_iload d_To_asNumber_7 rfl ?_
    refine r_aload_n 0 d_To_asNumber_9 rfl rfl ?_
    refine r_getI d_To_asNumber_10 fl_To_31 h_a0 (by decide) ?_
    refine r_icmp_ge 64 d_To_asNumber_13 (by decide) (fun qu1 => ?_) (fun qu1 => ?_)
    · replace hf := ip qu1 hf
      refine r_iload_n 2 d_To_asNumber_64 rfl rfl ?_
      obtain rfl := Option.some.inj hf
      exact r_ireturn d_To_asNumber_65 rfl rfl
    · replace hf := im qu1 hf
      refine r_iload d_To_asNumber_16 rfl ?_
      refine r_iconst (v := 1) d_To_asNumber_18 (by decide) ?_
      refine r_iadd d_To_asNumber_19 ?_
      refine nmI (fun xu2 hxu2 => ?_)
      replace hf := lt_of hxu2 hf
      refine r_istore (lv' := [some (.ref a0), some (.ref p0), some (.int z2_7), some (.int z3_7), some (.int z4_7), some (.int xu2)]) d_To_asNumber_20 (by decide) rfl ?_
      obtain ⟨ju3, hju3, hf⟩ := lt_ex hf
      have Kju3 : ∀ (xu4 : Int32) (xu5 : Int32), ju3 xu4 xu5 = some ru → SW G 1 c_To_asNumber R_To 6 (some .int) (some (.int ru), Mu) Mu 58 [some (.ref a0), some (.ref p0), some (.int xu4), some (.int xu5), some (.int z4_7), none] [] := by
        intro xu4 xu5 hf
        rw [hju3] at hf
        obtain ⟨xu6, hxu6⟩ : ∃ y : Int32, y = z4_7 + 1 := ⟨_, rfl⟩
        replace hf := lt_of hxu6 hf
        refine r_iinc (lv' := [some (.ref a0), some (.ref p0), some (.int xu4), some (.int xu5), some (.int xu6), none]) d_To_asNumber_58 rfl (by rw [hxu6]; rfl) (by decide) rfl ?_
        refine r_goto 7 d_To_asNumber_61 (by decide) ?_
        exact ih xu4 xu5 xu6  hf
      exact l_To_asNumber_22 (G := G) (ru := ru) Nu a0 p0 Mu z4_7 ju3 h_a0 h_p0 Kju3 Nu z2_7 z3_7 xu2 hf
theorem cm_To_asNumber {G : GT} {Nu : Nat} {a0 : Nat} {p0 : Nat} {Mu : Mm}  {ru : Int32} (h_a0 : sh a0 = (5, 0)) (h_p0 : sh p0 = (10, 8)) (hf : f_To_asNumber Nu a0 p0 Mu = some ru) : CM G 1 y_To_asNumber c_To_asNumber 6 (some .int) (some (.int ru), Mu) Mu [.ref a0, .ref p0] := by
  unfold f_To_asNumber at hf
  refine CM.of (own := R_To) (lv := [some (.ref a0), some (.ref p0), none, none, none, none]) (by decide) rfl (Nat.le_of_ble_eq_true rfl) rfl ?_
  refine r_iconst (v := 0) d_To_asNumber_0 (by decide) ?_
  refine r_istore_n (lv' := [some (.ref a0), some (.ref p0), some (.int 0), none, none, none]) 2 d_To_asNumber_1 rfl (by decide) rfl ?_
  refine r_iconst (v := 1) d_To_asNumber_2 (by decide) ?_
  refine r_istore_n (lv' := [some (.ref a0), some (.ref p0), some (.int 0), some (.int 1), none, none]) 3 d_To_asNumber_3 rfl (by decide) rfl ?_
  refine r_iconst (v := 0) d_To_asNumber_4 (by decide) ?_
  refine r_istore (lv' := [some (.ref a0), some (.ref p0), some (.int 0), some (.int 1), some (.int 0), none]) d_To_asNumber_5 (by decide) rfl ?_
  exact l_To_asNumber_7 (G := G) (ru := ru) Nu a0 p0 Mu h_a0 h_p0  Nu 0 1 0 hf
def L_To_alikeWith_4 (Nu : Nat) (a0 : Nat) (p0 : Int32) (Mu : Mm) : Nat → Int32 → Int32 → Option (Int32)
  | 0, _, _ => none
  | nu + 1, z2_4, z3_4 => if (Mu.1 a0 0) ≤ z3_4 then some z2_4 else lt (fun (xu3 : Int32) => lt (z3_4 + 1) fun xu4 => L_To_alikeWith_4 Nu a0 p0 Mu nu xu3 xu4) fun ju2 => if z3_4 = p0 then ju2 z2_4 else (f_To_countOf a0 z3_4 Mu).bind fun vu6 => (f_To_countOf a0 p0 Mu).bind fun vu7 => if vu6 = vu7 then lt (z2_4 ||| ((1 : Int32) <<< (z3_4 &&& 31))) fun xu9 => ju2 xu9 else ju2 z2_4
def f_To_alikeWith (Nu : Nat) (a0 : Nat) (p0 : Int32) (Mu : Mm) : Option (Int32) := L_To_alikeWith_4 Nu a0 p0 Mu Nu 0 0
theorem l_To_alikeWith_4 {G : GT} {ru : Int32} (Nu : Nat) (a0 : Nat) (p0 : Int32) (Mu : Mm) (h_a0 : sh a0 = (5, 0))   : ∀ (nu : Nat) (z2_4 : Int32) (z3_4 : Int32), L_To_alikeWith_4 Nu a0 p0 Mu nu z2_4 z3_4 = some ru → SW G 3 c_To_alikeWith R_To 4 (some .int) (some (.int ru), Mu) Mu 4 [some (.ref a0), some (.int p0), some (.int z2_4), some (.int z3_4)] []
  | 0, _, _, hf => by cases hf
  | nu + 1, z2_4, z3_4, hf => by
    have ih := l_To_alikeWith_4 (G := G) (ru := ru) Nu a0 p0 Mu h_a0  nu
    rw [L_To_alikeWith_4] at hf
    refine r_iload_n 3 d_To_alikeWith_4 rfl rfl ?_
    refine r_aload_n 0 d_To_alikeWith_5 rfl rfl ?_
    refine r_getI d_To_alikeWith_6 fl_To_31 h_a0 (by decide) ?_
    refine r_icmp_ge 42 d_To_alikeWith_9 (by decide) (fun qu1 => ?_) (fun qu1 => ?_)
    · replace hf := ip qu1 hf
      refine r_iload_n 2 d_To_alikeWith_42 rfl rfl ?_
      obtain rfl := Option.some.inj hf
      exact r_ireturn d_To_alikeWith_43 rfl rfl
    · replace hf := im qu1 hf
      refine r_iload_n 3 d_To_alikeWith_12 rfl rfl ?_
      refine r_iload_n 1 d_To_alikeWith_13 rfl rfl ?_
      obtain ⟨ju2, hju2, hf⟩ := lt_ex hf
      have Kju2 : ∀ (xu3 : Int32), ju2 xu3 = some ru → SW G 3 c_To_alikeWith R_To 4 (some .int) (some (.int ru), Mu) Mu 36 [some (.ref a0), some (.int p0), some (.int xu3), some (.int z3_4)] [] := by
        intro xu3 hf
        rw [hju2] at hf
        obtain ⟨xu4, hxu4⟩ : ∃ y : Int32, y = z3_4 + 1 := ⟨_, rfl⟩
        replace hf := lt_of hxu4 hf
        refine r_iinc (lv' := [some (.ref a0), some (.int p0), some (.int xu3), some (.int xu4)]) d_To_alikeWith_36 rfl (by rw [hxu4]; rfl) (by decide) rfl ?_
        refine r_goto 4 d_To_alikeWith_39 (by decide) ?_
        exact ih xu3 xu4  hf
      refine r_icmp_eq 36 d_To_alikeWith_14 (by decide) (fun qu5 => ?_) (fun qu5 => ?_)
      · replace hf := ip qu5 hf
        exact Kju2 z2_4  hf
      · replace hf := im qu5 hf
        refine r_aload_n 0 d_To_alikeWith_17 rfl rfl ?_
        refine r_iload_n 3 d_To_alikeWith_18 rfl rfl ?_
        obtain ⟨vu6, evu6, hf⟩ := bnd hf
        refine r_callV [.int z3_4] d_To_alikeWith_19 lk_To_48 h_a0 (cm_To_countOf h_a0 evu6) (by decide) rfl rfl (Nat.le_of_ble_eq_true rfl) ?_
        refine r_aload_n 0 d_To_alikeWith_22 rfl rfl ?_
        refine r_iload_n 1 d_To_alikeWith_23 rfl rfl ?_
        obtain ⟨vu7, evu7, hf⟩ := bnd hf
        refine r_callV [.int p0] d_To_alikeWith_24 lk_To_48 h_a0 (cm_To_countOf h_a0 evu7) (by decide) rfl rfl (Nat.le_of_ble_eq_true rfl) ?_
        refine r_icmp_ne 36 d_To_alikeWith_27 (by decide) (fun qu8 => ?_) (fun qu8 => ?_)
        · replace hf := im qu8 hf
          exact Kju2 z2_4  hf
        · replace hf := ip qu8 hf
          refine r_iload_n 2 d_To_alikeWith_30 rfl rfl ?_
          refine r_iconst (v := 1) d_To_alikeWith_31 (by decide) ?_
          refine r_iload_n 3 d_To_alikeWith_32 rfl rfl ?_
          refine r_ishl d_To_alikeWith_33 ?_
          refine r_ior d_To_alikeWith_34 ?_
          refine nmI (fun xu9 hxu9 => ?_)
          replace hf := lt_of hxu9 hf
          refine r_istore_n (lv' := [some (.ref a0), some (.int p0), some (.int xu9), some (.int z3_4)]) 2 d_To_alikeWith_35 rfl (by decide) rfl ?_
          exact Kju2 xu9  hf
theorem cm_To_alikeWith {G : GT} {Nu : Nat} {a0 : Nat} {p0 : Int32} {Mu : Mm}  {ru : Int32} (h_a0 : sh a0 = (5, 0)) (hf : f_To_alikeWith Nu a0 p0 Mu = some ru) : CM G 3 y_To_alikeWith c_To_alikeWith 4 (some .int) (some (.int ru), Mu) Mu [.ref a0, .int p0] := by
  unfold f_To_alikeWith at hf
  refine CM.of (own := R_To) (lv := [some (.ref a0), some (.int p0), none, none]) (by decide) rfl (Nat.le_of_ble_eq_true rfl) rfl ?_
  refine r_iconst (v := 0) d_To_alikeWith_0 (by decide) ?_
  refine r_istore_n (lv' := [some (.ref a0), some (.int p0), some (.int 0), none]) 2 d_To_alikeWith_1 rfl (by decide) rfl ?_
  refine r_iconst (v := 0) d_To_alikeWith_2 (by decide) ?_
  refine r_istore_n (lv' := [some (.ref a0), some (.int p0), some (.int 0), some (.int 0)]) 3 d_To_alikeWith_3 rfl (by decide) rfl ?_
  exact l_To_alikeWith_4 (G := G) (ru := ru) Nu a0 p0 Mu h_a0  Nu 0 0 hf
def L_To_alikePairs_4 (Nu : Nat) (a0 : Nat) (Mu : Mm) (ju1 : Int32 → Option (Int32)) : Nat → Int32 → Int32 → Option (Int32)
  | 0, _, _ => none
  | nu + 1, z1_4, z2_4 => if (Mu.1 a0 0) ≤ z2_4 then ju1 z1_4 else (f_To_alikeWith Nu a0 z2_4 Mu).bind fun vu4 => lt (z1_4 + (f_In_bitCount vu4)) fun xu5 => lt (z2_4 + 1) fun xu6 => L_To_alikePairs_4 Nu a0 Mu ju1 nu xu5 xu6
def f_To_alikePairs (Nu : Nat) (a0 : Nat) (Mu : Mm) : Option (Int32) := lt (fun (xu2 : Int32) => some (xu2 / 2)) fun ju1 => L_To_alikePairs_4 Nu a0 Mu ju1 Nu 0 0
theorem l_To_alikePairs_4 {G : GT} {ru : Int32} (Nu : Nat) (a0 : Nat) (Mu : Mm) (ju1 : Int32 → Option (Int32)) (h_a0 : sh a0 = (5, 0)) (Kju1 : ∀ (w1 : Int32), ju1 w1 = some ru → SW G 4 c_To_alikePairs R_To 3 (some .int) (some (.int ru), Mu) Mu 29 [none, some (.int w1), none] [])  : ∀ (nu : Nat) (z1_4 : Int32) (z2_4 : Int32), L_To_alikePairs_4 Nu a0 Mu ju1 nu z1_4 z2_4 = some ru → SW G 4 c_To_alikePairs R_To 3 (some .int) (some (.int ru), Mu) Mu 4 [some (.ref a0), some (.int z1_4), some (.int z2_4)] []
  | 0, _, _, hf => by cases hf
  | nu + 1, z1_4, z2_4, hf => by
    have ih := l_To_alikePairs_4 (G := G) (ru := ru) Nu a0 Mu ju1 h_a0 Kju1 nu
    rw [L_To_alikePairs_4] at hf
    refine r_iload_n 2 d_To_alikePairs_4 rfl rfl ?_
    refine r_aload_n 0 d_To_alikePairs_5 rfl rfl ?_
    refine r_getI d_To_alikePairs_6 fl_To_31 h_a0 (by decide) ?_
    refine r_icmp_ge 29 d_To_alikePairs_9 (by decide) (fun qu3 => ?_) (fun qu3 => ?_)
    · replace hf := ip qu3 hf
      refine r_weak [0, 2] (lv' := [none, some (.int z1_4), none]) rfl ?_
      exact Kju1 z1_4  hf
    · replace hf := im qu3 hf
      refine r_iload_n 1 d_To_alikePairs_12 rfl rfl ?_
      refine r_aload_n 0 d_To_alikePairs_13 rfl rfl ?_
      refine r_iload_n 2 d_To_alikePairs_14 rfl rfl ?_
      obtain ⟨vu4, evu4, hf⟩ := bnd hf
      refine r_callV [.int z2_4] d_To_alikePairs_15 lk_To_63 h_a0 (cm_To_alikeWith h_a0 evu4) (by decide) rfl rfl (Nat.le_of_ble_eq_true rfl) ?_
      refine r_callS [.int vu4] d_To_alikePairs_18 lk_To_42 (cm_In_bitCount vu4 Mu) (by decide) rfl rfl (Nat.le_of_ble_eq_true rfl) ?_
      refine r_iadd d_To_alikePairs_21 ?_
      refine nmI (fun xu5 hxu5 => ?_)
      replace hf := lt_of hxu5 hf
      refine r_istore_n (lv' := [some (.ref a0), some (.int xu5), some (.int z2_4)]) 1 d_To_alikePairs_22 rfl (by decide) rfl ?_
      obtain ⟨xu6, hxu6⟩ : ∃ y : Int32, y = z2_4 + 1 := ⟨_, rfl⟩
      replace hf := lt_of hxu6 hf
      refine r_iinc (lv' := [some (.ref a0), some (.int xu5), some (.int xu6)]) d_To_alikePairs_23 rfl (by rw [hxu6]; rfl) (by decide) rfl ?_
      refine r_goto 4 d_To_alikePairs_26 (by decide) ?_
      exact ih xu5 xu6  hf
theorem cm_To_alikePairs {G : GT} {Nu : Nat} {a0 : Nat} {Mu : Mm}  {ru : Int32} (h_a0 : sh a0 = (5, 0)) (hf : f_To_alikePairs Nu a0 Mu = some ru) : CM G 4 y_To_alikePairs c_To_alikePairs 3 (some .int) (some (.int ru), Mu) Mu [.ref a0] := by
  unfold f_To_alikePairs at hf
  refine CM.of (own := R_To) (lv := [some (.ref a0), none, none]) (by decide) rfl (Nat.le_of_ble_eq_true rfl) rfl ?_
  refine r_iconst (v := 0) d_To_alikePairs_0 (by decide) ?_
  refine r_istore_n (lv' := [some (.ref a0), some (.int 0), none]) 1 d_To_alikePairs_1 rfl (by decide) rfl ?_
  refine r_iconst (v := 0) d_To_alikePairs_2 (by decide) ?_
  refine r_istore_n (lv' := [some (.ref a0), some (.int 0), some (.int 0)]) 2 d_To_alikePairs_3 rfl (by decide) rfl ?_
  obtain ⟨ju1, hju1, hf⟩ := lt_ex hf
  have Kju1 : ∀ (xu2 : Int32), ju1 xu2 = some ru → SW G 4 c_To_alikePairs R_To 3 (some .int) (some (.int ru), Mu) Mu 29 [none, some (.int xu2), none] [] := by
    intro xu2 hf
    rw [hju1] at hf
    refine r_iload_n 1 d_To_alikePairs_29 rfl rfl ?_
    refine r_iconst (v := 2) d_To_alikePairs_30 (by decide) ?_
    refine r_idiv d_To_alikePairs_31 (by decide) ?_
    obtain rfl := Option.some.inj hf
    exact r_ireturn d_To_alikePairs_32 rfl rfl
  exact l_To_alikePairs_4 (G := G) (ru := ru) Nu a0 Mu ju1 h_a0 Kju1 Nu 0 0 hf
def f_Ma_min_II (p0 : Int32) (p1 : Int32) : Int32 := if p1 < p0 then p1 else p0
theorem cm_Ma_min_II {G : GT} (p0 : Int32) (p1 : Int32) (Mu : Mm)  : CM G 1 y_Ma_min_II c_Ma_min_II 2 (some .int) (some (.int (f_Ma_min_II p0 p1)), Mu) Mu [.int p0, .int p1] := by
  generalize hf : f_Ma_min_II p0 p1 = ru
  unfold f_Ma_min_II at hf
  refine CM.ofF (own := R_Ma) (lv := [some (.int p0), some (.int p1)]) (by decide +kernel) rfl (Nat.le_of_ble_eq_true rfl) rfl ?_
  refine r_iload_n 0 d_Ma_min_II_0 rfl rfl ?_
  refine r_iload_n 1 d_Ma_min_II_1 rfl rfl ?_
  refine r_icmp_gt 9 d_Ma_min_II_2 (by decide) (fun qu1 => ?_) (fun qu1 => ?_)
  · replace hf := ip qu1 hf
    refine r_iload_n 1 d_Ma_min_II_9 rfl rfl ?_
    subst hf
    exact r_ireturn d_Ma_min_II_10 rfl rfl
  · replace hf := im qu1 hf
    refine r_iload_n 0 d_Ma_min_II_5 rfl rfl ?_
    refine r_goto 10 d_Ma_min_II_6 (by decide) ?_
    subst hf
    exact r_ireturn d_Ma_min_II_10 rfl rfl
def f_Ma_max (p0 : Int32) (p1 : Int32) : Int32 := if p0 < p1 then p1 else p0
theorem cm_Ma_max {G : GT} (p0 : Int32) (p1 : Int32) (Mu : Mm)  : CM G 1 y_Ma_max c_Ma_max 2 (some .int) (some (.int (f_Ma_max p0 p1)), Mu) Mu [.int p0, .int p1] := by
  generalize hf : f_Ma_max p0 p1 = ru
  unfold f_Ma_max at hf
  refine CM.ofF (own := R_Ma) (lv := [some (.int p0), some (.int p1)]) (by decide +kernel) rfl (Nat.le_of_ble_eq_true rfl) rfl ?_
  refine r_iload_n 0 d_Ma_max_0 rfl rfl ?_
  refine r_iload_n 1 d_Ma_max_1 rfl rfl ?_
  refine r_icmp_lt 9 d_Ma_max_2 (by decide) (fun qu1 => ?_) (fun qu1 => ?_)
  · replace hf := ip qu1 hf
    refine r_iload_n 1 d_Ma_max_9 rfl rfl ?_
    subst hf
    exact r_ireturn d_Ma_max_10 rfl rfl
  · replace hf := im qu1 hf
    refine r_iload_n 0 d_Ma_max_5 rfl rfl ?_
    refine r_goto 10 d_Ma_max_6 (by decide) ?_
    subst hf
    exact r_ireturn d_Ma_max_10 rfl rfl
def f_To_pairNumber (a0 : Nat) (p0 : Int32) (p1 : Int32) (Mu : Mm) : Int32 := lt (f_Ma_min_II p0 p1) fun xu1 => lt (f_Ma_max p0 p1) fun xu2 => ((((xu1 * ((((2 : Int32) * (Mu.1 a0 0)) - xu1) - 1)) / 2) + xu2) - xu1) - 1
theorem cm_To_pairNumber {G : GT} (a0 : Nat) (p0 : Int32) (p1 : Int32) (Mu : Mm)  (h_a0 : sh a0 = (5, 0)) : CM G 2 y_To_pairNumber c_To_pairNumber 5 (some .int) (some (.int (f_To_pairNumber a0 p0 p1 Mu)), Mu) Mu [.ref a0, .int p0, .int p1] := by
  generalize hf : f_To_pairNumber a0 p0 p1 Mu = ru
  unfold f_To_pairNumber at hf
  refine CM.of (own := R_To) (lv := [some (.ref a0), some (.int p0), some (.int p1), none, none]) (by decide) rfl (Nat.le_of_ble_eq_true rfl) rfl ?_
  refine r_iload_n 1 d_To_pairNumber_0 rfl rfl ?_
  refine r_iload_n 2 d_To_pairNumber_1 rfl rfl ?_
  refine r_callS [.int p0, .int p1] d_To_pairNumber_2 lk_To_51 (cm_Ma_min_II p0 p1 Mu) (by decide) rfl rfl (Nat.le_of_ble_eq_true rfl) ?_
  refine nmI (fun xu1 hxu1 => ?_)
  replace hf := lt_of hxu1 hf
  refine r_istore_n (lv' := [some (.ref a0), some (.int p0), some (.int p1), some (.int xu1), none]) 3 d_To_pairNumber_5 rfl (by decide) rfl ?_
  refine r_iload_n 1 d_To_pairNumber_6 rfl rfl ?_
  refine r_iload_n 2 d_To_pairNumber_7 rfl rfl ?_
  refine r_callS [.int p0, .int p1] d_To_pairNumber_8 lk_To_57 (cm_Ma_max p0 p1 Mu) (by decide) rfl rfl (Nat.le_of_ble_eq_true rfl) ?_
  refine nmI (fun xu2 hxu2 => ?_)
  replace hf := lt_of hxu2 hf
  refine r_istore (lv' := [some (.ref a0), some (.int p0), some (.int p1), some (.int xu1), some (.int xu2)]) d_To_pairNumber_11 (by decide) rfl ?_
  refine r_iload_n 3 d_To_pairNumber_13 rfl rfl ?_
  refine r_iconst (v := 2) d_To_pairNumber_14 (by decide) ?_
  refine r_aload_n 0 d_To_pairNumber_15 rfl rfl ?_
  refine r_getI d_To_pairNumber_16 fl_To_31 h_a0 (by decide) ?_
  refine r_imul d_To_pairNumber_19 ?_
  refine r_iload_n 3 d_To_pairNumber_20 rfl rfl ?_
  refine r_isub d_To_pairNumber_21 ?_
  refine r_iconst (v := 1) d_To_pairNumber_22 (by decide) ?_
  refine r_isub d_To_pairNumber_23 ?_
  refine r_imul d_To_pairNumber_24 ?_
  refine r_iconst (v := 2) d_To_pairNumber_25 (by decide) ?_
  refine r_idiv d_To_pairNumber_26 (by decide) ?_
  refine r_iload d_To_pairNumber_27 rfl ?_
  refine r_iadd d_To_pairNumber_29 ?_
  refine r_iload_n 3 d_To_pairNumber_30 rfl rfl ?_
  refine r_isub d_To_pairNumber_31 ?_
  refine r_iconst (v := 1) d_To_pairNumber_32 (by decide) ?_
  refine r_isub d_To_pairNumber_33 ?_
  subst hf
  exact r_ireturn d_To_pairNumber_34 rfl rfl
def f_To_allows (a0 : Nat) (p0 : Int32) (p1 : Int32) (p2 : Int32) (Mu : Mm) : Option (Int32) := (f_To_barOf a0 p0 p1 Mu).bind fun vu1 => lt (fun (xu3 : Int32) => if vu1 = xu3 then some 0 else some 1) fun ju2 => if p2 = 0 then ju2 2 else ju2 1
theorem cm_To_allows {G : GT} {a0 : Nat} {p0 : Int32} {p1 : Int32} {p2 : Int32} {Mu : Mm}  {ru : Int32} (h_a0 : sh a0 = (5, 0)) (hf : f_To_allows a0 p0 p1 p2 Mu = some ru) : CM G 2 y_To_allows c_To_allows 4 (some .boolean) (some (.int ru), Mu) Mu [.ref a0, .int p0, .int p1, .int p2] := by
  unfold f_To_allows at hf
  refine CM.of (own := R_To) (lv := [some (.ref a0), some (.int p0), some (.int p1), some (.int p2)]) (by decide) rfl (Nat.le_of_ble_eq_true rfl) rfl ?_
  refine r_aload_n 0 d_To_allows_0 rfl rfl ?_
  refine r_iload_n 1 d_To_allows_1 rfl rfl ?_
  refine r_iload_n 2 d_To_allows_2 rfl rfl ?_
  obtain ⟨vu1, evu1, hf⟩ := bnd hf
  refine r_callV [.int p0, .int p1] d_To_allows_3 lk_To_70 h_a0 (cm_To_barOf h_a0 evu1) (by decide) rfl rfl (Nat.le_of_ble_eq_true rfl) ?_
  refine r_iload_n 3 d_To_allows_6 rfl rfl ?_
  obtain ⟨ju2, hju2, hf⟩ := lt_ex hf
  have Kju2 : ∀ (xu3 : Int32), ju2 xu3 = some ru → SW G 2 c_To_allows R_To 4 (some .boolean) (some (.int ru), Mu) Mu 15 [none, none, none, none] [.int xu3, .int vu1] := by
    intro xu3 hf
    rw [hju2] at hf
    refine r_icmp_eq 22 d_To_allows_15 (by decide) (fun qu4 => ?_) (fun qu4 => ?_)
    · replace hf := ip qu4 hf
      refine r_iconst (v := 0) d_To_allows_22 (by decide) ?_
      obtain rfl := Option.some.inj hf
      exact r_zreturn d_To_allows_23 rfl (Or.inl rfl) rfl
    · replace hf := im qu4 hf
      refine r_iconst (v := 1) d_To_allows_18 (by decide) ?_
      refine r_goto 23 d_To_allows_19 (by decide) ?_
      obtain rfl := Option.some.inj hf
      exact r_zreturn d_To_allows_23 rfl (Or.inr rfl) rfl
  refine r_if_eq 14 d_To_allows_7 (by decide) (fun qu5 => ?_) (fun qu5 => ?_)
  · replace hf := ip qu5 hf
    refine r_iconst (v := 2) d_To_allows_14 (by decide) ?_
    refine r_weak [0, 1, 2, 3] (lv' := [none, none, none, none]) rfl ?_
    exact Kju2 2  hf
  · replace hf := im qu5 hf
    refine r_iconst (v := 1) d_To_allows_10 (by decide) ?_
    refine r_goto 15 d_To_allows_11 (by decide) ?_
    refine r_weak [0, 1, 2, 3] (lv' := [none, none, none, none]) rfl ?_
    exact Kju2 1  hf
def f_To_addPerson (Nu : Nat) (a0 : Nat) (Mu : Mm) : Option (Mm) := if 8 ≤ (Mu.1 a0 0) then some Mu else lt (si Mu a0 0 ((Mu.1 a0 0) + 1)) fun Mu2 => (f_To_sayCounts Nu a0 Mu2).bind fun vu3 => some vu3
theorem cm_To_addPerson {G : GT} {Nu : Nat} {a0 : Nat} {Mu : Mm}  {ru : Mm} (h_a0 : sh a0 = (5, 0)) (hf : f_To_addPerson Nu a0 Mu = some ru) : CM G 4 y_To_addPerson c_To_addPerson 1 none (none, ru) Mu [.ref a0] := by
  unfold f_To_addPerson at hf
  refine CM.of (own := R_To) (lv := [some (.ref a0)]) (by decide) rfl (Nat.le_of_ble_eq_true rfl) rfl ?_
  refine r_aload_n 0 d_To_addPerson_0 rfl rfl ?_
  refine r_getI d_To_addPerson_1 fl_To_31 h_a0 (by decide) ?_
  refine r_bipush (v := 8) d_To_addPerson_4 (by decide) ?_
  refine r_icmp_ge 23 d_To_addPerson_6 (by decide) (fun qu1 => ?_) (fun qu1 => ?_)
  · replace hf := ip qu1 hf
    obtain rfl := Option.some.inj hf
    exact r_return d_To_addPerson_23 rfl rfl
  · replace hf := im qu1 hf
    refine r_aload_n 0 d_To_addPerson_9 rfl rfl ?_
    refine r_dup d_To_addPerson_10 rfl ?_
    refine r_getI d_To_addPerson_11 fl_To_31 h_a0 (by decide) ?_
    refine r_iconst (v := 1) d_To_addPerson_14 (by decide) ?_
    refine r_iadd d_To_addPerson_15 ?_
    refine r_putI d_To_addPerson_16 fl_To_31 h_a0 (Or.inl rfl) rfl ?_
    refine nmM (fun Mu2 hMu2 => ?_)
    replace hf := lt_of hMu2 hf
    refine r_aload_n 0 d_To_addPerson_19 rfl rfl ?_
    obtain ⟨vu3, evu3, hf⟩ := bnd hf
    refine r_callV [] d_To_addPerson_20 lk_To_73 h_a0 (cm_To_sayCounts h_a0 evu3) (by decide) rfl rfl (Nat.le_of_ble_eq_true rfl) ?_
    obtain rfl := Option.some.inj hf
    exact r_return d_To_addPerson_23 rfl rfl
def L_To_closeGap_35 (Nu : Nat) (a0 : Nat) (p0 : Nat) (xu3 : Int32) : Nat → Int32 → Mm → Option (Mm)
  | 0, _, _ => none
  | nu + 1, z4_35, M_35 => if ((M_35.1 a0 0) - 1) ≤ z4_35 then some M_35 else if inb z4_35 8 = true then if inb z4_35 8 = true then if inb z4_35 8 = true then lt (si M_35 p0 (Int32.toNatClampNeg z4_35) (((M_35.1 p0 (Int32.toNatClampNeg z4_35)) &&& xu3) ||| (((M_35.1 p0 (Int32.toNatClampNeg z4_35)) >>> (1 &&& 31)) &&& (xu3 ^^^ (-1))))) fun Mu8 => lt (z4_35 + 1) fun xu9 => L_To_closeGap_35 Nu a0 p0 xu3 nu xu9 Mu8 else none else none else none
def L_To_closeGap_2 (Nu : Nat) (a0 : Nat) (p0 : Nat) (ju1 : Mm → Option (Mm)) : Nat → Int32 → Mm → Option (Mm)
  | 0, _, _ => none
  | nu + 1, z3_2, M_2 => if ((M_2.1 a0 0) - 1) ≤ z3_2 then ju1 M_2 else if inb (z3_2 + 1) 8 = true then if inb z3_2 8 = true then lt (si M_2 p0 (Int32.toNatClampNeg z3_2) (M_2.1 p0 (Int32.toNatClampNeg (z3_2 + 1)))) fun Mu13 => lt (z3_2 + 1) fun xu14 => L_To_closeGap_2 Nu a0 p0 ju1 nu xu14 Mu13 else none else none
def f_To_closeGap (Nu : Nat) (a0 : Nat) (p0 : Nat) (p1 : Int32) (Mu : Mm) : Option (Mm) := lt (fun (Mu2 : Mm) => lt (((1 : Int32) <<< (p1 &&& 31)) - 1) fun xu3 => L_To_closeGap_35 Nu a0 p0 xu3 Nu 0 Mu2) fun ju1 => L_To_closeGap_2 Nu a0 p0 ju1 Nu p1 Mu
theorem l_To_closeGap_35 {G : GT} {ru : Mm} (Nu : Nat) (a0 : Nat) (p0 : Nat) (xu3 : Int32) (h_a0 : sh a0 = (5, 0)) (h_p0 : sh p0 = (10, 8))   : ∀ (nu : Nat) (z4_35 : Int32) (M_35 : Mm), L_To_closeGap_35 Nu a0 p0 xu3 nu z4_35 M_35 = some ru → SW G 1 c_To_closeGap R_To 5 none (none, ru) M_35 35 [some (.ref a0), some (.ref p0), none, some (.int xu3), some (.int z4_35)] []
  | 0, _, _, hf => by cases hf
  | nu + 1, z4_35, M_35, hf => by
    have ih := l_To_closeGap_35 (G := G) (ru := ru) Nu a0 p0 xu3 h_a0 h_p0  nu
    rw [L_To_closeGap_35] at hf
    refine r_iload d_To_closeGap_35 rfl ?_
    refine r_aload_n 0 d_To_closeGap_37 rfl rfl ?_
    refine r_getI d_To_closeGap_38 fl_To_31 h_a0 (by decide) ?_
    refine r_iconst (v := 1) d_To_closeGap_41 (by decide) ?_
    refine r_isub d_To_closeGap_42 ?_
    refine r_icmp_ge 73 d_To_closeGap_43 (by decide) (fun qu4 => ?_) (fun qu4 => ?_)
    · replace hf := ip qu4 hf
      obtain rfl := Option.some.inj hf
      exact r_return d_To_closeGap_73 rfl rfl
    · replace hf := im qu4 hf
      refine r_aload_n 1 d_To_closeGap_46 rfl rfl ?_
      refine r_iload d_To_closeGap_47 rfl ?_
      refine r_aload_n 1 d_To_closeGap_49 rfl rfl ?_
      refine r_iload d_To_closeGap_50 rfl ?_
      obtain ⟨qu5, hf⟩ := ck hf
      refine r_iald d_To_closeGap_52 h_p0 qu5 ?_
      refine r_iload_n 3 d_To_closeGap_53 rfl rfl ?_
      refine r_iand d_To_closeGap_54 ?_
      refine r_aload_n 1 d_To_closeGap_55 rfl rfl ?_
      refine r_iload d_To_closeGap_56 rfl ?_
      obtain ⟨qu6, hf⟩ := ck hf
      refine r_iald d_To_closeGap_58 h_p0 qu6 ?_
      refine r_iconst (v := 1) d_To_closeGap_59 (by decide) ?_
      refine r_ishr d_To_closeGap_60 ?_
      refine r_iload_n 3 d_To_closeGap_61 rfl rfl ?_
      refine r_iconst (v := (-1)) d_To_closeGap_62 (by decide) ?_
      refine r_ixor d_To_closeGap_63 ?_
      refine r_iand d_To_closeGap_64 ?_
      refine r_ior d_To_closeGap_65 ?_
      obtain ⟨qu7, hf⟩ := ck hf
      refine r_iast d_To_closeGap_66 h_p0 qu7 ?_
      refine nmM (fun Mu8 hMu8 => ?_)
      replace hf := lt_of hMu8 hf
      obtain ⟨xu9, hxu9⟩ : ∃ y : Int32, y = z4_35 + 1 := ⟨_, rfl⟩
      replace hf := lt_of hxu9 hf
      refine r_iinc (lv' := [some (.ref a0), some (.ref p0), none, some (.int xu3), some (.int xu9)]) d_To_closeGap_67 rfl (by rw [hxu9]; rfl) (by decide) rfl ?_
      refine r_goto 35 d_To_closeGap_70 (by decide) ?_
      exact ih xu9 Mu8  hf
theorem l_To_closeGap_2 {G : GT} {ru : Mm} (Nu : Nat) (a0 : Nat) (p0 : Nat) (ju1 : Mm → Option (Mm)) (p1 : Int32) (h_a0 : sh a0 = (5, 0)) (h_p0 : sh p0 = (10, 8)) (Kju1 : ∀ (Mw : Mm), ju1 Mw = some ru → SW G 1 c_To_closeGap R_To 5 none (none, ru) Mw 26 [some (.ref a0), some (.ref p0), some (.int p1), none, none] [])  : ∀ (nu : Nat) (z3_2 : Int32) (M_2 : Mm), L_To_closeGap_2 Nu a0 p0 ju1 nu z3_2 M_2 = some ru → SW G 1 c_To_closeGap R_To 5 none (none, ru) M_2 2 [some (.ref a0), some (.ref p0), some (.int p1), some (.int z3_2), none] []
  | 0, _, _, hf => by cases hf
  | nu + 1, z3_2, M_2, hf => by
    have ih := l_To_closeGap_2 (G := G) (ru := ru) Nu a0 p0 ju1 p1 h_a0 h_p0 Kju1 nu
    rw [L_To_closeGap_2] at hf
    refine r_iload_n 3 d_To_closeGap_2 rfl rfl ?_
    refine r_aload_n 0 d_To_closeGap_3 rfl rfl ?_
    refine r_getI d_To_closeGap_4 fl_To_31 h_a0 (by decide) ?_
    refine r_iconst (v := 1) d_To_closeGap_7 (by decide) ?_
    refine r_isub d_To_closeGap_8 ?_
    refine r_icmp_ge 26 d_To_closeGap_9 (by decide) (fun qu10 => ?_) (fun qu10 => ?_)
    · replace hf := ip qu10 hf
      refine r_weak [3] (lv' := [some (.ref a0), some (.ref p0), some (.int p1), none, none]) rfl ?_
      exact Kju1 M_2  hf
    · replace hf := im qu10 hf
      refine r_aload_n 1 d_To_closeGap_12 rfl rfl ?_
      refine r_iload_n 3 d_To_closeGap_13 rfl rfl ?_
      refine r_aload_n 1 d_To_closeGap_14 rfl rfl ?_
      refine r_iload_n 3 d_To_closeGap_15 rfl rfl ?_
      refine r_iconst (v := 1) d_To_closeGap_16 (by decide) ?_
      refine r_iadd d_To_closeGap_17 ?_
      obtain ⟨qu11, hf⟩ := ck hf
      refine r_iald d_To_closeGap_18 h_p0 qu11 ?_
      obtain ⟨qu12, hf⟩ := ck hf
      refine r_iast d_To_closeGap_19 h_p0 qu12 ?_
      refine nmM (fun Mu13 hMu13 => ?_)
      replace hf := lt_of hMu13 hf
      obtain ⟨xu14, hxu14⟩ : ∃ y : Int32, y = z3_2 + 1 := ⟨_, rfl⟩
      replace hf := lt_of hxu14 hf
      refine r_iinc (lv' := [some (.ref a0), some (.ref p0), some (.int p1), some (.int xu14), none]) d_To_closeGap_20 rfl (by rw [hxu14]; rfl) (by decide) rfl ?_
      refine r_goto 2 d_To_closeGap_23 (by decide) ?_
      exact ih xu14 Mu13  hf
theorem cm_To_closeGap {G : GT} {Nu : Nat} {a0 : Nat} {p0 : Nat} {p1 : Int32} {Mu : Mm}  {ru : Mm} (h_a0 : sh a0 = (5, 0)) (h_p0 : sh p0 = (10, 8)) (hf : f_To_closeGap Nu a0 p0 p1 Mu = some ru) : CM G 1 y_To_closeGap c_To_closeGap 5 none (none, ru) Mu [.ref a0, .ref p0, .int p1] := by
  unfold f_To_closeGap at hf
  refine CM.of (own := R_To) (lv := [some (.ref a0), some (.ref p0), some (.int p1), none, none]) (by decide) rfl (Nat.le_of_ble_eq_true rfl) rfl ?_
  refine r_iload_n 2 d_To_closeGap_0 rfl rfl ?_
  refine r_istore_n (lv' := [some (.ref a0), some (.ref p0), some (.int p1), some (.int p1), none]) 3 d_To_closeGap_1 rfl (by decide) rfl ?_
  obtain ⟨ju1, hju1, hf⟩ := lt_ex hf
  have Kju1 : ∀ (Mu2 : Mm), ju1 Mu2 = some ru → SW G 1 c_To_closeGap R_To 5 none (none, ru) Mu2 26 [some (.ref a0), some (.ref p0), some (.int p1), none, none] [] := by
    intro Mu2 hf
    rw [hju1] at hf
    refine r_iconst (v := 1) d_To_closeGap_26 (by decide) ?_
    refine r_iload_n 2 d_To_closeGap_27 rfl rfl ?_
    refine r_ishl d_To_closeGap_28 ?_
    refine r_iconst (v := 1) d_To_closeGap_29 (by decide) ?_
    refine r_isub d_To_closeGap_30 ?_
    refine nmI (fun xu3 hxu3 => ?_)
    replace hf := lt_of hxu3 hf
    refine r_istore_n (lv' := [some (.ref a0), some (.ref p0), some (.int p1), some (.int xu3), none]) 3 d_To_closeGap_31 rfl (by decide) rfl ?_
    refine r_iconst (v := 0) d_To_closeGap_32 (by decide) ?_
    refine r_istore (lv' := [some (.ref a0), some (.ref p0), some (.int p1), some (.int xu3), some (.int 0)]) d_To_closeGap_33 (by decide) rfl ?_
    refine r_weak [2] (lv' := [some (.ref a0), some (.ref p0), none, some (.int xu3), some (.int 0)]) rfl ?_
    exact l_To_closeGap_35 (G := G) (ru := ru) Nu a0 p0 xu3 h_a0 h_p0  Nu 0 Mu2 hf
  exact l_To_closeGap_2 (G := G) (ru := ru) Nu a0 p0 ju1 p1 h_a0 h_p0 Kju1 Nu p1 Mu hf
def f_To_removePerson (Nu : Nat) (a0 : Nat) (p0 : Int32) (Mu : Mm) : Option (Mm) := if (f_To_has a0 p0 Mu) = 0 then some Mu else (f_To_closeGap Nu a0 (a0 + 1) p0 Mu).bind fun vu2 => (f_To_closeGap Nu a0 (a0 + 2) p0 vu2).bind fun vu3 => (f_To_closeGap Nu a0 (a0 + 3) p0 vu3).bind fun vu4 => lt (si vu4 a0 0 ((vu4.1 a0 0) - 1)) fun Mu5 => (f_To_forget a0 (Mu5.1 a0 0) Mu5).bind fun vu6 => (f_To_sayCounts Nu a0 vu6).bind fun vu7 => some vu7
theorem cm_To_removePerson {G : GT} {Nu : Nat} {a0 : Nat} {p0 : Int32} {Mu : Mm}  {ru : Mm} (h_a0 : sh a0 = (5, 0)) (hf : f_To_removePerson Nu a0 p0 Mu = some ru) : CM G 4 y_To_removePerson c_To_removePerson 2 none (none, ru) Mu [.ref a0, .int p0] := by
  unfold f_To_removePerson at hf
  refine CM.of (own := R_To) (lv := [some (.ref a0), some (.int p0)]) (by decide) rfl (Nat.le_of_ble_eq_true rfl) rfl ?_
  refine r_aload_n 0 d_To_removePerson_0 rfl rfl ?_
  refine r_iload_n 1 d_To_removePerson_1 rfl rfl ?_
  refine r_callV [.int p0] d_To_removePerson_2 lk_To_38 h_a0 (cm_To_has a0 p0 Mu h_a0) (by decide) rfl rfl (Nat.le_of_ble_eq_true rfl) ?_
  refine r_if_ne 9 d_To_removePerson_5 (by decide) (fun qu1 => ?_) (fun qu1 => ?_)
  · replace hf := im qu1 hf
    refine r_aload_n 0 d_To_removePerson_9 rfl rfl ?_
    refine r_aload_n 0 d_To_removePerson_10 rfl rfl ?_
    refine r_getR (a0 + 1) d_To_removePerson_11 fl_To_18 h_a0 rfl (to_r3 h_a0) ?_
    refine r_iload_n 1 d_To_removePerson_14 rfl rfl ?_
    obtain ⟨vu2, evu2, hf⟩ := bnd hf
    refine r_callV [.ref (a0 + 1), .int p0] d_To_removePerson_15 lk_To_76 h_a0 (cm_To_closeGap h_a0 (to_s3 h_a0) evu2) (by decide) rfl rfl (Nat.le_of_ble_eq_true rfl) ?_
    refine r_aload_n 0 d_To_removePerson_18 rfl rfl ?_
    refine r_aload_n 0 d_To_removePerson_19 rfl rfl ?_
    refine r_getR (a0 + 2) d_To_removePerson_20 fl_To_22 h_a0 rfl (to_r4 h_a0) ?_
    refine r_iload_n 1 d_To_removePerson_23 rfl rfl ?_
    obtain ⟨vu3, evu3, hf⟩ := bnd hf
    refine r_callV [.ref (a0 + 2), .int p0] d_To_removePerson_24 lk_To_76 h_a0 (cm_To_closeGap h_a0 (to_s4 h_a0) evu3) (by decide) rfl rfl (Nat.le_of_ble_eq_true rfl) ?_
    refine r_aload_n 0 d_To_removePerson_27 rfl rfl ?_
    refine r_aload_n 0 d_To_removePerson_28 rfl rfl ?_
    refine r_getR (a0 + 3) d_To_removePerson_29 fl_To_25 h_a0 rfl (to_r5 h_a0) ?_
    refine r_iload_n 1 d_To_removePerson_32 rfl rfl ?_
    obtain ⟨vu4, evu4, hf⟩ := bnd hf
    refine r_callV [.ref (a0 + 3), .int p0] d_To_removePerson_33 lk_To_76 h_a0 (cm_To_closeGap h_a0 (to_s5 h_a0) evu4) (by decide) rfl rfl (Nat.le_of_ble_eq_true rfl) ?_
    refine r_aload_n 0 d_To_removePerson_36 rfl rfl ?_
    refine r_dup d_To_removePerson_37 rfl ?_
    refine r_getI d_To_removePerson_38 fl_To_31 h_a0 (by decide) ?_
    refine r_iconst (v := 1) d_To_removePerson_41 (by decide) ?_
    refine r_isub d_To_removePerson_42 ?_
    refine r_putI d_To_removePerson_43 fl_To_31 h_a0 (Or.inl rfl) rfl ?_
    refine nmM (fun Mu5 hMu5 => ?_)
    replace hf := lt_of hMu5 hf
    refine r_aload_n 0 d_To_removePerson_46 rfl rfl ?_
    refine r_aload_n 0 d_To_removePerson_47 rfl rfl ?_
    refine r_getI d_To_removePerson_48 fl_To_31 h_a0 (by decide) ?_
    obtain ⟨vu6, evu6, hf⟩ := bnd hf
    refine r_callV [.int (Mu5.1 a0 0)] d_To_removePerson_51 lk_To_34 h_a0 (cm_To_forget h_a0 evu6) (by decide) rfl rfl (Nat.le_of_ble_eq_true rfl) ?_
    refine r_aload_n 0 d_To_removePerson_54 rfl rfl ?_
    obtain ⟨vu7, evu7, hf⟩ := bnd hf
    refine r_callV [] d_To_removePerson_55 lk_To_73 h_a0 (cm_To_sayCounts h_a0 evu7) (by decide) rfl rfl (Nat.le_of_ble_eq_true rfl) ?_
    obtain rfl := Option.some.inj hf
    exact r_return d_To_removePerson_58 rfl rfl
  · replace hf := ip qu1 hf
    obtain rfl := Option.some.inj hf
    exact r_return d_To_removePerson_8 rfl rfl
def f_Ma_min_JJ (p0 : Int64) (p1 : Int64) : Int64 := if 0 < (lg_cmp p0 p1) then p1 else p0
theorem cm_Ma_min_JJ {G : GT} (p0 : Int64) (p1 : Int64) (Mu : Mm)  : CM G 1 y_Ma_min_JJ c_Ma_min_JJ 4 (some .long) (some (.long (f_Ma_min_JJ p0 p1)), Mu) Mu [.long p0, .long p1] := by
  generalize hf : f_Ma_min_JJ p0 p1 = ru
  unfold f_Ma_min_JJ at hf
  refine CM.ofF (own := R_Ma) (lv := [some (.long p0), none, some (.long p1), none]) (by decide +kernel) rfl (Nat.le_of_ble_eq_true rfl) rfl ?_
  refine r_lload_n 0 d_Ma_min_JJ_0 rfl rfl ?_
  refine r_lload_n 2 d_Ma_min_JJ_1 rfl rfl ?_
  refine r_lcmp d_Ma_min_JJ_2 ?_
  refine r_if_gt 10 d_Ma_min_JJ_3 (by decide) (fun qu1 => ?_) (fun qu1 => ?_)
  · replace hf := ip qu1 hf
    refine r_lload_n 2 d_Ma_min_JJ_10 rfl rfl ?_
    subst hf
    exact r_lreturn d_Ma_min_JJ_11 rfl rfl
  · replace hf := im qu1 hf
    refine r_lload_n 0 d_Ma_min_JJ_6 rfl rfl ?_
    refine r_goto 11 d_Ma_min_JJ_7 (by decide) ?_
    subst hf
    exact r_lreturn d_Ma_min_JJ_11 rfl rfl
def L_To_friendsIn_5 (Nu : Nat) (a0 : Nat) (p0 : Int32) (p1 : Int32) (Mu : Mm) : Nat → Int32 → Int32 → Option (Int32)
  | 0, _, _ => none
  | nu + 1, z3_5, z4_5 => if (Mu.1 a0 0) ≤ z4_5 then some z3_5 else lt (fun (xu3 : Int32) => lt (z4_5 + 1) fun xu4 => L_To_friendsIn_5 Nu a0 p0 p1 Mu nu xu3 xu4) fun ju2 => if z4_5 = p1 then ju2 z3_5 else if ((p0 >>> ((f_To_pairNumber a0 p1 z4_5 Mu) &&& 31)) &&& 1) = 1 then lt (z3_5 ||| ((1 : Int32) <<< (z4_5 &&& 31))) fun xu7 => ju2 xu7 else ju2 z3_5
def f_To_friendsIn (Nu : Nat) (a0 : Nat) (p0 : Int32) (p1 : Int32) (Mu : Mm) : Option (Int32) := L_To_friendsIn_5 Nu a0 p0 p1 Mu Nu 0 0
theorem l_To_friendsIn_5 {G : GT} {ru : Int32} (Nu : Nat) (a0 : Nat) (p0 : Int32) (p1 : Int32) (Mu : Mm) (h_a0 : sh a0 = (5, 0))   : ∀ (nu : Nat) (z3_5 : Int32) (z4_5 : Int32), L_To_friendsIn_5 Nu a0 p0 p1 Mu nu z3_5 z4_5 = some ru → SW G 3 c_To_friendsIn R_To 5 (some .int) (some (.int ru), Mu) Mu 5 [some (.ref a0), some (.int p0), some (.int p1), some (.int z3_5), some (.int z4_5)] []
  | 0, _, _, hf => by cases hf
  | nu + 1, z3_5, z4_5, hf => by
    have ih := l_To_friendsIn_5 (G := G) (ru := ru) Nu a0 p0 p1 Mu h_a0  nu
    rw [L_To_friendsIn_5] at hf
    refine r_iload d_To_friendsIn_5 rfl ?_
    refine r_aload_n 0 d_To_friendsIn_7 rfl rfl ?_
    refine r_getI d_To_friendsIn_8 fl_To_31 h_a0 (by decide) ?_
    refine r_icmp_ge 48 d_To_friendsIn_11 (by decide) (fun qu1 => ?_) (fun qu1 => ?_)
    · replace hf := ip qu1 hf
      refine r_iload_n 3 d_To_friendsIn_48 rfl rfl ?_
      obtain rfl := Option.some.inj hf
      exact r_ireturn d_To_friendsIn_49 rfl rfl
    · replace hf := im qu1 hf
      refine r_iload d_To_friendsIn_14 rfl ?_
      refine r_iload_n 2 d_To_friendsIn_16 rfl rfl ?_
      obtain ⟨ju2, hju2, hf⟩ := lt_ex hf
      have Kju2 : ∀ (xu3 : Int32), ju2 xu3 = some ru → SW G 3 c_To_friendsIn R_To 5 (some .int) (some (.int ru), Mu) Mu 42 [some (.ref a0), some (.int p0), some (.int p1), some (.int xu3), some (.int z4_5)] [] := by
        intro xu3 hf
        rw [hju2] at hf
        obtain ⟨xu4, hxu4⟩ : ∃ y : Int32, y = z4_5 + 1 := ⟨_, rfl⟩
        replace hf := lt_of hxu4 hf
        refine r_iinc (lv' := [some (.ref a0), some (.int p0), some (.int p1), some (.int xu3), some (.int xu4)]) d_To_friendsIn_42 rfl (by rw [hxu4]; rfl) (by decide) rfl ?_
        refine r_goto 5 d_To_friendsIn_45 (by decide) ?_
        exact ih xu3 xu4  hf
      refine r_icmp_eq 42 d_To_friendsIn_17 (by decide) (fun qu5 => ?_) (fun qu5 => ?_)
      · replace hf := ip qu5 hf
        exact Kju2 z3_5  hf
      · replace hf := im qu5 hf
        refine r_iload_n 1 d_To_friendsIn_20 rfl rfl ?_
        refine r_aload_n 0 d_To_friendsIn_21 rfl rfl ?_
        refine r_iload_n 2 d_To_friendsIn_22 rfl rfl ?_
        refine r_iload d_To_friendsIn_23 rfl ?_
        refine r_callV [.int p1, .int z4_5] d_To_friendsIn_25 lk_To_60 h_a0 (cm_To_pairNumber a0 p1 z4_5 Mu h_a0) (by decide) rfl rfl (Nat.le_of_ble_eq_true rfl) ?_
        refine r_ishr d_To_friendsIn_28 ?_
        refine r_iconst (v := 1) d_To_friendsIn_29 (by decide) ?_
        refine r_iand d_To_friendsIn_30 ?_
        refine r_iconst (v := 1) d_To_friendsIn_31 (by decide) ?_
        refine r_icmp_ne 42 d_To_friendsIn_32 (by decide) (fun qu6 => ?_) (fun qu6 => ?_)
        · replace hf := im qu6 hf
          exact Kju2 z3_5  hf
        · replace hf := ip qu6 hf
          refine r_iload_n 3 d_To_friendsIn_35 rfl rfl ?_
          refine r_iconst (v := 1) d_To_friendsIn_36 (by decide) ?_
          refine r_iload d_To_friendsIn_37 rfl ?_
          refine r_ishl d_To_friendsIn_39 ?_
          refine r_ior d_To_friendsIn_40 ?_
          refine nmI (fun xu7 hxu7 => ?_)
          replace hf := lt_of hxu7 hf
          refine r_istore_n (lv' := [some (.ref a0), some (.int p0), some (.int p1), some (.int xu7), some (.int z4_5)]) 3 d_To_friendsIn_41 rfl (by decide) rfl ?_
          exact Kju2 xu7  hf
theorem cm_To_friendsIn {G : GT} {Nu : Nat} {a0 : Nat} {p0 : Int32} {p1 : Int32} {Mu : Mm}  {ru : Int32} (h_a0 : sh a0 = (5, 0)) (hf : f_To_friendsIn Nu a0 p0 p1 Mu = some ru) : CM G 3 y_To_friendsIn c_To_friendsIn 5 (some .int) (some (.int ru), Mu) Mu [.ref a0, .int p0, .int p1] := by
  unfold f_To_friendsIn at hf
  refine CM.of (own := R_To) (lv := [some (.ref a0), some (.int p0), some (.int p1), none, none]) (by decide) rfl (Nat.le_of_ble_eq_true rfl) rfl ?_
  refine r_iconst (v := 0) d_To_friendsIn_0 (by decide) ?_
  refine r_istore_n (lv' := [some (.ref a0), some (.int p0), some (.int p1), some (.int 0), none]) 3 d_To_friendsIn_1 rfl (by decide) rfl ?_
  refine r_iconst (v := 0) d_To_friendsIn_2 (by decide) ?_
  refine r_istore (lv' := [some (.ref a0), some (.int p0), some (.int p1), some (.int 0), some (.int 0)]) d_To_friendsIn_3 (by decide) rfl ?_
  exact l_To_friendsIn_5 (G := G) (ru := ru) Nu a0 p0 p1 Mu h_a0  Nu 0 0 hf
