theorem CM.ofF {G : GT} {d : Nat} {cc : ByteArray} {own : String} {nL : Nat} {ret : Option FieldType} {R : Option Value × Mm} {M : Mm} {lv : List (Option Value)} {y : MethodName} {vs : List Value} (hy : plainFor y = true) (ho : y.cls = own) (hn : (lg_sl (vs.map (tv G))).length ≤ nL) (hl : lvl G 0 lv = lv_args 0 (vs.map (tv G))) (h : SW G d cc own nL ret R M 0 lv []) : CM G d y cc nL ret R M vs := by
  refine va_MetF (cc := cc) (maxL := nL) (ret := ret) hy rfl ?_
  intro p e s m args below meth c s₁ B hml hv
  obtain ⟨rfl, hP, hK⟩ := hv
  have hts := atoms_spec (ws := Cond.code y cc nL ret :: tw) B.pre
  have hl2 := lv_entry (vs.map (tv G)) (n := nL) hn
  rw [lg_entry_eq]
  refine h p e _ s m _ below meth c 0 0 _ ⟨B.exec, B.bytes, hml, by rw [← ho]; exact findClass_of_methodNamed B.named, fun w hw => hts w (List.mem_cons_of_mem _ hw), hK, ⟨Nat.le_refl _, Nat.le_refl _, Nat.le_refl _, Nat.le_refl _⟩, ?_⟩ s.heap [] _ hP va_S.rf (by unfold LV; rw [hl]; exact hl2)
  intro H locs ls pc i hP hS hi hd
  have hlocks := B.notSynchronized
  have hr := B.returns
  obtain ⟨v, M2⟩ := R
  have hq : ∀ t : State, t.heap = H → s.WarmedH t.vm → Qc G (v, M2) ((vs.map (tv G)).toArray) s (.returned (v.map (tv G))) t := fun t ht _ => ⟨rfl, by rw [ht]; exact hP, hS.F ht⟩
  rcases hi with ⟨rfl, x, ty, hv, hr2, hn2⟩ | ⟨rfl, x, hv, hr2⟩ | ⟨rfl, hv, hr2⟩ | ⟨rfl, a, n, hv, hr2⟩
  · cases hv
    exact W.zret B.exec B.bytes (hr.trans hr2) hn2 hq hS.2.2 hd
  · cases hv
    exact W.lret B.exec B.bytes (hr.trans hr2) hq hS.2.2 hd
  · cases hv
    exact W.vret B.exec B.bytes (hr.trans hr2) hq hS.2.2 hd
  · cases hv
    exact W.aret B.exec B.bytes (hr.trans hr2) (Or.inl ⟨n, rfl⟩) (Or.inr ⟨_, rfl⟩) hq hS.2.2 hd
def slen (j : Nat) : Int32 := Int32.ofNat (klen.getD j 0)
def sch (j : Nat) (i : Int32) : Int32 := (kbyt.getD j []).getD i.toNatClampNeg 0
def LkJ (own : String) (index : Nat) (y : MethodName) (cy : ByteArray) (nLy : Nat) (rety : Option FieldType) (np : Nat) : Prop :=
  nLy ≤ 45 ∧ Cond.methodLink own index y ∈ tw ∧ Cond.instanceMethod y ∈ tw ∧ Cond.selects y.cls y y ∈ tw ∧ Cond.initialized y.cls ∈ tw ∧ Cond.code y cy nLy rety ∈ tw ∧ y.cls ≠ "java/lang/invoke/MethodHandle" ∧ y.cls ≠ "java/lang/invoke/VarHandle" ∧ (parseMethodDescriptor y.desc).map (fun d => d.parameters.length) = some np
theorem lk_Te_122 : LkJ R_Te 122 y_Sg_length c_Sg_length 1 (some .int) 0 := ⟨by decide, tw_mem 425 (by decide +kernel) rfl, tw_mem 426 (by decide +kernel) rfl, tw_mem 427 (by decide +kernel) rfl, tw_mem 71 (by decide +kernel) rfl, tw_mem 428 (by decide +kernel) rfl, by decide, by decide, by decide⟩
theorem lk_Te_126 : LkJ R_Te 126 y_Sg_charAt c_Sg_charAt 2 (some .char) 1 := ⟨by decide, tw_mem 435 (by decide +kernel) rfl, tw_mem 436 (by decide +kernel) rfl, tw_mem 437 (by decide +kernel) rfl, tw_mem 71 (by decide +kernel) rfl, tw_mem 438 (by decide +kernel) rfl, by decide, by decide, by decide⟩
theorem z_ite {c : Prop} [Decidable c] {a b : Int32} (ha : a = 0 ∨ a = 1) (hb : b = 0 ∨ b = 1) : (if c then a else b) = 0 ∨ (if c then a else b) = 1 := by
  by_cases h : c
  · rw [if_pos h]; exact ha
  · rw [if_neg h]; exact hb
/-! String constants: their own methods -/
section STR
variable {G : GT} {d : Nat} {cc : ByteArray} {own : String} {nL : Nat} {ret : Option FieldType} {R : Option Value × Mm} {M : Mm} {pc : Nat} {lv : List (Option Value)} {st : List Value}
theorem r_sgV {j : Nat} (hd : decode cc pc = .ok (.getfield 9, 3)) (ho : own = R_Sg) (hj : j < 5) (kk : SW G d cc own nL ret R M (pc + 3) lv (.ref (110 + j) :: st)) : SW G d cc own nL ret R M pc lv (.ref (100 + j) :: st) := by
  subst ho
  intro p e Rm s m args below meth c cells slots Q C H locs ls hP hS hL
  obtain ⟨hx, hb, hml, hown, hts, hK, hroom, hret⟩ := id C
  exact vk_getf hx hb (hK.2.2.2.1.1 j hj).2.2.1 hS hown (hts _ (tw_mem 1350 (w := .fieldLink R_Sg 9 "java/lang/String" "value" "[B") (by decide +kernel) rfl)) (fun _ z => z) hd (kk p e Rm s m args below meth c cells slots Q C H locs ls hP hS hL)
theorem r_sgC {j : Nat} (hd : decode cc pc = .ok (.getfield 15, 3)) (ho : own = R_Sg) (hj : j < 5) (kk : SW G d cc own nL ret R M (pc + 3) lv (.int 0 :: st)) : SW G d cc own nL ret R M pc lv (.ref (100 + j) :: st) := by
  subst ho
  intro p e Rm s m args below meth c cells slots Q C H locs ls hP hS hL
  obtain ⟨hx, hb, hml, hown, hts, hK, hroom, hret⟩ := id C
  exact vk_getf hx hb (hK.2.2.2.1.1 j hj).2.1 hS hown (hts _ (tw_mem 1351 (w := .fieldLink R_Sg 15 "java/lang/String" "coder" "B") (by decide +kernel) rfl)) (fun _ z => z) hd (kk p e Rm s m args below meth c cells slots Q C H locs ls hP hS hL)
theorem r_sgZ (hd : decode cc pc = .ok (.getstatic 38, 3)) (ho : own = R_Sg) (kk : SW G d cc own nL ret R M (pc + 3) lv (.int 1 :: st)) : SW G d cc own nL ret R M pc lv st := by
  subst ho
  intro p e Rm s m args below meth c cells slots Q C H locs ls hP hS hL
  obtain ⟨hx, hb, hml, hown, hts, hK, hroom, hret⟩ := id C
  exact va_gets hx hb hK.2.2.2.2.1 hS hown (hts _ (tw_mem 433 (w := .fieldLink R_Sg 38 "java/lang/String" "COMPACT_STRINGS" "Z") (by decide +kernel) rfl)) (fun _ z => z) hd (kk p e Rm s m args below meth c cells slots Q C H locs ls hP hS hL)
theorem r_sgF (hd : decode cc pc = .ok (.getstatic 1053, 3)) (ho : own = R_Sg) (k1 : SW G d cc own nL ret R M (pc + 3) lv (.null :: st)) (k2 : SW G d cc own nL ret R M (pc + 3) lv (.ref 300 :: st)) : SW G d cc own nL ret R M pc lv st := by
  subst ho
  intro p e Rm s m args below meth c cells slots Q C H locs ls hP hS hL
  obtain ⟨hx, hb, hml, hown, hts, hK, hroom, hret⟩ := id C
  rcases hK.2.2.2.2.2.2.2.2.2 with h | h
  · exact va_gets hx hb h hS hown (hts _ (tw_mem 449 (w := .fieldLink R_Sg 1053 "jdk/internal/util/Preconditions" "SIOOBE_FORMATTER" "Ljava/util/function/BiFunction;") (by decide +kernel) rfl)) (fun _ z => z) hd (k1 p e Rm s m args below meth c cells slots Q C H locs ls hP hS hL)
  · exact va_gets hx hb h hS hown (hts _ (tw_mem 449 (w := .fieldLink R_Sg 1053 "jdk/internal/util/Preconditions" "SIOOBE_FORMATTER" "Ljava/util/function/BiFunction;") (by decide +kernel) rfl)) (fun _ z => z) hd (k2 p e Rm s m args below meth c cells slots Q C H locs ls hP hS hL)
theorem r_sgL {j : Nat} (hd : decode cc pc = .ok (.arraylength, 1)) (hj : j < 5) (kk : SW G d cc own nL ret R M (pc + 1) lv (.int (slen j) :: st)) : SW G d cc own nL ret R M pc lv (.ref (110 + j) :: st) := by
  intro p e Rm s m args below meth c cells slots Q C H locs ls hP hS hL
  obtain ⟨hx, hb, hml, hown, hts, hK, hroom, hret⟩ := id C
  exact va_tlen hx hb (hK.2.2.2.1.1 j hj).2.2.2 hS rfl hd (kk p e Rm s m args below meth c cells slots Q C H locs ls hP hS hL)
theorem r_sgB {j : Nat} {i : Int32} (hd : decode cc pc = .ok (.baload, 1)) (hj : j < 5) (hi : vp_in i (klen.getD j 0)) (kk : SW G d cc own nL ret R M (pc + 1) lv (.int (sch j i) :: st)) : SW G d cc own nL ret R M pc lv (.int i :: .ref (110 + j) :: st) := by
  intro p e Rm s m args below meth c cells slots Q C H locs ls hP hS hL
  obtain ⟨hx, hb, hml, hown, hts, hK, hroom, hret⟩ := id C
  exact va_tb hx hb (hK.2.2.2.1.1 j hj).2.2.2 hS hi rfl hd (kk p e Rm s m args below meth c cells slots Q C H locs ls hP hS hL)
/-- a call on a String constant -/
theorem r_callJ {j idx d' nLy np : Nat} {y : MethodName} {cy : ByteArray} {rety : Option FieldType} {R' : Option Value × Mm} {st0 : List Value} (As : List Value) (hd : decode cc pc = .ok (.invokevirtual idx, 3)) (hk : LkJ own idx y cy nLy rety np) (hyc : y.cls = "java/lang/String") (hj : j < 5) (hM : CM G d' y cy nLy rety R' M (.ref (100 + j) :: As)) (hdd : d' < d) (hn : As.length = np) (hst : st0 = As.reverse ++ .ref (100 + j) :: st) (hsz : (st.map fun v => v.category).sum ≤ 8) (kk : SW G d cc own nL ret R R'.2 (pc + 3) lv (R'.1.toList ++ st)) : SW G d cc own nL ret R M pc lv st0 := by
  intro p e Rm s m args below meth co cells slots Q C H locs ls hP hS hL
  obtain ⟨hx, hb, hml, hown, hts, hK, ⟨hr1, hr2, hr3, hr4⟩, hret⟩ := id C
  obtain ⟨hnL, k1, k2, k3, k4, k5, k6, k7, k8⟩ := hk
  refine r_back (R' := R') C hS hL (va_runV (As := As.map (tv G)) (b := g_ad G (100 + j)) ⟨hx, hb, hml, hown, hts⟩ hM ⟨callB_of np hts (good_ct k5) rfl rfl rfl (hts _ k4) (hts _ k1) ⟨k6, k7, k8⟩ ⟨by show d' + 1 ≤ _; omega, by show 8 + (nLy + 11) + 64 * d' ≤ _; omega⟩, hts _ k2, hts _ k3⟩ ⟨Pv_blind, ?_, fun U hU hW => ⟨rfl, by rw [hU]; exact hP, KK.go hK hW (hU ▸ hS)⟩⟩ rfl (by simpa using hn) hL.1 (by rw [hst]; simp [tv]) ?_ hd ⟨hr3, hr4⟩) kk
  · rw [hyc]
    exact vk_recv (adK := fun i => g_ad G (100 + i)) (i := j) hK.2.2.2.1 hj hS
  · have : ((st.map (tv G)).map fun v => v.category) = st.map fun v => v.category := by
      rw [List.map_map]
      exact List.map_congr_left (fun v _ => tv_cat G v)
    exact lv_room (by rw [this]; exact hsz)
theorem r_retN {x : Int32} {ty : FieldType} (hd : decode cc pc = .ok (.ireturn, 1)) (hr : ret = some ty) (hn : narrow ty (.int x) = .int x) (hR : (some (Value.int x), M) = R) : SW G d cc own nL ret R M pc lv [.int x] :=
  r_ret (v := some (.int x)) hd (Or.inl ⟨rfl, x, ty, rfl, hr, hn⟩) hR.symm rfl
end STR
theorem lk_Sg_335 : LkJ R_Sg 335 y_Sg_coder c_Sg_coder 1 (some .byte) 0 := ⟨by decide, tw_mem 429 (by decide +kernel) rfl, tw_mem 430 (by decide +kernel) rfl, tw_mem 431 (by decide +kernel) rfl, tw_mem 71 (by decide +kernel) rfl, tw_mem 432 (by decide +kernel) rfl, by decide, by decide, by decide⟩
theorem lk_Sg_492 : LkJ R_Sg 492 y_Sg_isLatin1 c_Sg_isLatin1 1 (some .boolean) 0 := ⟨by decide, tw_mem 439 (by decide +kernel) rfl, tw_mem 440 (by decide +kernel) rfl, tw_mem 441 (by decide +kernel) rfl, tw_mem 71 (by decide +kernel) rfl, tw_mem 442 (by decide +kernel) rfl, by decide, by decide, by decide⟩
abbrev c_Pr_checkIndex : ByteArray := prog_17_method_11_code
abbrev y_Pr_checkIndex : MethodName := ⟨R_Pr, "checkIndex", "(IILjava/util/function/BiFunction;)I"⟩
theorem d_Pr_0 : decode c_Pr_checkIndex 0 = .ok (.iload_n 0, 1) := by decide +kernel
theorem d_Pr_1 : decode c_Pr_checkIndex 1 = .ok (.ifCond .lt 8, 3) := by decide +kernel
theorem d_Pr_4 : decode c_Pr_checkIndex 4 = .ok (.iload_n 0, 1) := by decide +kernel
theorem d_Pr_5 : decode c_Pr_checkIndex 5 = .ok (.iload_n 1, 1) := by decide +kernel
theorem d_Pr_6 : decode c_Pr_checkIndex 6 = .ok (.if_icmp .lt 10, 3) := by decide +kernel
theorem d_Pr_16 : decode c_Pr_checkIndex 16 = .ok (.iload_n 0, 1) := by decide +kernel
theorem d_Pr_17 : decode c_Pr_checkIndex 17 = .ok (.ireturn, 1) := by decide +kernel
theorem lk_Sg_1059S : LkS R_Sg 1059 y_Pr_checkIndex c_Pr_checkIndex 3 (some .int) 3 := ⟨Or.inl (tw_mem 451 (by decide +kernel) rfl), by decide, tw_mem 452 (by decide +kernel) rfl, tw_mem 73 (by decide +kernel) rfl, tw_mem 453 (by decide +kernel) rfl, by decide, by decide, by decide⟩
theorem lk_Sl_9S : LkS R_Sl 9 y_Sg_checkIndex c_Sg_checkIndex 2 none 2 := ⟨Or.inl (tw_mem 446 (by decide +kernel) rfl), by decide, tw_mem 447 (by decide +kernel) rfl, tw_mem 71 (by decide +kernel) rfl, tw_mem 448 (by decide +kernel) rfl, by decide, by decide, by decide⟩
theorem lk_Sg_495S : LkS R_Sg 495 y_Sl_charAt c_Sl_charAt 2 (some .char) 2 := ⟨Or.inl (tw_mem 443 (by decide +kernel) rfl), by decide, tw_mem 444 (by decide +kernel) rfl, tw_mem 72 (by decide +kernel) rfl, tw_mem 445 (by decide +kernel) rfl, by decide, by decide, by decide⟩
theorem cm_Sg_coder {G : GT} (j : Nat) (M : Mm) (hj : j < 5) : CM G 1 y_Sg_coder c_Sg_coder 1 (some .byte) (some (.int 0), M) M [.ref (100 + j)] := by
  refine CM.ofF (own := R_Sg) (lv := [some (.ref (100 + j))]) (by decide +kernel) rfl (Nat.le_of_ble_eq_true rfl) rfl ?_
  refine r_sgZ d_Sg_coder_0 rfl ?_
  refine r_if_eq 13 d_Sg_coder_3 (by decide) (fun q => absurd q (by decide)) (fun q => ?_)
  refine r_aload_n 0 d_Sg_coder_6 rfl rfl ?_
  refine r_sgC d_Sg_coder_7 rfl hj ?_
  refine r_goto 14 d_Sg_coder_10 (by decide) ?_
  exact r_retN (ty := .byte) d_Sg_coder_14 rfl (by decide) rfl
theorem cm_Sg_isLatin1 {G : GT} (j : Nat) (M : Mm) (hj : j < 5) : CM G 1 y_Sg_isLatin1 c_Sg_isLatin1 1 (some .boolean) (some (.int 1), M) M [.ref (100 + j)] := by
  refine CM.ofF (own := R_Sg) (lv := [some (.ref (100 + j))]) (by decide +kernel) rfl (Nat.le_of_ble_eq_true rfl) rfl ?_
  refine r_sgZ d_Sg_isLatin1_0 rfl ?_
  refine r_if_eq 17 d_Sg_isLatin1_3 (by decide) (fun q => absurd q (by decide)) (fun q => ?_)
  refine r_aload_n 0 d_Sg_isLatin1_6 rfl rfl ?_
  refine r_sgC d_Sg_isLatin1_7 rfl hj ?_
  refine r_if_ne 17 d_Sg_isLatin1_10 (by decide) (fun q => absurd rfl q) (fun q => ?_)
  refine r_iconst (v := 1) d_Sg_isLatin1_13 (by decide) ?_
  refine r_goto 18 d_Sg_isLatin1_14 (by decide) ?_
  exact r_zreturn d_Sg_isLatin1_18 rfl (Or.inr rfl) rfl
theorem slen_shr : ∀ j, j < 5 → slen j >>> ((0 : Int32) &&& 31) = slen j := by decide +kernel
theorem cm_Sg_length {G : GT} (j : Nat) (M : Mm) (hj : j < 5) : CM G 2 y_Sg_length c_Sg_length 1 (some .int) (some (.int (slen j)), M) M [.ref (100 + j)] := by
  refine CM.ofF (own := R_Sg) (lv := [some (.ref (100 + j))]) (by decide +kernel) rfl (Nat.le_of_ble_eq_true rfl) rfl ?_
  refine r_aload_n 0 d_Sg_length_0 rfl rfl ?_
  refine r_sgV d_Sg_length_1 rfl hj ?_
  refine r_sgL d_Sg_length_4 hj ?_
  refine r_aload_n 0 d_Sg_length_5 rfl rfl ?_
  refine r_callJ [] d_Sg_length_6 lk_Sg_335 rfl hj (cm_Sg_coder j M hj) (by decide) rfl rfl (Nat.le_of_ble_eq_true rfl) ?_
  refine r_ishr d_Sg_length_9 ?_
  rw [slen_shr j hj]
  exact r_ireturn d_Sg_length_10 rfl rfl
theorem cm_Pr_checkIndex {G : GT} (i n : Int32) (v : Value) (M : Mm) (hv : v = .null ∨ v = .ref 300) (h0 : ¬ i < 0) (h1 : i < n) : CM G 1 y_Pr_checkIndex c_Pr_checkIndex 3 (some .int) (some (.int i), M) M [.int i, .int n, v] := by
  refine CM.ofF (own := R_Pr) (lv := [some (.int i), some (.int n), some v]) (by decide +kernel) rfl (by rcases hv with rfl | rfl <;> exact Nat.le_of_ble_eq_true rfl) (by rcases hv with rfl | rfl <;> rfl) ?_
  refine r_iload_n 0 d_Pr_0 rfl rfl ?_
  refine r_if_lt 9 d_Pr_1 (by decide) (fun q => absurd q h0) (fun q => ?_)
  refine r_iload_n 0 d_Pr_4 rfl rfl ?_
  refine r_iload_n 1 d_Pr_5 rfl rfl ?_
  refine r_icmp_lt 16 d_Pr_6 (by decide) (fun q => ?_) (fun q => absurd h1 q)
  refine r_iload_n 0 d_Pr_16 rfl rfl ?_
  exact r_ireturn d_Pr_17 rfl rfl
theorem cm_Sg_checkIndex {G : GT} (i n : Int32) (M : Mm) (h0 : ¬ i < 0) (h1 : i < n) : CM G 2 y_Sg_checkIndex c_Sg_checkIndex 2 none (none, M) M [.int i, .int n] := by
  refine CM.ofF (own := R_Sg) (lv := [some (.int i), some (.int n)]) (by decide +kernel) rfl (Nat.le_of_ble_eq_true rfl) rfl ?_
  refine r_iload_n 0 d_Sg_checkIndex_0 rfl rfl ?_
  refine r_iload_n 1 d_Sg_checkIndex_1 rfl rfl ?_
  refine r_sgF d_Sg_checkIndex_2 rfl ?_ ?_
  · refine r_callS [.int i, .int n, .null] d_Sg_checkIndex_5 lk_Sg_1059S (cm_Pr_checkIndex i n .null M (Or.inl rfl) h0 h1) (by decide) rfl rfl (Nat.le_of_ble_eq_true rfl) ?_
    refine r_pop d_Sg_checkIndex_8 rfl ?_
    exact r_return d_Sg_checkIndex_9 rfl rfl
  · refine r_callS [.int i, .int n, .ref 300] d_Sg_checkIndex_5 lk_Sg_1059S (cm_Pr_checkIndex i n (.ref 300) M (Or.inr rfl) h0 h1) (by decide) rfl rfl (Nat.le_of_ble_eq_true rfl) ?_
    refine r_pop d_Sg_checkIndex_8 rfl ?_
    exact r_return d_Sg_checkIndex_9 rfl rfl
theorem sch_ok : ∀ j, j < 5 → ∀ k, k < klen.getD j 0 → (((kbyt.getD j []).getD k 0 &&& 255).toUInt32 % 65536).toInt32 = (kbyt.getD j []).getD k 0 ∧ narrow .char (.int ((kbyt.getD j []).getD k 0)) = .int ((kbyt.getD j []).getD k 0) := by decide +kernel
theorem slen_lt {j : Nat} {i : Int32} (hj : j < 5) (hi : vp_in i (klen.getD j 0)) : ¬ i < 0 ∧ i < slen j ∧ i.toNatClampNeg < klen.getD j 0 := by
  have hs : klen.getD j 0 < 2 ^ 31 := by
    have : ∀ j, j < 5 → klen.getD j 0 < 2 ^ 31 := by decide
    exact this j hj
  obtain ⟨k, hk, rfl⟩ := vp_in_of hi hs
  exact ⟨nI_pos (by omega), nI_lt hk hs, by rw [nI_clamp (by omega)]; exact hk⟩
theorem cm_Sl_charAt {G : GT} (j : Nat) (i : Int32) (M : Mm) (hj : j < 5) (hi : vp_in i (klen.getD j 0)) : CM G 3 y_Sl_charAt c_Sl_charAt 2 (some .char) (some (.int (sch j i)), M) M [.ref (110 + j), .int i] := by
  obtain ⟨h0, h1, h2⟩ := slen_lt hj hi
  refine CM.ofF (own := R_Sl) (lv := [some (.ref (110 + j)), some (.int i)]) (by decide +kernel) rfl (Nat.le_of_ble_eq_true rfl) rfl ?_
  refine r_iload_n 1 d_Sl_charAt_0 rfl rfl ?_
  refine r_aload_n 0 d_Sl_charAt_1 rfl rfl ?_
  refine r_sgL d_Sl_charAt_2 hj ?_
  refine r_callS [.int i, .int (slen j)] d_Sl_charAt_3 lk_Sl_9S (cm_Sg_checkIndex i (slen j) M h0 h1) (by decide) rfl rfl (Nat.le_of_ble_eq_true rfl) ?_
  refine r_aload_n 0 d_Sl_charAt_6 rfl rfl ?_
  refine r_iload_n 1 d_Sl_charAt_7 rfl rfl ?_
  refine r_sgB d_Sl_charAt_8 hj hi ?_
  refine r_sipush (v := 255) d_Sl_charAt_9 (by decide) ?_
  refine r_iand d_Sl_charAt_12 ?_
  refine r_i2c d_Sl_charAt_13 ?_
  obtain ⟨e1, e2⟩ := sch_ok j hj _ h2
  rw [show ((sch j i &&& 255).toUInt32 % 65536).toInt32 = sch j i from e1]
  exact r_retN (ty := .char) d_Sl_charAt_14 rfl e2 rfl
theorem cm_Sg_charAt {G : GT} (j : Nat) (i : Int32) (M : Mm) (hj : j < 5) (hi : vp_in i (klen.getD j 0)) : CM G 4 y_Sg_charAt c_Sg_charAt 2 (some .char) (some (.int (sch j i)), M) M [.ref (100 + j), .int i] := by
  obtain ⟨h0, h1, h2⟩ := slen_lt hj hi
  refine CM.ofF (own := R_Sg) (lv := [some (.ref (100 + j)), some (.int i)]) (by decide +kernel) rfl (Nat.le_of_ble_eq_true rfl) rfl ?_
  refine r_aload_n 0 d_Sg_charAt_0 rfl rfl ?_
  refine r_callJ [] d_Sg_charAt_1 lk_Sg_492 rfl hj (cm_Sg_isLatin1 j M hj) (by decide) rfl rfl (Nat.le_of_ble_eq_true rfl) ?_
  refine r_if_eq 16 d_Sg_charAt_4 (by decide) (fun q => absurd q (by decide)) (fun q => ?_)
  refine r_aload_n 0 d_Sg_charAt_7 rfl rfl ?_
  refine r_sgV d_Sg_charAt_8 rfl hj ?_
  refine r_iload_n 1 d_Sg_charAt_11 rfl rfl ?_
  refine r_callS [.ref (110 + j), .int i] d_Sg_charAt_12 lk_Sg_495S (cm_Sl_charAt j i M hj hi) (by decide) rfl rfl (Nat.le_of_ble_eq_true rfl) ?_
  exact r_retN (ty := .char) d_Sg_charAt_15 rfl (sch_ok j hj _ h2).2 rfl
section STR2
variable {G : GT} {d : Nat} {cc : ByteArray} {own : String} {nL : Nat} {ret : Option FieldType} {R : Option Value × Mm} {M : Mm} {pc : Nat} {lv : List (Option Value)} {st : List Value}
theorem r_strlen {j idx : Nat} (hd : decode cc pc = .ok (.invokevirtual idx, 3)) (hk : LkJ own idx y_Sg_length c_Sg_length 1 (some .int) 0) (hj : j < 5) (hdd : 5 < d) (hsz : (st.map fun v => v.category).sum ≤ 8) (kk : SW G d cc own nL ret R M (pc + 3) lv (.int (slen j) :: st)) : SW G d cc own nL ret R M pc lv (.ref (100 + j) :: st) :=
  r_callJ [] hd hk rfl hj (cm_Sg_length j M hj) (by omega) rfl rfl hsz kk
theorem r_charAt {j idx : Nat} {i : Int32} (hd : decode cc pc = .ok (.invokevirtual idx, 3)) (hk : LkJ own idx y_Sg_charAt c_Sg_charAt 2 (some .char) 1) (hj : j < 5) (hi : vp_in i (klen.getD j 0)) (hdd : 5 < d) (hsz : (st.map fun v => v.category).sum ≤ 8) (kk : SW G d cc own nL ret R M (pc + 3) lv (.int (sch j i) :: st)) : SW G d cc own nL ret R M pc lv (.int i :: .ref (100 + j) :: st) :=
  r_callJ [.int i] hd hk rfl hj (cm_Sg_charAt j i M hj hi) (by omega) rfl rfl hsz kk
end STR2
