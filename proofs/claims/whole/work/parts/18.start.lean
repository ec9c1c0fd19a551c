theorem li_Lw_9 : LkI R_Lw 9 y_Uc_init c_Uc_init 1 := ⟨Or.inl (tw_mem 79 (by decide +kernel) rfl), by decide, rfl, (tw_mem 80 (by decide +kernel) rfl), (tw_mem 61 (by decide +kernel) rfl), (tw_mem 81 (by decide +kernel) rfl), by decide, by decide, by decide⟩
theorem li_Lw_12 : LkI R_Lw 12 y_Mo_init c_Mo_init 1 := ⟨Or.inl (tw_mem 929 (by decide +kernel) rfl), by decide, rfl, (tw_mem 930 (by decide +kernel) rfl), (tw_mem 70 (by decide +kernel) rfl), (tw_mem 931 (by decide +kernel) rfl), by decide, by decide, by decide⟩
/-- the memory behind the constructors; fa, fb: what Ways remembers -/
def Mini (fa fb : Nat → Int32) : Mm := (fun a j => if a = 31 then fa j else if a = 32 then fb j else if (a = 1 ∧ j = 1) ∨ (a = 1 ∧ j = 2) ∨ (a = 6 ∧ j = 1) ∨ (a = 6 ∧ j = 2) ∨ (a = 13 ∧ j = 1) ∨ (a = 13 ∧ j = 2) ∨ (a = 38 ∧ j = 1) ∨ (a = 38 ∧ j = 2) ∨ (a = 44 ∧ j = 1) ∨ (a = 44 ∧ j = 2) ∨ (a = 49 ∧ j = 4) ∨ (a = 49 ∧ j = 5) then 1 else if (a = 11 ∧ j = 6) ∨ (a = 49 ∧ j = 11) then -1 else 0, fun _ _ => 0)
def R_law : String := "UnlikeCountsLaw"
def lw_P (b : Addr) (xs : List Int32) (args : Array Value) (s : State) : Prop := args = #[.ref b] ∧ s.IntsAt b xs ∧ xs.length ≤ 2560 ∧ (Jvm.Cond.and given_1 narrow_1).before args s = true
def lw_Q (_ : Array Value) (s : State) (o : Outcome) (t : State) : Prop := o = .returned (some (.int 1)) ∧ Framed s o t [] 600000 7302250
def lw_Z (below : List Frame) (a : Array Value) (s : State) : State → Prop := fun t => ∃ o, t.status = .running ∧ Ended t below o ∧ lw_Q a s o t
/-- the law's own end, with 1 on the stack, nothing written that was there before, its room as the claim has it -/
theorem lw_ret {p : Program} {l : Launch} {e : Env} {s : State} {m : MethodId} {below : List Frame} {meth : Method} {c : Code} {b : Nat} (hx : p.tables.exec = Jvm.exec) (hb : c.code = code) (hr : meth.sig.returnType = ret) (hlocks : meth.locks = false) {pc : Nat} {H : Heap} {ls : Array Slot} (hdg : decode code pc = .ok (.ireturn, 1)) : W p l e room_1 s m #[Value.ref b] below meth c H [] 600000 7302250 (lw_Z below #[Value.ref b] s) (F0 m pc ls [.int 1]) := by
  intro T hT X
  obtain ⟨fs, hret, hrun, hended, hW, hframe⟩ := X.leave (v := some (.int 1)) (hlocks := hlocks) (fun h => by rw [hr] at h; cases h)
  have hmeth' : T.vm.method? m = some meth := X.method'
  refine ⟨T.setFrames fs, ?_, .returned (some (.int 1)), hrun, hended, rfl, ⟨_, rfl⟩, hW, hframe⟩
  jvm_step X.here [X.here.top, hx, hb, hdg, hmeth', hr, ret, narrow_b1]
  (try refine ⟨rfl, ?_⟩); (try refine ⟨rfl, ?_⟩)
  first | (intro acts; rw [hret _ acts rfl rfl rfl]) | rw [hret _ _ rfl rfl rfl]
  exact Steps.refl _
/-- what holds at the law's entry: the machine, the code, the tables' words (any of lw_tbl by 'hts w (by decide +kernel)'), the script of L ints xs at the cell b, what the Statement gives of the start (any of its parts by flat_of_before) -/
def lw_At (p : Program) (s : State) (m : MethodId) (meth : Method) (c : Code) (b L : Nat) (xs : Nat → Int32) : Prop :=
  p.tables.exec = Jvm.exec ∧ c.code = code ∧ meth.sig.returnType = ret ∧ c.maxLocals = 4 ∧ s.vm.findClass R_law = some m.cls ∧ (∀ w ∈ lw_tbl, w.before #[Value.ref b] s = true) ∧ va_X b L xs s s.heap ∧ b < s.heap.size ∧ meth.locks = false ∧ (Jvm.Cond.and given_1 narrow_1).before #[Value.ref b] s = true
theorem nest_on {w : Cond} (h : nestW w = true) : w.onTables = true := by
  cases w <;> first | (cases h; done) | rfl
theorem inst_mem : ∀ k, k < 10 → Cond.instantiable (Rcl k) (nf k) ∈ lw_tbl := by decide +kernel
theorem cls_known {s : State} {args : Array Value} (hts : ∀ w ∈ lw_tbl, w.before args s = true) : ∃ D0 : va_G, ∀ (c : Nat) (q : vw_C), classes[c]? = some q → u_Kn s q.1 q.2.1 q.2.2 (D0.1 c) (D0.2 c) := by
  have h0 : ∀ k, k < 10 → ∃ (cC : ClassId) (iS : Nat → Nat), u_Kn s (Rcl k) (Tcl k) (nf k) cC iS := fun k hk => u_known hts (cl_in hk) (hts _ (inst_mem k hk))
  obtain ⟨c0, -, -⟩ := h0 0 (by decide)
  have h1 : ∀ k, ∃ q : ClassId × (Nat → Nat), k < 10 → u_Kn s (Rcl k) (Tcl k) (nf k) q.1 q.2 := by
    intro k
    by_cases hk : k < 10
    · obtain ⟨a, b, hh⟩ := h0 k hk
      exact ⟨(a, b), fun _ => hh⟩
    · exact ⟨(c0, fun _ => 0), fun h => absurd h hk⟩
  obtain ⟨fD, hfD⟩ := Classical.axiomOfChoice h1
  refine ⟨(fun k => (fD k).1, fun k => (fD k).2), fun c q hq => ?_⟩
  have hc : c < 10 := (List.getElem?_eq_some_iff.mp hq).1
  rw [cl_at hc] at hq
  cases hq
  exact hfD c hc
theorem arr_known {s : State} {args : Array Value} (ty : FieldType) (h : (Cond.arrayClass ty).before args s = true) (hp : isRefT ty = false) : ∃ cA : ClassId, ArrOfT s cA ty ∧ va_RA s cA ty := by
  obtain ⟨cA, kA, comp, h1, h2, h3⟩ := Cond.arrayClass_spec h
  exact ⟨cA, fun n z => ⟨fun k h => (by cases h), kA, h2, comp, h3⟩, by cases ty <;> first | exact h1 | (cases hp; done)⟩
theorem arr_mem : ∀ t, t < 4 → Cond.arrayClass ([FieldType.int, .boolean, .byte, .long].getD t .int) ∈ tw := by decide +kernel
theorem arr_all {s : State} {args : Array Value} (hts : ∀ w ∈ tw, w.before args s = true) : ∃ ct0 : Nat → ClassId, ∀ (k : Nat) (q : ClassId × FieldType), ([(ct0 0, .int), (ct0 1, .boolean), (ct0 2, .byte), (ct0 3, .long)] : List (ClassId × FieldType))[k]? = some q → ArrOfT s q.1 q.2 ∧ va_RA s q.1 q.2 := by
  obtain ⟨c0, h0⟩ := arr_known .int (hts _ (arr_mem 0 (by decide))) rfl
  obtain ⟨c1, h1⟩ := arr_known .boolean (hts _ (arr_mem 1 (by decide))) rfl
  obtain ⟨c2, h2⟩ := arr_known .byte (hts _ (arr_mem 2 (by decide))) rfl
  obtain ⟨c3, h3⟩ := arr_known .long (hts _ (arr_mem 3 (by decide))) rfl
  refine ⟨fun k => if k = 0 then c0 else if k = 1 then c1 else if k = 2 then c2 else c3, fun k q hq => ?_⟩
  match k, hq with
  | 0, hq => cases hq; exact h0
  | 1, hq => cases hq; exact h1
  | 2, hq => cases hq; exact h2
  | 3, hq => cases hq; exact h3
  | k + 4, hq => simp at hq
abbrev flN : List Cond := flatC (Jvm.Cond.and given_1 narrow_1)
theorem st_ex : ∀ i, i < 5 → Cond.exactly (.string R_Te (kix i)) "java/lang/String" ∈ flN := by decide +kernel
theorem st_co : ∀ i, i < 5 → Cond.eq (.field (.string R_Te (kix i)) "java/lang/String" "coder" "B") (.int 0) ∈ flN := by decide +kernel
theorem st_ar : ∀ i, i < 5 → Cond.arrayOf (.field (.string R_Te (kix i)) "java/lang/String" "value" "[B") .byte ∈ flN := by decide +kernel
theorem st_le : ∀ i, i < 5 → Cond.eq (.length (.field (.string R_Te (kix i)) "java/lang/String" "value" "[B")) (.int (Int32.ofNat (klen.getD i 0))) ∈ flN := by decide +kernel
theorem st_el : ∀ i, i < 5 → ∀ j, j < klen.getD i 0 → Cond.eq (.elem (.field (.string R_Te (kix i)) "java/lang/String" "value" "[B") (.int (Int32.ofNat j))) (.int ((kbyt.getD i []).getD j 0)) ∈ flN := by decide +kernel
theorem st_ne : ∀ i, i < 5 → ∀ j, j < 5 → i ≠ j → Cond.not (Cond.eq (.string R_Te (kix i)) (.string R_Te (kix j))) ∈ flN ∨ Cond.not (Cond.eq (.string R_Te (kix j)) (.string R_Te (kix i))) ∈ flN := by decide +kernel
theorem st_ref : ∀ i, i < 5 → Cond.stringRef R_Te (kix i) (ktx i) ∈ lw_tbl := by decide +kernel
theorem str_known {s : State} {b : Addr} {A : Nat → Prop} (hts : ∀ w ∈ lw_tbl, w.before #[Value.ref b] s = true) (hgv : (Jvm.Cond.and given_1 narrow_1).before #[Value.ref b] s = true) (hA : ∀ a : Nat, a < s.heap.size → ¬ A a) : ∃ aK aV : Nat → Nat, vk_S 5 klen kbyt aK aV A s s.heap ∧ ∀ i, i < 5 → vk_R R_Te (kix i) (ktx i) (aK i) s := by
  have hfl := flat_of_before _ hgv
  obtain ⟨aK, aV, h1, h2⟩ := vk_Sof (args := #[Value.ref b]) (s := s) (N := 5) (tm := fun i => .string R_Te (kix i)) (len := klen) (byt := kbyt) (A := A) (by decide) (fun i hi => hfl _ (st_ex i hi)) (fun i hi => hfl _ (st_co i hi)) (fun i hi => hfl _ (st_ar i hi)) (fun i hi => hfl _ (st_le i hi)) (fun i hi j hj => hfl _ (st_el i hi j hj)) (fun i j hi hj hij => (st_ne i hi j hj hij).imp (fun h => hfl _ h) (fun h => hfl _ h)) hA
  exact ⟨aK, aV, h1, fun i hi => vk_R.of (hts _ (st_ref i hi)) (h2 i hi)⟩
theorem sta_known {s : State} {b : Addr} {A : Nat → Prop} (hts : ∀ w ∈ lw_tbl, w.before #[Value.ref b] s = true) (hgv : (Jvm.Cond.and given_1 narrow_1).before #[Value.ref b] s = true) (hA : ∀ a : Nat, a < s.heap.size → ¬ A a) : va_Z "java/lang/String" "COMPACT_STRINGS" "Z" (.int 1) A s s.heap := by
  have hfl := flat_of_before _ hgv
  exact va_Zof (args := #[Value.ref b]) (hts (.laysStatic "java/lang/String" "COMPACT_STRINGS" "Z") (by decide +kernel)) (hts (.initialized "java/lang/String") (by decide +kernel)) (va_eqt (hfl (Cond.eq (.static "java/lang/String" "COMPACT_STRINGS" "Z") (.int 1)) (by decide +kernel))) hA
theorem fmt_known {s : State} {b : Addr} {A : Nat → Prop} (hts : ∀ w ∈ lw_tbl, w.before #[Value.ref b] s = true) (hgv : (Jvm.Cond.and given_1 narrow_1).before #[Value.ref b] s = true) (hA : ∀ a : Nat, a < s.heap.size → ¬ A a) : ∃ tF : Nat, va_Z "jdk/internal/util/Preconditions" "SIOOBE_FORMATTER" "Ljava/util/function/BiFunction;" .null A s s.heap ∨ va_Z "jdk/internal/util/Preconditions" "SIOOBE_FORMATTER" "Ljava/util/function/BiFunction;" (.ref tF) A s s.heap := by
  have hfl := flat_of_before _ hgv
  have h := va_Zqof (args := #[Value.ref b]) (A := A) (hts (.laysStatic "jdk/internal/util/Preconditions" "SIOOBE_FORMATTER" "Ljava/util/function/BiFunction;") (by decide +kernel)) (hts (.initialized "jdk/internal/util/Preconditions") (by decide +kernel)) (hfl (Cond.isRef (.static "jdk/internal/util/Preconditions" "SIOOBE_FORMATTER" "Ljava/util/function/BiFunction;")) (by decide +kernel)) hA
  rcases h with h | ⟨t, h⟩
  · exact ⟨0, Or.inl h⟩
  · exact ⟨t, Or.inr h⟩
/-- where the virtual places lie -/
def aF (l : List Nat) (aK aV : Nat → Nat) (b t : Nat) : Nat → Nat := fun k => if k < 64 then l.getD k 0 else if k < 105 then aK (k - 100) else if k < 115 then aV (k - 110) else if k = 200 then b else t
theorem aF_K {l : List Nat} {aK aV : Nat → Nat} {b t i : Nat} (hi : i < 5) : aF l aK aV b t (100 + i) = aK i := by
  unfold aF
  rw [if_neg (by omega), if_pos (by omega), Nat.add_sub_cancel_left]
theorem aF_V {l : List Nat} {aK aV : Nat → Nat} {b t i : Nat} (hi : i < 5) : aF l aK aV b t (110 + i) = aV i := by
  unfold aF
  rw [if_neg (by omega), if_neg (by omega), if_pos (by omega), Nat.add_sub_cancel_left]
theorem vs_cong {l : List Nat} {aK aV : Nat → Nat} {b t : Nat} {A : Nat → Prop} {U : State} {H : Heap} (h : vk_S 5 klen kbyt aK aV A U H) : vk_S 5 klen kbyt (fun i => aF l aK aV b t (100 + i)) (fun i => aF l aK aV b t (110 + i)) A U H := by
  refine ⟨fun i hi => ?_, fun i j hi hj hij => h.2 i j hi hj ?_⟩
  · dsimp only
    rw [aF_K hi, aF_V hi]
    exact h.1 i hi
  · dsimp only at hij
    rwa [aF_K hi, aF_K hj] at hij
theorem w_call {G : GT} {A : Nat → Prop} {cc : ByteArray} {own : String} {nL cells slots pc : Nat} {st : List Value} {p : Program} {e : Env} {Rm : Room} {s : State} {m : MethodId} {args : Array Value} {below : List Frame} {meth : Method} {c : Code} {Q : State → Prop} {H : Heap} {locs : List Loc} {ls : Array Slot} {h idx d' nLy cf' sf' : Nat} {e0 : va_E} {y : MethodName} {cy : ByteArray} {Fin' : va_W → Prop} {wr : va_W}
    (hx : p.tables.exec = Jvm.exec) (hb : c.code = cc) (hml : c.maxLocals = nL) (hown : s.vm.findClass own = some m.cls) (hts : ∀ w ∈ tw, w.before args s = true) (hK : K0 G s) (hA : ∀ q, s.heap.size ≤ q → A q) (g1 : d' + 1 ≤ Rm.frames) (g2 : 64 + 64 * d' ≤ Rm.locals) (g3 : cells + cf' ≤ Rm.cells) (g4 : slots + sf' ≤ Rm.slots)
    (hP : va_P (g_D G) classes (wr ++ [(h, e0)]) H) (hD : va_D A (wr ++ [(h, e0)])) (hS : va_S A s.heap H locs) (hls : ls.size = nL) (hd : decode cc pc = .ok (.invokespecial idx, 3)) (hk : LkI own idx y cy nLy) (hM : IM G d' y cy nLy h e0 Fin' cf' sf') (hsz : (st.map fun v => v.category).sum ≤ 8)
    (kk : ∀ (w : va_W) (H1 : Heap) (locs1 : List Loc), Fin' w → va_P (g_D G) classes (wr ++ w) H1 → va_D A (wr ++ w) → va_S A s.heap H1 locs1 → W p (g_l G) e Rm s m args below meth c H1 locs1 (cells + cf') (slots + sf') Q (F0 m (pc + 3) ls st)) : W p (g_l G) e Rm s m args below meth c H locs cells slots Q (F0 m pc ls (.ref h :: st)) := by
  obtain ⟨k1, hnL, hyn, k2, k4, k5, k6, k7, k8⟩ := hk
  have hPc : va_P (g_D G) classes [(h, e0)] H := hP.sub [wr.length] (by simp)
  have hFc := va_free (wc := [(h, e0)]) hD hS hA [wr.length] (by simp)
  have hp : PreS s H (va_Pc [.ref h] (fun U => U.heap.size = H.size ∧ va_P (g_D G) classes [(h, e0)] U.heap ∧ K0 G U)) (.ref h :: []) := ⟨fun a U g mk q => ⟨q.1, q.2.1, q.2.2.1, K0.same q.2.2.2 rfl⟩, fun U hU hW => ⟨rfl, by rw [hU], by rw [hU]; exact hPc, K0.go hK hW⟩⟩
  have hcs : 2 * (F0 m pc ls (.ref h :: st)).monitorRoom + (st.map fun v => v.category).sum ≤ 8 := lv_room hsz
  have hr : va_Run p (g_l G) e Rm s m args below meth c H locs cells slots cf' sf' (F0 m pc ls (.ref h :: st)) st ((fun _ st o t => o = .returned none ∧ (∃ w, Fin' w ∧ va_P (g_D G) classes w t.heap ∧ va_D (va_A [(h, e0)] H.size) w) ∧ va_F (va_A [(h, e0)] H.size) st t) (Value.ref h :: []).toArray) (va_A [(h, e0)] H.size) := by
    rcases k1 with k1 | ⟨host, k1⟩
    · exact va_runI (As := []) ⟨hx, hb, hml, hown, hts⟩ (hM H.size) ⟨callB_of 0 hts (good_ct k5) rfl rfl rfl (hts _ k4) (hts _ k1) ⟨k6, k7, k8⟩ ⟨by show d' + 1 ≤ _; omega, by show 8 + (nLy + 11) + 64 * d' ≤ _; omega⟩, hyn, hts _ k2⟩ hp rfl rfl hls rfl hcs hd ⟨g3, g4⟩
    · exact va_runIN (As := []) (host := host) ⟨hx, hb, hml, hown, hts⟩ (hM H.size) ⟨va_cnB 0 hts (good_ct k5) rfl rfl rfl (hK.2 _ k1) (hts _ k4) ⟨k6, k7, k8⟩ ⟨by show d' + 1 ≤ _; omega, by show 8 + (nLy + 11) + 64 * d' ≤ _; omega⟩, hyn, hts _ k2⟩ hp rfl rfl hls rfl hcs hd ⟨g3, g4⟩
  intro T hT X
  obtain ⟨v, st₀, t, T', L, h0, X', hL', e1, e2, ⟨hv, ⟨w, hw, hP1, hD1⟩, hz, hk⟩, st'⟩ := hr T hT X
  cases hv
  rw [h0] at hz hk
  have hS' : va_S A s.heap T'.heap (locs ++ L) := ⟨Nat.le_trans hS.1 (by rw [e1]; exact hz), fun q h1 h2 => by rw [e1, hk q (Nat.lt_of_lt_of_le h1 hS.1) (fun z => h2 (hFc q z))]; exact hS.2.1 q h1 h2, fun q hq => by
      rcases List.mem_append.mp hq with h | h
      · exact hS.2.2 q h
      · exact hFc _ (hL' q h)⟩
  obtain ⟨hP2, hD2⟩ := b_join (A := A) rfl hP hD (fun q q1 q2 => hk q q1 q2) hFc hP1 hD1
  obtain ⟨t2, a1, b1⟩ := kk w T'.heap (locs ++ L) hw (by rw [e1]; exact hP2) hD2 hS' T' rfl X'
  exact ⟨t2, st' t2 a1, b1⟩
/-- WHAT IS LEFT, pure: the law's loop, as a function, answers 1 on every script -/
def PureLaw : Prop := ∀ (G : GT), g_n G ≤ 2560 → ∀ (fa fb : Nat → Int32), (∀ j, j < 25 → fa j = -1) → (∀ j, j < 6 → fb j = -1) → ∃ (N : Nat) (M' : Mm), f_Lw_law N G (Mini fa fb) = some (1, M')

set_option maxRecDepth 100000 in
set_option maxHeartbeats 4000000 in
theorem whole_start_of (hpure : PureLaw) {p : Program} {e : Env} {s : State} {m : MethodId} {below : List Frame} {meth : Method} {c : Code} (l : Launch) {b L : Nat} {xs : Nat → Int32} (hL : L ≤ 2560) (C0 : lw_At p s m meth c b L xs) : W p l e room_1 s m #[Value.ref b] below meth c s.heap [] 0 0 (lw_Z below #[Value.ref b] s) (entryFrame m ([Value.ref b] : List Value).toArray 4) := by
  obtain ⟨hx, hb, hr, hml, hown, hts, hX, hbl, hlocks, hgv⟩ := id C0
  have htw : ∀ w ∈ tw, w.before #[Value.ref b] s = true := fun w hw => hts w (List.mem_filter.mp hw).1
  have hnw : ∀ w ∈ ntw, va_Nw w s := fun w hw => va_Nw.of (nest_on (List.mem_filter.mp hw).2) (hts w (List.mem_filter.mp hw).1)
  obtain ⟨D0, hD0⟩ := cls_known hts
  obtain ⟨ct0, hct0⟩ := arr_all htw
  obtain ⟨aK, aV, hvS, hvR⟩ := str_known (A := fun q => s.heap.size ≤ q) hts hgv (fun a ha => Nat.not_le.mpr ha)
  have hZ1 := sta_known (A := fun q => s.heap.size ≤ q) hts hgv (fun a ha => Nat.not_le.mpr ha)
  obtain ⟨tF, hZ2⟩ := fmt_known (A := fun q => s.heap.size ≤ q) hts hgv (fun a ha => Nat.not_le.mpr ha)
  obtain ⟨G0, hG0⟩ : ∃ G0 : GT, G0 = (l, s.heap.size, fun _ => 0, D0, ct0, L, xs) := ⟨_, rfl⟩
  have hK0 : K0 G0 s := by subst hG0; exact ⟨⟨hD0, hct0⟩, hnw⟩
  have hl0 : g_l G0 = l := by subst hG0; rfl
  have hA : ∀ q : Nat, s.heap.size ≤ q → (fun q : Nat => s.heap.size ≤ q) q := fun _ h => h
  have hS : va_S (fun q : Nat => s.heap.size ≤ q) s.heap s.heap [] := va_S.rf
  have hP : va_P (g_D G0) classes [] s.heap := fun k q h => by simp at h
  have hD : va_D (fun q : Nat => s.heap.size ≤ q) [] := ⟨fun i j p q h => by simp at h, fun k q h => by simp at h⟩
  have hl := lv_entry ([.ref b]) (n := 4) (Nat.le_of_ble_eq_true rfl)
  rw [lg_entry_eq]
  generalize (lg_sl ([.ref b]) ++ List.replicate (4 - (lg_sl ([.ref b])).length) Slot.unset).toArray = ls at hl ⊢
  have hl : lv_has ls 4 [(0, .ref b)] := hl
  rw [← hl0]
  refine va_new (ci := 8) (fs := [.null, .null, .null, .null, .null, .null, .null, .null, .null, .null, .int 0]) (C := Rcl 8) (T := Tcl 8) (N := nf 8) hx hb htw (cl_tw (by decide)) (fty 8) (cl_ty (by decide)) hown (htw _ (tw_mem 77 (by decide +kernel) rfl)) (htw _ (tw_mem 78 (by decide +kernel) rfl)) (htw _ (tw_mem 61 (by decide +kernel) rfl)) hK0.1 hP hD hS hA (cl_at (by decide)) (by decide) (Nat.le_of_ble_eq_true rfl) (Nat.le_of_ble_eq_true rfl) d_Lw_law_0 (fun uq0 H hP hD hS => ?_)
  refine lv_dup hx hb d_Lw_law_3 rfl ?_
  refine w_call (wr := []) hx hb hml hown htw hK0 hA (by decide) (by decide) (by decide) (by decide) hP hD hS hl.1 d_Lw_law_4 li_Lw_9 (im_Uc uq0) (Nat.le_of_ble_eq_true rfl) (fun w H locs hw hP hD hS => ?_)
  obtain ⟨uq1, uq2, uq3, uq4, uq5, uq6, uq7, uq8, uq9, uq10, uq11, uq12, uq13, uq14, uq15, uq16, uq17, uq18, uq19, uq20, uq21, uq22, uq23, uq24, uq25, uq26, uq27, uq28, uq29, uq30, uq31, uq32, uq33, uq34, uq35, uq36, uq37, uq38, uq39, uq40, uq41, uq42, uq43, uq44, uq45, uq46, uq47, uq48, fuA1, fuA2, hfA1, hfA2, rfl⟩ := hw
  refine lv_astore_n (lv' := [(1, .ref uq0), (0, .ref b)]) hx hb d_Lw_law_7 rfl hl (by decide) rfl (fun ls hl => ?_)
  refine va_new (ci := 9) (fs := [.int 0, .int 0, .int 0, .int 0, .int 0, .int 0, .null, .int 0, .null, .null, .int 0, .int 0, .int 0, .long 0, .int 0, .int 0, .int 0, .int 0, .int 0, .int 0, .int 0, .int 0, .int 0, .null, .null, .null, .int 0, .int 0, .int 0, .int 0, .null, .null, .null, .int 0, .null, .null, .null, .null, .null]) (C := Rcl 9) (T := Tcl 9) (N := nf 9) hx hb htw (cl_tw (by decide)) (fty 9) (cl_ty (by decide)) hown (htw _ (tw_mem 927 (by decide +kernel) rfl)) (htw _ (tw_mem 928 (by decide +kernel) rfl)) (htw _ (tw_mem 70 (by decide +kernel) rfl)) hK0.1 hP hD hS hA (cl_at (by decide)) (by decide) (Nat.le_of_ble_eq_true rfl) (Nat.le_of_ble_eq_true rfl) d_Lw_law_8 (fun vq0 H hP hD hS => ?_)
  refine lv_dup hx hb d_Lw_law_11 rfl ?_
  refine w_call hx hb hml hown htw hK0 hA (by decide) (by decide) (by decide) (by decide) hP hD hS hl.1 d_Lw_law_12 li_Lw_12 (im_Mo vq0) (Nat.le_of_ble_eq_true rfl) (fun w H locs hw hP hD hS => ?_)
  obtain ⟨vq1, vq2, vq3, vq4, vq5, vq6, vq7, vq8, vq9, vq10, vq11, vq12, vq13, vq14, rfl⟩ := hw
  refine lv_astore_n (lv' := [(2, .ref vq0), (1, .ref uq0), (0, .ref b)]) hx hb d_Lw_law_15 rfl hl (by decide) rfl (fun ls hl => ?_)
  obtain ⟨G, hG⟩ : ∃ G : GT, G = (l, s.heap.size, aF [uq0, uq1, uq2, uq3, uq4, uq5, uq6, uq7, uq8, uq9, uq10, uq11, uq12, uq13, uq14, uq15, uq16, uq17, uq18, uq19, uq20, uq21, uq22, uq23, uq24, uq25, uq26, uq27, uq28, uq29, uq30, uq31, uq32, uq33, uq34, uq35, uq36, uq37, uq38, uq39, uq40, uq41, uq42, uq43, uq44, uq45, uq46, uq47, uq48, vq0, vq1, vq2, vq3, vq4, vq5, vq6, vq7, vq8, vq9, vq10, vq11, vq12, vq13, vq14] aK aV b tF, D0, ct0, L, xs) := ⟨_, rfl⟩
  have hGD : g_D G = g_D G0 := by subst hG; subst hG0; rfl
  have hGA : g_A G = fun q : Nat => s.heap.size ≤ q := by subst hG; rfl
  have hP : va_P (g_D G) classes (wsOf G (Mini fuA1 fuA2)) H := by
    rw [hGD]
    subst hG; subst hG0
    exact hP
  have hD : va_D (g_A G) (wsOf G (Mini fuA1 fuA2)) := by
    rw [hGA]
    subst hG; subst hG0
    exact hD
  have hKK : KK G s := by
    refine ⟨?_, ⟨fun i j hi hj hij => hD.1 i j _ _ (ws_get hi) (ws_get hj) hij, fun i hi => hD.2 i _ (ws_get hi)⟩, ?_, ?_, ?_, ?_, ?_, ?_, hnw, ?_⟩
    · subst hG; exact ⟨hD0, hct0⟩
    · subst hG; exact fun i hi => by rw [show g_ad (l, s.heap.size, aF _ aK aV b tF, D0, ct0, L, xs) (100 + i) = aK i from aF_K hi]; exact hvR i hi
    · subst hG; exact vs_cong hvS
    · subst hG; exact hZ1
    · subst hG; exact hX
    · subst hG; exact hbl
    · subst hG; exact Nat.not_le.mpr hbl
    · subst hG; exact hZ2
  obtain ⟨N, M', hlaw⟩ := hpure G (by subst hG; exact hL) fuA1 fuA2 hfA1 hfA2
  have hsw := sw_law hlaw
  have hgl : g_l G = g_l G0 := by subst hG; subst hG0; rfl
  rw [← hgl]
  refine hsw p e room_1 s m #[Value.ref b] below meth c _ _ _ ⟨hx, hb, hml, hown, htw, hKK, ⟨by decide, by decide, by decide, by decide⟩, ?_⟩ H locs ls hP (by rw [hGA]; exact hS) ?_
  · intro H locs ls pc i hP hS hi hd
    rcases hi with ⟨rfl, x, ty, hv, -, -⟩ | ⟨rfl, x, hv, -⟩ | ⟨rfl, hv, -⟩ | ⟨rfl, a, n, hv, -⟩
    · rw [hgl, hl0]
      refine va_forget (fun q hq => by have := hS.2.2 q hq; rw [hGA] at this; exact this) ?_
      refine W.widen (k := 600000) (n := 7302250) (by decide) (by decide) ?_
      exact lw_ret hx hb hr hlocks hd
    · cases hv
    · cases hv
    · cases hv
  · refine ⟨hl.1, hl.2.1, fun q hq => hl.2.2 q ?_⟩
    subst hG
    have hq2 : q ∈ [(0, Value.ref b), (1, Value.ref uq0), (2, Value.ref vq0)] := hq
    simp only [List.mem_cons, List.not_mem_nil, or_false] at hq2 ⊢
    rcases hq2 with hh | hh | hh
    · exact Or.inr (Or.inr hh)
    · exact Or.inr (Or.inl hh)
    · exact Or.inl hh
