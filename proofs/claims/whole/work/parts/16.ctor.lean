/-! CONSTRUCTORS: worlds that grow. Addresses are the heap's sizes as they come -/
def K0 (G : GT) (U : State) : Prop := va_K (g_D G) classes (tyL G) U ∧ ∀ w ∈ ntw, va_Nw w U
theorem K0.go {G : GT} {s U : State} (h : K0 G s) (hW : s.WarmedH U.vm) : K0 G U := ⟨va_K.moved hW.alike h.1, fun w hw => nest_warm (List.mem_filter.mp hw).2 hW (h.2 w hw)⟩
theorem K0.same {G : GT} {s U : State} (h : K0 G s) (hv : U.vm = s.vm) : K0 G U := ⟨va_K.moved (by rw [hv]; exact Vm.Alike.refl _) h.1, fun w hw => nest_same (List.mem_filter.mp hw).2 hv (h.2 w hw)⟩
theorem nd_of : ∀ l : List Nat, l.Nodup → va_nd l = true
  | [], _ => rfl
  | a :: l, h => by
    rw [List.nodup_cons] at h
    simp only [va_nd, Bool.and_eq_true, decide_eq_true_eq]
    exact ⟨h.1, nd_of l h.2⟩
theorem nd_range (n : Nat) : va_nd (List.range n) = true := nd_of _ List.nodup_range
def CC (G : GT) (A : Nat → Prop) (d : Nat) (cc : ByteArray) (own : String) (nL : Nat) (Fin : va_W → Prop) (cf sf : Nat) (p : Program) (e : Env) (Rm : Room) (s : State) (m : MethodId) (args : Array Value) (below : List Frame) (meth : Method) (c : Code) (Q : State → Prop) : Prop :=
  p.tables.exec = Jvm.exec ∧ c.code = cc ∧ c.maxLocals = nL ∧ s.vm.findClass own = some m.cls ∧ (∀ w ∈ tw, w.before args s = true) ∧ K0 G s ∧ (∀ q, s.heap.size ≤ q → A q) ∧ meth.name = "<init>" ∧ (d ≤ Rm.frames ∧ 64 * d ≤ Rm.locals ∧ cf ≤ Rm.cells ∧ sf ≤ Rm.slots) ∧
  ∀ (H : Heap) (locs : List Loc) (ls : Array Slot) (pc : Nat) (w : va_W), Fin w → va_P (g_D G) classes w H → va_D A w → va_S A s.heap H locs → decode cc pc = .ok (.return_, 1) → W p (g_l G) e Rm s m args below meth c H locs cf sf Q (F0 m pc ls [])
def CW (G : GT) (A : Nat → Prop) (d : Nat) (cc : ByteArray) (own : String) (nL : Nat) (Fin : va_W → Prop) (cf sf : Nat) (ws : va_W) (cells slots pc : Nat) (lv : List (Nat × Value)) (st : List Value) : Prop :=
  ∀ (p : Program) (e : Env) (Rm : Room) (s : State) (m : MethodId) (args : Array Value) (below : List Frame) (meth : Method) (c : Code) (Q : State → Prop), CC G A d cc own nL Fin cf sf p e Rm s m args below meth c Q →
    ∀ (H : Heap) (locs : List Loc) (ls : Array Slot), va_P (g_D G) classes ws H → va_D A ws → va_S A s.heap H locs → lv_has ls nL lv → W p (g_l G) e Rm s m args below meth c H locs cells slots Q (F0 m pc ls st)
section CWR
variable {G : GT} {A : Nat → Prop} {d : Nat} {cc : ByteArray} {own : String} {nL : Nat} {Fin : va_W → Prop} {cf sf : Nat} {ws : va_W} {cells slots pc : Nat} {lv : List (Nat × Value)} {st : List Value}
theorem CW.lift {pc' : Nat} {st' : List Value} (f : ∀ (p : Program) (e : Env) (Rm : Room) (s : State) (m : MethodId) (args : Array Value) (below : List Frame) (meth : Method) (c : Code) (Q : State → Prop) (H : Heap) (locs : List Loc) (ls : Array Slot), p.tables.exec = Jvm.exec → c.code = cc → lv_has ls nL lv → W p (g_l G) e Rm s m args below meth c H locs cells slots Q (F0 m pc' ls st') → W p (g_l G) e Rm s m args below meth c H locs cells slots Q (F0 m pc ls st)) (k : CW G A d cc own nL Fin cf sf ws cells slots pc' lv st') : CW G A d cc own nL Fin cf sf ws cells slots pc lv st :=
  fun p e Rm s m args below meth c Q C H locs ls hP hD hS hl => f p e Rm s m args below meth c Q H locs ls C.1 C.2.1 hl (k p e Rm s m args below meth c Q C H locs ls hP hD hS hl)
theorem b_aload {q : _root_.Fin 4} {x i : Nat} (k : Nat) (hd : decode cc pc = .ok (.aload_n q, 1)) (hi : (q : Nat) = i) (hl : lv[k]? = some (i, .ref x)) (kk : CW G A d cc own nL Fin cf sf ws cells slots (pc + 1) lv (.ref x :: st)) : CW G A d cc own nL Fin cf sf ws cells slots pc lv (st) :=
  CW.lift (fun _ _ _ _ _ _ _ _ _ _ _ _ _ hx hb h w => lv_aload_n hx hb hd hi (lv_at h k hl) w) kk
theorem b_iload {q : _root_.Fin 4} {x : Int32} {i : Nat} (k : Nat) (hd : decode cc pc = .ok (.iload_n q, 1)) (hi : (q : Nat) = i) (hl : lv[k]? = some (i, .int x)) (kk : CW G A d cc own nL Fin cf sf ws cells slots (pc + 1) lv (.int x :: st)) : CW G A d cc own nL Fin cf sf ws cells slots pc lv (st) :=
  CW.lift (fun _ _ _ _ _ _ _ _ _ _ _ _ _ hx hb h w => lv_iload_n hx hb hd hi (lv_at h k hl) w) kk
theorem b_iconst {n : Int} {v : Int32} (hd : decode cc pc = .ok (.iconst n, 1)) (hv : Int32.ofInt n = v) (kk : CW G A d cc own nL Fin cf sf ws cells slots (pc + 1) lv (.int v :: st)) : CW G A d cc own nL Fin cf sf ws cells slots pc lv (st) :=
  CW.lift (fun _ _ _ _ _ _ _ _ _ _ _ _ _ hx hb h w => lv_iconst hx hb hd hv w) kk
theorem b_bipush {n : Int} {v : Int32} (hd : decode cc pc = .ok (.bipush n, 2)) (hv : (Int8.ofInt n).toInt32 = v) (kk : CW G A d cc own nL Fin cf sf ws cells slots (pc + 2) lv (.int v :: st)) : CW G A d cc own nL Fin cf sf ws cells slots pc lv (st) :=
  CW.lift (fun _ _ _ _ _ _ _ _ _ _ _ _ _ hx hb h w => lv_bipush hx hb hd hv w) kk
theorem b_sipush {n : Int} {v : Int32} (hd : decode cc pc = .ok (.sipush n, 3)) (hv : (Int16.ofInt n).toInt32 = v) (kk : CW G A d cc own nL Fin cf sf ws cells slots (pc + 3) lv (.int v :: st)) : CW G A d cc own nL Fin cf sf ws cells slots pc lv (st) :=
  CW.lift (fun _ _ _ _ _ _ _ _ _ _ _ _ _ hx hb h w => lv_sipush hx hb hd hv w) kk
theorem b_dup {va : Value} (hd : decode cc pc = .ok (.dup, 1)) (hc : va.category = 1) (kk : CW G A d cc own nL Fin cf sf ws cells slots (pc + 1) lv (va :: va :: st)) : CW G A d cc own nL Fin cf sf ws cells slots pc lv (va :: st) :=
  CW.lift (fun _ _ _ _ _ _ _ _ _ _ _ _ _ hx hb h w => lv_dup hx hb hd hc w) kk
theorem b_goto {off : Int} (tgt : Nat) (hd : decode cc pc = .ok (.goto off, 3)) (ht : (pc : Int) + off = (tgt : Int)) (kk : CW G A d cc own nL Fin cf sf ws cells slots tgt lv (st)) : CW G A d cc own nL Fin cf sf ws cells slots pc lv (st) :=
  CW.lift (fun _ _ _ _ _ _ _ _ _ _ _ _ _ hx hb h w => lv_goto hx hb hd ht w) kk
theorem b_icmpge {x y : Int32} {off : Int} (tgt : Nat) (hd : decode cc pc = .ok (.if_icmp .ge off, 3)) (ht : (pc : Int) + off = (tgt : Int)) (kt : y ≤ x → CW G A d cc own nL Fin cf sf ws cells slots tgt lv st) (kf : ¬ y ≤ x → CW G A d cc own nL Fin cf sf ws cells slots (pc + 3) lv st) : CW G A d cc own nL Fin cf sf ws cells slots pc lv (.int y :: .int x :: st) :=
  fun p e Rm s m args below meth c Q C H locs ls hP hD hS hl => lv_icmp_ge C.1 C.2.1 hd ht (fun q => kt q p e Rm s m args below meth c Q C H locs ls hP hD hS hl) (fun q => kf q p e Rm s m args below meth c Q C H locs ls hP hD hS hl)
theorem b_istore {q : _root_.Fin 4} {x : Int32} {i : Nat} {lv' : List (Nat × Value)} (hd : decode cc pc = .ok (.istore_n q, 1)) (hi : (q : Nat) = i) (hn : i < nL) (hl : (i, Value.int x) :: lv.filter (fun q => !(q.1 == i) && !(q.1 + 1 == i && q.2.category == 2)) = lv') (kk : CW G A d cc own nL Fin cf sf ws cells slots (pc + 1) lv' st) : CW G A d cc own nL Fin cf sf ws cells slots pc lv (.int x :: st) :=
  fun p e Rm s m args below meth c Q C H locs ls hP hD hS h => lv_istore_n C.1 C.2.1 hd hi h hn hl (fun ls' h' => kk p e Rm s m args below meth c Q C H locs ls' hP hD hS h')
theorem b_iinc {i k : Nat} {n : Int} {x v : Int32} {lv' : List (Nat × Value)} (hd : decode cc pc = .ok (.iinc i n, 3)) (hk : lv[k]? = some (i, .int x)) (hv : x + Int32.ofInt n = v) (hn : i < nL) (hl : (i, Value.int v) :: lv.filter (fun q => !(q.1 == i) && !(q.1 + 1 == i && q.2.category == 2)) = lv') (kk : CW G A d cc own nL Fin cf sf ws cells slots (pc + 3) lv' st) : CW G A d cc own nL Fin cf sf ws cells slots pc lv st :=
  fun p e Rm s m args below meth c Q C H locs ls hP hD hS h => lv_iinc C.1 C.2.1 hd h hk hv hn hl (fun ls' h' => kk p e Rm s m args below meth c Q C H locs ls' hP hD hS h')
theorem b_obj {idx a : Nat} (hd : decode cc pc = .ok (.invokespecial idx, 3)) (hl : Cond.methodLink own idx Lib.objectInit ∈ tw) (hsz : (st.map fun v => v.category).sum ≤ 8) (hd1 : 1 ≤ d) (kk : CW G A d cc own nL Fin cf sf ws cells slots (pc + 3) lv st) : CW G A d cc own nL Fin cf sf ws cells slots pc lv (.ref a :: st) := by
  intro p e Rm s m args below meth c Q C H locs ls hP hD hS h
  obtain ⟨hx, hb, hml, hown, hts, hK, hA, hin, ⟨h1, h2, h3, h4⟩, hret⟩ := id C
  refine W.objInit hx hb hown (hts _ hl) (hts _ (tw_mem 83 (by decide +kernel) rfl)) (hts _ (tw_mem 84 (by decide +kernel) rfl)) rfl (by rw [hml]; exact h.1) rfl hd (by omega) ?_ (kk p e Rm s m args below meth c Q C H locs ls hP hD hS h)
  show 2 * 0 + _ + 12 ≤ _
  omega
theorem b_ret (hd : decode cc pc = .ok (.return_, 1)) (hw : Fin ws) (h1 : cells = cf) (h2 : slots = sf) : CW G A d cc own nL Fin cf sf ws cells slots pc lv [] := by
  subst h1; subst h2
  exact fun p e Rm s m args below meth c Q C H locs ls hP hD hS h => C.2.2.2.2.2.2.2.2.2 H locs ls pc ws hw hP hD hS hd
theorem b_new {ci idx : Nat} {fs : List Value} (hd : decode cc pc = .ok (.new idx, 3)) (hc : ci < 10) (hcl : Cond.classLink own idx (Rcl ci) ∈ tw) (hinst : Cond.instantiable (Rcl ci) (nf ci) ∈ tw) (hini : Cond.initialized (Rcl ci) ∈ tw) (hfs : ∀ j, j < nf ci → defaultValue (fty ci j) = vp_V fs j) (h1 : cells + 1 ≤ cf) (h2 : slots + nf ci ≤ sf) (kk : ∀ q : Nat, CW G A d cc own nL Fin cf sf (ws ++ [(q, .inr (ci, fs))]) (cells + 1) (slots + nf ci) (pc + 3) lv (.ref q :: st)) : CW G A d cc own nL Fin cf sf ws cells slots pc lv st := by
  intro p e Rm s m args below meth c Q C H locs ls hP hD hS h
  obtain ⟨hx, hb, hml, hown, hts, hK, hA, hin, ⟨g1, g2, g3, g4⟩, hret⟩ := id C
  exact va_new hx hb hts (cl_tw hc) (fty ci) (cl_ty hc) hown (hts _ hcl) (hts _ hinst) (hts _ hini) hK.1 hP hD hS hA (cl_at hc) hfs (by omega) (by omega) hd (fun q H1 hP1 hD1 hS1 => kk q p e Rm s m args below meth c Q C H1 locs ls hP1 hD1 hS1 h)
theorem tyL_at (t : Nat) (ht : t < 4) : (tyL G)[t]? = some (g_ct G t, [FieldType.int, .boolean, .byte, .long].getD t .int) := by
  rcases (show t = 0 ∨ t = 1 ∨ t = 2 ∨ t = 3 by omega) with rfl | rfl | rfl | rfl <;> rfl
theorem b_newa {atype : ArrayType} {n : Int32} {N' : Nat} {a0 : vp_A} (t : Nat) (hd : decode cc pc = .ok (.newarray atype, 2)) (ht : t < 4) (hty : newarray.typeOf atype = [FieldType.int, .boolean, .byte, .long].getD t .int) (harr : Cond.arrayClass (newarray.typeOf atype) ∈ tw) (ha : ∀ cA : ClassId, vp_cell cA a0 = arrV cA N' (fun _ => defaultValue (newarray.typeOf atype))) (hn : ¬ n < 0) (hN : n.toNatClampNeg = N') (hbytes : N' * componentBytes (newarray.typeOf atype) ≤ 536870912) (h1 : cells + 1 ≤ cf) (h2 : slots + N' ≤ sf)
    (kk : ∀ q : Nat, CW G A d cc own nL Fin cf sf (ws ++ [(q, .inl (g_ct G t, a0))]) (cells + 1) (slots + N') (pc + 2) lv (.ref q :: st)) : CW G A d cc own nL Fin cf sf ws cells slots pc lv (.int n :: st) := by
  intro p e Rm s m args below meth c Q C H locs ls hP hD hS h
  obtain ⟨hx, hb, hml, hown, hts, hK, hA, hin, ⟨g1, g2, g3, g4⟩, hret⟩ := id C
  refine va_newa hx hb (hts _ harr) rfl hK.1 hP hD hS hA ha hn hN hbytes (by omega) (by omega) hd (fun q cA H1 hK1 hP1 hD1 hS1 => ?_)
  have hcA : cA = g_ct G t := by
    have h3 := (hK1.2 t _ (by rw [List.getElem?_append_left (by exact ht)]; exact tyL_at t ht)).2
    have h5 := (hK1.2 4 (cA, newarray.typeOf atype) (by rw [List.getElem?_append_right (by exact Nat.le_refl 4)]; rfl)).2
    rw [← hty] at h3
    cases atype <;> exact Option.some.inj (h5.symm.trans h3)
  subst hcA
  exact kk q p e Rm s m args below meth c Q C H1 locs ls hP1 hD1 hS1 h
theorem b_putF {a ci k index q0 : Nat} {fs : List Value} {v : Value} {ws' : va_W} (hd : decode cc pc = .ok (.putfield index, 3)) (hf : ci < 10 ∧ k < nf ci ∧ Cond.fieldLink own index (Tcl ci k).1 (Tcl ci k).2.1 (Tcl ci k).2.2.1 ∈ tw) (he : ws[q0]? = some (a, .inr (ci, fs))) (hfin : (Tcl ci k).2.2.2 = true) (hdecl : (Tcl ci k).1 = own) (hn : narrow (fty ci k) v = v) (hfit : fits (fty ci k) v = true) (hl : k < fs.length) (hw : ws.set q0 (a, .inr (ci, fs.set k v)) = ws') (kk : CW G A d cc own nL Fin cf sf ws' cells slots (pc + 3) lv st) : CW G A d cc own nL Fin cf sf ws cells slots pc lv (v :: .ref a :: st) := by
  intro p e Rm s m args below meth c Q C H locs ls hP hD hS h
  obtain ⟨hx, hb, hml, hown, hts, hK, hA, hin, hroom, hret⟩ := id C
  obtain ⟨hc, hk, hlk⟩ := hf
  subst hw
  exact va_putF hx hb hts (cl_tw hc) (fty ci) (cl_ty hc) (cl_nm hc) hown hK.1 hP hD hS q0 he (cl_at hc) k hk (hts _ hlk) (fun _ z => z) hfin hin hdecl (cl_ty hc k hk) hn hfit hl hd (fun H1 locs1 hP1 hD1 hS1 => kk p e Rm s m args below meth c Q C H1 locs1 ls hP1 hD1 hS1 h)
theorem b_put {a ci k index q0 : Nat} {fs : List Value} {v : Value} {ws' : va_W} (hd : decode cc pc = .ok (.putfield index, 3)) (hf : ci < 10 ∧ k < nf ci ∧ Cond.fieldLink own index (Tcl ci k).1 (Tcl ci k).2.1 (Tcl ci k).2.2.1 ∈ tw) (he : ws[q0]? = some (a, .inr (ci, fs))) (hfin : (Tcl ci k).2.2.2 = false) (hn : narrow (fty ci k) v = v) (hfit : fits (fty ci k) v = true) (hl : k < fs.length) (hw : ws.set q0 (a, .inr (ci, fs.set k v)) = ws') (kk : CW G A d cc own nL Fin cf sf ws' cells slots (pc + 3) lv st) : CW G A d cc own nL Fin cf sf ws cells slots pc lv (v :: .ref a :: st) := by
  intro p e Rm s m args below meth c Q C H locs ls hP hD hS h
  obtain ⟨hx, hb, hml, hown, hts, hK, hA, hin, hroom, hret⟩ := id C
  obtain ⟨hc, hk, hlk⟩ := hf
  subst hw
  exact va_put hx hb hts (cl_tw hc) (fty ci) (cl_ty hc) (cl_nm hc) hown hK.1 hP hD hS q0 he (cl_at hc) k hk (hts _ hlk) (fun _ z => z) hfin (cl_ty hc k hk) hn hfit hl hd (fun H1 locs1 hP1 hD1 hS1 => kk p e Rm s m args below meth c Q C H1 locs1 ls hP1 hD1 hS1 h)
theorem b_get {a ci k index q0 : Nat} {fs : List Value} {v : Value} (hd : decode cc pc = .ok (.getfield index, 3)) (hf : ci < 10 ∧ k < nf ci ∧ Cond.fieldLink own index (Tcl ci k).1 (Tcl ci k).2.1 (Tcl ci k).2.2.1 ∈ tw) (he : ws[q0]? = some (a, .inr (ci, fs))) (hv : fs[k]? = some v) (kk : CW G A d cc own nL Fin cf sf ws cells slots (pc + 3) lv (v :: st)) : CW G A d cc own nL Fin cf sf ws cells slots pc lv (.ref a :: st) := by
  intro p e Rm s m args below meth c Q C H locs ls hP hD hS h
  obtain ⟨hx, hb, hml, hown, hts, hK, hA, hin, hroom, hret⟩ := id C
  obtain ⟨hc, hk, hlk⟩ := hf
  exact va_get hx hb hts (cl_tw hc) hown hK.1 hP q0 he (cl_at hc) k hk (hts _ hlk) (fun _ z => z) hv hd (kk p e Rm s m args below meth c Q C H locs ls hP hD hS h)
theorem b_alen {a n q0 : Nat} {f : Nat → Int32} (hd : decode cc pc = .ok (.arraylength, 1)) (he : ws[q0]? = some (a, .inl (g_ct G 0, n, .inl f))) (kk : CW G A d cc own nL Fin cf sf ws cells slots (pc + 1) lv (.int (Int32.ofNat n) :: st)) : CW G A d cc own nL Fin cf sf ws cells slots pc lv (.ref a :: st) := by
  intro p e Rm s m args below meth c Q C H locs ls hP hD hS h
  exact va_alen C.1 C.2.1 C.2.2.2.2.2.1.1 hP q0 0 he rfl rfl hd (kk p e Rm s m args below meth c Q C H locs ls hP hD hS h)
theorem b_iast {a n q0 : Nat} {f : Nat → Int32} {i x : Int32} {ws' : va_W} (hd : decode cc pc = .ok (.iastore, 1)) (he : ws[q0]? = some (a, .inl (g_ct G 0, n, .inl f))) (hi : vp_in i n) (hw : ws.set q0 (a, .inl (g_ct G 0, n, .inl (upd f i.toNatClampNeg x))) = ws') (kk : CW G A d cc own nL Fin cf sf ws' cells slots (pc + 1) lv st) : CW G A d cc own nL Fin cf sf ws cells slots pc lv (.int x :: .int i :: .ref a :: st) := by
  intro p e Rm s m args below meth c Q C H locs ls hP hD hS h
  subst hw
  exact va_iast C.1 C.2.1 C.2.2.2.2.2.1.1 hP hD hS q0 0 he rfl hi hd (fun H1 locs1 hP1 hD1 hS1 => kk p e Rm s m args below meth c Q C H1 locs1 ls hP1 hD1 hS1 h)
/-- THE CONTRACT of a constructor: the blank object e0 at h becomes a world with Fin -/
def IM (G : GT) (d : Nat) (y : MethodName) (cy : ByteArray) (nLy : Nat) (h : Nat) (e0 : va_E) (Fin : va_W → Prop) (cf sf : Nat) : Prop :=
  ∀ sz : Nat, Met (g_l G) y (Cond.code y cy nLy none :: tw) { frames := d, cells := cf, slots := sf, locals := 64 * d } (va_Pc [.ref h] (fun U => U.heap.size = sz ∧ va_P (g_D G) classes [(h, e0)] U.heap ∧ K0 G U)) (fun _ st o t => o = .returned none ∧ (∃ w, Fin w ∧ va_P (g_D G) classes w t.heap ∧ va_D (va_A [(h, e0)] sz) w) ∧ va_F (va_A [(h, e0)] sz) st t) cf sf (va_A [(h, e0)] sz)
theorem IM.of {y : MethodName} {h : Nat} {e0 : va_E} (hy : plainName y.cls = true) (ho : y.cls = own) (hyn : y.name = "<init>") (hn : 1 ≤ nL) (k : ∀ A : Nat → Prop, CW G A d cc own nL Fin cf sf [(h, e0)] 0 0 0 [(0, .ref h)] []) : IM G d y cc nL h e0 Fin cf sf := by
  intro sz
  refine Met.ofW (cc := cc) (maxL := nL) (ret := none) hy rfl ?_
  intro p e s m args below meth c s₁ B hml hv
  obtain ⟨rfl, hsz, hP, hK⟩ := hv
  subst hsz
  have hts := atoms_spec (ws := Cond.code y cc nL none :: tw) B.pre
  have hl2 := lv_entry [Value.ref h] (n := nL) hn
  have hD : va_D (va_A [(h, e0)] s.heap.size) [(h, e0)] := by
    refine ⟨fun i j x y hi hj _ => ?_, fun k q hk => va_A.in hk⟩
    have h1 := (List.getElem?_eq_some_iff.mp hi).1
    have h2 := (List.getElem?_eq_some_iff.mp hj).1
    simp at h1 h2
    omega
  rw [lg_entry_eq]
  refine k (va_A [(h, e0)] s.heap.size) p e _ s m _ below meth c _ ⟨B.exec, B.bytes, hml, by rw [← ho]; exact findClass_of_methodNamed B.named, fun w hw => hts w (List.mem_cons_of_mem _ hw), hK, fun q hq => Or.inr hq, by rw [← hyn]; exact (name_of_methodNamed B.named B.method).1, ⟨Nat.le_refl _, Nat.le_refl _, Nat.le_refl _, Nat.le_refl _⟩, ?_⟩ s.heap [] _ hP hD va_S.rf hl2
  intro H locs ls pc w hw hP1 hD1 hS hd
  have hlocks := B.notSynchronized
  exact W.vret B.exec B.bytes B.returns (fun t ht _ => ⟨rfl, ⟨w, hw, by rw [ht]; exact hP1, hD1⟩, hS.F ht⟩) hS.2.2 hd
def LkI (own : String) (index : Nat) (y : MethodName) (cy : ByteArray) (nLy : Nat) : Prop :=
  (Cond.methodLink own index y ∈ tw ∨ ∃ host, Cond.methodLinkNest own index y host ∈ ntw) ∧ nLy ≤ 45 ∧ y.name = "<init>" ∧ Cond.instanceMethod y ∈ tw ∧ Cond.initialized y.cls ∈ tw ∧ Cond.code y cy nLy none ∈ tw ∧ y.cls ≠ "java/lang/invoke/MethodHandle" ∧ y.cls ≠ "java/lang/invoke/VarHandle" ∧ (parseMethodDescriptor y.desc).map (fun d => d.parameters.length) = some 0
theorem b_join {wr wf : va_W} {h z : Nat} {e0 : va_E} {H H1 : Heap} (hz : H.size = z) (hP : va_P (g_D G) classes (wr ++ [(h, e0)]) H) (hD : va_D A (wr ++ [(h, e0)])) (hk : ∀ q : Nat, q < H.size → ¬ va_A [(h, e0)] z q → H1[q]? = H[q]?) (hF : ∀ q, va_A [(h, e0)] z q → A q) (hP1 : va_P (g_D G) classes wf H1) (hD1 : va_D (va_A [(h, e0)] z) wf) : va_P (g_D G) classes (wr ++ wf) H1 ∧ va_D A (wr ++ wf) := by
  subst hz
  refine va_join hP hD [wr.length] (List.range wr.length) (by simp) ?_ ?_ ?_ hk hF hP1 hD1
  · apply List.ext_getElem?
    intro i
    rw [List.getElem?_map, List.getElem?_map]
    rcases Nat.lt_or_ge i wr.length with q | q
    · rw [List.getElem?_range q, Option.map_some, List.getElem?_append_left q, List.getElem?_eq_getElem q]; rfl
    · rw [List.getElem?_eq_none (by simpa using q), List.getElem?_eq_none q]; rfl
  · exact nd_range _
  · intro i hi
    have := List.mem_range.mp hi
    simp
    omega
theorem b_call {h idx d' nLy cf' sf' : Nat} {e0 : va_E} {y : MethodName} {cy : ByteArray} {Fin' : va_W → Prop} {wr : va_W} (hd : decode cc pc = .ok (.invokespecial idx, 3)) (hk : LkI own idx y cy nLy) (hM : IM G d' y cy nLy h e0 Fin' cf' sf') (hw : ws = wr ++ [(h, e0)]) (hdd : d' < d) (h1 : cells + cf' ≤ cf) (h2 : slots + sf' ≤ sf) (hsz : (st.map fun v => v.category).sum ≤ 8) (kk : ∀ w, Fin' w → CW G A d cc own nL Fin cf sf (wr ++ w) (cells + cf') (slots + sf') (pc + 3) lv st) : CW G A d cc own nL Fin cf sf ws cells slots pc lv (.ref h :: st) := by
  intro p e Rm s m args below meth c Q C H locs ls hP hD hS hlv
  obtain ⟨hx, hb, hml, hown, hts, hK, hA, hin, ⟨g1, g2, g3, g4⟩, hret⟩ := id C
  obtain ⟨k1, hnL, hyn, k2, k4, k5, k6, k7, k8⟩ := hk
  subst hw
  have hPc : va_P (g_D G) classes [(h, e0)] H := hP.sub [wr.length] (by simp)
  have hFc := va_free (wc := [(h, e0)]) hD hS hA [wr.length] (by simp)
  have hp : PreS s H (va_Pc [.ref h] (fun U => U.heap.size = H.size ∧ va_P (g_D G) classes [(h, e0)] U.heap ∧ K0 G U)) (.ref h :: []) := ⟨fun a U g mk q => ⟨q.1, q.2.1, q.2.2.1, K0.same q.2.2.2 rfl⟩, fun U hU hW => ⟨rfl, by rw [hU], by rw [hU]; exact hPc, K0.go hK hW⟩⟩
  have hcs : 2 * (F0 m pc ls (.ref h :: st)).monitorRoom + (st.map fun v => v.category).sum ≤ 8 := lv_room hsz
  have hr : va_Run p (g_l G) e Rm s m args below meth c H locs cells slots cf' sf' (F0 m pc ls (.ref h :: st)) st ((fun _ st o t => o = .returned none ∧ (∃ w, Fin' w ∧ va_P (g_D G) classes w t.heap ∧ va_D (va_A [(h, e0)] H.size) w) ∧ va_F (va_A [(h, e0)] H.size) st t) (Value.ref h :: []).toArray) (va_A [(h, e0)] H.size) := by
    rcases k1 with k1 | ⟨host, k1⟩
    · exact va_runI (As := []) ⟨hx, hb, hml, hown, hts⟩ (hM H.size) ⟨callB_of 0 hts (good_ct k5) rfl rfl rfl (hts _ k4) (hts _ k1) ⟨k6, k7, k8⟩ ⟨by show d' + 1 ≤ _; omega, by show 8 + (nLy + 11) + 64 * d' ≤ _; omega⟩, hyn, hts _ k2⟩ hp rfl rfl hlv.1 rfl hcs hd ⟨by omega, by omega⟩
    · exact va_runIN (As := []) (host := host) ⟨hx, hb, hml, hown, hts⟩ (hM H.size) ⟨va_cnB 0 hts (good_ct k5) rfl rfl rfl (hK.2 _ k1) (hts _ k4) ⟨k6, k7, k8⟩ ⟨by show d' + 1 ≤ _; omega, by show 8 + (nLy + 11) + 64 * d' ≤ _; omega⟩, hyn, hts _ k2⟩ hp rfl rfl hlv.1 rfl hcs hd ⟨by omega, by omega⟩
  intro T hT X
  obtain ⟨v, st₀, t, T', L, h0, X', hL', e1, e2, ⟨hv, ⟨w, hw, hP1, hD1⟩, hz, hk⟩, st'⟩ := hr T hT X
  cases hv
  rw [h0] at hz hk
  have hS' : va_S A s.heap T'.heap (locs ++ L) := ⟨Nat.le_trans hS.1 (by rw [e1]; exact hz), fun q h1 h2 => by rw [e1, hk q (Nat.lt_of_lt_of_le h1 hS.1) (fun z => h2 (hFc q z))]; exact hS.2.1 q h1 h2, fun q hq => by
      rcases List.mem_append.mp hq with h | h
      · exact hS.2.2 q h
      · exact hFc _ (hL' q h)⟩
  obtain ⟨hP2, hD2⟩ := b_join (A := A) rfl hP hD (fun q q1 q2 => by rw [← h0] at q1; exact hk q (by rw [← h0]; exact q1) q2) hFc hP1 hD1
  obtain ⟨t2, a1, b1⟩ := kk w hw p e Rm s m args below meth c Q C T'.heap (locs ++ L) ls (by rw [e1]; exact hP2) hD2 hS' hlv T' rfl X'
  exact ⟨t2, st' t2 a1, b1⟩
end CWR
