/-! THE VIRTUAL WORLD: 64 cells at places 0 .. 63, their shapes fixed; a memory says what ints and longs they hold -/
abbrev Mm : Type := (Nat → Nat → Int32) × (Nat → Nat → Int64)
abbrev GT : Type := Launch × Nat × (Nat → Nat) × va_G × (Nat → ClassId) × Nat × (Nat → Int32)
def g_l (G : GT) : Launch := G.1
def g_b (G : GT) : Nat := G.2.1
def g_ad (G : GT) : Nat → Nat := G.2.2.1
def g_D (G : GT) : va_G := G.2.2.2.1
def g_ct (G : GT) : Nat → ClassId := G.2.2.2.2.1
def g_n (G : GT) : Nat := G.2.2.2.2.2.1
def g_xs (G : GT) : Nat → Int32 := G.2.2.2.2.2.2
def g_A (G : GT) : Nat → Prop := fun q => g_b G ≤ q
def tv (G : GT) (v : Value) : Value := match v with
  | .ref a => .ref (g_ad G a)
  | .int x => .int x
  | .long x => .long x
  | w => w
def tyL (G : GT) : List (ClassId × FieldType) := [(g_ct G 0, .int), (g_ct G 1, .boolean), (g_ct G 2, .byte), (g_ct G 3, .long)]
def shL : List (Nat × Nat) := [(8, 0), (5, 0), (10, 8), (10, 8), (10, 8), (10, 8), (5, 0), (10, 8), (10, 8), (10, 8), (10, 8), (4, 0), (12, 400), (5, 0), (10, 8), (10, 8), (10, 8), (10, 8), (2, 0), (13, 256), (3, 0), (10, 6), (10, 7), (10, 6), (7, 0), (10, 8), (10, 8), (10, 8), (10, 8), (10, 8), (6, 0), (10, 25), (10, 6), (0, 0), (10, 30), (10, 30), (11, 30), (1, 0), (5, 0), (10, 8), (10, 8), (10, 8), (10, 8), (1, 0), (5, 0), (10, 8), (10, 8), (10, 8), (10, 8), (9, 0), (10, 8), (10, 8), (10, 400), (10, 8), (10, 9), (10, 8), (10, 8), (10, 8), (10, 8), (10, 30), (10, 30), (11, 30), (10, 40), (11, 2)]
def sh (k : Nat) : Nat × Nat := shL.getD k (99, 0)
def rfL : List (List Nat) := [[1, 6, 11, 18, 20, 24, 30, 33, 37, 43, 0], [0, 0, 0, 2, 3, 4, 5], [], [], [], [], [0, 0, 0, 7, 8, 9, 10], [], [], [], [], [12, 13, 0, 0, 0, 0, 0], [], [0, 0, 0, 14, 15, 16, 17], [], [], [], [], [19, 0, 0, 0, 0], [], [21, 22, 23, 0, 0, 0, 0, 0, 0, 0, 0, 0, 0, 0, 0, 0, 0], [], [], [], [25, 26, 27, 28, 29, 0, 0], [], [], [], [], [], [31, 32], [], [], [34, 35, 36, 0], [], [], [], [38, 0, 0], [0, 0, 0, 39, 40, 41, 42], [], [], [], [], [44, 0, 0], [0, 0, 0, 45, 46, 47, 48], [], [], [], [], [0, 0, 0, 0, 0, 0, 50, 0, 51, 52, 0, 0, 0, 0, 0, 0, 0, 0, 0, 0, 0, 0, 0, 53, 54, 55, 0, 0, 0, 0, 56, 57, 58, 0, 59, 60, 61, 62, 63], [], [], [], [], [], [], [], [], [], [], [], [], [], []]
def rf (a j : Nat) : Nat := (rfL.getD a []).getD j 0
def NC : Nat := 64

def kix (i : Nat) : Nat := [108, 114, 116, 118, 120].getD i 0
def ktx (i : Nat) : String := ["people", "friends", "barred", "must", "cost"].getD i ""
def klen : List Nat := [6, 7, 6, 4, 4]
def kbyt : List (List Int32) := [[112, 101, 111, 112, 108, 101], [102, 114, 105, 101, 110, 100, 115], [98, 97, 114, 114, 101, 100], [109, 117, 115, 116], [99, 111, 115, 116]]
def fv (G : GT) (M : Mm) (a c j : Nat) : Value := match fty c j with
  | .long => .long (M.2 a j)
  | .array _ => .ref (g_ad G (rf a j))
  | .object _ => .ref (g_ad G (rf a j))
  | _ => .int (M.1 a j)
def ent (G : GT) (M : Mm) (k : Nat) : va_E := if (sh k).1 < 10 then .inr ((sh k).1, (List.range (nf (sh k).1)).map (fv G M k (sh k).1)) else .inl (g_ct G ((sh k).1 - 10), ((sh k).2, if (sh k).1 = 13 then .inr (.inl (M.2 k)) else .inl (M.1 k)))
def wsOf (G : GT) (M : Mm) : va_W := (List.range NC).map (fun k => (g_ad G k, ent G M k))
def GOK (G : GT) : Prop := (∀ i j, i < NC → j < NC → g_ad G i = g_ad G j → i = j) ∧ ∀ i, i < NC → g_A G (g_ad G i)
def nestW : Cond → Bool
  | .fieldLinkNest .. => true
  | .methodLinkNest .. => true
  | _ => false
def ntw : List Cond := lw_tbl.filter nestW
def tw : List Cond := lw_tbl.filter goodWord
def KK (G : GT) (U : State) : Prop :=
  va_K (g_D G) classes (tyL G) U ∧ GOK G ∧ (∀ i, i < 5 → vk_R R_Te (kix i) (ktx i) (g_ad G (100 + i)) U) ∧ vk_S 5 klen kbyt (fun i => g_ad G (100 + i)) (fun i => g_ad G (110 + i)) (g_A G) U U.heap ∧ va_Z "java/lang/String" "COMPACT_STRINGS" "Z" (.int 1) (g_A G) U U.heap ∧ va_X (g_ad G 200) (g_n G) (g_xs G) U U.heap ∧ g_ad G 200 < U.heap.size ∧ ¬ g_A G (g_ad G 200) ∧ (∀ w ∈ ntw, va_Nw w U) ∧ (va_Z "jdk/internal/util/Preconditions" "SIOOBE_FORMATTER" "Ljava/util/function/BiFunction;" .null (g_A G) U U.heap ∨ va_Z "jdk/internal/util/Preconditions" "SIOOBE_FORMATTER" "Ljava/util/function/BiFunction;" (.ref (g_ad G 300)) (g_A G) U U.heap)
theorem nest_warm {w : Cond} (hn : nestW w = true) {s U : State} (hW : s.WarmedH U.vm) (h : va_Nw w s) : va_Nw w U := by
  cases w <;> first | (cases hn; done) | exact va_Nw.warmF hW h | exact va_Nw.warmM hW h
theorem nest_same {w : Cond} (hn : nestW w = true) {s U : State} (hv : U.vm = s.vm) (h : va_Nw w s) : va_Nw w U := by
  cases w <;> first | (cases hn; done) | exact va_Nw.same rfl hv.symm h
theorem KK.go {G : GT} {s U : State} {locs : List Loc} (h : KK G s) (hW : s.WarmedH U.vm) (hS : va_S (g_A G) s.heap U.heap locs) : KK G U := by
  obtain ⟨h1, h2, h3, h4, h5, h6, h7, h8, h9, h10⟩ := h
  exact ⟨va_K.moved hW.alike h1, h2, fun i hi => (h3 i hi).warm hW, (h4.moved hW.alike).kept hS.2.1, (h5.moved hW.alike).kept hS.2.1, (h6.moved hW.alike).kept (hS.2.1 _ h7 h8), Nat.lt_of_lt_of_le h7 hS.1, h8, fun w hw => nest_warm (List.mem_filter.mp hw).2 hW (h9 w hw), h10.imp (fun h => (h.moved hW.alike).kept hS.2.1) (fun h => (h.moved hW.alike).kept hS.2.1)⟩
theorem KK.same {G : GT} {s U : State} (h : KK G s) (hv : U.vm = s.vm) (hh : U.heap = s.heap) : KK G U := by
  obtain ⟨h1, h2, h3, h4, h5, h6, h7, h8, h9, h10⟩ := h
  have ha : s.vm.Alike U.vm := by rw [hv]; exact Vm.Alike.refl _
  exact ⟨va_K.moved ha h1, h2, fun i hi => (h3 i hi).same hv, by rw [hh]; exact h4.moved ha, by rw [hh]; exact h5.moved ha, by rw [hh]; exact h6.moved ha, by rw [hh]; exact h7, h8, fun w hw => nest_same (List.mem_filter.mp hw).2 hv (h9 w hw), by rw [hh]; exact h10.imp (fun h => h.moved ha) (fun h => h.moved ha)⟩
theorem tv_cat (G : GT) (v : Value) : (tv G v).category = v.category := by cases v <;> rfl
/-! locals, by their places -/
def lvl (G : GT) : Nat → List (Option Value) → List (Nat × Value)
  | _, [] => []
  | i, none :: r => lvl G (i + 1) r
  | i, some v :: r => (i, tv G v) :: lvl G (i + 1) r
theorem lvl_mem {G : GT} {q : Nat × Value} : ∀ {i : Nat} {lv : List (Option Value)}, q ∈ lvl G i lv ↔ ∃ (j : Nat) (v : Value), lv[j]? = some (some v) ∧ q = (i + j, tv G v)
  | i, [] => by simp [lvl]
  | i, none :: r => by
    rw [lvl, lvl_mem (i := i + 1) (lv := r)]
    constructor
    · rintro ⟨j, v, h, rfl⟩
      exact ⟨j + 1, v, h, by rw [Nat.add_assoc, Nat.add_comm 1 j]⟩
    · rintro ⟨j, v, h, rfl⟩
      cases j with
      | zero => simp at h
      | succ j => exact ⟨j, v, h, by rw [Nat.add_assoc, Nat.add_comm 1 j]⟩
  | i, some w :: r => by
    rw [lvl, List.mem_cons, lvl_mem (i := i + 1) (lv := r)]
    constructor
    · rintro (rfl | ⟨j, v, h, rfl⟩)
      · exact ⟨0, w, rfl, rfl⟩
      · exact ⟨j + 1, v, h, by rw [Nat.add_assoc, Nat.add_comm 1 j]⟩
    · rintro ⟨j, v, h, rfl⟩
      cases j with
      | zero => simp at h; subst h; exact Or.inl rfl
      | succ j => exact Or.inr ⟨j, v, h, by rw [Nat.add_assoc, Nat.add_comm 1 j]⟩
def LV (G : GT) (ls : Array Slot) (nL : Nat) (lv : List (Option Value)) : Prop := lv_has ls nL (lvl G 0 lv)
theorem LV.at {G : GT} {ls : Array Slot} {nL : Nat} {lv : List (Option Value)} (h : LV G ls nL lv) {i : Nat} {v : Value} (hi : lv[i]? = some (some v)) : ls[i]? = some (.val (tv G v)) :=
  h.2.2 (i, tv G v) (lvl_mem.mpr ⟨i, v, hi, by rw [Nat.zero_add]⟩)
def isc2 : Option Value → Bool
  | some v => v.category == 2
  | none => false
def clr (lv : List (Option Value)) (i : Nat) : List (Option Value) := match i with
  | 0 => lv
  | j + 1 => if isc2 (lv.getD j none) = true then lv.set j none else lv
def st1 (lv : List (Option Value)) (i : Nat) (v : Value) : List (Option Value) := (clr lv i).set i (some v)
def st2 (lv : List (Option Value)) (i : Nat) (v : Value) : List (Option Value) := ((clr lv i).set (i + 1) none).set i (some v)
theorem clr_get {lv : List (Option Value)} {i j : Nat} {v : Value} (h : (clr lv i)[j]? = some (some v)) : lv[j]? = some (some v) ∧ ¬ (j + 1 = i ∧ v.category = 2) := by
  cases i with
  | zero => exact ⟨h, by omega⟩
  | succ i =>
    by_cases hc : isc2 (lv.getD i none) = true
    · rw [show clr lv (i + 1) = lv.set i none from if_pos hc] at h
      by_cases hj : j = i
      · subst hj
        rw [List.getElem?_set] at h
        split at h
        · split at h <;> simp at h
        · omega
      · rw [List.getElem?_set_ne (Ne.symm hj)] at h
        exact ⟨h, by omega⟩
    · rw [show clr lv (i + 1) = lv from if_neg hc] at h
      refine ⟨h, fun ⟨h1, h2⟩ => hc ?_⟩
      have : j = i := by omega
      subst this
      simp [List.getD, h, isc2, h2]
theorem LV.sto1 {G : GT} {ls : Array Slot} {nL : Nat} {lv : List (Option Value)} {i : Nat} {v : Value} (h : lv_has ls nL ((i, tv G v) :: (lvl G 0 lv).filter (fun q => !(q.1 == i) && !(q.1 + 1 == i && q.2.category == 2)))) : LV G ls nL (st1 lv i v) := by
  refine ⟨h.1, h.2.1, fun q hq => h.2.2 q ?_⟩
  obtain ⟨j, w, hj, rfl⟩ := lvl_mem.mp hq
  rw [Nat.zero_add]
  unfold st1 at hj
  by_cases hji : j = i
  · subst hji
    rw [List.getElem?_set] at hj
    split at hj
    · split at hj
      · simp at hj; subst hj; exact List.mem_cons_self
      · simp at hj
    · omega
  · rw [List.getElem?_set_ne (Ne.symm hji)] at hj
    obtain ⟨h1, h2⟩ := clr_get hj
    refine List.mem_cons_of_mem _ (List.mem_filter.mpr ⟨lvl_mem.mpr ⟨j, w, h1, by rw [Nat.zero_add]⟩, ?_⟩)
    simp only [Bool.and_eq_true, Bool.not_eq_true', beq_eq_false_iff_ne, Bool.and_eq_false_iff, ne_eq, tv_cat]
    refine ⟨hji, ?_⟩
    by_cases e : j + 1 = i
    · exact Or.inr (fun z => h2 ⟨e, z⟩)
    · exact Or.inl e
theorem LV.sto2 {G : GT} {ls : Array Slot} {nL : Nat} {lv : List (Option Value)} {i : Nat} {v : Value} (h : lv_has ls nL ((i, tv G v) :: (lvl G 0 lv).filter (fun q => !(q.1 == i) && (!(q.1 == i + 1) && !(q.1 + 1 == i && q.2.category == 2))))) : LV G ls nL (st2 lv i v) := by
  refine ⟨h.1, h.2.1, fun q hq => h.2.2 q ?_⟩
  obtain ⟨j, w, hj, rfl⟩ := lvl_mem.mp hq
  rw [Nat.zero_add]
  unfold st2 at hj
  by_cases hji : j = i
  · subst hji
    rw [List.getElem?_set] at hj
    split at hj
    · split at hj
      · simp at hj; subst hj; exact List.mem_cons_self
      · simp at hj
    · omega
  · rw [List.getElem?_set_ne (Ne.symm hji)] at hj
    by_cases hji2 : j = i + 1
    · subst hji2
      rw [List.getElem?_set] at hj
      split at hj
      · split at hj <;> simp at hj
      · omega
    · rw [List.getElem?_set_ne (Ne.symm hji2)] at hj
      obtain ⟨h1, h2⟩ := clr_get hj
      refine List.mem_cons_of_mem _ (List.mem_filter.mpr ⟨lvl_mem.mpr ⟨j, w, h1, by rw [Nat.zero_add]⟩, ?_⟩)
      simp only [Bool.and_eq_true, Bool.not_eq_true', beq_eq_false_iff_ne, Bool.and_eq_false_iff, ne_eq, tv_cat]
      refine ⟨hji, hji2, ?_⟩
      by_cases e : j + 1 = i
      · exact Or.inr (fun z => h2 ⟨e, z⟩)
      · exact Or.inl e
/-! the judgement over the virtual world: from here the method comes to its end with the answer and the memory R -/
theorem ntw_mem {w : Cond} (i : Nat) (h : lw_tbl[i]? = some w) (g : nestW w = true) : w ∈ ntw := List.mem_filter.mpr ⟨List.mem_of_getElem? h, g⟩
theorem tw_mem {w : Cond} (i : Nat) (h : lw_tbl[i]? = some w) (g : goodWord w = true) : w ∈ tw := List.mem_filter.mpr ⟨List.mem_of_getElem? h, g⟩
theorem tw_good : GoodIn tw tw := fun w h => ⟨h, good_of_word (List.mem_filter.mp h).2⟩
def RetI (ret : Option FieldType) (i : Instr) (v : Option Value) : Prop :=
  (i = .ireturn ∧ ∃ (x : Int32) (ty : FieldType), v = some (.int x) ∧ ret = some ty ∧ narrow ty (.int x) = .int x) ∨ (i = .lreturn ∧ ∃ x : Int64, v = some (.long x) ∧ ret = some .long) ∨ (i = .return_ ∧ v = none ∧ ret = none) ∨ (i = .areturn ∧ ∃ (a : Nat) (n : String), v = some (.ref a) ∧ ret = some (.object n))
def Cx (G : GT) (d : Nat) (cc : ByteArray) (own : String) (nL : Nat) (ret : Option FieldType) (R : Option Value × Mm) (p : Program) (e : Env) (Rm : Room) (s : State) (m : MethodId) (args : Array Value) (below : List Frame) (meth : Method) (c : Code) (cells slots : Nat) (Q : State → Prop) : Prop :=
  p.tables.exec = Jvm.exec ∧ c.code = cc ∧ c.maxLocals = nL ∧ s.vm.findClass own = some m.cls ∧ (∀ w ∈ tw, w.before args s = true) ∧ KK G s ∧ (d ≤ Rm.frames ∧ 64 * d ≤ Rm.locals ∧ cells ≤ Rm.cells ∧ slots ≤ Rm.slots) ∧
  ∀ (H : Heap) (locs : List Loc) (ls : Array Slot) (pc : Nat) (i : Instr), va_P (g_D G) classes (wsOf G R.2) H → va_S (g_A G) s.heap H locs → RetI ret i R.1 → decode cc pc = .ok (i, 1) → W p (g_l G) e Rm s m args below meth c H locs cells slots Q (F0 m pc ls (R.1.toList.map (tv G)))
def SW (G : GT) (d : Nat) (cc : ByteArray) (own : String) (nL : Nat) (ret : Option FieldType) (R : Option Value × Mm) (M : Mm) (pc : Nat) (lv : List (Option Value)) (st : List Value) : Prop :=
  ∀ (p : Program) (e : Env) (Rm : Room) (s : State) (m : MethodId) (args : Array Value) (below : List Frame) (meth : Method) (c : Code) (cells slots : Nat) (Q : State → Prop), Cx G d cc own nL ret R p e Rm s m args below meth c cells slots Q →
    ∀ (H : Heap) (locs : List Loc) (ls : Array Slot), va_P (g_D G) classes (wsOf G M) H → va_S (g_A G) s.heap H locs → LV G ls nL lv → W p (g_l G) e Rm s m args below meth c H locs cells slots Q (F0 m pc ls (st.map (tv G)))
section SWR
variable {G : GT} {d : Nat} {cc : ByteArray} {own : String} {nL : Nat} {ret : Option FieldType} {R : Option Value × Mm} {M : Mm} {pc : Nat} {lv : List (Option Value)} {st : List Value}
theorem SW.lift {pc' : Nat} {st' : List Value} (f : ∀ (p : Program) (e : Env) (Rm : Room) (s : State) (m : MethodId) (args : Array Value) (below : List Frame) (meth : Method) (c : Code) (cells slots : Nat) (Q : State → Prop) (H : Heap) (locs : List Loc) (ls : Array Slot), p.tables.exec = Jvm.exec → c.code = cc → W p (g_l G) e Rm s m args below meth c H locs cells slots Q (F0 m pc' ls (st'.map (tv G))) → W p (g_l G) e Rm s m args below meth c H locs cells slots Q (F0 m pc ls (st.map (tv G)))) (k : SW G d cc own nL ret R M pc' lv st') : SW G d cc own nL ret R M pc lv st :=
  fun p e Rm s m args below meth c cells slots Q C H locs ls hP hS hL => f p e Rm s m args below meth c cells slots Q H locs ls C.1 C.2.1 (k p e Rm s m args below meth c cells slots Q C H locs ls hP hS hL)

theorem r_iadd {x y : Int32} (hd : decode cc pc = .ok (.iadd, 1))  (k : SW G d cc own nL ret R M (pc + 1) lv (.int (x + y) :: st)) : SW G d cc own nL ret R M pc lv (.int y :: .int x :: st) := SW.lift (fun _ _ _ _ _ _ _ _ _ _ _ _ _ _ _ hx hb w => lv_iadd hx hb hd w) k
theorem r_isub {x y : Int32} (hd : decode cc pc = .ok (.isub, 1))  (k : SW G d cc own nL ret R M (pc + 1) lv (.int (x - y) :: st)) : SW G d cc own nL ret R M pc lv (.int y :: .int x :: st) := SW.lift (fun _ _ _ _ _ _ _ _ _ _ _ _ _ _ _ hx hb w => lv_isub hx hb hd w) k
theorem r_imul {x y : Int32} (hd : decode cc pc = .ok (.imul, 1))  (k : SW G d cc own nL ret R M (pc + 1) lv (.int (x * y) :: st)) : SW G d cc own nL ret R M pc lv (.int y :: .int x :: st) := SW.lift (fun _ _ _ _ _ _ _ _ _ _ _ _ _ _ _ hx hb w => lv_imul hx hb hd w) k
theorem r_iand {x y : Int32} (hd : decode cc pc = .ok (.iand, 1))  (k : SW G d cc own nL ret R M (pc + 1) lv (.int (x &&& y) :: st)) : SW G d cc own nL ret R M pc lv (.int y :: .int x :: st) := SW.lift (fun _ _ _ _ _ _ _ _ _ _ _ _ _ _ _ hx hb w => lv_iand hx hb hd w) k
theorem r_ior {x y : Int32} (hd : decode cc pc = .ok (.ior, 1))  (k : SW G d cc own nL ret R M (pc + 1) lv (.int (x ||| y) :: st)) : SW G d cc own nL ret R M pc lv (.int y :: .int x :: st) := SW.lift (fun _ _ _ _ _ _ _ _ _ _ _ _ _ _ _ hx hb w => lv_ior hx hb hd w) k
theorem r_ixor {x y : Int32} (hd : decode cc pc = .ok (.ixor, 1))  (k : SW G d cc own nL ret R M (pc + 1) lv (.int (x ^^^ y) :: st)) : SW G d cc own nL ret R M pc lv (.int y :: .int x :: st) := SW.lift (fun _ _ _ _ _ _ _ _ _ _ _ _ _ _ _ hx hb w => lv_ixor hx hb hd w) k
theorem r_ishl {x y : Int32} (hd : decode cc pc = .ok (.ishl, 1))  (k : SW G d cc own nL ret R M (pc + 1) lv (.int (x <<< (y &&& 31)) :: st)) : SW G d cc own nL ret R M pc lv (.int y :: .int x :: st) := SW.lift (fun _ _ _ _ _ _ _ _ _ _ _ _ _ _ _ hx hb w => lv_ishl hx hb hd w) k
theorem r_ishr {x y : Int32} (hd : decode cc pc = .ok (.ishr, 1))  (k : SW G d cc own nL ret R M (pc + 1) lv (.int (x >>> (y &&& 31)) :: st)) : SW G d cc own nL ret R M pc lv (.int y :: .int x :: st) := SW.lift (fun _ _ _ _ _ _ _ _ _ _ _ _ _ _ _ hx hb w => lv_ishr hx hb hd w) k
theorem r_idiv {x y : Int32} (hd : decode cc pc = .ok (.idiv, 1)) (hne : ¬ y = 0) (k : SW G d cc own nL ret R M (pc + 1) lv (.int (x / y) :: st)) : SW G d cc own nL ret R M pc lv (.int y :: .int x :: st) := SW.lift (fun _ _ _ _ _ _ _ _ _ _ _ _ _ _ _ hx hb w => lv_idiv hx hb hd hne w) k
theorem r_irem {x y : Int32} (hd : decode cc pc = .ok (.irem, 1)) (hne : ¬ y = 0) (k : SW G d cc own nL ret R M (pc + 1) lv (.int (x - x / y * y) :: st)) : SW G d cc own nL ret R M pc lv (.int y :: .int x :: st) := SW.lift (fun _ _ _ _ _ _ _ _ _ _ _ _ _ _ _ hx hb w => lv_irem hx hb hd hne w) k
theorem r_ladd {x y : Int64} (hd : decode cc pc = .ok (.ladd, 1))  (k : SW G d cc own nL ret R M (pc + 1) lv (.long (x + y) :: st)) : SW G d cc own nL ret R M pc lv (.long y :: .long x :: st) := SW.lift (fun _ _ _ _ _ _ _ _ _ _ _ _ _ _ _ hx hb w => lv_ladd hx hb hd w) k
theorem r_lsub {x y : Int64} (hd : decode cc pc = .ok (.lsub, 1))  (k : SW G d cc own nL ret R M (pc + 1) lv (.long (x - y) :: st)) : SW G d cc own nL ret R M pc lv (.long y :: .long x :: st) := SW.lift (fun _ _ _ _ _ _ _ _ _ _ _ _ _ _ _ hx hb w => lv_lsub hx hb hd w) k
theorem r_lmul {x y : Int64} (hd : decode cc pc = .ok (.lmul, 1))  (k : SW G d cc own nL ret R M (pc + 1) lv (.long (x * y) :: st)) : SW G d cc own nL ret R M pc lv (.long y :: .long x :: st) := SW.lift (fun _ _ _ _ _ _ _ _ _ _ _ _ _ _ _ hx hb w => lv_lmul hx hb hd w) k
theorem r_land {x y : Int64} (hd : decode cc pc = .ok (.land, 1))  (k : SW G d cc own nL ret R M (pc + 1) lv (.long (x &&& y) :: st)) : SW G d cc own nL ret R M pc lv (.long y :: .long x :: st) := SW.lift (fun _ _ _ _ _ _ _ _ _ _ _ _ _ _ _ hx hb w => lv_land hx hb hd w) k
theorem r_lor {x y : Int64} (hd : decode cc pc = .ok (.lor, 1))  (k : SW G d cc own nL ret R M (pc + 1) lv (.long (x ||| y) :: st)) : SW G d cc own nL ret R M pc lv (.long y :: .long x :: st) := SW.lift (fun _ _ _ _ _ _ _ _ _ _ _ _ _ _ _ hx hb w => lv_lor hx hb hd w) k
theorem r_lrem {x y : Int64} (hd : decode cc pc = .ok (.lrem, 1)) (hne : ¬ y = 0) (k : SW G d cc own nL ret R M (pc + 1) lv (.long (x - x / y * y) :: st)) : SW G d cc own nL ret R M pc lv (.long y :: .long x :: st) := SW.lift (fun _ _ _ _ _ _ _ _ _ _ _ _ _ _ _ hx hb w => lv_lrem hx hb hd hne w) k
theorem r_iushr {x y : Int32} (hd : decode cc pc = .ok (.iushr, 1))  (k : SW G d cc own nL ret R M (pc + 1) lv (.int ((x.toUInt32 >>> (y.toUInt32 &&& Int32.toUInt32 31)).toInt32) :: st)) : SW G d cc own nL ret R M pc lv (.int y :: .int x :: st) := SW.lift (fun _ _ _ _ _ _ _ _ _ _ _ _ _ _ _ hx hb w => lv_iushr hx hb hd rfl w) k
theorem r_lshl {x : Int64} {y : Int32} (hd : decode cc pc = .ok (.lshl, 1))  (k : SW G d cc own nL ret R M (pc + 1) lv (.long (x <<< (y.toInt64 &&& 63)) :: st)) : SW G d cc own nL ret R M pc lv (.int y :: .long x :: st) := SW.lift (fun _ _ _ _ _ _ _ _ _ _ _ _ _ _ _ hx hb w => lv_lshl hx hb hd rfl w) k
theorem r_lshr {x : Int64} {y : Int32} (hd : decode cc pc = .ok (.lshr, 1))  (k : SW G d cc own nL ret R M (pc + 1) lv (.long (x >>> (y.toInt64 &&& 63)) :: st)) : SW G d cc own nL ret R M pc lv (.int y :: .long x :: st) := SW.lift (fun _ _ _ _ _ _ _ _ _ _ _ _ _ _ _ hx hb w => lv_lshr hx hb hd rfl w) k
theorem r_lcmp {x y : Int64} (hd : decode cc pc = .ok (.lcmp, 1))  (k : SW G d cc own nL ret R M (pc + 1) lv (.int (lg_cmp x y) :: st)) : SW G d cc own nL ret R M pc lv (.long y :: .long x :: st) := SW.lift (fun _ _ _ _ _ _ _ _ _ _ _ _ _ _ _ hx hb w => W.lcmp hx hb hd w) k
theorem r_i2l {x : Int32} (hd : decode cc pc = .ok (.i2l, 1))  (k : SW G d cc own nL ret R M (pc + 1) lv (.long x.toInt64 :: st)) : SW G d cc own nL ret R M pc lv (.int x :: st) := SW.lift (fun _ _ _ _ _ _ _ _ _ _ _ _ _ _ _ hx hb w => lv_i2l hx hb hd rfl w) k
theorem r_l2i {x : Int64} (hd : decode cc pc = .ok (.l2i, 1))  (k : SW G d cc own nL ret R M (pc + 1) lv (.int x.toInt32 :: st)) : SW G d cc own nL ret R M pc lv (.long x :: st) := SW.lift (fun _ _ _ _ _ _ _ _ _ _ _ _ _ _ _ hx hb w => lv_l2i hx hb hd rfl w) k
theorem r_i2b {x : Int32} (hd : decode cc pc = .ok (.i2b, 1))  (k : SW G d cc own nL ret R M (pc + 1) lv (.int x.toInt8.toInt32 :: st)) : SW G d cc own nL ret R M pc lv (.int x :: st) := SW.lift (fun _ _ _ _ _ _ _ _ _ _ _ _ _ _ _ hx hb w => lv_i2b hx hb hd rfl w) k
theorem r_i2c {x : Int32} (hd : decode cc pc = .ok (.i2c, 1))  (k : SW G d cc own nL ret R M (pc + 1) lv (.int (x.toUInt32 % 65536).toInt32 :: st)) : SW G d cc own nL ret R M pc lv (.int x :: st) := SW.lift (fun _ _ _ _ _ _ _ _ _ _ _ _ _ _ _ hx hb w => lv_i2c hx hb hd rfl w) k
theorem r_iconst {n : Int} {v : Int32} (hd : decode cc pc = .ok (.iconst n, 1)) (hv : Int32.ofInt n = v) (k : SW G d cc own nL ret R M (pc + 1) lv (.int v :: st)) : SW G d cc own nL ret R M pc lv st := SW.lift (fun _ _ _ _ _ _ _ _ _ _ _ _ _ _ _ hx hb w => lv_iconst hx hb hd hv w) k
theorem r_bipush {n : Int} {v : Int32} (hd : decode cc pc = .ok (.bipush n, 2)) (hv : (Int8.ofInt n).toInt32 = v) (k : SW G d cc own nL ret R M (pc + 2) lv (.int v :: st)) : SW G d cc own nL ret R M pc lv st := SW.lift (fun _ _ _ _ _ _ _ _ _ _ _ _ _ _ _ hx hb w => lv_bipush hx hb hd hv w) k
theorem r_sipush {n : Int} {v : Int32} (hd : decode cc pc = .ok (.sipush n, 3)) (hv : (Int16.ofInt n).toInt32 = v) (k : SW G d cc own nL ret R M (pc + 3) lv (.int v :: st)) : SW G d cc own nL ret R M pc lv st := SW.lift (fun _ _ _ _ _ _ _ _ _ _ _ _ _ _ _ hx hb w => lv_sipush hx hb hd hv w) k
theorem r_lconst {n : Fin 2} {v : Int64} (hd : decode cc pc = .ok (.lconst n, 1)) (hv : Int64.ofNat (n : Nat) = v) (k : SW G d cc own nL ret R M (pc + 1) lv (.long v :: st)) : SW G d cc own nL ret R M pc lv st := SW.lift (fun _ _ _ _ _ _ _ _ _ _ _ _ _ _ _ hx hb w => lv_lconst hx hb hd hv w) k
theorem r_dup {va : Value} (hd : decode cc pc = .ok (.dup, 1)) (h1 : va.category = 1) (k : SW G d cc own nL ret R M (pc + 1) lv (va :: va :: st)) : SW G d cc own nL ret R M pc lv (va :: st) := SW.lift (fun _ _ _ _ _ _ _ _ _ _ _ _ _ _ _ hx hb w => lv_dup hx hb hd ((tv_cat G va).trans h1) w) k
theorem r_pop {va : Value} (hd : decode cc pc = .ok (.pop, 1)) (h1 : va.category = 1) (k : SW G d cc own nL ret R M (pc + 1) lv (st)) : SW G d cc own nL ret R M pc lv (va :: st) := SW.lift (fun _ _ _ _ _ _ _ _ _ _ _ _ _ _ _ hx hb w => lv_pop hx hb hd ((tv_cat G va).trans h1) w) k
theorem r_dup_x1 {va vb : Value} (hd : decode cc pc = .ok (.dup_x1, 1)) (h1 : va.category = 1) (h2 : vb.category = 1) (k : SW G d cc own nL ret R M (pc + 1) lv (va :: vb :: va :: st)) : SW G d cc own nL ret R M pc lv (va :: vb :: st) := SW.lift (fun _ _ _ _ _ _ _ _ _ _ _ _ _ _ _ hx hb w => lv_dup_x1 hx hb hd ((tv_cat G va).trans h1) ((tv_cat G vb).trans h2) w) k
theorem r_dup2 {va vb : Value} (hd : decode cc pc = .ok (.dup2, 1)) (h1 : va.category = 1) (h2 : vb.category = 1) (k : SW G d cc own nL ret R M (pc + 1) lv (va :: vb :: va :: vb :: st)) : SW G d cc own nL ret R M pc lv (va :: vb :: st) := SW.lift (fun _ _ _ _ _ _ _ _ _ _ _ _ _ _ _ hx hb w => lv_dup2_11 hx hb hd ((tv_cat G va).trans h1) ((tv_cat G vb).trans h2) w) k
theorem r_if_eq {x : Int32} {off : Int} (tgt : Nat) (hd : decode cc pc = .ok (.ifCond .eq off, 3)) (ht : (pc : Int) + off = (tgt : Int)) (kt : x = 0 → SW G d cc own nL ret R M tgt lv st) (kf : ¬ x = 0 → SW G d cc own nL ret R M (pc + 3) lv st) : SW G d cc own nL ret R M pc lv (.int x :: st) :=
  fun p e Rm s m args below meth c cells slots Q C H locs ls hP hS hL => lv_if_eq C.1 C.2.1 hd ht (fun q => kt q p e Rm s m args below meth c cells slots Q C H locs ls hP hS hL) (fun q => kf q p e Rm s m args below meth c cells slots Q C H locs ls hP hS hL)
theorem r_icmp_eq {x y : Int32} {off : Int} (tgt : Nat) (hd : decode cc pc = .ok (.if_icmp .eq off, 3)) (ht : (pc : Int) + off = (tgt : Int)) (kt : x = y → SW G d cc own nL ret R M tgt lv st) (kf : ¬ x = y → SW G d cc own nL ret R M (pc + 3) lv st) : SW G d cc own nL ret R M pc lv (.int y :: .int x :: st) :=
  fun p e Rm s m args below meth c cells slots Q C H locs ls hP hS hL => lv_icmp_eq C.1 C.2.1 hd ht (fun q => kt q p e Rm s m args below meth c cells slots Q C H locs ls hP hS hL) (fun q => kf q p e Rm s m args below meth c cells slots Q C H locs ls hP hS hL)
theorem r_if_ne {x : Int32} {off : Int} (tgt : Nat) (hd : decode cc pc = .ok (.ifCond .ne off, 3)) (ht : (pc : Int) + off = (tgt : Int)) (kt : ¬ x = 0 → SW G d cc own nL ret R M tgt lv st) (kf : x = 0 → SW G d cc own nL ret R M (pc + 3) lv st) : SW G d cc own nL ret R M pc lv (.int x :: st) :=
  fun p e Rm s m args below meth c cells slots Q C H locs ls hP hS hL => lv_if_ne C.1 C.2.1 hd ht (fun q => kt q p e Rm s m args below meth c cells slots Q C H locs ls hP hS hL) (fun q => kf q p e Rm s m args below meth c cells slots Q C H locs ls hP hS hL)
theorem r_icmp_ne {x y : Int32} {off : Int} (tgt : Nat) (hd : decode cc pc = .ok (.if_icmp .ne off, 3)) (ht : (pc : Int) + off = (tgt : Int)) (kt : ¬ x = y → SW G d cc own nL ret R M tgt lv st) (kf : x = y → SW G d cc own nL ret R M (pc + 3) lv st) : SW G d cc own nL ret R M pc lv (.int y :: .int x :: st) :=
  fun p e Rm s m args below meth c cells slots Q C H locs ls hP hS hL => lv_icmp_ne C.1 C.2.1 hd ht (fun q => kt q p e Rm s m args below meth c cells slots Q C H locs ls hP hS hL) (fun q => kf q p e Rm s m args below meth c cells slots Q C H locs ls hP hS hL)
theorem r_if_lt {x : Int32} {off : Int} (tgt : Nat) (hd : decode cc pc = .ok (.ifCond .lt off, 3)) (ht : (pc : Int) + off = (tgt : Int)) (kt : x < 0 → SW G d cc own nL ret R M tgt lv st) (kf : ¬ x < 0 → SW G d cc own nL ret R M (pc + 3) lv st) : SW G d cc own nL ret R M pc lv (.int x :: st) :=
  fun p e Rm s m args below meth c cells slots Q C H locs ls hP hS hL => lv_if_lt C.1 C.2.1 hd ht (fun q => kt q p e Rm s m args below meth c cells slots Q C H locs ls hP hS hL) (fun q => kf q p e Rm s m args below meth c cells slots Q C H locs ls hP hS hL)
theorem r_icmp_lt {x y : Int32} {off : Int} (tgt : Nat) (hd : decode cc pc = .ok (.if_icmp .lt off, 3)) (ht : (pc : Int) + off = (tgt : Int)) (kt : x < y → SW G d cc own nL ret R M tgt lv st) (kf : ¬ x < y → SW G d cc own nL ret R M (pc + 3) lv st) : SW G d cc own nL ret R M pc lv (.int y :: .int x :: st) :=
  fun p e Rm s m args below meth c cells slots Q C H locs ls hP hS hL => lv_icmp_lt C.1 C.2.1 hd ht (fun q => kt q p e Rm s m args below meth c cells slots Q C H locs ls hP hS hL) (fun q => kf q p e Rm s m args below meth c cells slots Q C H locs ls hP hS hL)
theorem r_if_ge {x : Int32} {off : Int} (tgt : Nat) (hd : decode cc pc = .ok (.ifCond .ge off, 3)) (ht : (pc : Int) + off = (tgt : Int)) (kt : 0 ≤ x → SW G d cc own nL ret R M tgt lv st) (kf : ¬ 0 ≤ x → SW G d cc own nL ret R M (pc + 3) lv st) : SW G d cc own nL ret R M pc lv (.int x :: st) :=
  fun p e Rm s m args below meth c cells slots Q C H locs ls hP hS hL => lv_if_ge C.1 C.2.1 hd ht (fun q => kt q p e Rm s m args below meth c cells slots Q C H locs ls hP hS hL) (fun q => kf q p e Rm s m args below meth c cells slots Q C H locs ls hP hS hL)
theorem r_icmp_ge {x y : Int32} {off : Int} (tgt : Nat) (hd : decode cc pc = .ok (.if_icmp .ge off, 3)) (ht : (pc : Int) + off = (tgt : Int)) (kt : y ≤ x → SW G d cc own nL ret R M tgt lv st) (kf : ¬ y ≤ x → SW G d cc own nL ret R M (pc + 3) lv st) : SW G d cc own nL ret R M pc lv (.int y :: .int x :: st) :=
  fun p e Rm s m args below meth c cells slots Q C H locs ls hP hS hL => lv_icmp_ge C.1 C.2.1 hd ht (fun q => kt q p e Rm s m args below meth c cells slots Q C H locs ls hP hS hL) (fun q => kf q p e Rm s m args below meth c cells slots Q C H locs ls hP hS hL)
theorem r_if_gt {x : Int32} {off : Int} (tgt : Nat) (hd : decode cc pc = .ok (.ifCond .gt off, 3)) (ht : (pc : Int) + off = (tgt : Int)) (kt : 0 < x → SW G d cc own nL ret R M tgt lv st) (kf : ¬ 0 < x → SW G d cc own nL ret R M (pc + 3) lv st) : SW G d cc own nL ret R M pc lv (.int x :: st) :=
  fun p e Rm s m args below meth c cells slots Q C H locs ls hP hS hL => lv_if_gt C.1 C.2.1 hd ht (fun q => kt q p e Rm s m args below meth c cells slots Q C H locs ls hP hS hL) (fun q => kf q p e Rm s m args below meth c cells slots Q C H locs ls hP hS hL)
theorem r_icmp_gt {x y : Int32} {off : Int} (tgt : Nat) (hd : decode cc pc = .ok (.if_icmp .gt off, 3)) (ht : (pc : Int) + off = (tgt : Int)) (kt : y < x → SW G d cc own nL ret R M tgt lv st) (kf : ¬ y < x → SW G d cc own nL ret R M (pc + 3) lv st) : SW G d cc own nL ret R M pc lv (.int y :: .int x :: st) :=
  fun p e Rm s m args below meth c cells slots Q C H locs ls hP hS hL => lv_icmp_gt C.1 C.2.1 hd ht (fun q => kt q p e Rm s m args below meth c cells slots Q C H locs ls hP hS hL) (fun q => kf q p e Rm s m args below meth c cells slots Q C H locs ls hP hS hL)
theorem r_if_le {x : Int32} {off : Int} (tgt : Nat) (hd : decode cc pc = .ok (.ifCond .le off, 3)) (ht : (pc : Int) + off = (tgt : Int)) (kt : x ≤ 0 → SW G d cc own nL ret R M tgt lv st) (kf : ¬ x ≤ 0 → SW G d cc own nL ret R M (pc + 3) lv st) : SW G d cc own nL ret R M pc lv (.int x :: st) :=
  fun p e Rm s m args below meth c cells slots Q C H locs ls hP hS hL => lv_if_le C.1 C.2.1 hd ht (fun q => kt q p e Rm s m args below meth c cells slots Q C H locs ls hP hS hL) (fun q => kf q p e Rm s m args below meth c cells slots Q C H locs ls hP hS hL)
theorem r_icmp_le {x y : Int32} {off : Int} (tgt : Nat) (hd : decode cc pc = .ok (.if_icmp .le off, 3)) (ht : (pc : Int) + off = (tgt : Int)) (kt : x ≤ y → SW G d cc own nL ret R M tgt lv st) (kf : ¬ x ≤ y → SW G d cc own nL ret R M (pc + 3) lv st) : SW G d cc own nL ret R M pc lv (.int y :: .int x :: st) :=
  fun p e Rm s m args below meth c cells slots Q C H locs ls hP hS hL => lv_icmp_le C.1 C.2.1 hd ht (fun q => kt q p e Rm s m args below meth c cells slots Q C H locs ls hP hS hL) (fun q => kf q p e Rm s m args below meth c cells slots Q C H locs ls hP hS hL)
theorem r_iload_n {q : Fin 4} {x : Int32} (i : Nat) (hd : decode cc pc = .ok (.iload_n q, 1)) (hi : (q : Nat) = i) (hl : lv[i]? = some (some (.int x))) (k : SW G d cc own nL ret R M (pc + 1) lv (.int x :: st)) : SW G d cc own nL ret R M pc lv st :=
  fun p e Rm s m args below meth c cells slots Q C H locs ls hP hS hL => lv_iload_n C.1 C.2.1 hd hi (hL.at hl) (k p e Rm s m args below meth c cells slots Q C H locs ls hP hS hL)
theorem r_iload {x : Int32} {i : Nat} (hd : decode cc pc = .ok (.iload i, 2)) (hl : lv[i]? = some (some (.int x))) (k : SW G d cc own nL ret R M (pc + 2) lv (.int x :: st)) : SW G d cc own nL ret R M pc lv st :=
  fun p e Rm s m args below meth c cells slots Q C H locs ls hP hS hL => lv_iload C.1 C.2.1 hd (hL.at hl) (k p e Rm s m args below meth c cells slots Q C H locs ls hP hS hL)
theorem r_istore_n {q : Fin 4} {x : Int32} {lv' : List (Option Value)} (i : Nat) (hd : decode cc pc = .ok (.istore_n q, 1)) (hi : (q : Nat) = i) (hn : i < nL) (hl : st1 lv i (.int x) = lv') (k : SW G d cc own nL ret R M (pc + 1) lv' st) : SW G d cc own nL ret R M pc lv (.int x :: st) :=
  fun p e Rm s m args below meth c cells slots Q C H locs ls hP hS hL => lv_istore_n C.1 C.2.1 hd hi hL hn rfl (fun ls' hL' => k p e Rm s m args below meth c cells slots Q C H locs ls' hP hS (hl ▸ LV.sto1 (v := .int x) hL'))
theorem r_istore {x : Int32} {i : Nat} {lv' : List (Option Value)} (hd : decode cc pc = .ok (.istore i, 2)) (hn : i < nL) (hl : st1 lv i (.int x) = lv') (k : SW G d cc own nL ret R M (pc + 2) lv' st) : SW G d cc own nL ret R M pc lv (.int x :: st) :=
  fun p e Rm s m args below meth c cells slots Q C H locs ls hP hS hL => lv_istore C.1 C.2.1 hd hL hn rfl (fun ls' hL' => k p e Rm s m args below meth c cells slots Q C H locs ls' hP hS (hl ▸ LV.sto1 (v := .int x) hL'))
theorem r_lload_n {q : Fin 4} {x : Int64} (i : Nat) (hd : decode cc pc = .ok (.lload_n q, 1)) (hi : (q : Nat) = i) (hl : lv[i]? = some (some (.long x))) (k : SW G d cc own nL ret R M (pc + 1) lv (.long x :: st)) : SW G d cc own nL ret R M pc lv st :=
  fun p e Rm s m args below meth c cells slots Q C H locs ls hP hS hL => lv_lload_n C.1 C.2.1 hd hi (hL.at hl) (k p e Rm s m args below meth c cells slots Q C H locs ls hP hS hL)
theorem r_lload {x : Int64} {i : Nat} (hd : decode cc pc = .ok (.lload i, 2)) (hl : lv[i]? = some (some (.long x))) (k : SW G d cc own nL ret R M (pc + 2) lv (.long x :: st)) : SW G d cc own nL ret R M pc lv st :=
  fun p e Rm s m args below meth c cells slots Q C H locs ls hP hS hL => lv_lload C.1 C.2.1 hd (hL.at hl) (k p e Rm s m args below meth c cells slots Q C H locs ls hP hS hL)
theorem r_lstore_n {q : Fin 4} {x : Int64} {lv' : List (Option Value)} (i : Nat) (hd : decode cc pc = .ok (.lstore_n q, 1)) (hi : (q : Nat) = i) (hn : i + 1 < nL) (hl : st2 lv i (.long x) = lv') (k : SW G d cc own nL ret R M (pc + 1) lv' st) : SW G d cc own nL ret R M pc lv (.long x :: st) :=
  fun p e Rm s m args below meth c cells slots Q C H locs ls hP hS hL => lv_lstore_n C.1 C.2.1 hd hi hL hn rfl (fun ls' hL' => k p e Rm s m args below meth c cells slots Q C H locs ls' hP hS (hl ▸ LV.sto2 (v := .long x) hL'))
theorem r_lstore {x : Int64} {i : Nat} {lv' : List (Option Value)} (hd : decode cc pc = .ok (.lstore i, 2)) (hn : i + 1 < nL) (hl : st2 lv i (.long x) = lv') (k : SW G d cc own nL ret R M (pc + 2) lv' st) : SW G d cc own nL ret R M pc lv (.long x :: st) :=
  fun p e Rm s m args below meth c cells slots Q C H locs ls hP hS hL => lv_lstore C.1 C.2.1 hd hL hn rfl (fun ls' hL' => k p e Rm s m args below meth c cells slots Q C H locs ls' hP hS (hl ▸ LV.sto2 (v := .long x) hL'))
theorem r_aload_n {q : Fin 4} {x : Nat} (i : Nat) (hd : decode cc pc = .ok (.aload_n q, 1)) (hi : (q : Nat) = i) (hl : lv[i]? = some (some (.ref x))) (k : SW G d cc own nL ret R M (pc + 1) lv (.ref x :: st)) : SW G d cc own nL ret R M pc lv st :=
  fun p e Rm s m args below meth c cells slots Q C H locs ls hP hS hL => lv_aload_n C.1 C.2.1 hd hi (hL.at hl) (k p e Rm s m args below meth c cells slots Q C H locs ls hP hS hL)
theorem r_aload {x : Nat} {i : Nat} (hd : decode cc pc = .ok (.aload i, 2)) (hl : lv[i]? = some (some (.ref x))) (k : SW G d cc own nL ret R M (pc + 2) lv (.ref x :: st)) : SW G d cc own nL ret R M pc lv st :=
  fun p e Rm s m args below meth c cells slots Q C H locs ls hP hS hL => lv_aload C.1 C.2.1 hd (hL.at hl) (k p e Rm s m args below meth c cells slots Q C H locs ls hP hS hL)
theorem r_astore_n {q : Fin 4} {x : Nat} {lv' : List (Option Value)} (i : Nat) (hd : decode cc pc = .ok (.astore_n q, 1)) (hi : (q : Nat) = i) (hn : i < nL) (hl : st1 lv i (.ref x) = lv') (k : SW G d cc own nL ret R M (pc + 1) lv' st) : SW G d cc own nL ret R M pc lv (.ref x :: st) :=
  fun p e Rm s m args below meth c cells slots Q C H locs ls hP hS hL => lv_astore_n C.1 C.2.1 hd hi hL hn rfl (fun ls' hL' => k p e Rm s m args below meth c cells slots Q C H locs ls' hP hS (hl ▸ LV.sto1 (v := .ref x) hL'))
theorem r_astore {x : Nat} {i : Nat} {lv' : List (Option Value)} (hd : decode cc pc = .ok (.astore i, 2)) (hn : i < nL) (hl : st1 lv i (.ref x) = lv') (k : SW G d cc own nL ret R M (pc + 2) lv' st) : SW G d cc own nL ret R M pc lv (.ref x :: st) :=
  fun p e Rm s m args below meth c cells slots Q C H locs ls hP hS hL => lv_astore C.1 C.2.1 hd hL hn rfl (fun ls' hL' => k p e Rm s m args below meth c cells slots Q C H locs ls' hP hS (hl ▸ LV.sto1 (v := .ref x) hL'))
theorem r_iinc {i : Nat} {n : Int} {x v : Int32} {lv' : List (Option Value)} (hd : decode cc pc = .ok (.iinc i n, 3)) (hl : lv[i]? = some (some (.int x))) (hv : x + Int32.ofInt n = v) (hn : i < nL) (h' : st1 lv i (.int v) = lv') (k : SW G d cc own nL ret R M (pc + 3) lv' st) : SW G d cc own nL ret R M pc lv st :=
  fun p e Rm s m args below meth c cells slots Q C H locs ls hP hS hL => by
    obtain ⟨j, hj⟩ := List.getElem?_of_mem (lvl_mem (G := G) (i := 0) (lv := lv) (q := (i, .int x)) |>.mpr ⟨i, .int x, hl, by rw [Nat.zero_add]; rfl⟩)
    exact lv_iinc C.1 C.2.1 hd hL hj hv hn rfl (fun ls' hL' => k p e Rm s m args below meth c cells slots Q C H locs ls' hP hS (h' ▸ LV.sto1 (v := .int v) hL'))
theorem r_goto {off : Int} (tgt : Nat) (hd : decode cc pc = .ok (.goto off, 3)) (ht : (pc : Int) + off = (tgt : Int)) (k : SW G d cc own nL ret R M tgt lv st) : SW G d cc own nL ret R M pc lv st :=
  SW.lift (fun _ _ _ _ _ _ _ _ _ _ _ _ _ _ _ hx hb w => lv_goto hx hb hd ht w) k
theorem r_ldc {index : Nat} {v : Int32} (hd : decode cc pc = .ok (.ldc index, 2)) (hc : Cond.constant own index v ∈ tw) (k : SW G d cc own nL ret R M (pc + 2) lv (.int v :: st)) : SW G d cc own nL ret R M pc lv st :=
  fun p e Rm s m args below meth c cells slots Q C H locs ls hP hS hL => lv_ldc C.1 C.2.1 C.2.2.2.1 (C.2.2.2.2.1 _ hc) hd (k p e Rm s m args below meth c cells slots Q C H locs ls hP hS hL)
theorem r_ldc_w {index : Nat} {v : Int32} (hd : decode cc pc = .ok (.ldc_w index, 3)) (hc : Cond.constant own index v ∈ tw) (k : SW G d cc own nL ret R M (pc + 3) lv (.int v :: st)) : SW G d cc own nL ret R M pc lv st :=
  fun p e Rm s m args below meth c cells slots Q C H locs ls hP hS hL => lv_ldcw C.1 C.2.1 C.2.2.2.1 (C.2.2.2.2.1 _ hc) hd (k p e Rm s m args below meth c cells slots Q C H locs ls hP hS hL)
theorem r_ldc2_w {index : Nat} {v : Int64} (hd : decode cc pc = .ok (.ldc2_w index, 3)) (hc : Cond.constantLong own index v ∈ tw) (k : SW G d cc own nL ret R M (pc + 3) lv (.long v :: st)) : SW G d cc own nL ret R M pc lv st :=
  fun p e Rm s m args below meth c cells slots Q C H locs ls hP hS hL => lv_ldc2 C.1 C.2.1 C.2.2.2.1 (C.2.2.2.2.1 _ hc) hd (k p e Rm s m args below meth c cells slots Q C H locs ls hP hS hL)
theorem r_ldcS {j : Nat} (hd : decode cc pc = .ok (.ldc (kix j), 2)) (ho : own = R_Te) (hj : j < 5) (k : SW G d cc own nL ret R M (pc + 2) lv (.ref (100 + j) :: st)) : SW G d cc own nL ret R M pc lv st :=
  fun p e Rm s m args below meth c cells slots Q C H locs ls hP hS hL => va_ldcS C.1 C.2.1 C.2.2.2.1 (ho ▸ C.2.2.2.2.2.1.2.2.1 j hj) hd (k p e Rm s m args below meth c cells slots Q C H locs ls hP hS hL)
theorem r_tabIn {dflt lo hi : Int} {offs : Array Int} {len : Nat} {x : Int32} {off : Int} (tgt : Nat) (hd : decode cc pc = .ok (.tableswitch dflt lo hi offs, len)) (h1 : ¬ x.toInt < lo) (h2 : ¬ hi < x.toInt) (ho : offs[(x.toInt - lo).toNat]? = some off) (ht : (pc : Int) + off = (tgt : Int)) (k : SW G d cc own nL ret R M tgt lv st) : SW G d cc own nL ret R M pc lv (.int x :: st) :=
  SW.lift (fun _ _ _ _ _ _ _ _ _ _ _ _ _ _ _ hx hb w => lv_tableIn hx hb hd h1 h2 ho ht w) k
theorem r_tabOut {dflt lo hi : Int} {offs : Array Int} {len : Nat} {x : Int32} (tgt : Nat) (hd : decode cc pc = .ok (.tableswitch dflt lo hi offs, len)) (h : x.toInt < lo ∨ hi < x.toInt) (ht : (pc : Int) + dflt = (tgt : Int)) (k : SW G d cc own nL ret R M tgt lv st) : SW G d cc own nL ret R M pc lv (.int x :: st) :=
  SW.lift (fun _ _ _ _ _ _ _ _ _ _ _ _ _ _ _ hx hb w => lv_tableOut hx hb hd h ht w) k
theorem r_lookup {dflt : Int} {ps : Array (Int × Int)} {len : Nat} {x : Int32} {off : Int} (tgt : Nat) (hd : decode cc pc = .ok (.lookupswitch dflt ps, len)) (hp : (ps.toList.zip (ps.toList.drop 1)).all (fun (a, next) => a.1 < next.1) = true) (ho : Op.lookupswitch.offset ps.toList dflt x.toInt = off) (ht : (pc : Int) + off = (tgt : Int)) (k : SW G d cc own nL ret R M tgt lv st) : SW G d cc own nL ret R M pc lv (.int x :: st) :=
  SW.lift (fun _ _ _ _ _ _ _ _ _ _ _ _ _ _ _ hx hb w => lv_lookup hx hb hd hp ho ht w) k
/-! returns -/
theorem r_ret {i : Instr} {v : Option Value} (hd : decode cc pc = .ok (i, 1)) (hi : RetI ret i v) (hR : R = (v, M)) (hst : st = v.toList) : SW G d cc own nL ret R M pc lv st := by
  subst hR; subst hst
  exact fun p e Rm s m args below meth c cells slots Q C H locs ls hP hS hL => C.2.2.2.2.2.2.2 H locs ls pc i hP hS hi hd
theorem r_ireturn {x : Int32} (hd : decode cc pc = .ok (.ireturn, 1)) (hr : ret = some .int) (hR : (some (Value.int x), M) = R) : SW G d cc own nL ret R M pc lv [.int x] :=
  r_ret (v := some (.int x)) hd (Or.inl ⟨rfl, x, .int, rfl, hr, rfl⟩) hR.symm rfl
theorem r_zreturn {x : Int32} (hd : decode cc pc = .ok (.ireturn, 1)) (hr : ret = some .boolean) (hz : x = 0 ∨ x = 1) (hR : (some (Value.int x), M) = R) : SW G d cc own nL ret R M pc lv [.int x] :=
  r_ret (v := some (.int x)) hd (Or.inl ⟨rfl, x, .boolean, rfl, hr, by rcases hz with rfl | rfl <;> decide⟩) hR.symm rfl
theorem r_lreturn {x : Int64} (hd : decode cc pc = .ok (.lreturn, 1)) (hr : ret = some .long) (hR : (some (Value.long x), M) = R) : SW G d cc own nL ret R M pc lv [.long x] :=
  r_ret (v := some (.long x)) hd (Or.inr (Or.inl ⟨rfl, x, rfl, hr⟩)) hR.symm rfl
theorem r_return (hd : decode cc pc = .ok (.return_, 1)) (hr : ret = none) (hR : (none, M) = R) : SW G d cc own nL ret R M pc lv [] :=
  r_ret (v := none) hd (Or.inr (Or.inr (Or.inl ⟨rfl, rfl, hr⟩))) hR.symm rfl
theorem r_areturn {a : Nat} (n : String) (hd : decode cc pc = .ok (.areturn, 1)) (hr : ret = some (.object n)) (hR : (some (Value.ref a), M) = R) : SW G d cc own nL ret R M pc lv [.ref a] :=
  r_ret (v := some (.ref a)) hd (Or.inr (Or.inr (Or.inr ⟨rfl, a, n, rfl, hr⟩))) hR.symm rfl
/-! the world's cells -/
theorem ws_get {a : Nat} (ha : a < NC) : (wsOf G M)[a]? = some (g_ad G a, ent G M a) := by
  unfold wsOf
  rw [List.getElem?_map, List.getElem?_range ha]; rfl
theorem ws_obj {a ci n : Nat} (ha : a < NC) (hs : sh a = (ci, n)) (hc : ci < 10) : (wsOf G M)[a]? = some (g_ad G a, .inr (ci, (List.range (nf ci)).map (fv G M a ci))) := by
  rw [ws_get ha]
  unfold ent
  rw [hs]
  simp only [hc, if_true]
theorem ws_arr {a t n : Nat} (ha : a < NC) (hs : sh a = (10 + t, n)) (ht : t ≠ 3) : (wsOf G M)[a]? = some (g_ad G a, .inl (g_ct G t, (n, .inl (M.1 a)))) := by
  rw [ws_get ha]
  unfold ent
  rw [hs]
  simp only [show ¬ (10 + t < 10) by omega, if_false, show ¬ (10 + t = 13) by omega, Nat.add_sub_cancel_left]
theorem ws_arrL {a n : Nat} (ha : a < NC) (hs : sh a = (13, n)) : (wsOf G M)[a]? = some (g_ad G a, .inl (g_ct G 3, (n, .inr (.inl (M.2 a))))) := by
  rw [ws_get ha]
  unfold ent
  rw [hs]
  rfl
theorem sh_lt {a c n : Nat} (h : sh a = (c, n)) (hc : c < 99) : a < NC := by
  rcases Nat.lt_or_ge a NC with q | q
  · exact q
  · exfalso
    have : sh a = (99, 0) := by
      unfold sh
      rw [List.getD_eq_getElem?_getD, List.getElem?_eq_none (by exact q)]
      rfl
    rw [this] at h
    have := congrArg Prod.fst h
    simp at this
    omega
def si (M : Mm) (a k : Nat) (x : Int32) : Mm := (fun b j => if b = a ∧ j = k then x else M.1 b j, M.2)
def sl (M : Mm) (a k : Nat) (x : Int64) : Mm := (M.1, fun b j => if b = a ∧ j = k then x else M.2 b j)
theorem ws_set {M' : Mm} {a : Nat} {E : va_E} (ha : a < NC) (hE : ent G M' a = E) (ho : ∀ b, b ≠ a → ent G M' b = ent G M b) : (wsOf G M).set a (g_ad G a, E) = wsOf G M' := by
  apply List.ext_getElem?
  intro b
  by_cases hb : b = a
  · subst hb
    rw [List.getElem?_set_self (by unfold wsOf; simpa using ha), ws_get ha, hE]
  · rw [List.getElem?_set_ne (Ne.symm hb)]
    rcases Nat.lt_or_ge b NC with q | q
    · rw [ws_get q, ws_get q, ho b hb]
    · rw [List.getElem?_eq_none (by unfold wsOf; simpa using q), List.getElem?_eq_none (by unfold wsOf; simpa using q)]
theorem fv_si {a k b c j : Nat} {x : Int32} (h : ¬ (b = a ∧ j = k)) : fv G (si M a k x) b c j = fv G M b c j := by
  unfold fv si
  dsimp only
  rw [if_neg h]
theorem fv_sl {a k b c j : Nat} {x : Int64} (h : ¬ (b = a ∧ j = k)) : fv G (sl M a k x) b c j = fv G M b c j := by
  unfold fv sl
  dsimp only
  rw [if_neg h]
theorem ent_si {a k b : Nat} {x : Int32} (h : b ≠ a) : ent G (si M a k x) b = ent G M b := by
  unfold ent
  rw [show fv G (si M a k x) b (sh b).1 = fv G M b (sh b).1 from funext fun j => fv_si (fun q => h q.1)]
  rw [show (si M a k x).1 b = M.1 b from funext fun j => if_neg (fun q => h q.1)]
  rfl
theorem ent_sl {a k b : Nat} {x : Int64} (h : b ≠ a) : ent G (sl M a k x) b = ent G M b := by
  unfold ent
  rw [show fv G (sl M a k x) b (sh b).1 = fv G M b (sh b).1 from funext fun j => fv_sl (fun q => h q.1)]
  rw [show (sl M a k x).2 b = M.2 b from funext fun j => if_neg (fun q => h q.1)]
  rfl
theorem range_set {f g : Nat → Value} {n k : Nat} {v : Value} (hk : k < n) (h1 : g k = v) (h2 : ∀ j, j ≠ k → g j = f j) : ((List.range n).map f).set k v = (List.range n).map g := by
  apply List.ext_getElem?
  intro j
  by_cases hj : j = k
  · subst hj
    rw [List.getElem?_set_self (by simpa using hk), List.getElem?_map, List.getElem?_range hk]
    simp [h1]
  · rw [List.getElem?_set_ne (Ne.symm hj), List.getElem?_map, List.getElem?_map]
    rcases Nat.lt_or_ge j n with q | q
    · rw [List.getElem?_range q]; simp [h2 j hj]
    · rw [List.getElem?_eq_none (by simpa using q)]; rfl
theorem ws_D (h : GOK G) : va_D (g_A G) (wsOf G M) := by
  have key : ∀ (k : Nat) (q : Nat × va_E), (wsOf G M)[k]? = some q → k < NC ∧ q.1 = g_ad G k := by
    intro k q hk
    have hl : k < NC := by
      have := (List.getElem?_eq_some_iff.mp hk).1
      unfold wsOf at this
      simpa using this
    rw [ws_get hl] at hk
    cases hk
    exact ⟨hl, rfl⟩
  refine ⟨fun i j x y hi hj hxy => ?_, fun k q hk => ?_⟩
  · obtain ⟨h1, h2⟩ := key i x hi
    obtain ⟨h3, h4⟩ := key j y hj
    exact h.1 i j h1 h3 (by rw [← h2, ← h4, hxy])
  · obtain ⟨h1, h2⟩ := key k q hk
    rw [h2]
    exact h.2 k h1
/-! fields -/
def Tcl (c : Nat) : u_T := match c with
  | 0 => T_Bk | 1 => T_Im | 2 => T_Mk | 3 => T_Se | 4 => T_Te | 5 => T_To | 6 => T_Wa | 7 => T_We | 8 => T_Uc | _ => T_Mo
def Rcl (c : Nat) : String := match c with
  | 0 => R_Bk | 1 => R_Im | 2 => R_Mk | 3 => R_Se | 4 => R_Te | 5 => R_To | 6 => R_Wa | 7 => R_We | 8 => R_Uc | _ => R_Mo
theorem cl_at {c : Nat} (h : c < 10) : classes[c]? = some (Rcl c, Tcl c, nf c) := by
  rcases (show c = 0 ∨ c = 1 ∨ c = 2 ∨ c = 3 ∨ c = 4 ∨ c = 5 ∨ c = 6 ∨ c = 7 ∨ c = 8 ∨ c = 9 by omega) with rfl | rfl | rfl | rfl | rfl | rfl | rfl | rfl | rfl | rfl <;> rfl
theorem cl_in {c : Nat} (h : c < 10) : ∀ w ∈ u_ws (Rcl c) (Tcl c) (nf c), w ∈ lw_tbl := by
  rcases (show c = 0 ∨ c = 1 ∨ c = 2 ∨ c = 3 ∨ c = 4 ∨ c = 5 ∨ c = 6 ∨ c = 7 ∨ c = 8 ∨ c = 9 by omega) with rfl | rfl | rfl | rfl | rfl | rfl | rfl | rfl | rfl | rfl
  · exact in_Bk
  · exact in_Im
  · exact in_Mk
  · exact in_Se
  · exact in_Te
  · exact in_To
  · exact in_Wa
  · exact in_We
  · exact in_Uc
  · exact in_Mo
theorem cl_tw {c : Nat} (h : c < 10) : ∀ w ∈ u_ws (Rcl c) (Tcl c) (nf c), w ∈ tw := by
  intro w hw
  refine List.mem_filter.mpr ⟨cl_in h w hw, ?_⟩
  obtain ⟨k, -, rfl⟩ := List.mem_map.mp hw
  unfold u_lay
  split <;> simp [goodWord, Cond.onTables, Cond.keeps, Cond.steady]
theorem cl_ty {c : Nat} (h : c < 10) : ∀ k, k < nf c → parseFieldDescriptor (Tcl c k).2.2.1 = some (fty c k) := by
  rcases (show c = 0 ∨ c = 1 ∨ c = 2 ∨ c = 3 ∨ c = 4 ∨ c = 5 ∨ c = 6 ∨ c = 7 ∨ c = 8 ∨ c = 9 by omega) with rfl | rfl | rfl | rfl | rfl | rfl | rfl | rfl | rfl | rfl
  · exact tk_Bk
  · exact tk_Im
  · exact tk_Mk
  · exact tk_Se
  · exact tk_Te
  · exact tk_To
  · exact tk_Wa
  · exact tk_We
  · exact tk_Uc
  · exact tk_Mo
theorem cl_nm {c : Nat} (h : c < 10) : ∀ a, a < nf c → ∀ b, b < nf c → a ≠ b → (Tcl c a).2.1 ≠ (Tcl c b).2.1 := by
  rcases (show c = 0 ∨ c = 1 ∨ c = 2 ∨ c = 3 ∨ c = 4 ∨ c = 5 ∨ c = 6 ∨ c = 7 ∨ c = 8 ∨ c = 9 by omega) with rfl | rfl | rfl | rfl | rfl | rfl | rfl | rfl | rfl | rfl
  · exact nm_Bk
  · exact nm_Im
  · exact nm_Mk
  · exact nm_Se
  · exact nm_Te
  · exact nm_To
  · exact nm_Wa
  · exact nm_We
  · exact nm_Uc
  · exact nm_Mo
/-- own's constant number index is the field k of the class c -/
def FL (own : String) (index c k : Nat) : Prop := c < 10 ∧ k < nf c ∧ (Cond.fieldLink own index (Tcl c k).1 (Tcl c k).2.1 (Tcl c k).2.2.1 ∈ tw ∨ ∃ host, Cond.fieldLinkNest own index (Tcl c k).1 (Tcl c k).2.1 (Tcl c k).2.2.1 host ∈ ntw)
theorem r_get {a c n k index : Nat} {v : Value} (hd : decode cc pc = .ok (.getfield index, 3)) (hf : FL own index c k) (hs : sh a = (c, n)) (hv : fv G M a c k = tv G v) (kk : SW G d cc own nL ret R M (pc + 3) lv (v :: st)) : SW G d cc own nL ret R M pc lv (.ref a :: st) := by
  intro p e Rm s m args below meth co cells slots Q C H locs ls hP hS hL
  obtain ⟨hx, hb, hml, hown, hts, hK, hroom, hret⟩ := id C
  obtain ⟨hc, hk, hl⟩ := hf
  have ha := sh_lt hs (by omega)
  have hv' : ((List.range (nf c)).map (fv G M a c))[k]? = some (tv G v) := by rw [List.getElem?_map, List.getElem?_range hk, ← hv]; rfl
  have kk' := kk p e Rm s m args below meth co cells slots Q C H locs ls hP hS hL
  rcases hl with hl | ⟨host, hl⟩
  · exact va_get hx hb hts (cl_tw hc) hown hK.1 hP a (ws_obj ha hs hc) (cl_at hc) k hk (hts _ hl) (fun _ z => z) hv' hd kk'
  · exact va_getN hx hb hts (cl_tw hc) hown hK.1 hP a (ws_obj ha hs hc) (cl_at hc) k hk (va_Nw.use rfl (hK.2.2.2.2.2.2.2.2.1 _ hl)) (fun _ z => z) hv' hd kk'
theorem r_getI {a c n k index : Nat} (hd : decode cc pc = .ok (.getfield index, 3)) (hf : FL own index c k) (hs : sh a = (c, n)) (ht : fty c k = .int ∨ fty c k = .boolean) (kk : SW G d cc own nL ret R M (pc + 3) lv (.int (M.1 a k) :: st)) : SW G d cc own nL ret R M pc lv (.ref a :: st) :=
  r_get (v := .int (M.1 a k)) hd hf hs (by rcases ht with h | h <;> (unfold fv; rw [h]; rfl)) kk
theorem r_getL {a c n k index : Nat} (hd : decode cc pc = .ok (.getfield index, 3)) (hf : FL own index c k) (hs : sh a = (c, n)) (ht : fty c k = .long) (kk : SW G d cc own nL ret R M (pc + 3) lv (.long (M.2 a k) :: st)) : SW G d cc own nL ret R M pc lv (.ref a :: st) :=
  r_get (v := .long (M.2 a k)) hd hf hs (by unfold fv; rw [ht]; rfl) kk
def isRefT : FieldType → Bool
  | .array _ => true
  | .object _ => true
  | _ => false
theorem r_getR {a c n k index : Nat} (b : Nat) (hd : decode cc pc = .ok (.getfield index, 3)) (hf : FL own index c k) (hs : sh a = (c, n)) (ht : isRefT (fty c k) = true) (hb : rf a k = b) (kk : SW G d cc own nL ret R M (pc + 3) lv (.ref b :: st)) : SW G d cc own nL ret R M pc lv (.ref a :: st) :=
  r_get (v := .ref b) hd hf hs (by
    subst hb
    unfold fv
    cases h : fty c k <;> first | rfl | (rw [h] at ht; cases ht)) kk
theorem r_putI {a c n k index : Nat} {x : Int32} (hd : decode cc pc = .ok (.putfield index, 3)) (hf : FL own index c k) (hs : sh a = (c, n)) (ht : fty c k = .int ∨ (fty c k = .boolean ∧ (x = 0 ∨ x = 1))) (hfin : (Tcl c k).2.2.2 = false) (kk : SW G d cc own nL ret R (si M a k x) (pc + 3) lv st) : SW G d cc own nL ret R M pc lv (.int x :: .ref a :: st) := by
  intro p e Rm s m args below meth co cells slots Q C H locs ls hP hS hL
  obtain ⟨hx, hb, hml, hown, hts, hK, hroom, hret⟩ := id C
  obtain ⟨hc, hk, hl⟩ := hf
  have ha := sh_lt hs (by omega)
  have hfx : ∀ j, fv G (si M a k x) a c j = if j = k then .int x else fv G M a c j := by
    intro j
    by_cases hj : j = k
    · subst hj
      rw [if_pos rfl]
      rcases ht with h | ⟨h, -⟩ <;> (unfold fv; rw [h]; simp [si])
    · rw [if_neg hj]
      exact fv_si (fun q => hj q.2)
  have hset : (wsOf G M).set a (g_ad G a, .inr (c, ((List.range (nf c)).map (fv G M a c)).set k (.int x))) = wsOf G (si M a k x) := by
    refine ws_set ha ?_ (fun b hb' => ent_si hb')
    unfold ent
    rw [hs]
    simp only [hc, if_true]
    rw [range_set (g := fv G (si M a k x) a c) hk (by rw [hfx]; simp) (fun j hj => by rw [hfx, if_neg hj])]
  have hn : narrow (fty c k) (.int x) = .int x := by
    rcases ht with h | ⟨h, h0 | h0⟩
    · rw [h]; rfl
    · rw [h, h0]; decide
    · rw [h, h0]; decide
  have hfit : fits (fty c k) (.int x) = true := by
    rcases ht with h | ⟨h, h0 | h0⟩
    · rw [h]; rfl
    · rw [h, h0]; decide
    · rw [h, h0]; decide
  have key : ∀ (H1 : Heap) (locs1 : List Loc), va_P (g_D G) classes ((wsOf G M).set a (g_ad G a, .inr (c, ((List.range (nf c)).map (fv G M a c)).set k (.int x)))) H1 → va_D (g_A G) ((wsOf G M).set a (g_ad G a, .inr (c, ((List.range (nf c)).map (fv G M a c)).set k (.int x)))) → va_S (g_A G) s.heap H1 locs1 → W p (g_l G) e Rm s m args below meth co H1 locs1 cells slots Q (F0 m (pc + 3) ls (st.map (tv G))) := by
    intro H1 locs1 h1 h2 h3
    rw [hset] at h1
    exact kk p e Rm s m args below meth co cells slots Q C H1 locs1 ls h1 h3 hL
  rcases hl with hl | ⟨host, hl⟩
  · exact va_put hx hb hts (cl_tw hc) (fty c) (cl_ty hc) (cl_nm hc) hown hK.1 hP (ws_D hK.2.1) hS a (ws_obj ha hs hc) (cl_at hc) k hk (hts _ hl) (fun _ z => z) hfin (cl_ty hc k hk) hn hfit (by simpa using hk) hd key
  · exact va_putN hx hb hts (cl_tw hc) (fty c) (cl_ty hc) (cl_nm hc) hown hK.1 hP (ws_D hK.2.1) hS a (ws_obj ha hs hc) (cl_at hc) k hk (va_Nw.use rfl (hK.2.2.2.2.2.2.2.2.1 _ hl)) (fun _ z => z) hfin (cl_ty hc k hk) hn hfit (by simpa using hk) hd key
theorem r_putL {a c n k index : Nat} {x : Int64} (hd : decode cc pc = .ok (.putfield index, 3)) (hf : FL own index c k) (hs : sh a = (c, n)) (ht : fty c k = .long) (hfin : (Tcl c k).2.2.2 = false) (kk : SW G d cc own nL ret R (sl M a k x) (pc + 3) lv st) : SW G d cc own nL ret R M pc lv (.long x :: .ref a :: st) := by
  intro p e Rm s m args below meth co cells slots Q C H locs ls hP hS hL
  obtain ⟨hx, hb, hml, hown, hts, hK, hroom, hret⟩ := id C
  obtain ⟨hc, hk, hl⟩ := hf
  have ha := sh_lt hs (by omega)
  have hfx : ∀ j, fv G (sl M a k x) a c j = if j = k then .long x else fv G M a c j := by
    intro j
    by_cases hj : j = k
    · subst hj
      rw [if_pos rfl]
      unfold fv; rw [ht]; simp [sl]
    · rw [if_neg hj]
      exact fv_sl (fun q => hj q.2)
  have hset : (wsOf G M).set a (g_ad G a, .inr (c, ((List.range (nf c)).map (fv G M a c)).set k (.long x))) = wsOf G (sl M a k x) := by
    refine ws_set ha ?_ (fun b hb' => ent_sl hb')
    unfold ent
    rw [hs]
    simp only [hc, if_true]
    rw [range_set (g := fv G (sl M a k x) a c) hk (by rw [hfx]; simp) (fun j hj => by rw [hfx, if_neg hj])]
  have hn : narrow (fty c k) (.long x) = .long x := by rw [ht]; rfl
  have hfit : fits (fty c k) (.long x) = true := by rw [ht]; rfl
  have key : ∀ (H1 : Heap) (locs1 : List Loc), va_P (g_D G) classes ((wsOf G M).set a (g_ad G a, .inr (c, ((List.range (nf c)).map (fv G M a c)).set k (.long x)))) H1 → va_D (g_A G) ((wsOf G M).set a (g_ad G a, .inr (c, ((List.range (nf c)).map (fv G M a c)).set k (.long x)))) → va_S (g_A G) s.heap H1 locs1 → W p (g_l G) e Rm s m args below meth co H1 locs1 cells slots Q (F0 m (pc + 3) ls (st.map (tv G))) := by
    intro H1 locs1 h1 h2 h3
    rw [hset] at h1
    exact kk p e Rm s m args below meth co cells slots Q C H1 locs1 ls h1 h3 hL
  rcases hl with hl | ⟨host, hl⟩
  · exact va_put hx hb hts (cl_tw hc) (fty c) (cl_ty hc) (cl_nm hc) hown hK.1 hP (ws_D hK.2.1) hS a (ws_obj ha hs hc) (cl_at hc) k hk (hts _ hl) (fun _ z => z) hfin (cl_ty hc k hk) hn hfit (by simpa using hk) hd key
  · exact va_putN hx hb hts (cl_tw hc) (fty c) (cl_ty hc) (cl_nm hc) hown hK.1 hP (ws_D hK.2.1) hS a (ws_obj ha hs hc) (cl_at hc) k hk (va_Nw.use rfl (hK.2.2.2.2.2.2.2.2.1 _ hl)) (fun _ z => z) hfin (cl_ty hc k hk) hn hfit (by simpa using hk) hd key
/-! arrays -/
theorem r_iald {a n : Nat} {i : Int32} (hd : decode cc pc = .ok (.iaload, 1)) (hs : sh a = (10, n)) (hi : vp_in i n) (kk : SW G d cc own nL ret R M (pc + 1) lv (.int (M.1 a i.toNatClampNeg) :: st)) : SW G d cc own nL ret R M pc lv (.int i :: .ref a :: st) :=
  fun p e Rm s m args below meth c cells slots Q C H locs ls hP hS hL => va_iald C.1 C.2.1 C.2.2.2.2.2.1.1 hP a 0 (ws_arr (t := 0) (sh_lt hs (by omega)) hs (by decide)) rfl hi hd (kk p e Rm s m args below meth c cells slots Q C H locs ls hP hS hL)
theorem r_zald {a n : Nat} {i : Int32} (hd : decode cc pc = .ok (.baload, 1)) (hs : sh a = (11, n)) (hi : vp_in i n) (kk : SW G d cc own nL ret R M (pc + 1) lv (.int (M.1 a i.toNatClampNeg) :: st)) : SW G d cc own nL ret R M pc lv (.int i :: .ref a :: st) :=
  fun p e Rm s m args below meth c cells slots Q C H locs ls hP hS hL => va_zald C.1 C.2.1 C.2.2.2.2.2.1.1 hP a 1 (ws_arr (t := 1) (sh_lt hs (by omega)) hs (by decide)) rfl hi hd (kk p e Rm s m args below meth c cells slots Q C H locs ls hP hS hL)
theorem r_bald {a n : Nat} {i : Int32} (hd : decode cc pc = .ok (.baload, 1)) (hs : sh a = (12, n)) (hi : vp_in i n) (kk : SW G d cc own nL ret R M (pc + 1) lv (.int (M.1 a i.toNatClampNeg) :: st)) : SW G d cc own nL ret R M pc lv (.int i :: .ref a :: st) :=
  fun p e Rm s m args below meth c cells slots Q C H locs ls hP hS hL => va_bald C.1 C.2.1 C.2.2.2.2.2.1.1 hP a 2 (ws_arr (t := 2) (sh_lt hs (by omega)) hs (by decide)) rfl hi hd (kk p e Rm s m args below meth c cells slots Q C H locs ls hP hS hL)
theorem r_lald {a n : Nat} {i : Int32} (hd : decode cc pc = .ok (.laload, 1)) (hs : sh a = (13, n)) (hi : vp_in i n) (kk : SW G d cc own nL ret R M (pc + 1) lv (.long (M.2 a i.toNatClampNeg) :: st)) : SW G d cc own nL ret R M pc lv (.int i :: .ref a :: st) :=
  fun p e Rm s m args below meth c cells slots Q C H locs ls hP hS hL => va_lald C.1 C.2.1 C.2.2.2.2.2.1.1 hP a 3 (ws_arrL (sh_lt hs (by omega)) hs) rfl hi hd (kk p e Rm s m args below meth c cells slots Q C H locs ls hP hS hL)
theorem upd_si {a k : Nat} {x : Int32} : (si M a k x).1 a = upd (M.1 a) k x := by
  funext j
  simp [si, upd]
theorem updL_sl {a k : Nat} {x : Int64} : (sl M a k x).2 a = vp_updL (M.2 a) k x := by
  funext j
  simp [sl, vp_updL]
theorem set_arr {a n t k : Nat} {x : Int32} (ha : a < NC) (hs : sh a = (10 + t, n)) (ht : t ≠ 3) : (wsOf G M).set a (g_ad G a, .inl (g_ct G t, n, .inl (upd (M.1 a) k x))) = wsOf G (si M a k x) := by
  refine ws_set ha ?_ (fun b hb' => ent_si hb')
  unfold ent
  rw [hs]
  simp only [show ¬ (10 + t < 10) by omega, if_false, show ¬ (10 + t = 13) by omega, Nat.add_sub_cancel_left, upd_si]
theorem set_arrL {a n k : Nat} {x : Int64} (ha : a < NC) (hs : sh a = (13, n)) : (wsOf G M).set a (g_ad G a, .inl (g_ct G 3, n, .inr (.inl (vp_updL (M.2 a) k x)))) = wsOf G (sl M a k x) := by
  refine ws_set ha ?_ (fun b hb' => ent_sl hb')
  unfold ent
  rw [hs, updL_sl]
  rfl
theorem r_iast {a n : Nat} {i x : Int32} (hd : decode cc pc = .ok (.iastore, 1)) (hs : sh a = (10, n)) (hi : vp_in i n) (kk : SW G d cc own nL ret R (si M a i.toNatClampNeg x) (pc + 1) lv st) : SW G d cc own nL ret R M pc lv (.int x :: .int i :: .ref a :: st) :=
  fun p e Rm s m args below meth c cells slots Q C H locs ls hP hS hL => va_iast C.1 C.2.1 C.2.2.2.2.2.1.1 hP (ws_D C.2.2.2.2.2.1.2.1) hS a 0 (ws_arr (t := 0) (sh_lt hs (by omega)) hs (by decide)) rfl hi hd (fun H1 locs1 h1 h2 h3 => kk p e Rm s m args below meth c cells slots Q C H1 locs1 ls (set_arr (t := 0) (sh_lt hs (by omega)) hs (by decide) ▸ h1) h3 hL)
theorem r_zast {a n : Nat} {i x : Int32} (hd : decode cc pc = .ok (.bastore, 1)) (hs : sh a = (11, n)) (hi : vp_in i n) (kk : SW G d cc own nL ret R (si M a i.toNatClampNeg (vp_nar .boolean x)) (pc + 1) lv st) : SW G d cc own nL ret R M pc lv (.int x :: .int i :: .ref a :: st) :=
  fun p e Rm s m args below meth c cells slots Q C H locs ls hP hS hL => va_zast C.1 C.2.1 C.2.2.2.2.2.1.1 hP (ws_D C.2.2.2.2.2.1.2.1) hS a 1 (ws_arr (t := 1) (sh_lt hs (by omega)) hs (by decide)) rfl hi hd (fun H1 locs1 h1 h2 h3 => kk p e Rm s m args below meth c cells slots Q C H1 locs1 ls (set_arr (t := 1) (sh_lt hs (by omega)) hs (by decide) ▸ h1) h3 hL)
theorem r_bast {a n : Nat} {i x : Int32} (hd : decode cc pc = .ok (.bastore, 1)) (hs : sh a = (12, n)) (hi : vp_in i n) (kk : SW G d cc own nL ret R (si M a i.toNatClampNeg (vp_nar .byte x)) (pc + 1) lv st) : SW G d cc own nL ret R M pc lv (.int x :: .int i :: .ref a :: st) :=
  fun p e Rm s m args below meth c cells slots Q C H locs ls hP hS hL => va_bast C.1 C.2.1 C.2.2.2.2.2.1.1 hP (ws_D C.2.2.2.2.2.1.2.1) hS a 2 (ws_arr (t := 2) (sh_lt hs (by omega)) hs (by decide)) rfl hi hd (fun H1 locs1 h1 h2 h3 => kk p e Rm s m args below meth c cells slots Q C H1 locs1 ls (set_arr (t := 2) (sh_lt hs (by omega)) hs (by decide) ▸ h1) h3 hL)
theorem r_last {a n : Nat} {i : Int32} {x : Int64} (hd : decode cc pc = .ok (.lastore, 1)) (hs : sh a = (13, n)) (hi : vp_in i n) (kk : SW G d cc own nL ret R (sl M a i.toNatClampNeg x) (pc + 1) lv st) : SW G d cc own nL ret R M pc lv (.long x :: .int i :: .ref a :: st) :=
  fun p e Rm s m args below meth c cells slots Q C H locs ls hP hS hL => va_last C.1 C.2.1 C.2.2.2.2.2.1.1 hP (ws_D C.2.2.2.2.2.1.2.1) hS a 3 (ws_arrL (sh_lt hs (by omega)) hs) rfl hi hd (fun H1 locs1 h1 h2 h3 => kk p e Rm s m args below meth c cells slots Q C H1 locs1 ls (set_arrL (sh_lt hs (by omega)) hs ▸ h1) h3 hL)
/-! the law's script, at the virtual place 200 -/
theorem r_sld {i : Int32} (hd : decode cc pc = .ok (.iaload, 1)) (hi : vp_in i (g_n G)) (kk : SW G d cc own nL ret R M (pc + 1) lv (.int (g_xs G i.toNatClampNeg) :: st)) : SW G d cc own nL ret R M pc lv (.int i :: .ref 200 :: st) :=
  fun p e Rm s m args below meth c cells slots Q C H locs ls hP hS hL => va_sld C.1 C.2.1 C.2.2.2.2.2.1.2.2.2.2.2.1 C.2.2.2.2.2.1.2.2.2.2.2.2.1 C.2.2.2.2.2.1.2.2.2.2.2.2.2.1 hS hi hd (kk p e Rm s m args below meth c cells slots Q C H locs ls hP hS hL)
theorem r_slen (hd : decode cc pc = .ok (.arraylength, 1)) (kk : SW G d cc own nL ret R M (pc + 1) lv (.int (Int32.ofNat (g_n G)) :: st)) : SW G d cc own nL ret R M pc lv (.ref 200 :: st) :=
  fun p e Rm s m args below meth c cells slots Q C H locs ls hP hS hL => va_slen C.1 C.2.1 C.2.2.2.2.2.1.2.2.2.2.2.1 C.2.2.2.2.2.1.2.2.2.2.2.2.1 C.2.2.2.2.2.1.2.2.2.2.2.2.2.1 hS hd (kk p e Rm s m args below meth c cells slots Q C H locs ls hP hS hL)
/-! calls -/
def rm (d : Nat) : Room := { frames := d, cells := 0, slots := 0, locals := 64 * d }
def Qc (G : GT) (R : Option Value × Mm) : Array Value → State → Outcome → State → Prop := fun _ st o t => o = .returned (R.1.map (tv G)) ∧ va_P (g_D G) classes (wsOf G R.2) t.heap ∧ va_F (g_A G) st t
def Pv (G : GT) (M : Mm) (vs : List Value) : Array Value → State → Prop := va_Pc (vs.map (tv G)) (fun U => va_P (g_D G) classes (wsOf G M) U.heap ∧ KK G U)
/-- THE CONTRACT of a method over the virtual world: with the arguments vs and the memory M it ends with R -/
def CM (G : GT) (d : Nat) (y : MethodName) (cy : ByteArray) (nLy : Nat) (rety : Option FieldType) (R : Option Value × Mm) (M : Mm) (vs : List Value) : Prop :=
  Met (g_l G) y (Cond.code y cy nLy rety :: tw) (rm d) (Pv G M vs) (Qc G R) 0 0 (g_A G)
theorem Pv_blind {vs : List Value} : FrameBlind (Pv G M vs) := fun a U g mk h => ⟨h.1, h.2.1, KK.same h.2.2 rfl rfl⟩
theorem CM.of {y : MethodName} {vs : List Value} (hy : plainName y.cls = true) (ho : y.cls = own) (hn : (lg_sl (vs.map (tv G))).length ≤ nL) (hl : lvl G 0 lv = lv_args 0 (vs.map (tv G))) (h : SW G d cc own nL ret R M 0 lv []) : CM G d y cc nL ret R M vs := by
  refine Met.ofW (cc := cc) (maxL := nL) (ret := ret) hy rfl ?_
  intro p e s m args below meth c s₁ B hml hv
  obtain ⟨rfl, hP, hK⟩ := hv
  have hts := atoms_spec (ws := Cond.code y cc nL ret :: tw) B.pre
  have hl2 := lv_entry (vs.map (tv G)) (n := nL) hn
  rw [lg_entry_eq]
  refine h p e _ s m _ below meth c 0 0 _ ⟨B.exec, B.bytes, hml, by rw [← ho]; exact findClass_of_methodNamed B.named, fun w hw => hts w (List.mem_cons_of_mem _ hw), hK, ⟨Nat.le_refl _, Nat.le_refl _, Nat.le_refl _, Nat.le_refl _⟩, ?_⟩ s.heap [] _ hP va_S.rf (by unfold LV; rw [hl]; exact hl2)
  intro H locs ls pc i hP hS hi hd
  have hlocks := B.notSynchronized
  have hr := B.returns
  obtain ⟨v, M2⟩ := R
  have hq : ∀ t : State, t.heap = H → s.WarmedH t.vm → Qc G (v, M2) ((vs.map (tv G)).toArray) s (.returned (v.map (tv G))) t := fun t ht _ => ⟨rfl, by rw [ht]; exact hP, hS.F ht⟩
  rcases hi with ⟨rfl, x, ty, hv, hr2, hn2⟩ | ⟨rfl, x, hv, hr2⟩ | ⟨rfl, hv, hr2⟩ | ⟨rfl, a, n, hv, hr2⟩
  · cases hv
    exact W.zret B.exec B.bytes (hr.trans hr2) hn2 hq hS.2.2 hd
  · cases hv
    exact W.lret B.exec B.bytes (hr.trans hr2) hq hS.2.2 hd
  · cases hv
    exact W.vret B.exec B.bytes (hr.trans hr2) hq hS.2.2 hd
  · cases hv
    exact W.aret B.exec B.bytes (hr.trans hr2) (Or.inl ⟨n, rfl⟩) (Or.inr ⟨_, rfl⟩) hq hS.2.2 hd
/-- own's constant number index is the method y, an instance method of the class number c, of np parameters -/
def LkV (own : String) (index : Nat) (y : MethodName) (cy : ByteArray) (nLy : Nat) (rety : Option FieldType) (c np : Nat) : Prop :=
  c < 10 ∧ y.cls = Rcl c ∧ nLy ≤ 45 ∧ Cond.methodLink own index y ∈ tw ∧ Cond.instanceMethod y ∈ tw ∧ Cond.selects y.cls y y ∈ tw ∧ Cond.initialized y.cls ∈ tw ∧ Cond.code y cy nLy rety ∈ tw ∧ y.cls ≠ "java/lang/invoke/MethodHandle" ∧ y.cls ≠ "java/lang/invoke/VarHandle" ∧ (parseMethodDescriptor y.desc).map (fun d => d.parameters.length) = some np
def LkS (own : String) (index : Nat) (y : MethodName) (cy : ByteArray) (nLy : Nat) (rety : Option FieldType) (np : Nat) : Prop :=
  (Cond.methodLink own index y ∈ tw ∨ ∃ host, Cond.methodLinkNest own index y host ∈ ntw) ∧ nLy ≤ 45 ∧ Cond.static y ∈ tw ∧ Cond.initialized y.cls ∈ tw ∧ Cond.code y cy nLy rety ∈ tw ∧ y.cls ≠ "java/lang/invoke/MethodHandle" ∧ y.cls ≠ "java/lang/invoke/VarHandle" ∧ (parseMethodDescriptor y.desc).map (fun d => d.parameters.length) = some np
theorem good_ct {y : MethodName} {cy : ByteArray} {nLy : Nat} {rety : Option FieldType} (h : Cond.code y cy nLy rety ∈ tw) : GoodIn tw (Cond.code y cy nLy rety :: tw) := fun w hw => (List.mem_cons.mp hw).elim (fun e => e ▸ tw_good _ h) (fun h2 => tw_good w h2)
/-- behind a call -/
theorem r_back {p : Program} {e : Env} {Rm : Room} {s : State} {m : MethodId} {args : Array Value} {below : List Frame} {meth : Method} {c : Code} {cells slots : Nat} {Q : State → Prop} {H : Heap} {locs : List Loc} {ls : Array Slot} {R' : Option Value × Mm} {st0 : List Value} {a : Array Value} (C : Cx G d cc own nL ret R p e Rm s m args below meth c cells slots Q) (hS : va_S (g_A G) s.heap H locs) (hL : LV G ls nL lv)
    (hr : va_Run p (g_l G) e Rm s m args below meth c H locs cells slots 0 0 (F0 m pc ls st0) (st.map (tv G)) (Qc G R' a) (g_A G)) (kk : SW G d cc own nL ret R R'.2 (pc + 3) lv (R'.1.toList ++ st)) : W p (g_l G) e Rm s m args below meth c H locs cells slots Q (F0 m pc ls st0) := by
  intro T hT X
  obtain ⟨v, st₀, t, T', L, h0, X', hL', e1, e2, ⟨hv, hP', hz, hk⟩, st'⟩ := hr T hT X
  obtain ⟨w, M2⟩ := R'
  cases hv
  rw [h0] at hz hk
  have hS' : va_S (g_A G) s.heap T'.heap (locs ++ L) := ⟨Nat.le_trans hS.1 (by rw [e1]; exact hz), fun q h1 h2 => by rw [e1, hk q (Nat.lt_of_lt_of_le h1 hS.1) h2]; exact hS.2.1 q h1 h2, fun q hq => by
      rcases List.mem_append.mp hq with h | h
      · exact hS.2.2 q h
      · exact hL' q h⟩
  have hst : (w.toList ++ st).map (tv G) = (w.map (tv G)).toList ++ st.map (tv G) := by cases w <;> rfl
  have k2 := kk p e Rm s m args below meth c cells slots Q C T'.heap (locs ++ L) ls (by rw [e1]; exact hP') hS' hL
  rw [hst] at k2
  obtain ⟨t2, a1, b1⟩ := k2 T' rfl X'
  exact ⟨t2, st' t2 a1, b1⟩
theorem r_callV {a c n idx d' nLy np : Nat} {y : MethodName} {cy : ByteArray} {rety : Option FieldType} {R' : Option Value × Mm} {st0 : List Value} (As : List Value) (hd : decode cc pc = .ok (.invokevirtual idx, 3)) (hk : LkV own idx y cy nLy rety c np) (hs : sh a = (c, n)) (hM : CM G d' y cy nLy rety R' M (.ref a :: As)) (hdd : d' < d) (hn : As.length = np) (hst : st0 = As.reverse ++ .ref a :: st) (hsz : (st.map fun v => v.category).sum ≤ 8) (kk : SW G d cc own nL ret R R'.2 (pc + 3) lv (R'.1.toList ++ st)) : SW G d cc own nL ret R M pc lv st0 := by
  intro p e Rm s m args below meth co cells slots Q C H locs ls hP hS hL
  obtain ⟨hx, hb, hml, hown, hts, hK, ⟨hr1, hr2, hr3, hr4⟩, hret⟩ := id C
  obtain ⟨hc, hyc, hnL, k1, k2, k3, k4, k5, k6, k7, k8⟩ := hk
  refine r_back (R' := R') C hS hL (va_runV (As := As.map (tv G)) (b := g_ad G a) ⟨hx, hb, hml, hown, hts⟩ hM ⟨callB_of np hts (good_ct k5) rfl rfl rfl (hts _ k4) (hts _ k1) ⟨k6, k7, k8⟩ ⟨by show d' + 1 ≤ _; omega, by show 8 + (nLy + 11) + 64 * d' ≤ _; omega⟩, hts _ k2, hts _ k3⟩ ⟨Pv_blind, ?_, fun U hU hW => ⟨rfl, by rw [hU]; exact hP, KK.go hK hW (hU ▸ hS)⟩⟩ rfl (by simpa using hn) hL.1 (by rw [hst]; simp [tv]) ?_ hd ⟨hr3, hr4⟩) kk
  · rw [hyc]
    exact va_recv hK.1 hP (cl_at hc) (ws_obj (sh_lt hs (by omega)) hs hc)
  · have : ((st.map (tv G)).map fun v => v.category) = st.map fun v => v.category := by
      rw [List.map_map]
      exact List.map_congr_left (fun v _ => tv_cat G v)
    exact lv_room (by rw [this]; exact hsz)
theorem r_callS {idx d' nLy np : Nat} {y : MethodName} {cy : ByteArray} {rety : Option FieldType} {R' : Option Value × Mm} {st0 : List Value} (As : List Value) (hd : decode cc pc = .ok (.invokestatic idx, 3)) (hk : LkS own idx y cy nLy rety np) (hM : CM G d' y cy nLy rety R' M As) (hdd : d' < d) (hn : As.length = np) (hst : st0 = As.reverse ++ st) (hsz : (st.map fun v => v.category).sum ≤ 8) (kk : SW G d cc own nL ret R R'.2 (pc + 3) lv (R'.1.toList ++ st)) : SW G d cc own nL ret R M pc lv st0 := by
  intro p e Rm s m args below meth co cells slots Q C H locs ls hP hS hL
  obtain ⟨hx, hb, hml, hown, hts, hK, ⟨hr1, hr2, hr3, hr4⟩, hret⟩ := id C
  obtain ⟨k1, hnL, k2, k4, k5, k6, k7, k8⟩ := hk
  have hcs : 2 * (F0 m pc ls (st0.map (tv G))).monitorRoom + ((st.map (tv G)).map fun v => v.category).sum ≤ 8 := by
    have : ((st.map (tv G)).map fun v => v.category) = st.map fun v => v.category := by
      rw [List.map_map]
      exact List.map_congr_left (fun v _ => tv_cat G v)
    exact lv_room (by rw [this]; exact hsz)
  have hp : PreS s H (Pv G M As) (As.map (tv G)) := ⟨Pv_blind, fun U hU hW => ⟨rfl, by rw [hU]; exact hP, KK.go hK hW (hU ▸ hS)⟩⟩
  rcases k1 with k1 | ⟨host, k1⟩
  · exact r_back (R' := R') C hS hL (va_runS (As := As.map (tv G)) ⟨hx, hb, hml, hown, hts⟩ hM ⟨callB_of np hts (good_ct k5) rfl rfl rfl (hts _ k4) (hts _ k1) ⟨k6, k7, k8⟩ ⟨by show d' + 1 ≤ _; omega, by show 8 + (nLy + 11) + 64 * d' ≤ _; omega⟩, hts _ k2⟩ hp rfl (by simpa using hn) hL.1 (by rw [hst]; simp) hcs hd ⟨hr3, hr4⟩) kk
  · exact r_back (R' := R') C hS hL (va_runSN (As := As.map (tv G)) (host := host) ⟨hx, hb, hml, hown, hts⟩ hM ⟨va_cnB np hts (good_ct k5) rfl rfl rfl (hK.2.2.2.2.2.2.2.2.1 _ k1) (hts _ k4) ⟨k6, k7, k8⟩ ⟨by show d' + 1 ≤ _; omega, by show 8 + (nLy + 11) + 64 * d' ≤ _; omega⟩, hts _ k2, trivial⟩ hp rfl (by simpa using hn) hL.1 (by rw [hst]; simp) hcs hd ⟨hr3, hr4⟩) kk
end SWR

