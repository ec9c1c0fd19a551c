theorem CM.ofF {G : GT} {d : Nat} {cc : ByteArray} {own : String} {nL : Nat} {ret : Option FieldType} {R : Option Value × Mm} {M : Mm} {lv : List (Option Value)} {y : MethodName} {vs : List Value} (hy : plainFor y = true) (ho : y.cls = own) (hn : (lg_sl (vs.map (tv G))).length ≤ nL) (hl : lvl G 0 lv = lv_args 0 (vs.map (tv G))) (h : SW G d cc own nL ret R M 0 lv []) : CM G d y cc nL ret R M vs := by
  refine va_MetF (cc := cc) (maxL := nL) (ret := ret) hy rfl ?_
  intro p e s m args below meth c s₁ B hml hv
  obtain ⟨rfl, hP, hK⟩ := hv
  have hts := atoms_spec (ws := Cond.code y cc nL ret :: tw) B.pre
  have hl2 := lv_entry (vs.map (tv G)) (n := nL) hn
  rw [lg_entry_eq]
  refine h p e _ s m _ below meth c 0 0 _ ⟨B.exec, B.bytes, hml, by rw [← ho]; exact findClass_of_methodNamed B.named, fun w hw => hts w (List.mem_cons_of_mem _ hw), hK, ⟨Nat.le_refl _, Nat.le_refl _, Nat.le_refl _, Nat.le_refl _⟩, ?_⟩ s.heap [] _ hP va_S.rf (by unfold LV; rw [hl]; exact hl2)
  intro H locs ls pc i hP hS hi hd
  have hlocks := B.notSynchronized
  have hr := B.returns
  obtain ⟨v, M2⟩ := R
  have hq : ∀ t : State, t.heap = H → s.WarmedH t.vm → Qc G (v, M2) ((vs.map (tv G)).toArray) s (.returned (v.map (tv G))) t := fun t ht _ => ⟨rfl, by rw [ht]; exact hP, hS.F ht⟩
  rcases hi with ⟨rfl, x, ty, hv, hr2, hn2⟩ | ⟨rfl, x, hv, hr2⟩ | ⟨rfl, hv, hr2⟩ | ⟨rfl, a, n, hv, hr2⟩
  · cases hv
    exact W.zret B.exec B.bytes (hr.trans hr2) hn2 hq hS.2.2 hd
  · cases hv
    exact W.lret B.exec B.bytes (hr.trans hr2) hq hS.2.2 hd
  · cases hv
    exact W.vret B.exec B.bytes (hr.trans hr2) hq hS.2.2 hd
  · cases hv
    exact W.aret B.exec B.bytes (hr.trans hr2) (Or.inl ⟨n, rfl⟩) (Or.inr ⟨_, rfl⟩) hq hS.2.2 hd
