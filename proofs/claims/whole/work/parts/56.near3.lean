/-! PURE 37: the reference's nearest town -/
theorem cbN {n t u : Nat} (hn : n < 9) (hu : u < 2 ^ np n) : ctb (fun i => (u &&& (t ^^^ 4294967295)).testBit i) 28 = ctb (fun k => u.testBit k && !(t.testBit k)) (np n) := by
  have h28 := np_le n hn
  have e : ∀ i, np n ≤ i → (fun i => (u &&& (t ^^^ 4294967295)).testBit i) i = false := fun i hi => by
    show (u &&& (t ^^^ 4294967295)).testBit i = false
    rw [Nat.testBit_and, lt_bit hu hi, Bool.false_and]
  rw [ctb_cut h28 e]
  refine ctb_cong (fun i hi => ?_)
  have h32 : i < 32 := by omega
  rw [Nat.testBit_and, Nat.testBit_xor, show (4294967295 : Nat) = 2 ^ 32 - 1 from rfl, Nat.testBit_two_pow_sub_one]
  simp [h32]
theorem mpr_I {N n t u mk dr : Nat} {M : Mm} (hN : 28 < N) (hn : n < 9) (ht : t < 2 ^ np n) (hu : u < 2 ^ np n) (h4 : M.1 49 4 = nI mk) (h5 : M.1 49 5 = nI dr) : f_Mo_priceOf N (nI t) (nI u) M = some (nI (prK t mk dr u (np n))) := by
  have hu31 := np_lt31 hn hu
  have ht31 := np_lt31 hn ht
  unfold f_Mo_priceOf
  rw [m1_I, xo_I, xo_I, an_I, an_I, bits_I hN (Nat.lt_of_le_of_lt Nat.and_le_left hu31), bits_I hN (Nat.lt_of_le_of_lt Nat.and_le_left ht31), bnd_s, bnd_s, h4, h5, pk_mul, pk_mul, nI_add, cbN hn hu, cbN hn ht]
  unfold prK
  rw [ctb_cong (f := fun k => t.testBit k && !(u.testBit k)) (g := fun k => !(u.testBit k) && t.testBit k) (fun k _ => Bool.and_comm _ _)]
theorem mkb_I {n b m u : Nat} {M : Mm} (hn : n < 9) (hb : b < 2 ^ np n) (hm : m < 2 ^ np n) (hu : u < 2 ^ np n) (h2 : M.1 49 2 = nI b) (h3 : M.1 49 3 = nI m) : (KB b m u (np n) → f_Mo_keepsBars (nI u) M = 1) ∧ (¬ KB b m u (np n) → f_Mo_keepsBars (nI u) M = 0) := by
  have hu31 := np_lt31 hn hu
  have hm31 := np_lt31 hn hm
  have h28 := np_le n hn
  have ha : u &&& b < 2 ^ 31 := Nat.lt_of_le_of_lt Nat.and_le_left hu31
  have hc : m &&& (u ^^^ 4294967295) < 2 ^ 31 := Nat.lt_of_le_of_lt Nat.and_le_left hm31
  have q2 : (m &&& (u ^^^ 4294967295) = 0) ↔ (∀ k, k < np n → m.testBit k = true → u.testBit k = true) := by
    rw [and_0]
    constructor
    · intro z k hk hmk
      have z := z k
      rw [Nat.testBit_xor, show (4294967295 : Nat) = 2 ^ 32 - 1 from rfl, Nat.testBit_two_pow_sub_one] at z
      have h32 : k < 32 := by omega
      cases hxk : u.testBit k
      · exact absurd (by simp [hmk, hxk, h32]) z
      · rfl
    · intro z k w
      rw [Nat.testBit_xor, show (4294967295 : Nat) = 2 ^ 32 - 1 from rfl, Nat.testBit_two_pow_sub_one] at w
      by_cases hk : k < np n
      · have h32 : k < 32 := by omega
        have := z k hk w.1
        simp [this, h32] at w
      · rw [lt_bit hm (by omega)] at w; exact absurd w.1 (by decide)
  have q1 := and_0 (a := u) (c := b)
  unfold f_Mo_keepsBars
  rw [h2, h3, an_I, m1_I, xo_I, an_I]
  constructor
  · intro z
    rw [if_pos ((nI0_iff ha).mpr (q1.mpr z.1)), if_pos ((nI0_iff hc).mpr (q2.mpr z.2))]
  · intro z
    by_cases w : u &&& b = 0
    · rw [if_pos ((nI0_iff ha).mpr w), if_neg (fun v => z ⟨q1.mp w, q2.mp ((nI0_iff hc).mp v)⟩)]
    · rw [if_neg (fun v => w ((nI0_iff ha).mp v))]
def rb (k : Nat) : Int32 := if k = INF then -1 else nI (kT k)
def ra (k : Nat) : Int32 := if k = INF then 0 else nI (kA k)
def rp (k : Nat) : Int32 := if k = INF then 0 else nI (kP k)
theorem ky_inf {a p u : Nat} (ha : a < 1000) (hp : p ≤ 504) (hu : u < 1048576) : key a p u < INF := by unfold INF key; omega
theorem fM_s {c : Nat → Nat} {g : Nat → Bool} {k : Nat} : fM c g tt (k + 1) = if g k = true then min (fM c g tt k) (c k) else fM c g tt k := fo_s
theorem mn37 {n t b m mk dr : Nat} {sd : Nat → Nat} (hn : n < 7) (hT : TOK n t b m mk dr sd) : ∀ (d u : Nat) (M : Mm), u + d = 2 ^ np n → MT M n t b m mk dr sd → ∃ M', (∀ N nu ju, 28 < N → d < nu → L_Mo_nearest_37 N ju nu (rb (fM (kyN n t mk dr) (gK b m n) tt u)) (ra (fM (kyN n t mk dr) (gK b m n) tt u)) (rp (fM (kyN n t mk dr) (gK b m n) tt u)) (nI u) M = ju (rb (fM (kyN n t mk dr) (gK b m n) tt (2 ^ np n))) (ra (fM (kyN n t mk dr) (gK b m n) tt (2 ^ np n))) (rp (fM (kyN n t mk dr) (gK b m n) tt (2 ^ np n))) M') ∧ ∀ a j, a ≠ 51 → M'.1 a j = M.1 a j := by
  have hn9 : n < 9 := by omega
  have h15 : 2 ^ np n ≤ 2 ^ 15 := Nat.pow_le_pow_right (by decide) (np6 n hn)
  have hpw : (1 : Int32) <<< (f_Mo_pairs (nI n) &&& 31) = nI (2 ^ np n) := by rw [prs_I hn9, one_sl (by have := np6 n hn; omega)]
  intro d
  induction d with
  | zero =>
    intro u M hu hM
    have hu : u = 2 ^ np n := by omega
    subst hu
    refine ⟨M, fun N nu ju hN hnu => ?_, fun _ _ _ => rfl⟩
    obtain ⟨nu, rfl⟩ : ∃ v, nu = v + 1 := ⟨nu - 1, by omega⟩
    rw [L_Mo_nearest_37, hM.1, hpw, if_pos (nI_le (Nat.le_refl _) (by omega))]
  | succ d ih =>
    intro u M hu hM
    have hul : u < 2 ^ np n := by omega
    have hu31 : u < 2 ^ 31 := by omega
    have hs := fM_s (c := kyN n t mk dr) (g := gK b m n) (k := u)
    have hkb := mkb_I (M := M) hn9 hT.2.2.1 hT.2.2.2.1 hul hM.2.2.1 hM.2.2.2.1
    by_cases hg : gK b m n u = true
    · rw [if_pos hg] at hs
      generalize hC : cnM n u (np n) M = C
      have oC : ∀ a j, a ≠ 51 → C.1 a j = M.1 a j := fun a j q => by rw [← hC, cn_off q]
      have hMC : MT C n t b m mk dr sd := hM.ag (fun a j q => by
        simp only [uMT, Bool.or_eq_true, Bool.and_eq_true, beq_iff_eq, decide_eq_true_eq] at q
        exact oC a j (by omega))
      obtain ⟨M', a1, a2⟩ := ih (u + 1) C (by omega) hMC
      refine ⟨M', fun N nu ju hN hnu => ?_, fun a j q => (a2 a j q).trans (oC a j q)⟩
      obtain ⟨nu, rfl⟩ : ∃ v, nu = v + 1 := ⟨nu - 1, by omega⟩
      have h := a1 N nu ju hN (by omega)
      have hal : alN n u < 1000 := alN_le hn9
      have hpl : prK t mk dr u (np n) ≤ 504 := pr_all hT (np_le n hn9)
      have hu20 : u < 1048576 := by omega
      have hky : kyN n t mk dr u = key (alN n u) (prK t mk dr u (np n)) u := rfl
      have hpr := mpr_I (M := C) hN hn9 hT.2.1 hul hMC.2.2.2.2.1 hMC.2.2.2.2.2.1
      have hatt := mn_att (c := kyN n t mk dr) (V := fun t => tt t && gK b m n t) u
      rw [L_Mo_nearest_37, hM.1, hpw, if_neg (nI_ge hul (by omega)), hkb.1 (gK_t.mp hg)]
      dsimp only [lt]
      rw [if_neg h10, ai_I (by omega) hn9 hu31, bnd_s]
      dsimp only
      rw [hC, hMC.2.1, hpr, bnd_s, nI_1]
      rw [hky] at hs
      generalize alN n u = al at *
      generalize prK t mk dr u (np n) = pr at *
      have hkI : fM (kyN n t mk dr) (gK b m n) tt u ≤ INF := mn_inf _
      have hkc : fM (kyN n t mk dr) (gK b m n) tt u = INF ∨ kT (fM (kyN n t mk dr) (gK b m n) tt u) < u := by
        rcases hatt with q | ⟨u', q1, q2, q3⟩
        · exact Or.inl q
        · right
          have q3 : fM (kyN n t mk dr) (gK b m n) tt u = kyN n t mk dr u' := q3
          rw [q3]
          unfold kyN
          rw [kT_k (by omega)]
          exact q1
      generalize fM (kyN n t mk dr) (gK b m n) tt u = k at *
      generalize fM (kyN n t mk dr) (gK b m n) tt (u + 1) = k2 at *
      have hki := ky_inf hal hpl hu20
      have new : k2 = key al pr u → rb k2 = nI u ∧ ra k2 = nI al ∧ rp k2 = nI pr := fun e => by
        have ne : ¬ k2 = INF := by omega
        unfold rb ra rp
        rw [if_neg ne, if_neg ne, if_neg ne, e, kT_k hu20, kA_k (by omega) hu20, kP_k (by omega) hu20]
        exact ⟨rfl, rfl, rfl⟩
      by_cases hk : k = INF
      · have e2 : k2 = key al pr u := by rw [hs, hk]; exact Nat.min_eq_right (by omega)
        obtain ⟨n1, n2, n3⟩ := new e2
        rw [n1, n2, n3] at h
        unfold rb ra rp
        rw [if_pos hk, if_pos hk, if_pos hk, if_pos (show (-1 : Int32) < 0 by decide), if_pos (show (-1 : Int32) < 0 by decide), if_neg h10, if_neg h10, if_neg h10]
        exact h
      · obtain ⟨k1, k3, k4⟩ := k_bd hkI
        have hkT : kT k < u := hkc.resolve_left hk
        have hkl := key_lt (a := al) (p := pr) (t := u) (k := k) (by omega) hu20
        have keep : ¬ key al pr u < k → L_Mo_nearest_37 N ju nu (nI (kT k)) (nI (kA k)) (nI (kP k)) (nI (u + 1)) C = ju (rb (fM (kyN n t mk dr) (gK b m n) tt (2 ^ np n))) (ra (fM (kyN n t mk dr) (gK b m n) tt (2 ^ np n))) (rp (fM (kyN n t mk dr) (gK b m n) tt (2 ^ np n))) M' := fun z => by
          have e2 : k2 = k := by rw [hs]; exact Nat.min_eq_left (by omega)
          rw [e2] at h
          unfold rb ra rp at h ⊢
          rw [if_neg hk, if_neg hk, if_neg hk] at h
          exact h
        have chg : key al pr u < k → L_Mo_nearest_37 N ju nu (nI u) (nI al) (nI pr) (nI (u + 1)) C = ju (rb (fM (kyN n t mk dr) (gK b m n) tt (2 ^ np n))) (ra (fM (kyN n t mk dr) (gK b m n) tt (2 ^ np n))) (rp (fM (kyN n t mk dr) (gK b m n) tt (2 ^ np n))) M' := fun z => by
          have e2 : k2 = key al pr u := by rw [hs]; exact Nat.min_eq_right (by omega)
          obtain ⟨n1, n2, n3⟩ := new e2
          rw [n1, n2, n3] at h
          exact h
        have r1 : rb k = nI (kT k) := if_neg hk
        have r2 : ra k = nI (kA k) := if_neg hk
        have r3 : rp k = nI (kP k) := if_neg hk
        rw [r1, r2, r3, if_neg (nI_pos (by omega)), if_neg (nI_pos (by omega))]
        by_cases c1 : al ≤ kA k
        · rw [if_pos (nI_le c1 (by omega))]
          by_cases c2 : al < kA k
          · rw [if_pos (nI_lt c2 (by omega)), if_neg h10, if_neg h10, if_neg h10]
            exact chg (hkl.mpr (Or.inl c2))
          · have c3 : al = kA k := by omega
            rw [if_neg (nI_nlt (by omega) (by omega)), if_pos (by rw [c3])]
            by_cases c4 : kP k ≤ pr
            · rw [if_pos (nI_le c4 (by omega)), if_pos rfl, if_pos rfl, if_pos rfl]
              exact keep (fun z => by have := hkl.mp z; omega)
            · rw [if_neg (nI_ge (by omega) (by omega)), if_neg h10, if_neg h10, if_neg h10]
              exact chg (hkl.mpr (Or.inr ⟨c3, Or.inl (by omega)⟩))
        · rw [if_neg (nI_ge (by omega) (by omega)), if_neg (show ¬ nI (kT k) < 0 from nI_pos (by omega)), if_neg (show ¬ nI al < nI (kA k) from nI_nlt (by omega) (by omega)), if_neg (show ¬ nI al = nI (kA k) from fun z => c1 (by have := (nI_eq (by omega) (by omega)).mp z; omega)), if_pos rfl, if_pos rfl, if_pos rfl]
          exact keep (fun z => by have := hkl.mp z; omega)
    · rw [if_neg hg] at hs
      obtain ⟨M', a1, a2⟩ := ih (u + 1) M (by omega) hM
      refine ⟨M', fun N nu ju hN hnu => ?_, a2⟩
      obtain ⟨nu, rfl⟩ : ∃ v, nu = v + 1 := ⟨nu - 1, by omega⟩
      have h := a1 N nu ju hN (by omega)
      rw [L_Mo_nearest_37, hM.1, hpw, if_neg (nI_ge hul (by omega)), hkb.2 (fun z => hg (gK_t.mpr z))]
      dsimp only [lt]
      rw [if_pos rfl, nI_1]
      rw [hs] at h
      exact h
theorem q_nearest {M : Mm} (h : Rel M) (x : Int32) : ∃ (r : Int32) (M1 M2 : Mm), (∀ N, 40000 < N → f_Uc_nearest N x M = some (r, M1) ∧ f_Mo_nearest N x M1 = some (r, M2)) ∧ Rel M2 := by
  have hh := h
  obtain ⟨n, t, b, m, mk, dr, sd, hP⟩ := h
  obtain ⟨h1, h2, h3, -⟩ := id hP
  have hn := h1.1
  by_cases bad : x < 0 ∨ ¬ x ≤ 2
  · refine ⟨-1000000002, M, M, fun N hN => ?_, hh⟩
    unfold f_Uc_nearest f_Mo_nearest
    rw [show (0 : Int64) = (0 : Int32).toInt64 from rfl, show (2 : Int64) = (2 : Int32).toInt64 from rfl, in_if]
    by_cases z1 : x < 0
    · rw [if_pos z1, if_pos z1]; exact ⟨rfl, rfl⟩
    have z2 : ¬ x ≤ 2 := bad.resolve_left z1
    rw [if_neg z1, if_neg z1, if_neg z2, if_pos (nle_I.mp z2)]
    exact ⟨rfl, rfl⟩
  · have z1 : ¬ x < 0 := fun q => bad (Or.inl q)
    have z2 : x ≤ 2 := Classical.byContradiction (fun q => bad (Or.inr q))
    by_cases z : n < 7
    · have h15 : 2 ^ np n ≤ 2 ^ 15 := Nat.pow_le_pow_right (by decide) (np6 n z)
      obtain ⟨M1, a1, a2, a3, a4, a5⟩ := fne_I z h1 h2
      have hS := Same.se a5
      have g3 := h3.same hS
      obtain ⟨M2, c1, c2⟩ := mn37 z h1 (2 ^ np n) 0 M1 (by omega) g3
      have hlt : fM (kyN n t mk dr) (gK b m n) tt (2 ^ np n) < INF := by
        have hKB : gK b m n t = true := gK_t.mpr ⟨h1.2.2.2.2.1, fun k _ hm => h1.2.2.2.2.2.1 k hm⟩
        have e1 : fM (kyN n t mk dr) (gK b m n) tt (2 ^ np n) ≤ kyN n t mk dr t := mn_le h1.2.1 (by rw [hKB]; rfl)
        have e2 : kyN n t mk dr t < INF := ky_inf (alN_le hn) (pr_all h1 (np_le n hn)) (by have := lt15 z h1.2.1; omega)
        omega
      generalize fM (kyN n t mk dr) (gK b m n) tt (2 ^ np n) = k at *
      have ne : ¬ k = INF := by omega
      have r1 : rb k = nI (kT k) := if_neg ne
      have r2 : ra k = nI (kA k) := if_neg ne
      have r3 : rp k = nI (kP k) := if_neg ne
      have s6 : nI n ≤ 6 := nI_le (b := 6) (by omega) (by decide)
      refine ⟨if x = 0 then nI (kA k) else if x = 1 then nI (kP k) else nI (kT k), M1, M2, fun N hN => ⟨?_, ?_⟩, hh.same (hS.tr (fun a j r => c2 a j (fun e => by rw [e] at r; cases r)))⟩
      · unfold f_Uc_nearest
        rw [if_neg z1, if_pos z2, h2.1, if_pos s6, a1 N (by omega), bnd_s, a2, a3, a4]
        by_cases e0 : x = 0
        · rw [if_pos e0, if_pos e0]
        · rw [if_neg e0, if_neg e0]
          by_cases e1 : x = 1
          · rw [if_pos e1, if_pos e1]
          · rw [if_neg e1, if_neg e1]
      · unfold f_Mo_nearest
        rw [show (0 : Int64) = (0 : Int32).toInt64 from rfl, show (2 : Int64) = (2 : Int32).toInt64 from rfl, in_if, if_neg z1, if_neg (nlt_I.mpr z2), g3.1, if_pos s6]
        dsimp only [lt]
        refine (c1 N N _ (by omega) (by omega)).trans ?_
        rw [r1, r2, r3]
        by_cases e0 : x = 0
        · rw [if_pos e0, if_pos e0]
        · rw [if_neg e0, if_neg e0]
          by_cases e1 : x = 1
          · rw [if_pos e1, if_pos e1]
          · rw [if_neg e1, if_neg e1]
    · have s6 : ¬ nI n ≤ 6 := nI_ge (a := 6) (by omega) (by omega)
      refine ⟨-1000000003, M, M, fun N hN => ⟨?_, ?_⟩, hh⟩
      · unfold f_Uc_nearest
        rw [if_neg z1, if_pos z2, h2.1, if_neg s6]
      · unfold f_Mo_nearest
        rw [show (0 : Int64) = (0 : Int32).toInt64 from rfl, show (2 : Int64) = (2 : Int32).toInt64 from rfl, in_if, if_neg z1, if_neg (nlt_I.mpr z2), h3.1, if_neg s6]
