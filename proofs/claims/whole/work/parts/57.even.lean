/-! PURE 38: the class's search for an even town -/
def kyE (n t mk dr u : Nat) : Nat := key 0 (prK t mk dr u (np n)) u
noncomputable def gE (b m n e0 u : Nat) : Bool := gK b m n u && g0 n (fun _ => e0) u
theorem even_node {n t b m mk dr e0 : Nat} {sd : Nat → Nat} {Mb : Mm} (hn : n < 7) (hT : TOK n t b m mk dr sd) (hS : SS n t b m mk dr sd Mb) (he0 : e0 < 6) : ∀ (d p x : Nat) (V : Nat → Bool), p + d = n → x < 2 ^ pr0 n p → KB b m x (pr0 n p) → cof n (fun _ => e0) x p = 0 → (∀ u, u < 2 ^ np n → ext n p x u = true → V u = false) → ∀ N dd, 100 < N → d < dd → f_Se_evenFrom N dd (nI p) (nI x) (nI e0) (neM (fM (kyE n t mk dr) (gE b m n e0) V (2 ^ np n)) Mb) = some (neM (fM (kyE n t mk dr) (gE b m n e0) (fun u => V u || ext n p x u) (2 ^ np n)) Mb) := by
  have hn9 : n < 9 := by omega
  intro d
  induction d with
  | zero =>
    intro p x V hp hx hB hcf hV N dd hN hdd
    obtain ⟨dd, rfl⟩ : ∃ v, dd = v + 1 := ⟨dd - 1, by omega⟩
    have hp : p = n := by omega
    subst hp
    have hx2 : x < 2 ^ np p := by rw [← pr_end p hn9]; exact hx
    have hB2 : gE b m p e0 x = true := by
      unfold gE
      rw [Bool.and_eq_true]
      exact ⟨gK_t.mpr (by rw [← pr_end p hn9]; exact hB), by simp [g0, hcf]⟩
    have hI : fM (kyE p t mk dr) (gE b m p e0) V (2 ^ np p) ≤ INF := mn_inf _
    have htk := take_I (a := 0) hn hT hS hx2 (by decide) hI
    rw [f_Se_evenFrom, (SS.ne hS).1, if_neg (nI_nlt (Nat.le_refl p) (by omega)), show (0 : Int32) = nI 0 from rfl, htk, bnd_s, fM_leaf hn9 hx2 (hV x hx2 (by rw [ext_n hn9 hx2]; simp)) hB2]
    rfl
  | succ d ih =>
    intro p x V hp hx hB hcf hV N dd hN hdd
    obtain ⟨dd, rfl⟩ : ∃ v, dd = v + 1 := ⟨dd - 1, by omega⟩
    have hpn : p < n := by omega
    have hK := pr_next n hn9 p hpn
    have hK1 := pr_lt1 hn (show p + 1 < n + 1 by omega)
    have hnp : pr0 n (p + 1) ≤ np n := pr_np n hn9 (p + 1) (by omega)
    have loop : ∀ (e row nu : Nat), row + e = 2 ^ (n - 1 - p) → e < nu → L_Se_evenFrom_25 N (nI p) (nI x) (nI e0) (nI (2 ^ (n - 1 - p))) (f_Se_evenFrom N dd) nu (nI row) (neM (fM (kyE n t mk dr) (gE b m n e0) (fun u => V u || (ext n p x u && decide (u / 2 ^ pr0 n p % 2 ^ (n - 1 - p) < row))) (2 ^ np n)) Mb) = some (neM (fM (kyE n t mk dr) (gE b m n e0) (fun u => V u || ext n p x u) (2 ^ np n)) Mb) := by
      have hpw : 2 ^ (n - 1 - p) ≤ 2 ^ 5 := Nat.pow_le_pow_right (by decide) (by omega)
      intro e
      induction e with
      | zero =>
        intro row nu hrow hnu
        obtain ⟨nu, rfl⟩ : ∃ v, nu = v + 1 := ⟨nu - 1, by omega⟩
        have hrow : row = 2 ^ (n - 1 - p) := by omega
        subst hrow
        rw [L_Se_evenFrom_25, if_pos (nI_le (Nat.le_refl _) (by omega))]
        rw [fM_cong (W := fun u => V u || ext n p x u) (fun u _ => by
          have : u / 2 ^ pr0 n p % 2 ^ (n - 1 - p) < 2 ^ (n - 1 - p) := Nat.mod_lt _ (Nat.two_pow_pos _)
          simp [this])]
      | succ e ihe =>
        intro row nu hrow hnu
        obtain ⟨nu, rfl⟩ : ∃ v, nu = v + 1 := ⟨nu - 1, by omega⟩
        have hrl : row < 2 ^ (n - 1 - p) := by omega
        have ih2 := ihe (row + 1) nu (by omega) (by omega)
        generalize hV' : (fun u => V u || (ext n p x u && decide (u / 2 ^ pr0 n p % 2 ^ (n - 1 - p) < row))) = V'
        have hK2 : pr0 n p + (n - 1 - p) = pr0 n (p + 1) := by omega
        have hpK : 2 ^ pr0 n p * 2 ^ (n - 1 - p) = 2 ^ pr0 n (p + 1) := by rw [← Nat.pow_add, hK2]
        have hp15 : 2 ^ pr0 n (p + 1) ≤ 2 ^ 15 := Nat.pow_le_pow_right (by decide) hK1
        have hrm : row * 2 ^ pr0 n p + 2 ^ pr0 n p ≤ 2 ^ pr0 n (p + 1) := by
          rw [← hpK, Nat.mul_comm (2 ^ pr0 n p), ← Nat.succ_mul]
          exact Nat.mul_le_mul hrl (Nat.le_refl _)
        have hx' : x + row * 2 ^ pr0 n p < 2 ^ pr0 n (p + 1) := by omega
        have hext : ∀ u, ext n (p + 1) (x + row * 2 ^ pr0 n p) u = (ext n p x u && decide (u / 2 ^ pr0 n p % 2 ^ (n - 1 - p) = row)) := fun u => by
          unfold ext
          rw [← hK2]
          have := ext_split (t := u) hx hrl
          by_cases q : u % 2 ^ (pr0 n p + (n - 1 - p)) = x + row * 2 ^ pr0 n p
          · simp [q, this.mp q]
          · have q2 := fun z => q (this.mpr z)
            by_cases q3 : u % 2 ^ pr0 n p = x
            · have q4 : ¬ u / 2 ^ pr0 n p % 2 ^ (n - 1 - p) = row := fun z => q2 ⟨q3, z⟩
              simp [q, q4]
            · simp [q, q3]
        have hup : fM (kyE n t mk dr) (gE b m n e0) (fun u => V' u || ext n (p + 1) (x + row * 2 ^ pr0 n p) u) (2 ^ np n) = fM (kyE n t mk dr) (gE b m n e0) (fun u => V u || (ext n p x u && decide (u / 2 ^ pr0 n p % 2 ^ (n - 1 - p) < row + 1))) (2 ^ np n) := fM_cong (fun u _ => by
          rw [hext, ← hV']
          exact vb_up _ _ _ _)
        have hxb : ∀ k, k < pr0 n p → (x + row * 2 ^ pr0 n p).testBit k = x.testBit k := mod_bits (by rw [Nat.add_mul_mod_self_right, Nat.mod_eq_of_lt hx])
        have ho1 := (of_agr (sd := fun _ => e0) hn (show p ≤ n by omega) hxb).2
        have hnx := nx_I (row := row) hx (by omega) (by omega)
        generalize hX : x + row * 2 ^ pr0 n p = x' at *
        have hx15 : x' < 2 ^ 15 := by omega
        have hkI : fM (kyE n t mk dr) (gE b m n e0) V' (2 ^ np n) ≤ INF := mn_inf _
        generalize hkk : fM (kyE n t mk dr) (gE b m n e0) V' (2 ^ np n) = kk at *
        have hSM : SS n t b m mk dr sd (neM kk Mb) := SS.ne hS
        have hset := set_I hSM hn hpn
        have hkb := kb_I (x := x') hSM hK1 hx15 hset
        have hpr := prT2 (x := x') hSM hK1 hx15 hset
        have hprl : prK t mk dr x' (pr0 n (p + 1)) ≤ 504 := pr_all hT (by omega)
        have hdl : dgr n x' p ≤ n := dgr_le
        obtain ⟨k1, k2, k3⟩ := k_bd hkI
        have step : L_Se_evenFrom_25 N (nI p) (nI x) (nI e0) (nI (2 ^ (n - 1 - p))) (f_Se_evenFrom N dd) (nu + 1) (nI row) (neM kk Mb) = if nI (dgr n x' p) = nI e0 then (f_Se_keepsBars (nI x') (nI p) (neM kk Mb)).bind fun vu11 => if vu11 = 0 then L_Se_evenFrom_25 N (nI p) (nI x) (nI e0) (nI (2 ^ (n - 1 - p))) (f_Se_evenFrom N dd) nu (nI (row + 1)) (neM kk Mb) else if nI (kP kk) < nI (prK t mk dr x' (pr0 n (p + 1))) then L_Se_evenFrom_25 N (nI p) (nI x) (nI e0) (nI (2 ^ (n - 1 - p))) (f_Se_evenFrom N dd) nu (nI (row + 1)) (neM kk Mb) else (f_Se_evenFrom N dd (nI (p + 1)) (nI x') (nI e0) (neM kk Mb)).bind fun vu15 => L_Se_evenFrom_25 N (nI p) (nI x) (nI e0) (nI (2 ^ (n - 1 - p))) (f_Se_evenFrom N dd) nu (nI (row + 1)) vu15 else L_Se_evenFrom_25 N (nI p) (nI x) (nI e0) (nI (2 ^ (n - 1 - p))) (f_Se_evenFrom N dd) nu (nI (row + 1)) (neM kk Mb) := by
          rw [L_Se_evenFrom_25, if_neg (nI_ge (by omega) (by omega)), if_pos (inb_nI (show p < 7 by omega) (by decide))]
          dsimp only [lt]
          rw [ix_nI (show p < 2 ^ 31 by omega), hSM.2.2.2.2.2.2.2.1 p (by omega), hnx, cin_I hSM hn hpn hx15, bnd_s, hpr, bnd_s, ne_11, nI_1, nI_1]
        have skip : (∀ u, u < 2 ^ np n → ext n (p + 1) x' u = true → gE b m n e0 u = true → kk ≤ kyE n t mk dr u) → L_Se_evenFrom_25 N (nI p) (nI x) (nI e0) (nI (2 ^ (n - 1 - p))) (f_Se_evenFrom N dd) nu (nI (row + 1)) (neM kk Mb) = some (neM (fM (kyE n t mk dr) (gE b m n e0) (fun u => V u || ext n p x u) (2 ^ np n)) Mb) := by
          intro hsk
          have := fM_prune (c := kyE n t mk dr) (g := gE b m n e0) (V := V') (n := n) (p := p + 1) (x := x') (by rw [hkk]; exact hsk)
          rw [hkk, hup] at this
          rw [← this]
          exact ih2
        have hcx : cof n (fun _ => e0) x' (p + 1) = cof n (fun _ => e0) x' p + (if decide (dgr n x' p ≠ e0) = true then 1 else 0) := rfl
        rw [step]
        by_cases qD : dgr n x' p = e0
        · rw [if_pos (by rw [qD])]
          by_cases qB : KB b m x' (pr0 n (p + 1))
          · rw [hkb.1 qB, bnd_s, if_neg h10]
            by_cases qW : kP kk < prK t mk dr x' (pr0 n (p + 1))
            · rw [if_pos (nI_lt qW (by omega))]
              refine skip (fun u hu he hg => ?_)
              have hb := mod_bits (of_decide_eq_true he)
              have h4 : prK t mk dr x' (pr0 n (p + 1)) ≤ prK t mk dr u (np n) := by
                rw [← prK_agr hb]
                exact prK_mono hnp
              have h5 : prK t mk dr u (np n) ≤ 504 := pr_all hT (np_le n hn9)
              have hu20 : u < 1048576 := by have := lt15 hn hu; omega
              have hA : kA kk = 0 := by
                rcases mn_att (c := kyE n t mk dr) (V := fun t => V' t && gE b m n e0 t) (2 ^ np n) with q | ⟨u', q1, q2, q3⟩
                · have q : kk = INF := hkk.symm.trans q
                  have : kP kk = 1000000 := by rw [q]; exact kP_k (by decide) (by decide)
                  omega
                · have q3 : kk = kyE n t mk dr u' := hkk.symm.trans q3
                  have h6 : prK t mk dr u' (np n) ≤ 504 := pr_all hT (np_le n hn9)
                  rw [q3]
                  exact kA_k (by omega) (by have := lt15 hn q1; omega)
              refine Nat.le_of_not_lt (fun z => ?_)
              have := (key_lt (a := 0) (p := prK t mk dr u (np n)) (t := u) (by omega) hu20).mp z
              omega
            · have hnode := ih (p + 1) x' V' (by omega) hx' qB (by rw [hcx, ho1, hcf]; simp [qD]) (fun u hu he => by
                rw [hext] at he
                have h1 : ext n p x u = true := by
                  cases hq : ext n p x u
                  · rw [hq] at he; cases he
                  · rfl
                have h2 : u / 2 ^ pr0 n p % 2 ^ (n - 1 - p) = row := by
                  rw [h1, Bool.true_and] at he
                  exact of_decide_eq_true he
                rw [← hV']
                show (V u || (ext n p x u && decide (u / 2 ^ pr0 n p % 2 ^ (n - 1 - p) < row))) = false
                rw [hV u hu h1, h2]
                simp) N dd hN (by omega)
              rw [hkk] at hnode
              rw [if_neg (nI_nlt (by omega) (by omega)), hnode, bnd_s, hup]
              exact ih2
          · rw [hkb.2 qB, bnd_s, if_pos rfl]
            refine skip (fun u hu he hg => ?_)
            unfold gE at hg
            rw [Bool.and_eq_true] at hg
            exact absurd (KB_down (gK_t.mp hg.1) hnp hx' (mod_bits (of_decide_eq_true he))) qB
        · rw [if_neg (fun z => qD ((nI_eq (by omega) (by omega)).mp z))]
          refine skip (fun u hu he hg => ?_)
          unfold gE at hg
          rw [Bool.and_eq_true] at hg
          have h1 := of_decide_eq_true hg.2
          have h2 := (of_agr (sd := fun _ => e0) hn (show p + 1 ≤ n by omega) (mod_bits (of_decide_eq_true he))).2
          have h3 := cof_mono (n := n) (sd := fun _ => e0) (x := u) (p := p + 1) (d := n - (p + 1))
          rw [show p + 1 + (n - (p + 1)) = n by omega] at h3
          have h4 : cof n (fun _ => e0) x' (p + 1) = cof n (fun _ => e0) x' p + 1 := by rw [hcx]; simp [qD]
          omega
    rw [f_Se_evenFrom, (SS.ne hS).1, if_pos (nI_lt hpn (by omega))]
    dsimp only [lt]
    rw [rows_I (SS.ne hS) hn hpn]
    have h0 := loop (2 ^ (n - 1 - p)) 0 N (by omega) (by
      have : 2 ^ (n - 1 - p) ≤ 2 ^ 5 := Nat.pow_le_pow_right (by decide) (by omega)
      omega)
    rw [fM_cong (W := V) (fun u _ => by simp)] at h0
    exact h0
theorem fM_small {n t b m mk dr e0 K : Nat} {sd : Nat → Nat} {V : Nat → Bool} (hn : n < 7) (hT : TOK n t b m mk dr sd) (hK : K ≤ 2 ^ np n) : fM (kyE n t mk dr) (gE b m n e0) V K = INF ∨ ∃ u, u < K ∧ fM (kyE n t mk dr) (gE b m n e0) V K = key 0 (prK t mk dr u (np n)) u := by
  rcases mn_att (c := kyE n t mk dr) (V := fun t => V t && gE b m n e0 t) K with q | ⟨u', q1, q2, q3⟩
  · exact Or.inl q
  · exact Or.inr ⟨u', q1, q3⟩
theorem fev_I {n t b m mk dr e0 : Nat} {sd : Nat → Nat} {M : Mm} (hn : n < 7) (hT : TOK n t b m mk dr sd) (h : CT M 1 n t b m mk dr sd) (he0 : e0 < 6) : ∃ M1, (∀ N, 100 < N → f_Se_findEven N 1 (nI e0) M = some M1) ∧ M1.1 20 11 = (if fM (kyE n t mk dr) (gE b m n e0) tt (2 ^ np n) = INF then -1 else nI (kP (fM (kyE n t mk dr) (gE b m n e0) tt (2 ^ np n)))) ∧ M1.1 20 12 = (if fM (kyE n t mk dr) (gE b m n e0) tt (2 ^ np n) = INF then -1 else nI (kT (fM (kyE n t mk dr) (gE b m n e0) tt (2 ^ np n)))) ∧ ∀ a j, ¬ (20 ≤ a ∧ a ≤ 23) → M1.1 a j = M.1 a j := by
  obtain ⟨Mb, b1', b2, ⟨b3, b4, b5, -⟩, b7⟩ := beg_I hn hT h
  have p00 : pr0 n 0 = 0 := by unfold pr0; simp
  have key := even_node (Mb := Mb) (e0 := e0) hn hT b2 he0 n 0 0 (fun _ => false) (by omega) (Nat.two_pow_pos _) ⟨fun k z => by rw [Nat.zero_testBit] at z; exact absurd z.1 (by decide), fun k hk => by rw [p00] at hk; omega⟩ rfl (fun _ _ _ => rfl)
  have e00 : fM (kyE n t mk dr) (gE b m n e0) (fun _ => false) (2 ^ np n) = INF := fo_none (fun _ _ => rfl)
  have eV : fM (kyE n t mk dr) (gE b m n e0) (fun u => false || ext n 0 0 u) (2 ^ np n) = fM (kyE n t mk dr) (gE b m n e0) tt (2 ^ np n) := fM_cong (fun u _ => by
    unfold ext tt
    rw [p00]
    simp [Nat.mod_one])
  have hsm := fM_small (b := b) (m := m) (e0 := e0) (V := tt) hn hT (Nat.le_refl (2 ^ np n))
  rw [e00, eV, ne_self b3 b4 b5] at key
  generalize fM (kyE n t mk dr) (gE b m n e0) tt (2 ^ np n) = k at *
  have fin : ∀ N, 100 < N → f_Se_findEven N 1 (nI e0) M = if nI (kP k) = 1000000 then some (si (si (neM k Mb) 20 11 (-1)) 20 12 (-1)) else some (neM k Mb) := fun N hN => by
    unfold f_Se_findEven
    have k2 : f_Se_evenFrom N 20 0 0 (nI e0) Mb = some (neM k Mb) := key N 20 hN (by omega)
    rw [b1' N (by omega), bnd_s, k2, bnd_s, ne_11]
    rfl
  by_cases hk : k = INF
  · have hP : nI (kP k) = 1000000 := by rw [hk, show kP INF = 1000000 from kP_k (by decide) (by decide)]; rfl
    refine ⟨si (si (neM k Mb) 20 11 (-1)) 20 12 (-1), fun N hN => by rw [fin N hN, if_pos hP], ?_, ?_, fun a j q => ?_⟩
    · rw [si_k _ _ (by decide), si_s, if_pos hk]
    · rw [si_s, if_pos hk]
    · rw [si_a _ _ (by omega), si_a _ _ (by omega), ne_off (by omega), b7 a j q]
  · obtain ⟨u, hu, ek⟩ := hsm.resolve_left hk
    have hpl : prK t mk dr u (np n) ≤ 504 := pr_all hT (np_le n hT.1)
    have hP : kP k ≤ 504 := by rw [ek, kP_k (by omega) (by have := lt15 hn hu; omega)]; exact hpl
    have hP2 : ¬ nI (kP k) = 1000000 := fun z => by have := (nI_eq (b := 1000000) (by omega) (by decide)).mp z; omega
    refine ⟨neM k Mb, fun N hN => by rw [fin N hN, if_neg hP2], ?_, ?_, fun a j q => ?_⟩
    · rw [ne_11, if_neg hk]
    · rw [ne_12, if_neg hk]
    · rw [ne_off (by omega), b7 a j q]
