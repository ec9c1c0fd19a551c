/-! PURE 36: the class's search for the nearest town -/
theorem max_I {a : Nat} (ha : a < 1000) : f_Ma_max (nI a) 1 = nI (max a 1) := by
  unfold f_Ma_max
  by_cases h : a < 1
  · rw [if_pos (show nI a < 1 from nI_lt (b := 1) h (by decide)), Nat.max_eq_right (by omega)]; rfl
  · rw [if_neg (show ¬ nI a < 1 from nI_nlt (b := 1) (by omega) (by omega)), Nat.max_eq_left (by omega)]
def atl (n a : Nat) : Nat := if n ≤ 1 then a else max a 1
theorem cw_I {n t b m mk dr x p a k : Nat} {sd : Nat → Nat} {Mb : Mm} (hn : n < 7) (hT : TOK n t b m mk dr sd) (h : SS n t b m mk dr sd Mb) (hp : p < n) (hx : x < 2 ^ 15) (ha : a < 1000) (hk : k ≤ INF) : ((atl n a < kA k ∨ (atl n a = kA k ∧ prK t mk dr x (pr0 n (p + 1)) ≤ kP k)) → f_Se_canWin (nI x) (nI p) (nI a) (neM k Mb) = some 1) ∧ (¬ (atl n a < kA k ∨ (atl n a = kA k ∧ prK t mk dr x (pr0 n (p + 1)) ≤ kP k)) → f_Se_canWin (nI x) (nI p) (nI a) (neM k Mb) = some 0) := by
  have hS := SS.ne (k := k) h
  have hpr := prT2 (x := x) hS (pr_lt1 hn (show p + 1 < n + 1 by omega)) hx (set_I hS hn hp)
  have hprl : prK t mk dr x (pr0 n (p + 1)) ≤ 504 := prK_le hT.2.2.2.2.2.2.2.1 hT.2.2.2.2.2.2.2.2.2.1 (Nat.le_trans (pr_lt1 hn (show p + 1 < n + 1 by omega)) (by decide))
  generalize prK t mk dr x (pr0 n (p + 1)) = pr at *
  obtain ⟨k1, k2, k3⟩ := k_bd hk
  have hal : atl n a ≤ 1000 := by unfold atl; split <;> omega
  have e : f_Se_canWin (nI x) (nI p) (nI a) (neM k Mb) = if nI (atl n a) < nI (kA k) then some 1 else if nI (atl n a) = nI (kA k) then (if nI (kP k) < nI pr then some 0 else some 1) else some 0 := by
    unfold f_Se_canWin
    dsimp only [lt]
    rw [hS.1, ne_10, ne_11, hpr, max_I ha]
    unfold atl
    by_cases z : n ≤ 1
    · rw [if_pos (show nI n ≤ 1 from nI_le (b := 1) z (by decide)), if_pos z]
      rfl
    · rw [if_neg (show ¬ nI n ≤ 1 from nI_ge (a := 1) (by omega) (by omega)), if_neg z]
      rfl
  rw [e]
  constructor
  · intro hc
    rcases hc with hc | ⟨hc1, hc2⟩
    · rw [if_pos (nI_lt hc (by omega))]
    · rw [if_neg (nI_nlt (by omega) (by omega)), if_pos (by rw [hc1]), if_neg (nI_nlt hc2 (by omega))]
  · intro hc
    rw [if_neg (fun z => hc (Or.inl ((nI_ltI (by omega) (by omega)).mp z)))]
    by_cases q : atl n a = kA k
    · rw [if_pos (by rw [q]), if_pos (nI_lt (by omega) (by omega))]
    · rw [if_neg (fun z => q ((nI_eq (by omega) (by omega)).mp z))]
def kyN (n t mk dr u : Nat) : Nat := key (alN n u) (prK t mk dr u (np n)) u
theorem alN_le {n t : Nat} (hn : n < 9) : alN n t < 1000 := by rw [← alP_n]; exact alP_le hn
theorem pr_all {n t b m mk dr u K : Nat} {sd : Nat → Nat} (hT : TOK n t b m mk dr sd) (hK : K ≤ 28) : prK t mk dr u K ≤ 504 := prK_le hT.2.2.2.2.2.2.2.1 hT.2.2.2.2.2.2.2.2.2.1 hK
theorem near_node {n t b m mk dr : Nat} {sd : Nat → Nat} {Mb : Mm} (hn : n < 7) (hT : TOK n t b m mk dr sd) (hS : SS n t b m mk dr sd Mb) : ∀ (d p x : Nat) (V : Nat → Bool), p + d = n → x < 2 ^ pr0 n p → KB b m x (pr0 n p) → (∀ u, u < 2 ^ np n → ext n p x u = true → V u = false) → ∀ N dd, 100 < N → d < dd → f_Se_nearestFrom N dd (nI p) (nI x) (nI (alP n x p)) (neM (fM (kyN n t mk dr) (gK b m n) V (2 ^ np n)) Mb) = some (neM (fM (kyN n t mk dr) (gK b m n) (fun u => V u || ext n p x u) (2 ^ np n)) Mb) := by
  have hn9 : n < 9 := by omega
  intro d
  induction d with
  | zero =>
    intro p x V hp hx hB hV N dd hN hdd
    obtain ⟨dd, rfl⟩ : ∃ v, dd = v + 1 := ⟨dd - 1, by omega⟩
    have hp : p = n := by omega
    subst hp
    have hx2 : x < 2 ^ np p := by rw [← pr_end p hn9]; exact hx
    have hB2 : gK b m p x = true := gK_t.mpr (by rw [← pr_end p hn9]; exact hB)
    have hI : fM (kyN p t mk dr) (gK b m p) V (2 ^ np p) ≤ INF := mn_inf _
    rw [f_Se_nearestFrom, (SS.ne hS).1, if_neg (nI_nlt (Nat.le_refl p) (by omega)), take_I hn hT hS hx2 (alP_le hn9) hI, bnd_s, fM_leaf hn9 hx2 (hV x hx2 (by rw [ext_n hn9 hx2]; simp)) hB2]
    unfold kyN
    rw [alP_n]
  | succ d ih =>
    intro p x V hp hx hB hV N dd hN hdd
    obtain ⟨dd, rfl⟩ : ∃ v, dd = v + 1 := ⟨dd - 1, by omega⟩
    have hpn : p < n := by omega
    have hK := pr_next n hn9 p hpn
    have hK1 := pr_lt1 hn (show p + 1 < n + 1 by omega)
    have hnp : pr0 n (p + 1) ≤ np n := pr_np n hn9 (p + 1) (by omega)
    have loop : ∀ (e row nu : Nat), row + e = 2 ^ (n - 1 - p) → e < nu → L_Se_nearestFrom_25 N (nI p) (nI x) (nI (alP n x p)) (nI (2 ^ (n - 1 - p))) (f_Se_nearestFrom N dd) nu (nI row) (neM (fM (kyN n t mk dr) (gK b m n) (fun u => V u || (ext n p x u && decide (u / 2 ^ pr0 n p % 2 ^ (n - 1 - p) < row))) (2 ^ np n)) Mb) = some (neM (fM (kyN n t mk dr) (gK b m n) (fun u => V u || ext n p x u) (2 ^ np n)) Mb) := by
      have hpw : 2 ^ (n - 1 - p) ≤ 2 ^ 5 := Nat.pow_le_pow_right (by decide) (by omega)
      intro e
      induction e with
      | zero =>
        intro row nu hrow hnu
        obtain ⟨nu, rfl⟩ : ∃ v, nu = v + 1 := ⟨nu - 1, by omega⟩
        have hrow : row = 2 ^ (n - 1 - p) := by omega
        subst hrow
        rw [L_Se_nearestFrom_25, if_pos (nI_le (Nat.le_refl _) (by omega))]
        rw [fM_cong (W := fun u => V u || ext n p x u) (fun u _ => by
          have : u / 2 ^ pr0 n p % 2 ^ (n - 1 - p) < 2 ^ (n - 1 - p) := Nat.mod_lt _ (Nat.two_pow_pos _)
          simp [this])]
      | succ e ihe =>
        intro row nu hrow hnu
        obtain ⟨nu, rfl⟩ : ∃ v, nu = v + 1 := ⟨nu - 1, by omega⟩
        have hrl : row < 2 ^ (n - 1 - p) := by omega
        have ih2 := ihe (row + 1) nu (by omega) (by omega)
        generalize hV' : (fun u => V u || (ext n p x u && decide (u / 2 ^ pr0 n p % 2 ^ (n - 1 - p) < row))) = V'
        have hK2 : pr0 n p + (n - 1 - p) = pr0 n (p + 1) := by omega
        have hpK : 2 ^ pr0 n p * 2 ^ (n - 1 - p) = 2 ^ pr0 n (p + 1) := by rw [← Nat.pow_add, hK2]
        have hp15 : 2 ^ pr0 n (p + 1) ≤ 2 ^ 15 := Nat.pow_le_pow_right (by decide) hK1
        have hrm : row * 2 ^ pr0 n p + 2 ^ pr0 n p ≤ 2 ^ pr0 n (p + 1) := by
          rw [← hpK, Nat.mul_comm (2 ^ pr0 n p), ← Nat.succ_mul]
          exact Nat.mul_le_mul hrl (Nat.le_refl _)
        have hx' : x + row * 2 ^ pr0 n p < 2 ^ pr0 n (p + 1) := by omega
        have hext : ∀ u, ext n (p + 1) (x + row * 2 ^ pr0 n p) u = (ext n p x u && decide (u / 2 ^ pr0 n p % 2 ^ (n - 1 - p) = row)) := fun u => by
          unfold ext
          rw [← hK2]
          have := ext_split (t := u) hx hrl
          by_cases q : u % 2 ^ (pr0 n p + (n - 1 - p)) = x + row * 2 ^ pr0 n p
          · simp [q, this.mp q]
          · have q2 := fun z => q (this.mpr z)
            by_cases q3 : u % 2 ^ pr0 n p = x
            · have q4 : ¬ u / 2 ^ pr0 n p % 2 ^ (n - 1 - p) = row := fun z => q2 ⟨q3, z⟩
              simp [q, q4]
            · simp [q, q3]
        have hup : fM (kyN n t mk dr) (gK b m n) (fun u => V' u || ext n (p + 1) (x + row * 2 ^ pr0 n p) u) (2 ^ np n) = fM (kyN n t mk dr) (gK b m n) (fun u => V u || (ext n p x u && decide (u / 2 ^ pr0 n p % 2 ^ (n - 1 - p) < row + 1))) (2 ^ np n) := fM_cong (fun u _ => by
          rw [hext, ← hV']
          exact vb_up _ _ _ _)
        have hxb : ∀ k, k < pr0 n p → (x + row * 2 ^ pr0 n p).testBit k = x.testBit k := mod_bits (by rw [Nat.add_mul_mod_self_right, Nat.mod_eq_of_lt hx])
        have ho1 := alP_agr hn (show p ≤ n by omega) hxb
        have hnx := nx_I (row := row) hx (by omega) (by omega)
        generalize hX : x + row * 2 ^ pr0 n p = x' at *
        have hx15 : x' < 2 ^ 15 := by omega
        have hkI : fM (kyN n t mk dr) (gK b m n) V' (2 ^ np n) ≤ INF := mn_inf _
        generalize hkk : fM (kyN n t mk dr) (gK b m n) V' (2 ^ np n) = kk at *
        have hSM : SS n t b m mk dr sd (neM kk Mb) := SS.ne hS
        have hset := set_I hSM hn hpn
        have hkb := kb_I (x := x') hSM hK1 hx15 hset
        have hsum : alP n x p + ctb (fun q => decide (dgr n x' q = dgr n x' p)) p = alP n x' (p + 1) := by rw [← ho1]; rfl
        have step : L_Se_nearestFrom_25 N (nI p) (nI x) (nI (alP n x p)) (nI (2 ^ (n - 1 - p))) (f_Se_nearestFrom N dd) (nu + 1) (nI row) (neM kk Mb) = (f_Se_keepsBars (nI x') (nI p) (neM kk Mb)).bind fun vu6 => if vu6 = 0 then L_Se_nearestFrom_25 N (nI p) (nI x) (nI (alP n x p)) (nI (2 ^ (n - 1 - p))) (f_Se_nearestFrom N dd) nu (nI (row + 1)) (neM kk Mb) else (f_Se_canWin (nI x') (nI p) (nI (alP n x' (p + 1))) (neM kk Mb)).bind fun vu13 => if vu13 = 0 then L_Se_nearestFrom_25 N (nI p) (nI x) (nI (alP n x p)) (nI (2 ^ (n - 1 - p))) (f_Se_nearestFrom N dd) nu (nI (row + 1)) (neM kk Mb) else (f_Se_nearestFrom N dd (nI (p + 1)) (nI x') (nI (alP n x' (p + 1))) (neM kk Mb)).bind fun vu15 => L_Se_nearestFrom_25 N (nI p) (nI x) (nI (alP n x p)) (nI (2 ^ (n - 1 - p))) (f_Se_nearestFrom N dd) nu (nI (row + 1)) vu15 := by
          rw [L_Se_nearestFrom_25, if_neg (nI_ge (by omega) (by omega)), if_pos (inb_nI (show p < 7 by omega) (by decide))]
          dsimp only [lt]
          rw [ix_nI (show p < 2 ^ 31 by omega), hSM.2.2.2.2.2.2.2.1 p (by omega), hnx, ab_I hSM hn hpn hx15 (by omega), bnd_s, nI_1, nI_1, nI_add, hsum]
        have skip : (∀ u, u < 2 ^ np n → ext n (p + 1) x' u = true → gK b m n u = true → kk ≤ kyN n t mk dr u) → L_Se_nearestFrom_25 N (nI p) (nI x) (nI (alP n x p)) (nI (2 ^ (n - 1 - p))) (f_Se_nearestFrom N dd) nu (nI (row + 1)) (neM kk Mb) = some (neM (fM (kyN n t mk dr) (gK b m n) (fun u => V u || ext n p x u) (2 ^ np n)) Mb) := by
          intro hsk
          have := fM_prune (c := kyN n t mk dr) (g := gK b m n) (V := V') (n := n) (p := p + 1) (x := x') (by rw [hkk]; exact hsk)
          rw [hkk, hup] at this
          rw [← this]
          exact ih2
        rw [step]
        by_cases qB : KB b m x' (pr0 n (p + 1))
        · rw [hkb.1 qB, bnd_s, if_neg h10]
          have hcw := cw_I (x := x') (p := p) (a := alP n x' (p + 1)) hn hT hS hpn hx15 (alP_le (by omega)) hkI
          by_cases qW : atl n (alP n x' (p + 1)) < kA kk ∨ (atl n (alP n x' (p + 1)) = kA kk ∧ prK t mk dr x' (pr0 n (p + 1)) ≤ kP kk)
          · have hnode := ih (p + 1) x' V' (by omega) hx' qB (fun u hu he => by
              rw [hext] at he
              have h1 : ext n p x u = true := by
                cases hq : ext n p x u
                · rw [hq] at he; cases he
                · rfl
              have h2 : u / 2 ^ pr0 n p % 2 ^ (n - 1 - p) = row := by
                rw [h1, Bool.true_and] at he
                exact of_decide_eq_true he
              rw [← hV']
              show (V u || (ext n p x u && decide (u / 2 ^ pr0 n p % 2 ^ (n - 1 - p) < row))) = false
              rw [hV u hu h1, h2]
              simp) N dd hN (by omega)
            rw [hkk] at hnode
            rw [hcw.1 qW, bnd_s, if_neg h10, hnode, bnd_s, hup]
            exact ih2
          · rw [hcw.2 qW, bnd_s, if_pos rfl]
            refine skip (fun u hu he hg => ?_)
            have hb := mod_bits (of_decide_eq_true he)
            have h1 := alP_agr hn (show p + 1 ≤ n by omega) hb
            have h2 := al_ge (n := n) (t := u) (show p + 1 ≤ n by omega)
            have h3 : atl n (alP n x' (p + 1)) ≤ alN n u := by
              unfold atl
              by_cases z : n ≤ 1
              · rw [if_pos z]; omega
              · rw [if_neg z]
                have := al_ge1 (n := n) (t := u) (by omega)
                omega
            have h4 : prK t mk dr x' (pr0 n (p + 1)) ≤ prK t mk dr u (np n) := by
              rw [← prK_agr hb]
              exact prK_mono hnp
            have h5 : prK t mk dr u (np n) ≤ 504 := pr_all hT (np_le n hn9)
            have hu20 : u < 1048576 := by have := lt15 hn hu; omega
            refine Nat.le_of_not_lt (fun z => ?_)
            have := (key_lt (a := alN n u) (p := prK t mk dr u (np n)) (t := u) (by omega) hu20).mp z
            omega
        · rw [hkb.2 qB, bnd_s, if_pos rfl]
          refine skip (fun u hu he hg => ?_)
          exact absurd (KB_down (gK_t.mp hg) hnp hx' (mod_bits (of_decide_eq_true he))) qB
    rw [f_Se_nearestFrom, (SS.ne hS).1, if_pos (nI_lt hpn (by omega))]
    dsimp only [lt]
    rw [rows_I (SS.ne hS) hn hpn]
    have h0 := loop (2 ^ (n - 1 - p)) 0 N (by omega) (by
      have : 2 ^ (n - 1 - p) ≤ 2 ^ 5 := Nat.pow_le_pow_right (by decide) (by omega)
      omega)
    rw [fM_cong (W := V) (fun u _ => by simp)] at h0
    exact h0
theorem ne_self {Mb : Mm} (h1 : Mb.1 20 10 = 1000000) (h2 : Mb.1 20 11 = 1000000) (h3 : Mb.1 20 12 = 1000000) : neM INF Mb = Mb := mm_ext (fun a j => by
  by_cases q1 : a = 20 ∧ j = 10
  · rw [q1.1, q1.2, ne_10, h1, show kA INF = 1000000 from kA_k (by decide) (by decide)]; rfl
  · by_cases q2 : a = 20 ∧ j = 11
    · rw [q2.1, q2.2, ne_11, h2, show kP INF = 1000000 from kP_k (by decide) (by decide)]; rfl
    · by_cases q3 : a = 20 ∧ j = 12
      · rw [q3.1, q3.2, ne_12, h3, show kT INF = 1000000 from kT_k (by decide)]; rfl
      · rw [ne_off (by omega)]) rfl
theorem fne_I {n t b m mk dr : Nat} {sd : Nat → Nat} {M : Mm} (hn : n < 7) (hT : TOK n t b m mk dr sd) (h : CT M 1 n t b m mk dr sd) : ∃ M1, (∀ N, 100 < N → f_Se_findNearest N 1 M = some M1) ∧ M1.1 20 10 = nI (kA (fM (kyN n t mk dr) (gK b m n) tt (2 ^ np n))) ∧ M1.1 20 11 = nI (kP (fM (kyN n t mk dr) (gK b m n) tt (2 ^ np n))) ∧ M1.1 20 12 = nI (kT (fM (kyN n t mk dr) (gK b m n) tt (2 ^ np n))) ∧ ∀ a j, ¬ (20 ≤ a ∧ a ≤ 23) → M1.1 a j = M.1 a j := by
  obtain ⟨Mb, b1', b2, ⟨b3, b4, b5, -⟩, b7⟩ := beg_I hn hT h
  have p00 : pr0 n 0 = 0 := by unfold pr0; simp
  have key := near_node (Mb := Mb) hn hT b2 n 0 0 (fun _ => false) (by omega) (Nat.two_pow_pos _) ⟨fun k z => by rw [Nat.zero_testBit] at z; exact absurd z.1 (by decide), fun k hk => by rw [p00] at hk; omega⟩ (fun _ _ _ => rfl)
  have e0 : fM (kyN n t mk dr) (gK b m n) (fun _ => false) (2 ^ np n) = INF := fo_none (fun _ _ => rfl)
  have eV : fM (kyN n t mk dr) (gK b m n) (fun u => false || ext n 0 0 u) (2 ^ np n) = fM (kyN n t mk dr) (gK b m n) tt (2 ^ np n) := fM_cong (fun u _ => by
    unfold ext tt
    rw [p00]
    simp [Nat.mod_one])
  refine ⟨neM (fM (kyN n t mk dr) (gK b m n) tt (2 ^ np n)) Mb, fun N hN => ?_, ne_10, ne_11, ne_12, fun a j q => ?_⟩
  · unfold f_Se_findNearest
    rw [b1' N (by omega), bnd_s]
    have k := key N 20 hN (by omega)
    rw [e0, eV, ne_self b3 b4 b5] at k
    have k2 : f_Se_nearestFrom N 20 0 0 0 Mb = some (neM (fM (kyN n t mk dr) (gK b m n) tt (2 ^ np n)) Mb) := k
    rw [k2, bnd_s]
  · rw [ne_off (by omega), b7 a j q]
