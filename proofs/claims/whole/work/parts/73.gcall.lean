/-! PURE 54: good, born, dies -/
theorem plc_I {M : Mm} {n p : Nat} {g : Nat → Nat} (hn : n < 9) (hp : p < n) (hg : ∀ q, q < n → g q < n) (h : M.2 18 4 = lN (CD n g)) (hl : CD n g < 16777216) : f_Mk_placeOf (nI p) M = nI (g p) := by
  unfold f_Mk_placeOf
  rw [h, sh_I (by omega), wb_shr63 (by omega) (by omega), lN_i, p8, show (7 : Int32) = nI 7 from rfl, an_I]
  congr 1
  have e : CD n g / 8 ^ (7 - p) &&& 7 = CD n g / 8 ^ (7 - p) % 8 := Nat.and_two_pow_sub_one_eq_mod _ 3
  rw [e, cd_dig hn hp hg]
theorem mg_I {n t b m mk dr a : Nat} {sd : Nat → Nat} {M : Mm} (hn : n < 9) (hn1 : 1 ≤ n) (ht : t < 2 ^ 31) (hb : b < 2 ^ 31) (hm : m < 2 ^ 31) (hmk : mk ≤ 9) (hdr : dr ≤ 9) (ha : a = 1 ∨ a = 6) (hC : CT M a n t b m mk dr sd) : ∃ Mc, (∀ N, 300 < N → f_Mk_solve N a M = some Mc) ∧ (∀ x j, x ≠ 18 → Mc.1 x j = M.1 x j) ∧ Mc.1 18 1 = nI n ∧ ∀ R : Mm, R.1 49 4 = nI mk → R.1 49 5 = nI dr → ∃ K R', (∀ x j, x ≠ 53 → x ≠ 54 → x ≠ 55 → ¬ (x = 49 ∧ (j = 26 ∨ j = 27)) → R'.1 x j = R.1 x j) ∧ ((Mc.1 18 2 = -1 ∧ ∀ N, K < N → f_Mo_makeGood N (nI n) (nI t) (nI b) (nI m) R = some (-1, R')) ∨ (∃ w g, w < 2 ∧ (∀ p, p < n → g p < n) ∧ TC n t mk dr w g ≤ 576 ∧ Mc.1 18 2 = nI (TC n t mk dr w g) ∧ Mc.1 18 3 = nI w ∧ (∀ p, p < n → f_Mk_placeOf (nI p) Mc = nI (g p)) ∧ (∀ N, K < N → f_Mo_makeGood N (nI n) (nI t) (nI b) (nI m) R = some (nI (TC n t mk dr w g), R')) ∧ R'.1 49 26 = nI w ∧ ∀ p, p < n → R'.1 55 p = nI (g p))) := by
  obtain ⟨D0, D1, Mc, ⟨T0, t1, t2, t3⟩, ⟨T1', s1, s2, s3⟩, c1, c2, c3, c4, c5, c6⟩ := slv_I hn hn1 hmk hdr ha hC
  have tab0 := tab_I hn (by decide) hmk hdr t1 t2
  have tab1 := tab_I hn (by decide) hmk hdr s1 s2
  rw [← t3] at tab0
  rw [← s3] at tab1
  refine ⟨Mc, c1, c6, c2, fun R r4 r5 => ?_⟩
  obtain ⟨K0, R0, B0, e1, e2, e3, e4, e5⟩ := fpl_I (w := 0) (t := t) (b := b) (m := m) (M := si R 49 27 1000000) (B := 1000000) hn hn1 (by decide) ht hb hm hmk hdr (by rw [si_k _ _ (by decide)]; exact r4) (by rw [si_k _ _ (by decide)]; exact r5) (si_s _ _ _ _) (by omega)
  obtain ⟨K1, R1, B1, g1, g2, g3, g4, g5⟩ := fpl_I (w := 1) (t := t) (b := b) (m := m) (M := R0) (B := B0) hn hn1 (by decide) ht hb hm hmk hdr (by rw [e5 _ _ (by decide) (by decide) (by decide) (by omega), si_k _ _ (by decide)]; exact r4) (by rw [e5 _ _ (by decide) (by decide) (by decide) (by omega), si_k _ _ (by decide)]; exact r5) e4 e3
  have hmg : ∀ N, K0 + K1 < N → f_Mo_makeGood N (nI n) (nI t) (nI b) (nI m) R = if nI B1 < 1000000 then some (nI B1, R1) else some (-1, R1) := fun N hN => by
    unfold f_Mo_makeGood
    dsimp only [lt]
    rw [show f_Mo_findPlaces N (nI n) (nI t) (nI b) (nI m) 0 (si R 49 27 1000000) = some R0 from e1 N (by omega), bnd_s, show f_Mo_findPlaces N (nI n) (nI t) (nI b) (nI m) 1 R0 = some R1 from g1 N (by omega), bnd_s, g4]
  have off : ∀ x j, x ≠ 53 → x ≠ 54 → x ≠ 55 → ¬ (x = 49 ∧ (j = 26 ∨ j = 27)) → R1.1 x j = R.1 x j := fun x j q1 q2 q3 q4 => by rw [g5 x j q1 q2 q3 q4, e5 x j q1 q2 q3 q4, si1, if_neg (by omega)]
  refine ⟨K0 + K1, R1, off, ?_⟩
  have same : ∀ (w : Nat) (f g : Nat → Nat) (D : Nat), OKP n b m w f → OKP n b m w g → D = TC n t mk dr w f * 16777216 + CD n f → CD n f < 16777216 → (∀ f', OKP n b m w f' → D ≤ TC n t mk dr w f' * 16777216 + CD n f') → (∀ g', OKP n b m w g' → TC n t mk dr w g < TC n t mk dr w g' ∨ (TC n t mk dr w g = TC n t mk dr w g' ∧ CD n g ≤ CD n g')) → TC n t mk dr w f = TC n t mk dr w g ∧ CD n f = CD n g := fun w f g D hf hg hD hl h1 h2 => by
    have a1 := h1 g hg
    have a2 := h2 f hf
    have hlg : CD n g < 16777216 := by
      have h := cd_le (f := g) (s := tt) n (by omega) (fun p hp _ => by have := hg.1 p hp; omega)
      have : 0 < 8 ^ (8 - n) := Nat.pow_pos (by decide)
      unfold CD
      omega
    omega
  have NVd : NV / 16777216 = 274877906944 := by decide
  have fin : ∀ (w : Nat) (g : Nat → Nat) (D : Nat), w < 2 → (∀ p, p < n → g p < n) → D = TC n t mk dr w g * 16777216 + CD n g → CD n g < 16777216 → TC n t mk dr w g ≤ 576 → (if D1 / 16777216 < D0 / 16777216 then 1 else 0) = w → (if D1 / 16777216 < D0 / 16777216 then D1 else D0) = D → B1 = TC n t mk dr w g → R1.1 49 26 = nI w → (∀ p, p < n → R1.1 55 p = nI (g p)) → (∃ w g, w < 2 ∧ (∀ p, p < n → g p < n) ∧ TC n t mk dr w g ≤ 576 ∧ Mc.1 18 2 = nI (TC n t mk dr w g) ∧ Mc.1 18 3 = nI w ∧ (∀ p, p < n → f_Mk_placeOf (nI p) Mc = nI (g p)) ∧ (∀ N, K0 + K1 < N → f_Mo_makeGood N (nI n) (nI t) (nI b) (nI m) R = some (nI (TC n t mk dr w g), R1)) ∧ R1.1 49 26 = nI w ∧ ∀ p, p < n → R1.1 55 p = nI (g p)) := fun w g D hw hg hD hl htc ew eD eB q1 q2 => by
    rw [ew] at c3
    rw [eD] at c4 c5
    have hDn : ¬ D = NV := by unfold NV; omega
    have hdiv : D / 16777216 = TC n t mk dr w g := by omega
    have hmod : D % 16777216 = CD n g := by omega
    rw [if_neg hDn, hdiv] at c4
    rw [hmod] at c5
    refine ⟨w, g, hw, hg, htc, c4, c3, fun p hp => plc_I hn hp hg c5 hl, fun N hN => ?_, q1, q2⟩
    rw [hmg N hN, eB, if_pos (show nI (TC n t mk dr w g) < 1000000 from nI_lt (b := 1000000) (by omega) (by decide))]
  rcases tab0 with ⟨n0, none0⟩ | ⟨f0, ok0, d0, l0, b0, m0⟩
  · have hB0 : B0 = 1000000 := by
      rcases e2 with ⟨x1, -⟩ | ⟨g, x0, -⟩
      · exact x1
      · exact absurd x0 (none0 g)
    rcases tab1 with ⟨n1, none1⟩ | ⟨f1, ok1, d1, l1, b1', m1⟩
    · left
      have hB1 : B1 = 1000000 := by
        rcases g2 with ⟨x1, -⟩ | ⟨g, x0, -⟩
        · rw [x1, hB0]
        · exact absurd x0 (none1 g)
      refine ⟨?_, fun N hN => ?_⟩
      · rw [c4, n0, n1, if_neg (Nat.lt_irrefl _), if_pos rfl]
      · rw [hmg N hN, hB1, if_neg (by decide)]
    · right
      rcases g2 with ⟨x1, x2, x3, x4⟩ | ⟨g, x0, x1, x2, x3, x4, x5⟩
      · have := x4 f1 ok1; omega
      · obtain ⟨k1, k2⟩ := same 1 f1 g D1 ok1 x0 d1 l1 m1 x5
        have hlt : D1 / 16777216 < D0 / 16777216 := by rw [n0, NVd]; omega
        exact fin 1 g D1 (by decide) x0.1 (by rw [d1, k1, k2]) (by omega) (by omega) (if_pos hlt) (if_pos hlt) x1 x3 x4
  · right
    rcases e2 with ⟨y1, y2, y3, y4⟩ | ⟨h, y0, y1, y2, y3, y4, y5⟩
    · have := y4 f0 ok0; omega
    · obtain ⟨k1, k2⟩ := same 0 f0 h D0 ok0 y0 d0 l0 m0 y5
      have hd0 : D0 / 16777216 = TC n t mk dr 0 f0 := by omega
      rcases tab1 with ⟨n1, none1⟩ | ⟨f1, ok1, d1, l1, b1', m1⟩
      · rcases g2 with ⟨x1, x2, x3, x4⟩ | ⟨g, x0, -⟩
        · have hlt : ¬ D1 / 16777216 < D0 / 16777216 := by rw [n1, NVd]; omega
          exact fin 0 h D0 (by decide) y0.1 (by rw [d0, k1, k2]) (by omega) (by omega) (if_neg hlt) (if_neg hlt) (by rw [x1, y1]) (x2.trans y3) (fun p hp => (x3 p).trans (y4 p hp))
        · exact absurd x0 (none1 g)
      · have hd1 : D1 / 16777216 = TC n t mk dr 1 f1 := by omega
        by_cases hlt : D1 / 16777216 < D0 / 16777216
        · rcases g2 with ⟨x1, x2, x3, x4⟩ | ⟨g, x0, x1, x2, x3, x4, x5⟩
          · have := x4 f1 ok1; omega
          · obtain ⟨k3, k4⟩ := same 1 f1 g D1 ok1 x0 d1 l1 m1 x5
            exact fin 1 g D1 (by decide) x0.1 (by rw [d1, k3, k4]) (by omega) (by omega) (if_pos hlt) (if_pos hlt) x1 x3 x4
        · rcases g2 with ⟨x1, x2, x3, x4⟩ | ⟨g, x0, x1, x2, x3, x4, x5⟩
          · exact fin 0 h D0 (by decide) y0.1 (by rw [d0, k1, k2]) (by omega) (by omega) (if_neg hlt) (if_neg hlt) (by rw [x1, y1]) (x2.trans y3) (fun p hp => (x3 p).trans (y4 p hp))
          · obtain ⟨k3, k4⟩ := same 1 f1 g D1 ok1 x0 d1 l1 m1 x5
            omega
theorem Same.gr {M M1 : Mm} (h : ∀ x j, x ≠ 53 → x ≠ 54 → x ≠ 55 → ¬ (x = 49 ∧ (j = 26 ∨ j = 27)) → M1.1 x j = M.1 x j) : Same M M1 := fun a j r => h a j (fun z => by rw [z] at r; exact absurd r (by simp [relv])) (fun z => by rw [z] at r; exact absurd r (by simp [relv])) (fun z => by rw [z] at r; exact absurd r (by simp [relv])) (fun z => by
  obtain ⟨rfl, rfl | rfl⟩ := z <;> exact absurd r (by decide))
theorem Same.ge {M M1 : Mm} (h : ∀ x j, x ≠ 18 → ¬ (6 ≤ x ∧ x ≤ 10) → M1.1 x j = M.1 x j) : Same M M1 := fun a j r => h a j (fun z => by rw [z] at r; exact absurd r (by simp [relv])) (fun z => by
  rcases (show a = 6 ∨ a = 7 ∨ a = 8 ∨ a = 9 ∨ a = 10 by omega) with rfl | rfl | rfl | rfl | rfl <;> exact absurd r (by simp [relv]))
theorem q_born {M : Mm} (h : Rel M) : ∃ (r : Int32) (M1 M2 : Mm) (K : Nat), (∀ N, K < N → f_Uc_born N M = some (r, M1) ∧ f_Mo_born N M1 = some (r, M2)) ∧ Rel M2 := by
  have hh := h
  obtain ⟨n, t, b, m, mk, dr, sd, hP⟩ := h
  obtain ⟨h1, h2, h3, -⟩ := id hP
  have hn := h1.1
  by_cases bad : n < 1 ∨ ¬ n < 8
  · refine ⟨-1000000003, M, M, 0, fun N hN => ⟨?_, ?_⟩, hh⟩
    · unfold f_Uc_born
      rw [h2.1]
      by_cases z : n < 1
      · rw [if_pos (show nI n < 1 from nI_lt (b := 1) z (by decide))]
      · rw [if_neg (show ¬ nI n < 1 from nI_nlt (b := 1) (by omega) (by omega)), if_neg (show ¬ nI n < 8 from nI_nlt (b := 8) (by omega) (by omega))]
    · unfold f_Mo_born
      rw [h3.1, show (1 : Int64) = (1 : Int32).toInt64 from rfl, show (7 : Int64) = (7 : Int32).toInt64 from rfl, in_if]
      by_cases z : n < 1
      · rw [if_pos (show nI n < 1 from nI_lt (b := 1) z (by decide))]
      · rw [if_neg (show ¬ nI n < 1 from nI_nlt (b := 1) (by omega) (by omega)), if_pos (show (7 : Int32) < nI n from nI_lt (a := 7) (by omega) (by omega))]
  · have hn1 : 1 ≤ n := by omega
    have hn8 : n < 8 := by omega
    have hz : ∀ p, n ≤ p → sd p = 0 := fun p hp => (h1.2.2.2.2.2.2.2.2.2.2 p).2 hp
    obtain ⟨A, a1, a2, a3⟩ := add_CT (M := cpK 6 1 8 M) hn8 (cp_CT h2) hz
    have hlt : ∀ x, wmN n x < 2 ^ 31 := fun x => np_lt31 (n := n + 1) (by omega) wmN_lt
    obtain ⟨Mc, c1, c2, c3, c4⟩ := mg_I (show n + 1 < 9 by omega) (by omega) (hlt t) (hlt b) (hlt m) h1.2.2.2.2.2.2.2.1 h1.2.2.2.2.2.2.2.2.2.1 (Or.inr rfl) a2
    have offC : ∀ x j, x ≠ 18 → ¬ (6 ≤ x ∧ x ≤ 10) → Mc.1 x j = M.1 x j := fun x j q1 q2 => by rw [c2 x j q1, a3 x j (by omega) (by omega), cp_off (by omega)]
    have hS := Same.ge offC
    have g3 := h3.same hS
    obtain ⟨K, R, r1, r2⟩ := c4 Mc g3.2.2.2.2.1 g3.2.2.2.2.2.1
    have eU : ∀ N, 300 < N → f_Uc_born N M = some (Mc.1 18 2, Mc) := fun N hN => by
      unfold f_Uc_born
      rw [h2.1, if_neg (show ¬ nI n < 1 from nI_nlt (b := 1) (by omega) (by omega)), if_pos (show nI n < 8 from nI_lt (b := 8) hn8 (by decide)), copy_I (by omega) (by omega), bnd_s, a1 N (by omega), bnd_s, c1 N hN, bnd_s]
    have eM : ∀ N, 300 < N → f_Mo_born N Mc = (f_Mo_makeGood N (nI (n + 1)) (nI (wmN n t)) (nI (wmN n b)) (nI (wmN n m)) Mc).bind fun vu5 => some (vu5.1, vu5.2) := fun N hN => by
      unfold f_Mo_born
      rw [g3.1, show (1 : Int64) = (1 : Int32).toInt64 from rfl, show (7 : Int64) = (7 : Int32).toInt64 from rfl, in_if, if_neg (show ¬ nI n < 1 from nI_nlt (b := 1) (by omega) (by omega)), if_neg (show ¬ (7 : Int32) < nI n from nI_nlt (a := 7) (by omega) (by decide)), g3.2.1, g3.2.2.1, g3.2.2.2.1, wm_I (by omega) hn8 (np_lt31 hn h1.2.1), bnd_s, wm_I (by omega) hn8 (np_lt31 hn h1.2.2.1), bnd_s, wm_I (by omega) hn8 (np_lt31 hn h1.2.2.2.1), bnd_s, nI_1]
      rfl
    rcases r2 with ⟨d1, d2⟩ | ⟨w, g, -, -, -, d1, -, -, d2, -, -⟩
    · exact ⟨-1, Mc, R, K + 300, fun N hN => ⟨by rw [eU N (by omega), d1], by rw [eM N (by omega), d2 N (by omega), bnd_s]⟩, hh.same (hS.tr (Same.gr r1))⟩
    · exact ⟨_, Mc, R, K + 300, fun N hN => ⟨by rw [eU N (by omega), d1], by rw [eM N (by omega), d2 N (by omega), bnd_s]⟩, hh.same (hS.tr (Same.gr r1))⟩
theorem q_dies {M : Mm} (h : Rel M) (x : Int32) : ∃ (r : Int32) (M1 M2 : Mm) (K : Nat), (∀ N, K < N → f_Uc_dies N x M = some (r, M1) ∧ f_Mo_dies N x M1 = some (r, M2)) ∧ Rel M2 := by
  have hh := h
  obtain ⟨n, t, b, m, mk, dr, sd, hP⟩ := h
  obtain ⟨h1, h2, h3, -⟩ := id hP
  have hn := h1.1
  rcases pers x hn with ⟨p, hp, rfl⟩ | hx
  · by_cases z : 3 ≤ n
    · obtain ⟨n', rfl⟩ : ∃ n', n = n' + 1 := ⟨n - 1, by omega⟩
      have hz : ∀ p, n' + 1 ≤ p → sd p = 0 := fun p hp => (h1.2.2.2.2.2.2.2.2.2.2 p).2 hp
      obtain ⟨A, a1, a2, a3⟩ := rem_CT (M := cpK 6 1 8 M) (show n' < 8 by omega) hp (cp_CT h2) hz
      have hlt : ∀ x, woN n' p x < 2 ^ 31 := fun x => np_lt31 (n := n') (by omega) woN_lt
      obtain ⟨Mc, c1, c2, c3, c4⟩ := mg_I (show n' < 9 by omega) (by omega) (hlt t) (hlt b) (hlt m) h1.2.2.2.2.2.2.2.1 h1.2.2.2.2.2.2.2.2.2.1 (Or.inr rfl) a2
      have offC : ∀ x j, x ≠ 18 → ¬ (6 ≤ x ∧ x ≤ 10) → Mc.1 x j = M.1 x j := fun x j q1 q2 => by rw [c2 x j q1, a3 x j (by omega) (by omega), cp_off (by omega)]
      have hS := Same.ge offC
      have g3 := h3.same hS
      obtain ⟨K, R, r1, r2⟩ := c4 Mc g3.2.2.2.2.1 g3.2.2.2.2.2.1
      have s3 : (3 : Int32) ≤ nI (n' + 1) := nI_le (a := 3) z (by omega)
      have eU : ∀ N, 300 < N → f_Uc_dies N (nI p) M = some (Mc.1 18 2, Mc) := fun N hN => by
        unfold f_Uc_dies
        rw [has_yes hn h2.1 hp, if_neg h10, h2.1, if_pos s3, copy_I (by omega) (by omega), bnd_s, a1 N (by omega), bnd_s, c1 N hN, bnd_s]
      have eM : ∀ N, 300 < N → f_Mo_dies N (nI p) Mc = (f_Mo_makeGood N (nI n') (nI (woN n' p t)) (nI (woN n' p b)) (nI (woN n' p m)) Mc).bind fun vu5 => some (vu5.1, vu5.2) := fun N hN => by
        unfold f_Mo_dies
        rw [per_yes hn g3.1 hp, if_neg h10, g3.1, if_pos s3, g3.2.1, g3.2.2.1, g3.2.2.2.1, wo_I (by omega) (by omega) (np_lt31 hn h1.2.1) hp, bnd_s, wo_I (by omega) (by omega) (np_lt31 hn h1.2.2.1) hp, bnd_s, wo_I (by omega) (by omega) (np_lt31 hn h1.2.2.2.1) hp, bnd_s, nI_pred]
        rfl
      rcases r2 with ⟨d1, d2⟩ | ⟨w, g, -, -, -, d1, -, -, d2, -, -⟩
      · exact ⟨-1, Mc, R, K + 300, fun N hN => ⟨by rw [eU N (by omega), d1], by rw [eM N (by omega), d2 N (by omega), bnd_s]⟩, hh.same (hS.tr (Same.gr r1))⟩
      · exact ⟨_, Mc, R, K + 300, fun N hN => ⟨by rw [eU N (by omega), d1], by rw [eM N (by omega), d2 N (by omega), bnd_s]⟩, hh.same (hS.tr (Same.gr r1))⟩
    · have s3 : ¬ (3 : Int32) ≤ nI n := nI_ge (a := n) (b := 3) (by omega) (by decide)
      refine ⟨-1000000003, M, M, 0, fun N hN => ⟨?_, ?_⟩, hh⟩
      · unfold f_Uc_dies
        rw [has_yes hn h2.1 hp, if_neg h10, h2.1, if_neg s3]
      · unfold f_Mo_dies
        rw [per_yes hn h3.1 hp, if_neg h10, h3.1, if_neg s3]
  · refine ⟨-1000000001, M, M, 0, fun N hN => ⟨?_, ?_⟩, hh⟩
    · unfold f_Uc_dies
      rw [has_no hn h2.1 hx, if_pos rfl]
    · unfold f_Mo_dies
      rw [per_no hn h3.1 hx, if_pos rfl]
