/-! PURE 10: alike, made, seed, tell, tear; what a piece of the relation reads -/
theorem al_loop (N : Nat) {M : Mm} {n t p : Nat} (hn : n < 9) (h0 : M.1 49 0 = nI n) (hM : ∀ j, j < n → M.1 51 j = nI (dgr n t j)) (hp : p < n) : ∀ (d k nu : Nat), k + d = n → d < nu → L_Mo_alike_27 N (nI p) M nu (nI (bs (alf n t p) k)) (nI k) = some (nI (bs (alf n t p) n), M)
  | 0, k, nu + 1, hk, hnu => by
    have hk : k = n := by omega
    subst hk
    rw [L_Mo_alike_27, h0, if_pos (nI_le (Nat.le_refl k) (by omega))]
  | d + 1, k, nu + 1, hk, hnu => by
    have ih := al_loop N hn h0 hM hp d (k + 1) nu (by omega) (by omega)
    rw [L_Mo_alike_27, h0, if_neg (nI_ge (by omega) (by omega))]
    simp only [lt]
    by_cases e : k = p
    · subst e
      rw [if_pos rfl, show (0 : Int32) = nI 0 from rfl, or_I, nI_1, Nat.or_zero, bs_no (by simp [alf])]
      exact ih
    · have l1 : dgr n t k ≤ n := dgr_le
      have l2 : dgr n t p ≤ n := dgr_le
      rw [if_neg (fun z => e ((nI_eq (by omega) (by omega)).mp z)), if_pos (inb_nI (by omega) (by decide)), if_pos (inb_nI (by omega) (by decide)), ix_nI (by omega), ix_nI (by omega), hM k (by omega), hM p hp]
      by_cases z : dgr n t k = dgr n t p
      · rw [if_pos (by rw [z]), one_sl (by omega), or_I, nI_1, bs_or (by simp [alf, e, z])]
        exact ih
      · rw [if_neg (fun w => z ((nI_eq (by omega) (by omega)).mp w)), show (0 : Int32) = nI 0 from rfl, or_I, nI_1, Nat.or_zero, bs_no (by simp [alf, z])]
        exact ih
theorem q_alike {M : Mm} (h : Rel M) (x : Int32) : ∃ (r : Int32) (M2 : Mm), (∀ N, 28 < N → f_Uc_alike N x M = some r ∧ f_Mo_alike N x M = some (r, M2)) ∧ Same M M2 := by
  obtain ⟨n, t, b, m, mk, dr, sd, h1, h2, h3, -⟩ := h
  have hn := h1.1
  unfold f_Uc_alike f_Mo_alike
  rcases pers x h1.1 with ⟨j, hj, rfl⟩ | hx
  · refine ⟨nI (bs (alf n t j) n), cnM n t (np n) M, fun N hN => ⟨?_, ?_⟩, Same.cn⟩
    · rw [has_yes hn h2.1 hj, if_neg h10, aw_I (by omega) hn h2 hj]; rfl
    · rw [per_yes hn h3.1 hj, if_neg h10, h3.1, h3.2.1, fc_I (by omega) hn (np_lt31 hn h1.2.1)]
      exact al_loop N hn (by rw [cn_off (by decide)]; exact h3.1) (fun j hj => by rw [cn_at hj, pd_full hn hj]) hj n 0 N (by omega) (by omega)
  · rw [has_no hn h2.1 hx, per_no hn h3.1 hx]
    exact ⟨_, M, fun N _ => ⟨if_pos rfl, if_pos rfl⟩, Same.rf M⟩
theorem nle_I {a b : Int32} : ¬ a ≤ b ↔ b < a := Int32.not_le
theorem nlt_I {a b : Int32} : ¬ a < b ↔ b ≤ a := Int32.not_lt
theorem tied_I (x w i j : Int32) (hw : ¬ w < 0) (hw1 : w ≤ 1) : f_Uc_placesTied x w i j = f_Mo_isMade x w i j := by
  unfold f_Uc_placesTied f_Mo_isMade
  simp only [lt]
  by_cases e : w = 0
  · rw [if_pos e]
    by_cases z : i + j < x
    · simp only [if_pos e, if_pos z]; rfl
    · simp only [if_pos e, if_neg z]; rfl
  · rw [if_neg e]
    by_cases z : i + j < x
    · have z2 : ¬ x ≤ i + j := nle_I.mpr z
      simp only [if_neg e, if_pos z, if_neg z2]; rfl
    · have z2 : x ≤ i + j := nlt_I.mp z
      simp only [if_neg e, if_neg z, if_pos z2]; rfl
theorem z0 {c : Prop} [Decidable c] {α : Type} {a b : α} : (if (if c then (0 : Int32) else 1) = 0 then a else b) = if c then a else b := by
  by_cases h : c
  · rw [if_pos h, if_pos h, if_pos rfl]
  · rw [if_neg h, if_neg h, if_neg h10]
theorem in_if {α : Type} (x lo hi : Int32) (a b : α) : (if f_Mo_in x.toInt64 lo.toInt64 hi.toInt64 = 0 then a else b) = if x < lo then a else if hi < x then a else b := by
  rw [in_I]
  by_cases h : x < lo
  · rw [if_pos h, if_pos h, if_pos rfl]
  · rw [if_neg h, if_neg h]
    exact z0
theorem q_made (x w i j : Int32) : f_Uc_made x w i j = f_Mo_made x w i j := by
  unfold f_Uc_made f_Mo_made
  rw [show (2 : Int64) = (2 : Int32).toInt64 from rfl, show (8 : Int64) = (8 : Int32).toInt64 from rfl, show (0 : Int64) = (0 : Int32).toInt64 from rfl, show (1 : Int64) = (1 : Int32).toInt64 from rfl, in_if, in_if, in_if, in_if]
  by_cases h1 : x < 2
  · rw [if_pos h1, if_pos h1]
  rw [if_neg h1, if_neg h1]
  by_cases h2 : 8 < x
  · rw [if_pos h2, if_pos h2]
  rw [if_neg h2, if_neg h2]
  by_cases h3 : w < 0
  · rw [if_pos h3, if_pos h3]
  rw [if_neg h3, if_neg h3]
  by_cases h4 : w ≤ 1
  · rw [if_pos h4, if_neg (nlt_I.mpr h4)]
    obtain ⟨k, hk, rfl⟩ := nI_of2 (x := x) (M := 8) (n := 8) rfl (fun z => h1 (Int32.lt_trans z (by decide))) (nlt_I.mp h2)
    have hk2 : 2 ≤ k := by
      rcases Nat.lt_or_ge k 2 with q | q
      · exact absurd (nI_lt q (by decide)) h1
      · exact q
    obtain ⟨k', rfl⟩ : ∃ k', k = k' + 1 := ⟨k - 1, by omega⟩
    rw [nI_pred]
    have hc : ∀ y : Int32, ¬ y < 0 → (nI k' < y ↔ nI (k' + 1) ≤ y) := by
      intro y hy
      obtain ⟨l, hl, rfl⟩ := nI_of hy
      rw [nI_ltI (by omega) hl, nI_leI (by omega) hl]
      omega
    by_cases h5 : i < 0
    · rw [if_pos h5, if_pos h5]
    rw [if_neg h5, if_neg h5]
    by_cases h6 : nI (k' + 1) ≤ i
    · rw [if_pos h6, if_pos ((hc i h5).mpr h6)]
    rw [if_neg h6, if_neg (fun z => h6 ((hc i h5).mp z))]
    by_cases h7 : j < 0
    · rw [if_pos h7, if_pos h7]
    rw [if_neg h7, if_neg h7]
    by_cases h8 : nI (k' + 1) ≤ j
    · rw [if_pos h8, if_pos ((hc j h7).mpr h8)]
    rw [if_neg h8, if_neg (fun z => h8 ((hc j h7).mp z)), tied_I _ _ _ _ h3 h4]
  · rw [if_neg h4, if_pos (nle_I.mp h4)]
/-! what each piece reads -/
def uCT (a0 a j : Nat) : Bool := decide (a0 ≤ a) && decide (a ≤ a0 + 4)
def uMT (a j : Nat) : Bool := (a == 49 && decide (j ≤ 5)) || a == 50
def uTx (a j : Nat) : Bool := (a == 11 && j == 2) || (a == 49 && j == 10) || a == 12 || a == 52
def uBk (a j : Nat) : Bool := (a == 33 && j == 3) || (a == 49 && j == 33) || (decide (34 ≤ a) && decide (a ≤ 36)) || (decide (59 ≤ a) && decide (a ≤ 61))
def uIm (a0 a j : Nat) : Bool := (decide (a0 ≤ a) && decide (a ≤ a0 + 5)) || a == 62 || a == 63
def uWy (a j : Nat) : Bool := a == 31 || a == 32
def Ag (u : Nat → Nat → Bool) (M M' : Mm) : Prop := ∀ a j, u a j = true → M'.1 a j = M.1 a j
theorem Ag.si {u : Nat → Nat → Bool} {M M1 : Mm} (h : Ag u M M1) {a k : Nat} (x : Int32) (hr : u a k = false) : Ag u M (si M1 a k x) := by
  intro b j r
  rw [si1, if_neg (fun q => by rw [q.1, q.2, hr] at r; cases r)]
  exact h b j r
theorem Ag.rf {u : Nat → Nat → Bool} (M : Mm) : Ag u M M := fun _ _ _ => rfl
theorem CT.ag {M M' : Mm} {a n t b m mk dr : Nat} {sd : Nat → Nat} (h : CT M a n t b m mk dr sd) (hS : Ag (uCT a) M M') : CT M' a n t b m mk dr sd := by
  obtain ⟨h1, h2, h3, h4⟩ := h
  have u : ∀ k j, k ≤ 4 → M'.1 (a + k) j = M.1 (a + k) j := fun k j hk => hS _ _ (by simp [uCT]; omega)
  exact ⟨(u 0 0 (by omega)).trans h1, (u 0 1 (by omega)).trans h2, (u 0 2 (by omega)).trans h3, fun p hp => ⟨(u 1 p (by omega)).trans (h4 p hp).1, (u 2 p (by omega)).trans (h4 p hp).2.1, (u 3 p (by omega)).trans (h4 p hp).2.2.1, (u 4 p (by omega)).trans (h4 p hp).2.2.2⟩⟩
theorem MT.ag {M M' : Mm} {n t b m mk dr : Nat} {sd : Nat → Nat} (h : MT M n t b m mk dr sd) (hS : Ag uMT M M') : MT M' n t b m mk dr sd := by
  obtain ⟨h1, h2, h3, h4, h5, h6, h7⟩ := h
  exact ⟨(hS _ _ rfl).trans h1, (hS _ _ rfl).trans h2, (hS _ _ rfl).trans h3, (hS _ _ rfl).trans h4, (hS _ _ rfl).trans h5, (hS _ _ rfl).trans h6, fun p hp => (hS _ _ rfl).trans (h7 p hp)⟩
theorem RText.ag {M M' : Mm} (h : RText M) (hS : Ag uTx M M') : RText M' := by
  obtain ⟨len, h0, h1, h2, h3⟩ := h
  refine ⟨len, h0, (hS _ _ rfl).trans h1, (hS _ _ rfl).trans h2, fun i hi => ?_⟩
  obtain ⟨c, c1, c2, c3⟩ := h3 i hi
  exact ⟨c, c1, (hS _ _ rfl).trans c2, (hS _ _ rfl).trans c3⟩
theorem RBook.ag {M M' : Mm} (h : RBook M) (hS : Ag uBk M M') : RBook M' := by
  obtain ⟨k, h0, h1, h2, h3⟩ := h
  refine ⟨k, h0, (hS _ _ rfl).trans h1, (hS _ _ rfl).trans h2, fun i hi => ?_⟩
  obtain ⟨p, q, c, c1, c2, c3, c4, ⟨d1, d2, d3⟩, d4, d5, d6⟩ := h3 i hi
  exact ⟨p, q, c, c1, c2, c3, c4, ⟨(hS _ _ rfl).trans d1, (hS _ _ rfl).trans d2, (hS _ _ rfl).trans d3⟩, (hS _ _ rfl).trans d4, (hS _ _ rfl).trans d5, (hS _ _ rfl).trans d6⟩
theorem RImg.ag {M M' : Mm} {i a mk dr : Nat} (h : RImg M i a mk dr) (hS : Ag (uIm a) M M') : RImg M' i a mk dr := by
  have u : ∀ k j, k ≤ 5 → M'.1 (a + k) j = M.1 (a + k) j := fun k j hk => hS _ _ (by simp [uIm]; omega)
  have v : ∀ j, M'.1 62 j = M.1 62 j := fun j => hS _ _ (by simp [uIm])
  have w : ∀ j, M'.1 63 j = M.1 63 j := fun j => hS _ _ (by simp [uIm])
  rcases h with ⟨h1, h2⟩ | ⟨h1, h2, n, t, b, m, sd, s, g1, g2, g3, g4, g5, g6, g7, g8, g9, g10⟩
  · exact Or.inl ⟨(u 0 2 (by omega)).trans h1, (w i).trans h2⟩
  · exact Or.inr ⟨(u 0 2 (by omega)).trans h1, (w i).trans h2, n, t, b, m, sd, s, g1, g2.ag (fun x j hx => hS x j (by simp [uCT] at hx; simp [uIm]; omega)), g3, (u 0 1 (by omega)).trans g4, (v _).trans g5, (v _).trans g6, (v _).trans g7, (v _).trans g8, (v _).trans g9, fun p hp => (v _).trans (g10 p hp)⟩
theorem RWays.ag {M M' : Mm} (h : RWays M) (hS : Ag uWy M M') : RWays M' :=
  ⟨fun a b h1 h2 h3 h4 => by rw [hS 31 _ rfl]; exact h.1 a b h1 h2 h3 h4, fun n h1 h2 => by rw [hS 32 _ rfl]; exact h.2 n h1 h2⟩
theorem q_seed {M : Mm} (h : Rel M) (x : Int32) : ∃ (r : Int32) (M1 M2 : Mm), f_Uc_seed x M = (r, M1) ∧ f_Mo_seed x M1 = (r, M2) ∧ Rel M2 := by
  have hh := h
  obtain ⟨n, t, b, m, mk, dr, sd, h1, h2, h3, ⟨s, s1, s2, s3⟩, h5, h6, h7, ⟨h8, h9⟩, h10'⟩ := h
  unfold f_Uc_seed f_Mo_seed
  by_cases z : 0 ≤ x
  · simp only [if_pos z, lt]
    refine ⟨nI s, si M 0 10 x, si (si M 0 10 x) 49 7 x, by rw [s2], by rw [si_a _ _ (by decide), s3], ?_⟩
    obtain ⟨y, hy, rfl⟩ := nI_of (nlt_I.mpr z)
    have ag : ∀ u : Nat → Nat → Bool, u 0 10 = false → u 49 7 = false → Ag u M (si (si M 0 10 (nI y)) 49 7 (nI y)) := fun u u1 u2 => ((Ag.rf M).si _ u1).si _ u2
    refine ⟨n, t, b, m, mk, dr, sd, h1, h2.ag (ag _ rfl rfl), h3.ag (ag _ rfl rfl), ⟨y, hy, ?_, ?_⟩, h5.ag (ag _ rfl rfl), ?_, h7.ag (ag _ rfl rfl), ⟨h8.ag (ag _ rfl rfl), h9.ag (ag _ rfl rfl)⟩, h10'.ag (ag _ rfl rfl)⟩
    · rw [si_a _ _ (by decide), si_s]
    · rw [si_s]
    · rw [si_a _ _ (by decide), si_a _ _ (by decide), si_k _ _ (by decide), si_a _ _ (by decide)]; exact h6
  · simp only [if_neg z]
    exact ⟨_, M, M, rfl, rfl, hh⟩
theorem q_tear {M : Mm} (h : Rel M) : ∃ (r : Int32) (M1 M2 : Mm), f_Uc_tear M = (r, M1) ∧ f_Mo_tear M1 = (r, M2) ∧ Rel M2 := by
  obtain ⟨n, t, b, m, mk, dr, sd, h1, h2, h3, ⟨s, s1, s2, s3⟩, h5, h6, ⟨k, k0, k1, k2, k3⟩, ⟨h8, h9⟩, h10'⟩ := h
  unfold f_Uc_tear f_Mo_tear f_Bk_empty
  simp only [lt]
  refine ⟨nI k, si M 33 3 0, si (si M 33 3 0) 49 33 0, by rw [k1], by rw [si_a _ _ (by decide), k2], ?_⟩
  have ag : ∀ u : Nat → Nat → Bool, u 33 3 = false → u 49 33 = false → Ag u M (si (si M 33 3 0) 49 33 0) := fun u u1 u2 => ((Ag.rf M).si _ u1).si _ u2
  refine ⟨n, t, b, m, mk, dr, sd, h1, h2.ag (ag _ rfl rfl), h3.ag (ag _ rfl rfl), ⟨s, s1, ?_, ?_⟩, h5.ag (ag _ rfl rfl), ?_, ⟨0, by decide, ?_, ?_, fun i hi => absurd hi (Nat.not_lt_zero i)⟩, ⟨h8.ag (ag _ rfl rfl), h9.ag (ag _ rfl rfl)⟩, h10'.ag (ag _ rfl rfl)⟩
  · rw [si_a _ _ (by decide), si_a _ _ (by decide)]; exact s2
  · rw [si_k _ _ (by decide), si_a _ _ (by decide)]; exact s3
  · rw [si_a _ _ (by decide), si_a _ _ (by decide), si_k _ _ (by decide), si_a _ _ (by decide)]; exact h6
  · rw [si_a _ _ (by decide), si_s]; rfl
  · rw [si_s]; rfl
