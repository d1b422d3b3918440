/-! SHEETS -/
theorem sh_fr {M M' : am_M} {p k : Nat} (h0 : M' p = M p) (h1 : M' (p + 1) = M (p + 1)) (h2 : M' 54 k = M 54 k) (h3 : M' 55 k = M 55 k) (h4 : ∀ i, i < 40 → M' 56 (40 * k + i) = M 56 (40 * k + i)) (hs : srel M p k) : srel M' p k := by
  rcases hs with ⟨a, b⟩ | ⟨ln, sz, h5, h6, a, b, c, d, e⟩
  · exact Or.inl ⟨by rw [h0]; exact a, by rw [h2]; exact b⟩
  · exact Or.inr ⟨ln, sz, h5, h6, by rw [h0]; exact a, by rw [h2]; exact b, by rw [h0]; exact c, by rw [h3]; exact d, fun i hi => by rw [h4 i hi, h1]; exact e i hi⟩
theorem rel_sheet {M M' : am_M} {k : Nat} (hk : k < 4) (hR : Rel M) (hx : ∀ x, x ≠ 35 + 2 * k → x ≠ 36 + 2 * k → x ≠ 54 → x ≠ 55 → x ≠ 56 → M' x = M x) (h54 : ∀ j, j ≠ k → M' 54 j = M 54 j ∧ M' 55 j = M 55 j) (h56 : ∀ j, j < 40 * k ∨ 40 * k + 40 ≤ j → M' 56 j = M 56 j) (hs : srel M' (35 + 2 * k) k) : Rel M' := by
  obtain ⟨hc, ⟨i1, i2⟩, ⟨i3, i4⟩, ht, ⟨f1, f2⟩, s1, s2, s3, s4⟩ := hR
  have e : ∀ x, x < 35 ∨ (42 < x ∧ x < 54) → M' x = M x := fun x h => hx x (by omega) (by omega) (by omega) (by omega) (by omega)
  have sj : ∀ j, j < 4 → srel M (35 + 2 * j) j → srel M' (35 + 2 * j) j := by
    intro j hj h
    by_cases ej : j = k
    · subst ej; exact hs
    · exact sh_fr (hx _ (by omega) (by omega) (by omega) (by omega) (by omega)) (hx _ (by omega) (by omega) (by omega) (by omega) (by omega)) (h54 j ej).1 (h54 j ej).2 (fun i hi => h56 _ (by omega)) h
  refine ⟨crel_fr (fun x h => e x (by omega)) hc, ⟨by rw [e 46 (by omega), e 25 (by omega)]; exact i1, ?_⟩, ⟨by rw [e 46 (by omega), e 25 (by omega)]; exact i3, ?_⟩, trel_fr (e 3 (by omega)) (e 48 (by omega)) (by rw [e 2 (by omega)]) (by rw [e 43 (by omega)]) ht, ⟨by rw [e 43 (by omega), e 0 (by omega)]; exact f1, by rw [e 43 (by omega), e 0 (by omega)]; exact f2⟩, sj 0 (by omega) s1, sj 1 (by omega) s2, sj 2 (by omega) s3, sj 3 (by omega) s4⟩
  · rw [e 25 (by omega)]
    exact i2.imp id (fun h => ⟨h.1, crel_fr (fun x hx => e x (by omega)) h.2⟩)
  · rw [e 25 (by omega)]
    exact i4.imp id (fun h => ⟨h.1, crel_fr (fun x hx => e x (by omega)) h.2⟩)
theorem nat_in {a : Int32} {N : Nat} (hN : N < 2 ^ 31) (h : 0 ≤ a ∧ a ≤ nI N) : ∃ k, k ≤ N ∧ a = nI k := by
  obtain ⟨k, hk, rfl⟩ := nI_of (x := a) (Int32.not_lt.mpr h.1)
  exact ⟨k, (ni_le hk hN).mp h.2, rfl⟩
theorem in_nat {N k : Nat} (hN : N < 2 ^ 31) (h : k ≤ N) : 0 ≤ nI k ∧ nI k ≤ nI N := ⟨nI_pos' (by omega), (ni_le (by omega) hN).mpr h⟩
theorem sheet_c (a : Int32) : (f_X7_isSheet a = 1 ∧ ∃ k, k < 4 ∧ a = nI k) ∨ (f_X7_isSheet a = 0 ∧ ¬ (0 ≤ a ∧ a ≤ 3)) := by
  unfold f_X7_isSheet
  by_cases h1 : a < 0
  · rw [if_pos h1]
    exact Or.inr ⟨rfl, fun h => absurd h1 (Int32.not_lt.mpr h.1)⟩
  · rw [if_neg h1]
    obtain ⟨k, hk, rfl⟩ := nI_of h1
    by_cases h2 : 4 ≤ nI k
    · rw [if_pos h2]
      refine Or.inr ⟨rfl, fun h => ?_⟩
      have a1 := (ni_le (a := 4) (b := k) (by omega) (by omega)).mp h2
      have a2 := (ni_le (a := k) (b := 3) (by omega) (by omega)).mp h.2
      omega
    · rw [if_neg h2]
      refine Or.inl ⟨rfl, k, ?_, rfl⟩
      apply Decidable.byContradiction
      intro hn
      exact h2 ((ni_le (a := 4) (b := k) (by omega) (by omega)).mpr (by omega))
theorem lane_c (a : Int32) : (f_X7_isLane a = 1 ∧ ∃ k, k < 3 ∧ a = nI k) ∨ (f_X7_isLane a = 0 ∧ ¬ (0 ≤ a ∧ a ≤ 2)) := by
  unfold f_X7_isLane
  by_cases h1 : a < 0
  · rw [if_pos h1]
    exact Or.inr ⟨rfl, fun h => absurd h1 (Int32.not_lt.mpr h.1)⟩
  · rw [if_neg h1]
    obtain ⟨k, hk, rfl⟩ := nI_of h1
    by_cases h2 : 3 ≤ nI k
    · rw [if_pos h2]
      refine Or.inr ⟨rfl, fun h => ?_⟩
      have a1 := (ni_le (a := 3) (b := k) (by omega) (by omega)).mp h2
      have a2 := (ni_le (a := k) (b := 2) (by omega) (by omega)).mp h.2
      omega
    · rw [if_neg h2]
      refine Or.inl ⟨rfl, k, ?_, rfl⟩
      apply Decidable.byContradiction
      intro hn
      exact h2 ((ni_le (a := 3) (b := k) (by omega) (by omega)).mpr (by omega))
theorem sheet_y {k l : Nat} (hk : k < 4) (hl : l < 3) : ¬ f_X8_isSheet (nI k) (nI l) = 0 := by
  unfold f_X8_isSheet
  rw [if_neg (in_y (b := 0) (c := 3) (by decide) (by decide) (in_nat (N := 3) (by omega) (by omega))), if_neg (in_y (b := 0) (c := 2) (by decide) (by decide) (in_nat (N := 2) (by omega) (by omega)))]
  decide
theorem sheet_n1 {a b : Int32} (h : ¬ (0 ≤ a ∧ a ≤ 3)) : f_X8_isSheet a b = 0 := by
  unfold f_X8_isSheet
  rw [if_pos (in_n (b := 0) (c := 3) (by decide) (by decide) h)]
theorem sheet_n2 {a b : Int32} (h : ¬ (0 ≤ b ∧ b ≤ 2)) : f_X8_isSheet a b = 0 := by
  unfold f_X8_isSheet
  rw [if_pos (c := f_X8_in b.toInt64 0 2 = 0) (in_n (b := 0) (c := 2) (by decide) (by decide) h)]
  split <;> rfl
theorem a_40 (k i : Nat) : ((40 : Int32) * nI k) + nI i = nI (40 * k + i) := by
  rw [show (40 : Int32) = nI 40 from rfl, pk_mul, nI_add]
theorem fill_36 (a : Int32) (M : am_M) : ∃ r, f_J7_fill_53178_36 a M = some r ∧ ((∀ x, x ≠ 36 → r x = M x) ∧ ∀ i, i < 40 → r 36 i = a) := by
  unfold f_J7_fill_53178_36
  refine lp_bnd (fun r => r) (fun i s => ∃ M', s = (nI i, M') ∧ (∀ x, x ≠ 36 → M' x = M x) ∧ ∀ j, j < i → M' 36 j = a) (fun q => ∃ y M', q = (y, M') ∧ (∀ x, x ≠ 36 → M' x = M x) ∧ ∀ j, j < 40 → M' 36 j = a) (n := 40) (lpF (by omega)) ⟨_, rfl, fun x _ => rfl, fun j hj => by omega⟩ ?_ ?_ ?_
  · rintro i s hi ⟨M', rfl, h1, h2⟩
    dsimp only
    rw [if_neg (c := 40 ≤ nI i) (nle_n (n := 40) hi (by omega)), if_pos (db_ok hi (by omega)), nI_clamp (by omega), bl_s, nI_s]
    refine Or.inl ⟨_, rfl, _, rfl, fun x hx => by rw [am_up_ne hx, h1 x hx], fun j hj => ?_⟩
    by_cases e : j = i
    · subst e; rw [up_s]
    · rw [up_k (by omega), h2 j (by omega)]
  · rintro s ⟨M', rfl, h⟩
    dsimp only
    rw [if_pos (c := 40 ≤ nI 40) (by decide)]
    exact ⟨_, rfl, _, M', rfl, h⟩
  · rintro q ⟨y, M', rfl, h⟩
    exact ⟨_, rfl, h⟩
theorem renew_35 (a b : Int32) (M : am_M) : ∃ r, f_X3_renew_35 a b M = some r ∧ ((∀ x, x ≠ 35 → x ≠ 36 → r x = M x) ∧ r 35 0 = a ∧ r 35 1 = b ∧ ∀ i, i < 40 → r 36 i = 0) := by
  unfold f_X3_renew_35
  rw [bl_s, bl_s]
  obtain ⟨r, e, h1, h2⟩ := fill_36 0 (am_up (am_up M 35 0 a) 35 1 b)
  refine ⟨r, by rw [e]; rfl, fun x hx hx' => by rw [h1 x hx', am_up_ne hx, am_up_ne hx], by rw [h1 35 (by decide), up_k (by decide), up_s], by rw [h1 35 (by decide), up_s], h2⟩
theorem fill_38 (a : Int32) (M : am_M) : ∃ r, f_J7_fill_53178_38 a M = some r ∧ ((∀ x, x ≠ 38 → r x = M x) ∧ ∀ i, i < 40 → r 38 i = a) := by
  unfold f_J7_fill_53178_38
  refine lp_bnd (fun r => r) (fun i s => ∃ M', s = (nI i, M') ∧ (∀ x, x ≠ 38 → M' x = M x) ∧ ∀ j, j < i → M' 38 j = a) (fun q => ∃ y M', q = (y, M') ∧ (∀ x, x ≠ 38 → M' x = M x) ∧ ∀ j, j < 40 → M' 38 j = a) (n := 40) (lpF (by omega)) ⟨_, rfl, fun x _ => rfl, fun j hj => by omega⟩ ?_ ?_ ?_
  · rintro i s hi ⟨M', rfl, h1, h2⟩
    dsimp only
    rw [if_neg (c := 40 ≤ nI i) (nle_n (n := 40) hi (by omega)), if_pos (db_ok hi (by omega)), nI_clamp (by omega), bl_s, nI_s]
    refine Or.inl ⟨_, rfl, _, rfl, fun x hx => by rw [am_up_ne hx, h1 x hx], fun j hj => ?_⟩
    by_cases e : j = i
    · subst e; rw [up_s]
    · rw [up_k (by omega), h2 j (by omega)]
  · rintro s ⟨M', rfl, h⟩
    dsimp only
    rw [if_pos (c := 40 ≤ nI 40) (by decide)]
    exact ⟨_, rfl, _, M', rfl, h⟩
  · rintro q ⟨y, M', rfl, h⟩
    exact ⟨_, rfl, h⟩
theorem renew_37 (a b : Int32) (M : am_M) : ∃ r, f_X3_renew_37 a b M = some r ∧ ((∀ x, x ≠ 37 → x ≠ 38 → r x = M x) ∧ r 37 0 = a ∧ r 37 1 = b ∧ ∀ i, i < 40 → r 38 i = 0) := by
  unfold f_X3_renew_37
  rw [bl_s, bl_s]
  obtain ⟨r, e, h1, h2⟩ := fill_38 0 (am_up (am_up M 37 0 a) 37 1 b)
  refine ⟨r, by rw [e]; rfl, fun x hx hx' => by rw [h1 x hx', am_up_ne hx, am_up_ne hx], by rw [h1 37 (by decide), up_k (by decide), up_s], by rw [h1 37 (by decide), up_s], h2⟩
theorem fill_40 (a : Int32) (M : am_M) : ∃ r, f_J7_fill_53178_40 a M = some r ∧ ((∀ x, x ≠ 40 → r x = M x) ∧ ∀ i, i < 40 → r 40 i = a) := by
  unfold f_J7_fill_53178_40
  refine lp_bnd (fun r => r) (fun i s => ∃ M', s = (nI i, M') ∧ (∀ x, x ≠ 40 → M' x = M x) ∧ ∀ j, j < i → M' 40 j = a) (fun q => ∃ y M', q = (y, M') ∧ (∀ x, x ≠ 40 → M' x = M x) ∧ ∀ j, j < 40 → M' 40 j = a) (n := 40) (lpF (by omega)) ⟨_, rfl, fun x _ => rfl, fun j hj => by omega⟩ ?_ ?_ ?_
  · rintro i s hi ⟨M', rfl, h1, h2⟩
    dsimp only
    rw [if_neg (c := 40 ≤ nI i) (nle_n (n := 40) hi (by omega)), if_pos (db_ok hi (by omega)), nI_clamp (by omega), bl_s, nI_s]
    refine Or.inl ⟨_, rfl, _, rfl, fun x hx => by rw [am_up_ne hx, h1 x hx], fun j hj => ?_⟩
    by_cases e : j = i
    · subst e; rw [up_s]
    · rw [up_k (by omega), h2 j (by omega)]
  · rintro s ⟨M', rfl, h⟩
    dsimp only
    rw [if_pos (c := 40 ≤ nI 40) (by decide)]
    exact ⟨_, rfl, _, M', rfl, h⟩
  · rintro q ⟨y, M', rfl, h⟩
    exact ⟨_, rfl, h⟩
theorem renew_39 (a b : Int32) (M : am_M) : ∃ r, f_X3_renew_39 a b M = some r ∧ ((∀ x, x ≠ 39 → x ≠ 40 → r x = M x) ∧ r 39 0 = a ∧ r 39 1 = b ∧ ∀ i, i < 40 → r 40 i = 0) := by
  unfold f_X3_renew_39
  rw [bl_s, bl_s]
  obtain ⟨r, e, h1, h2⟩ := fill_40 0 (am_up (am_up M 39 0 a) 39 1 b)
  refine ⟨r, by rw [e]; rfl, fun x hx hx' => by rw [h1 x hx', am_up_ne hx, am_up_ne hx], by rw [h1 39 (by decide), up_k (by decide), up_s], by rw [h1 39 (by decide), up_s], h2⟩
theorem fill_42 (a : Int32) (M : am_M) : ∃ r, f_J7_fill_53178_42 a M = some r ∧ ((∀ x, x ≠ 42 → r x = M x) ∧ ∀ i, i < 40 → r 42 i = a) := by
  unfold f_J7_fill_53178_42
  refine lp_bnd (fun r => r) (fun i s => ∃ M', s = (nI i, M') ∧ (∀ x, x ≠ 42 → M' x = M x) ∧ ∀ j, j < i → M' 42 j = a) (fun q => ∃ y M', q = (y, M') ∧ (∀ x, x ≠ 42 → M' x = M x) ∧ ∀ j, j < 40 → M' 42 j = a) (n := 40) (lpF (by omega)) ⟨_, rfl, fun x _ => rfl, fun j hj => by omega⟩ ?_ ?_ ?_
  · rintro i s hi ⟨M', rfl, h1, h2⟩
    dsimp only
    rw [if_neg (c := 40 ≤ nI i) (nle_n (n := 40) hi (by omega)), if_pos (db_ok hi (by omega)), nI_clamp (by omega), bl_s, nI_s]
    refine Or.inl ⟨_, rfl, _, rfl, fun x hx => by rw [am_up_ne hx, h1 x hx], fun j hj => ?_⟩
    by_cases e : j = i
    · subst e; rw [up_s]
    · rw [up_k (by omega), h2 j (by omega)]
  · rintro s ⟨M', rfl, h⟩
    dsimp only
    rw [if_pos (c := 40 ≤ nI 40) (by decide)]
    exact ⟨_, rfl, _, M', rfl, h⟩
  · rintro q ⟨y, M', rfl, h⟩
    exact ⟨_, rfl, h⟩
theorem renew_41 (a b : Int32) (M : am_M) : ∃ r, f_X3_renew_41 a b M = some r ∧ ((∀ x, x ≠ 41 → x ≠ 42 → r x = M x) ∧ r 41 0 = a ∧ r 41 1 = b ∧ ∀ i, i < 40 → r 42 i = 0) := by
  unfold f_X3_renew_41
  rw [bl_s, bl_s]
  obtain ⟨r, e, h1, h2⟩ := fill_42 0 (am_up (am_up M 41 0 a) 41 1 b)
  refine ⟨r, by rw [e]; rfl, fun x hx hx' => by rw [h1 x hx', am_up_ne hx, am_up_ne hx], by rw [h1 41 (by decide), up_k (by decide), up_s], by rw [h1 41 (by decide), up_s], h2⟩
theorem sheet_r {k l sz : Nat} (hk : k < 4) (hl : l < 3) (hs : sz ≤ 40) (M : am_M) : ∃ r, f_X8_sheet_43 (nI k) (nI l) (nI sz) M = some (1, r) ∧ ((∀ x, x ≠ 54 → x ≠ 55 → x ≠ 56 → r x = M x) ∧ r 54 k = nI l ∧ r 55 k = nI sz ∧ (∀ j, j ≠ k → r 54 j = M 54 j ∧ r 55 j = M 55 j) ∧ (∀ i, i < 40 → r 56 (40 * k + i) = 0) ∧ ∀ j, j < 40 * k ∨ 40 * k + 40 ≤ j → r 56 j = M 56 j) := by
  unfold f_X8_sheet_43
  rw [if_neg (sheet_y hk hl), if_pos (c := nI sz ≤ 40) (in_nat (N := 40) (by omega) hs).2, if_pos (in_nat (N := 40) (by omega) hs).1, if_pos (db_ok hk (by omega)), nI_clamp (by omega), bl_s]
  simp only [if_pos (db_ok hk (show 4 < 2 ^ 31 by omega))]
  rw [bl_s]
  refine lp_bnd (fun r => (1, r)) (fun i s => ∃ M', s = (nI i, M') ∧ (∀ x, x ≠ 56 → M' x = am_up (am_up M 54 k (nI l)) 55 k (nI sz) x) ∧ (∀ j, j < i → M' 56 (40 * k + j) = 0) ∧ ∀ j, j < 40 * k ∨ 40 * k + 40 ≤ j → M' 56 j = M 56 j) (fun q => ∃ y M', q = (y, M') ∧ (∀ x, x ≠ 56 → M' x = am_up (am_up M 54 k (nI l)) 55 k (nI sz) x) ∧ (∀ j, j < 40 → M' 56 (40 * k + j) = 0) ∧ ∀ j, j < 40 * k ∨ 40 * k + 40 ≤ j → M' 56 j = M 56 j) (n := 40) (lpF (by omega)) ⟨_, rfl, fun x _ => rfl, fun j hj => by omega, fun j _ => by rw [up_p (by decide), up_p (by decide)]⟩ ?_ ?_ ?_
  · rintro i s hi ⟨M', rfl, h1, h2, h3⟩
    dsimp only
    rw [if_neg (c := 40 ≤ nI i) (nle_n (n := 40) hi (by omega)), a_40, if_pos (db_ok (by omega) (by omega)), nI_clamp (by omega), bl_s, nI_s]
    refine Or.inl ⟨_, rfl, _, rfl, fun x hx => by rw [am_up_ne hx, h1 x hx], fun j hj => ?_, fun j hj => by rw [up_k (by omega), h3 j hj]⟩
    by_cases e : j = i
    · subst e; rw [up_s]
    · rw [up_k (by omega), h2 j (by omega)]
  · rintro s ⟨M', rfl, h⟩
    dsimp only
    rw [if_pos (c := 40 ≤ nI 40) (by decide)]
    exact ⟨_, rfl, _, M', rfl, h⟩
  · rintro q ⟨y, M', rfl, h1, h2, h3⟩
    refine ⟨M', rfl, fun x hx hx' hx2 => by rw [h1 x hx2, am_up_ne hx', am_up_ne hx], by rw [h1 54 (by decide), up_p (by decide), up_s], by rw [h1 55 (by decide), up_s], fun j hj => ⟨by rw [h1 54 (by decide), up_p (by decide), up_k hj], by rw [h1 55 (by decide), up_k hj, up_p (by decide)]⟩, h2, h3⟩
theorem sheet_end {M M1 M2 : am_M} {k l sz : Nat} (hk : k < 4) (hl : l < 3) (hs : sz ≤ 40) (hR : Rel M) (h1 : ∀ x, x ≠ 35 + 2 * k → x ≠ 36 + 2 * k → M1 x = M x) (h2 : M1 (35 + 2 * k) 0 = nI l) (h3 : M1 (35 + 2 * k) 1 = nI sz) (h4 : ∀ i, i < 40 → M1 (36 + 2 * k) i = 0) (g1 : ∀ x, x ≠ 54 → x ≠ 55 → x ≠ 56 → M2 x = M1 x) (g2 : M2 54 k = nI l) (g3 : M2 55 k = nI sz) (g4 : ∀ j, j ≠ k → M2 54 j = M1 54 j ∧ M2 55 j = M1 55 j) (g5 : ∀ i, i < 40 → M2 56 (40 * k + i) = 0) (g6 : ∀ j, j < 40 * k ∨ 40 * k + 40 ≤ j → M2 56 j = M1 56 j) : Rel M2 := by
  refine rel_sheet hk hR (fun x hx hx' a b c => by rw [g1 x a b c, h1 x hx hx']) (fun j hj => ?_) (fun j hj => by rw [g6 j hj, h1 56 (by omega) (by omega)]) (Or.inr ⟨l, sz, hl, hs, by rw [g1 _ (by omega) (by omega) (by omega), h2], g2, by rw [g1 _ (by omega) (by omega) (by omega), h3], g3, fun i hi => by rw [g5 i hi, g1 _ (by omega) (by omega) (by omega), show 35 + 2 * k + 1 = 36 + 2 * k by omega, h4 i hi]⟩)
  have := g4 j hj
  rw [h1 54 (by omega) (by omega), h1 55 (by omega) (by omega)] at this
  exact this
theorem op_sheet (a0 a1 a2 : Int32) {M : am_M} (h : Rel M) : ∃ v M1 M2, f_X7_sheet_0 a0 a1 a2 M = some (v, M1) ∧ f_X8_sheet_43 a0 a1 a2 M1 = some (v, M2) ∧ Rel M2 := by
  unfold f_X7_sheet_0
  rcases sheet_c a0 with ⟨e, k, hk, rfl⟩ | ⟨e, hno⟩
  · rw [e, if_neg (c := (1 : Int32) = 0) (by decide)]
    rcases lane_c a1 with ⟨e1, l, hl, rfl⟩ | ⟨e1, hno⟩
    · rw [e1, if_neg (c := (1 : Int32) = 0) (by decide)]
      by_cases c1 : a2 ≤ 40
      · rw [if_pos c1]
        by_cases c2 : 0 ≤ a2
        · rw [if_pos c2]
          obtain ⟨sz, hs, rfl⟩ := nat_in (N := 40) (by omega) ⟨c2, c1⟩
          have h4 : k = 0 ∨ k = 1 ∨ k = 2 ∨ k = 3 := by omega
          rcases h4 with rfl | rfl | rfl | rfl
          · rw [if_pos (c := nI 0 = 0) rfl]
            obtain ⟨M1, e2, h1, h2, h3, h4⟩ := renew_35 (nI l) (nI sz) M
            rw [e2, Option.bind_some]
            obtain ⟨M2, e3, g1, g2, g3, g4, g5, g6⟩ := sheet_r (k := 0) hk hl hs M1
            exact ⟨1, M1, M2, rfl, e3, sheet_end (k := 0) hk hl hs h h1 h2 h3 h4 g1 g2 g3 g4 g5 g6⟩
          · rw [if_neg (c := nI 1 = 0) (by decide), if_pos (c := nI 1 = 1) rfl]
            obtain ⟨M1, e2, h1, h2, h3, h4⟩ := renew_37 (nI l) (nI sz) M
            rw [e2, Option.bind_some]
            obtain ⟨M2, e3, g1, g2, g3, g4, g5, g6⟩ := sheet_r (k := 1) hk hl hs M1
            exact ⟨1, M1, M2, rfl, e3, sheet_end (k := 1) hk hl hs h h1 h2 h3 h4 g1 g2 g3 g4 g5 g6⟩
          · rw [if_neg (c := nI 2 = 0) (by decide), if_neg (c := nI 2 = 1) (by decide), if_pos (c := nI 2 = 2) rfl]
            obtain ⟨M1, e2, h1, h2, h3, h4⟩ := renew_39 (nI l) (nI sz) M
            rw [e2, Option.bind_some]
            obtain ⟨M2, e3, g1, g2, g3, g4, g5, g6⟩ := sheet_r (k := 2) hk hl hs M1
            exact ⟨1, M1, M2, rfl, e3, sheet_end (k := 2) hk hl hs h h1 h2 h3 h4 g1 g2 g3 g4 g5 g6⟩
          · rw [if_neg (c := nI 3 = 0) (by decide), if_neg (c := nI 3 = 1) (by decide), if_neg (c := nI 3 = 2) (by decide), if_pos (c := nI 3 = 3) rfl]
            obtain ⟨M1, e2, h1, h2, h3, h4⟩ := renew_41 (nI l) (nI sz) M
            rw [e2, Option.bind_some]
            obtain ⟨M2, e3, g1, g2, g3, g4, g5, g6⟩ := sheet_r (k := 3) hk hl hs M1
            exact ⟨1, M1, M2, rfl, e3, sheet_end (k := 3) hk hl hs h h1 h2 h3 h4 g1 g2 g3 g4 g5 g6⟩
        · rw [if_neg c2]
          refine ⟨_, M, M, rfl, ?_, h⟩
          unfold f_X8_sheet_43
          rw [if_neg (sheet_y hk hl), if_pos c1, if_neg c2]
      · rw [if_neg c1]
        refine ⟨_, M, M, rfl, ?_, h⟩
        unfold f_X8_sheet_43
        rw [if_neg (sheet_y hk hl), if_neg c1]
    · rw [e1, if_pos (c := (0 : Int32) = 0) rfl]
      refine ⟨_, M, M, rfl, ?_, h⟩
      unfold f_X8_sheet_43
      rw [if_pos (sheet_n2 hno)]
  · rw [e, if_pos (c := (0 : Int32) = 0) rfl]
    refine ⟨_, M, M, rfl, ?_, h⟩
    unfold f_X8_sheet_43
    rw [if_pos (sheet_n1 hno)]
/-! LAY -/
def lnv (ln : Nat) (v : Int32) : Int32 := if ln = 0 then v.toInt8.toInt32 else if ln = 1 then v.toInt16.toInt32 else v
theorem nI_m1 {a : Nat} (h : a < 2 ^ 31) : ¬ nI a = -1 := fun e => by
  have := nI_pos' h
  rw [e] at this
  exact absurd this (by decide)
theorem nI_m4 {a : Nat} (h : a < 2 ^ 31) : ¬ nI a = -4 := fun e => by
  have := nI_pos' h
  rw [e] at this
  exact absurd this (by decide)
theorem lay_r {k : Nat} (hk : k < 4) {M : am_M} {ln sz : Nat} (hl : ln < 3) (hz : sz ≤ 40) (e1 : M 54 k = nI ln) (e2 : M 55 k = nI sz) (a1 v : Int32) : ((∃ i, i < sz ∧ a1 = nI i) → f_X8_lay_43 (nI k) a1 v M = some (1, am_up M 56 (40 * k + tn a1) (lnv ln v))) ∧ ((¬ ∃ i, i < sz ∧ a1 = nI i) → f_X8_lay_43 (nI k) a1 v M = some (-12, M)) := by
  unfold f_X8_lay_43
  have hs : ¬ f_X8_isSheet (nI k) 0 = 0 := sheet_y (l := 0) hk (by omega)
  rw [if_neg hs, if_pos (db_ok hk (by omega)), nI_clamp (by omega), e1, e2, if_neg (nI_m4 (by omega)), if_pos (db_ok hk (by omega))]
  have hb := below (n := sz) (by omega) a1
  constructor
  · rintro ⟨i, hi, rfl⟩
    rw [if_neg (in_y (b := 0) (c := nI sz - 1) (by decide) rfl (hb.mpr ⟨i, hi, rfl⟩)), if_pos (db_ok hk (by omega)), tn_nI (by omega), a_40, if_pos (db_ok (by omega) (by omega)), nI_clamp (by omega), if_pos (db_ok hk (by omega)), if_pos (db_ok (by omega) (by omega)), if_pos (db_ok (by omega) (by omega))]
    have h3 : ln = 0 ∨ ln = 1 ∨ ln = 2 := by omega
    rcases h3 with rfl | rfl | rfl
    · rw [if_pos (c := nI 0 = 0) rfl]; rfl
    · rw [if_neg (c := nI 1 = 0) (by decide), if_pos (c := nI 1 = 1) rfl]; rfl
    · rw [if_neg (c := nI 2 = 0) (by decide), if_neg (c := nI 2 = 1) (by decide)]; rfl
  · intro h
    rw [if_pos (in_n (b := 0) (c := nI sz - 1) (by decide) rfl (fun q => h (hb.mp q)))]
theorem lay_rel {M : am_M} {k ln sz i : Nat} {v : Int32} (hk : k < 4) (hl : ln < 3) (hz : sz ≤ 40) (hi : i < sz) (hR : Rel M) (h1 : M (35 + 2 * k) 0 = nI ln) (h2 : M 54 k = nI ln) (h3 : M (35 + 2 * k) 1 = nI sz) (h4 : M 55 k = nI sz) (h5 : ∀ i, i < 40 → M 56 (40 * k + i) = M (36 + 2 * k) i) : Rel (am_up (am_up M (36 + 2 * k) i v) 56 (40 * k + i) v) := by
  refine rel_sheet hk hR (fun x a b c d e => by rw [am_up_ne e, am_up_ne b]) (fun j hj => ⟨by rw [up_p (by omega), up_p (by omega)], by rw [up_p (by omega), up_p (by omega)]⟩) (fun j hj => by rw [up_k (by omega), up_p (by omega)]) (Or.inr ⟨ln, sz, hl, hz, by rw [up_p (by omega), up_p (by omega), h1], by rw [up_p (by omega), up_p (by omega), h2], by rw [up_p (by omega), up_p (by omega), h3], by rw [up_p (by omega), up_p (by omega), h4], fun j hj => ?_⟩)
  rw [show 35 + 2 * k + 1 = 36 + 2 * k by omega, up_p (q := 36 + 2 * k) (by omega)]
  by_cases e : j = i
  · subst e; rw [up_s, up_s]
  · rw [up_k (by omega), up_k e, up_p (by omega), h5 j hj]
theorem lay_35 {M : am_M} (h : Rel M) (hs : srel M 35 0) (a1 v : Int32) : ∃ u M1 M2, (if (f_X3_faultAt_35 (M 35 0) a1 1 M) = 0 then ((f_X3_write_35 a1 v M).bind (fun q3 => (some ((1 : Int32), q3)))) else (some ((((-10) : Int32) - (f_X3_faultAt_35 (M 35 0) a1 1 M)), M))) = some (u, M1) ∧ f_X8_lay_43 (nI 0) a1 v M1 = some (u, M2) ∧ Rel M2 := by
  unfold f_X3_faultAt_35 f_X3_isNothing_35 f_X3_write_35
  rcases hs with ⟨c1, c2⟩ | ⟨ln, sz, hl, hz, c1, c2, c3, c4, c5⟩
  · rw [c1]
    simp only [if_true, if_neg (show ¬ (1 : Int32) = 0 by decide)]
    refine ⟨_, M, M, rfl, ?_, h⟩
    unfold f_X8_lay_43
    have hs : ¬ f_X8_isSheet (nI 0) 0 = 0 := sheet_y (k := 0) (l := 0) (by omega) (by omega)
    rw [if_neg hs, if_pos (by decide), nI_clamp (by omega), c2, if_pos rfl, show (-10 - 1 : Int32) = -11 by decide]
  · rw [c1, c3]
    simp only [if_neg (nI_m1 (show ln < 2 ^ 31 by omega)), if_true]
    have hb := below (n := sz) (by omega) a1
    have hr := fun M' e1 e2 => lay_r (k := 0) (M := M') (by omega) hl hz e1 e2 a1 v
    by_cases hx : ∃ i, i < sz ∧ a1 = nI i
    · have hq := hb.mpr hx
      rw [if_neg (Int32.not_lt.mpr hq.1), if_pos hq.2, if_pos rfl]
      obtain ⟨i, hi, rfl⟩ := hx
      refine ⟨1, am_up M 36 i (lnv ln v), _, ?_, (hr _ (by rw [up_p (by decide), c2]) (by rw [up_p (by decide), c4])).1 ⟨i, hi, rfl⟩, ?_⟩
      · rw [if_pos (db_ok (by omega) (by omega)), nI_clamp (by omega), if_pos (db_ok (by omega) (by omega)), if_pos (db_ok (by omega) (by omega))]
        have h3 : ln = 0 ∨ ln = 1 ∨ ln = 2 := by omega
        rcases h3 with rfl | rfl | rfl
        · rw [if_pos (c := nI 0 = 0) rfl]; rfl
        · rw [if_neg (c := nI 1 = 0) (by decide), if_pos (c := nI 1 = 1) rfl]; rfl
        · rw [if_neg (c := nI 2 = 0) (by decide), if_neg (c := nI 2 = 1) (by decide)]; rfl
      · rw [tn_nI (by omega)]
        exact lay_rel (k := 0) (by omega) hl hz hi h c1 c2 c3 c4 c5
    · have e2 : (if a1 < 0 then (2 : Int32) else if a1 ≤ nI sz - 1 then 0 else 2) = 2 := by
        by_cases g1 : a1 < 0
        · rw [if_pos g1]
        · rw [if_neg g1, if_neg (fun g2 => hx (hb.mp ⟨Int32.not_lt.mp g1, g2⟩))]
      rw [e2]
      exact ⟨-12, M, M, rfl, (hr _ c2 c4).2 hx, h⟩
theorem lay_37 {M : am_M} (h : Rel M) (hs : srel M 37 1) (a1 v : Int32) : ∃ u M1 M2, (if (f_X3_faultAt_37 (M 37 0) a1 1 M) = 0 then ((f_X3_write_37 a1 v M).bind (fun q3 => (some ((1 : Int32), q3)))) else (some ((((-10) : Int32) - (f_X3_faultAt_37 (M 37 0) a1 1 M)), M))) = some (u, M1) ∧ f_X8_lay_43 (nI 1) a1 v M1 = some (u, M2) ∧ Rel M2 := by
  unfold f_X3_faultAt_37 f_X3_isNothing_37 f_X3_write_37
  rcases hs with ⟨c1, c2⟩ | ⟨ln, sz, hl, hz, c1, c2, c3, c4, c5⟩
  · rw [c1]
    simp only [if_true, if_neg (show ¬ (1 : Int32) = 0 by decide)]
    refine ⟨_, M, M, rfl, ?_, h⟩
    unfold f_X8_lay_43
    have hs : ¬ f_X8_isSheet (nI 1) 0 = 0 := sheet_y (k := 1) (l := 0) (by omega) (by omega)
    rw [if_neg hs, if_pos (by decide), nI_clamp (by omega), c2, if_pos rfl, show (-10 - 1 : Int32) = -11 by decide]
  · rw [c1, c3]
    simp only [if_neg (nI_m1 (show ln < 2 ^ 31 by omega)), if_true]
    have hb := below (n := sz) (by omega) a1
    have hr := fun M' e1 e2 => lay_r (k := 1) (M := M') (by omega) hl hz e1 e2 a1 v
    by_cases hx : ∃ i, i < sz ∧ a1 = nI i
    · have hq := hb.mpr hx
      rw [if_neg (Int32.not_lt.mpr hq.1), if_pos hq.2, if_pos rfl]
      obtain ⟨i, hi, rfl⟩ := hx
      refine ⟨1, am_up M 38 i (lnv ln v), _, ?_, (hr _ (by rw [up_p (by decide), c2]) (by rw [up_p (by decide), c4])).1 ⟨i, hi, rfl⟩, ?_⟩
      · rw [if_pos (db_ok (by omega) (by omega)), nI_clamp (by omega), if_pos (db_ok (by omega) (by omega)), if_pos (db_ok (by omega) (by omega))]
        have h3 : ln = 0 ∨ ln = 1 ∨ ln = 2 := by omega
        rcases h3 with rfl | rfl | rfl
        · rw [if_pos (c := nI 0 = 0) rfl]; rfl
        · rw [if_neg (c := nI 1 = 0) (by decide), if_pos (c := nI 1 = 1) rfl]; rfl
        · rw [if_neg (c := nI 2 = 0) (by decide), if_neg (c := nI 2 = 1) (by decide)]; rfl
      · rw [tn_nI (by omega)]
        exact lay_rel (k := 1) (by omega) hl hz hi h c1 c2 c3 c4 c5
    · have e2 : (if a1 < 0 then (2 : Int32) else if a1 ≤ nI sz - 1 then 0 else 2) = 2 := by
        by_cases g1 : a1 < 0
        · rw [if_pos g1]
        · rw [if_neg g1, if_neg (fun g2 => hx (hb.mp ⟨Int32.not_lt.mp g1, g2⟩))]
      rw [e2]
      exact ⟨-12, M, M, rfl, (hr _ c2 c4).2 hx, h⟩
theorem lay_39 {M : am_M} (h : Rel M) (hs : srel M 39 2) (a1 v : Int32) : ∃ u M1 M2, (if (f_X3_faultAt_39 (M 39 0) a1 1 M) = 0 then ((f_X3_write_39 a1 v M).bind (fun q3 => (some ((1 : Int32), q3)))) else (some ((((-10) : Int32) - (f_X3_faultAt_39 (M 39 0) a1 1 M)), M))) = some (u, M1) ∧ f_X8_lay_43 (nI 2) a1 v M1 = some (u, M2) ∧ Rel M2 := by
  unfold f_X3_faultAt_39 f_X3_isNothing_39 f_X3_write_39
  rcases hs with ⟨c1, c2⟩ | ⟨ln, sz, hl, hz, c1, c2, c3, c4, c5⟩
  · rw [c1]
    simp only [if_true, if_neg (show ¬ (1 : Int32) = 0 by decide)]
    refine ⟨_, M, M, rfl, ?_, h⟩
    unfold f_X8_lay_43
    have hs : ¬ f_X8_isSheet (nI 2) 0 = 0 := sheet_y (k := 2) (l := 0) (by omega) (by omega)
    rw [if_neg hs, if_pos (by decide), nI_clamp (by omega), c2, if_pos rfl, show (-10 - 1 : Int32) = -11 by decide]
  · rw [c1, c3]
    simp only [if_neg (nI_m1 (show ln < 2 ^ 31 by omega)), if_true]
    have hb := below (n := sz) (by omega) a1
    have hr := fun M' e1 e2 => lay_r (k := 2) (M := M') (by omega) hl hz e1 e2 a1 v
    by_cases hx : ∃ i, i < sz ∧ a1 = nI i
    · have hq := hb.mpr hx
      rw [if_neg (Int32.not_lt.mpr hq.1), if_pos hq.2, if_pos rfl]
      obtain ⟨i, hi, rfl⟩ := hx
      refine ⟨1, am_up M 40 i (lnv ln v), _, ?_, (hr _ (by rw [up_p (by decide), c2]) (by rw [up_p (by decide), c4])).1 ⟨i, hi, rfl⟩, ?_⟩
      · rw [if_pos (db_ok (by omega) (by omega)), nI_clamp (by omega), if_pos (db_ok (by omega) (by omega)), if_pos (db_ok (by omega) (by omega))]
        have h3 : ln = 0 ∨ ln = 1 ∨ ln = 2 := by omega
        rcases h3 with rfl | rfl | rfl
        · rw [if_pos (c := nI 0 = 0) rfl]; rfl
        · rw [if_neg (c := nI 1 = 0) (by decide), if_pos (c := nI 1 = 1) rfl]; rfl
        · rw [if_neg (c := nI 2 = 0) (by decide), if_neg (c := nI 2 = 1) (by decide)]; rfl
      · rw [tn_nI (by omega)]
        exact lay_rel (k := 2) (by omega) hl hz hi h c1 c2 c3 c4 c5
    · have e2 : (if a1 < 0 then (2 : Int32) else if a1 ≤ nI sz - 1 then 0 else 2) = 2 := by
        by_cases g1 : a1 < 0
        · rw [if_pos g1]
        · rw [if_neg g1, if_neg (fun g2 => hx (hb.mp ⟨Int32.not_lt.mp g1, g2⟩))]
      rw [e2]
      exact ⟨-12, M, M, rfl, (hr _ c2 c4).2 hx, h⟩
theorem lay_41 {M : am_M} (h : Rel M) (hs : srel M 41 3) (a1 v : Int32) : ∃ u M1 M2, (if (f_X3_faultAt_41 (M 41 0) a1 1 M) = 0 then ((f_X3_write_41 a1 v M).bind (fun q3 => (some ((1 : Int32), q3)))) else (some ((((-10) : Int32) - (f_X3_faultAt_41 (M 41 0) a1 1 M)), M))) = some (u, M1) ∧ f_X8_lay_43 (nI 3) a1 v M1 = some (u, M2) ∧ Rel M2 := by
  unfold f_X3_faultAt_41 f_X3_isNothing_41 f_X3_write_41
  rcases hs with ⟨c1, c2⟩ | ⟨ln, sz, hl, hz, c1, c2, c3, c4, c5⟩
  · rw [c1]
    simp only [if_true, if_neg (show ¬ (1 : Int32) = 0 by decide)]
    refine ⟨_, M, M, rfl, ?_, h⟩
    unfold f_X8_lay_43
    have hs : ¬ f_X8_isSheet (nI 3) 0 = 0 := sheet_y (k := 3) (l := 0) (by omega) (by omega)
    rw [if_neg hs, if_pos (by decide), nI_clamp (by omega), c2, if_pos rfl, show (-10 - 1 : Int32) = -11 by decide]
  · rw [c1, c3]
    simp only [if_neg (nI_m1 (show ln < 2 ^ 31 by omega)), if_true]
    have hb := below (n := sz) (by omega) a1
    have hr := fun M' e1 e2 => lay_r (k := 3) (M := M') (by omega) hl hz e1 e2 a1 v
    by_cases hx : ∃ i, i < sz ∧ a1 = nI i
    · have hq := hb.mpr hx
      rw [if_neg (Int32.not_lt.mpr hq.1), if_pos hq.2, if_pos rfl]
      obtain ⟨i, hi, rfl⟩ := hx
      refine ⟨1, am_up M 42 i (lnv ln v), _, ?_, (hr _ (by rw [up_p (by decide), c2]) (by rw [up_p (by decide), c4])).1 ⟨i, hi, rfl⟩, ?_⟩
      · rw [if_pos (db_ok (by omega) (by omega)), nI_clamp (by omega), if_pos (db_ok (by omega) (by omega)), if_pos (db_ok (by omega) (by omega))]
        have h3 : ln = 0 ∨ ln = 1 ∨ ln = 2 := by omega
        rcases h3 with rfl | rfl | rfl
        · rw [if_pos (c := nI 0 = 0) rfl]; rfl
        · rw [if_neg (c := nI 1 = 0) (by decide), if_pos (c := nI 1 = 1) rfl]; rfl
        · rw [if_neg (c := nI 2 = 0) (by decide), if_neg (c := nI 2 = 1) (by decide)]; rfl
      · rw [tn_nI (by omega)]
        exact lay_rel (k := 3) (by omega) hl hz hi h c1 c2 c3 c4 c5
    · have e2 : (if a1 < 0 then (2 : Int32) else if a1 ≤ nI sz - 1 then 0 else 2) = 2 := by
        by_cases g1 : a1 < 0
        · rw [if_pos g1]
        · rw [if_neg g1, if_neg (fun g2 => hx (hb.mp ⟨Int32.not_lt.mp g1, g2⟩))]
      rw [e2]
      exact ⟨-12, M, M, rfl, (hr _ c2 c4).2 hx, h⟩
theorem op_lay (a0 a1 a2 : Int32) {M : am_M} (h : Rel M) : ∃ v M1 M2, f_X7_lay_0 a0 a1 a2 M = some (v, M1) ∧ f_X8_lay_43 a0 a1 a2 M1 = some (v, M2) ∧ Rel M2 := by
  have hR := h
  obtain ⟨-, -, -, -, -, s1, s2, s3, s4⟩ := h
  unfold f_X7_lay_0
  rcases sheet_c a0 with ⟨e, k, hk, rfl⟩ | ⟨e, hno⟩
  · rw [e, if_neg (c := (1 : Int32) = 0) (by decide)]
    have h4 : k = 0 ∨ k = 1 ∨ k = 2 ∨ k = 3 := by omega
    rcases h4 with rfl | rfl | rfl | rfl
    · rw [if_pos (c := nI 0 = 0) rfl]
      exact lay_35 hR s1 a1 a2
    · rw [if_neg (c := nI 1 = 0) (by decide), if_pos (c := nI 1 = 1) rfl]
      exact lay_37 hR s2 a1 a2
    · rw [if_neg (c := nI 2 = 0) (by decide), if_neg (c := nI 2 = 1) (by decide), if_pos (c := nI 2 = 2) rfl]
      exact lay_39 hR s3 a1 a2
    · rw [if_neg (c := nI 3 = 0) (by decide), if_neg (c := nI 3 = 1) (by decide), if_neg (c := nI 3 = 2) (by decide), if_pos (c := nI 3 = 3) rfl]
      exact lay_41 hR s4 a1 a2
  · rw [e, if_pos (c := (0 : Int32) = 0) rfl]
    refine ⟨_, M, M, rfl, ?_, hR⟩
    unfold f_X8_lay_43
    rw [if_pos (sheet_n1 hno)]
