/-! ALIAS -/
theorem lt_top {v j : Nat} (h : v < 2 ^ (j + 1)) (hb : v.testBit j = false) : v < 2 ^ j := by
  apply Nat.lt_pow_two_of_testBit
  intro i hi
  by_cases e : i = j
  · subst e; exact hb
  · exact Nat.testBit_lt_two_pow (Nat.lt_of_lt_of_le h (Nat.pow_le_pow_right (by omega) (by omega)))
theorem lonely_c {r : am_M} {N : Nat} {A : Nat → Nat} (hN : N ≤ 64) (h30 : r 30 2 = nI N) (h31 : ∀ k, k < N → r 31 k = nI (A k) ∧ A k < 2 ^ 8) : f_X4_lonely_30 r = some (nI (sm (fun k => dl (A k) 0) N)) := by
  unfold f_X4_lonely_30
  rw [h30]
  refine Option.bind_eq_some_iff.mpr ⟨_, lp_sum (a := 0) (fun k => dl (A k) 0) (n := N) (by omega) ?_ ?_, by simp only [Nat.zero_add]⟩
  · intro k x hk
    obtain ⟨h1, h2⟩ := h31 k hk
    dsimp only
    rw [if_neg (nle_n hk (by omega)), if_pos (db_ok (by omega) (by omega)), nI_clamp (by omega), h1, nI_s, nI_s]
    unfold dl
    by_cases e : A k = 0
    · rw [if_pos (by rw [e]; rfl), if_pos e]
    · rw [if_neg (c := nI (A k) = 0) (nI_ne (b := 0) (by omega) (by omega) e), if_neg e]; rfl
  · intro x
    dsimp only
    rw [if_pos (nle_y (by omega) (by omega))]
theorem pairs_c {r : am_M} {N : Nat} {A : Nat → Nat} (hN : N ≤ 64) (h30 : r 30 2 = nI N) (h31 : ∀ k, k < N → r 31 k = nI (A k) ∧ A k < 2 ^ 8) : f_X4_pairs_30 r = some (nI (sm (fun i => sm (fun j => dl (A i) (A j)) i) N)) := by
  unfold f_X4_pairs_30
  rw [h30]
  refine Option.bind_eq_some_iff.mpr ⟨_, lp_sum (a := 0) (fun i => sm (fun j => dl (A i) (A j)) i) (n := N) (by omega) ?_ ?_, by simp only [Nat.zero_add]⟩
  · intro i x hi
    obtain ⟨h1, h2⟩ := h31 i hi
    dsimp only
    rw [if_neg (nle_n hi (by omega))]
    refine Option.bind_eq_some_iff.mpr ⟨_, lp_sum (fun j => dl (A i) (A j)) (n := i) (by omega) ?_ ?_, by rw [nI_s]⟩
    · intro j y hj
      obtain ⟨g1, g2⟩ := h31 j (by omega)
      dsimp only
      rw [if_neg (nle_n hj (by omega)), if_pos (db_ok (by omega) (by omega)), if_pos (db_ok (by omega) (by omega)), nI_clamp (by omega), nI_clamp (by omega), h1, g1, nI_s, nI_s]
      unfold dl
      by_cases e : A i = A j
      · rw [if_pos (by rw [e]), if_pos e]
      · rw [if_neg (nI_ne (by omega) (by omega) e), if_neg e]; rfl
    · intro y
      dsimp only
      rw [if_pos (nle_y (by omega) (by omega))]
  · intro x
    dsimp only
    rw [if_pos (nle_y (by omega) (by omega))]
theorem free_c {r : am_M} {N : Nat} {A : Nat → Nat} (hN : N ≤ 64) (h30 : r 30 2 = nI N) (h31 : ∀ k, k < N → r 31 k = nI (A k) ∧ A k < 2 ^ 8) : ∃ q : Int32 × am_M, f_X4_freedom_30 r = some q ∧ ((∀ x, x ≠ 32 → x ≠ 33 → q.2 x = r x) ∧ ∃ R, q.1 = nI N - nI (rk R) ∧ EC R ∧ (∀ i, 8 ≤ i → i < 12 → R i = 0) ∧ ∀ y, Sol R y ↔ ∀ k, k < N → pr (A k &&& y) = 0) := by
  unfold f_X4_freedom_30 f_X1_begin_32
  obtain ⟨r1, e1, a1, a2⟩ := fill_33 0 r
  rw [e1, Option.bind_some, bl_s, bl_s, Option.bind_some]
  refine lp_bnd (fun q => q) (fun k s => ∃ M' R, s = (nI k, M') ∧ (∀ x, x ≠ 32 → x ≠ 33 → M' x = r x) ∧ (∀ i, i < 12 → M' 33 i = nI (R i)) ∧ M' 32 1 = nI (rk R) ∧ EC R ∧ (∀ i, i < 12 → sub (R i) 255) ∧ ∀ y, Sol R y ↔ ∀ k', k' < k → pr (A k' &&& y) = 0) (fun q => ∃ z M' R, q = (z, M') ∧ (∀ x, x ≠ 32 → x ≠ 33 → M' x = r x) ∧ (∀ i, i < 12 → M' 33 i = nI (R i)) ∧ M' 32 1 = nI (rk R) ∧ EC R ∧ (∀ i, i < 12 → sub (R i) 255) ∧ ∀ y, Sol R y ↔ ∀ k', k' < N → pr (A k' &&& y) = 0) (n := N) (lpF (by omega)) ⟨_, fun _ => 0, rfl, fun x h1 h2 => by rw [am_up_ne h1, am_up_ne h1, a1 x h2], fun i hi => by rw [up_p (by decide), up_p (by decide), a2 i hi]; rfl, by rw [up_k (by decide), up_s, rk_z]; rfl, ec_z, fun i hi j hj => by rw [Nat.zero_testBit] at hj; exact absurd hj (by decide), fun y => ⟨fun _ k hk => by omega, fun _ => sol_z y⟩⟩ ?_ ?_ ?_
  · rintro k s hk ⟨M', R, rfl, g1, g2, g3, g4, g5, g6⟩
    obtain ⟨h1, h2⟩ := h31 k hk
    have e31 : M' 31 k = nI (A k) := by rw [g1 31 (by decide) (by decide), h1]
    have hsub : sub (A k) 255 := by
      intro j hj
      have : j < 8 := by
        apply Decidable.byContradiction
        intro hn
        rw [Nat.testBit_lt_two_pow (Nat.lt_of_lt_of_le h2 (Nat.pow_le_pow_right (by omega) (by omega)))] at hj
        exact absurd hj (by decide)
      rw [show (255 : Nat) = 2 ^ 8 - 1 from rfl, Nat.testBit_two_pow_sub_one, decide_eq_true this]
    obtain ⟨r2, e2, R', k1, k2, k3, k4, k5, k6⟩ := add_32 (M := M') (x := A k) (by omega) g4 g2 g3
    dsimp only
    rw [if_neg (show ¬ M' 30 2 ≤ nI k by rw [g1 30 (by decide) (by decide), h30]; exact nle_n hk (by omega)), if_pos (db_ok (by omega) (by omega)), nI_clamp (by omega), e31, e2, Option.bind_some, nI_s]
    refine Or.inl ⟨_, rfl, r2, R', rfl, fun x a b => by rw [k4 x a b, g1 x a b], k2, k3, k1, k5 255 hsub g5, fun y => ?_⟩
    rcases k6 with ⟨-, k6⟩ | ⟨-, -, k6⟩
    · rw [k6, g6]
      constructor
      · rintro ⟨u1, u2⟩ k' hk'
        by_cases e : k' = k
        · subst e; exact u2
        · exact u1 k' (by omega)
      · intro u
        exact ⟨fun k' hk' => u k' (by omega), u k (by omega)⟩
    · exact absurd (k6 255 hsub g5) (by decide)
  · rintro s ⟨M', R, rfl, g1, g⟩
    dsimp only
    rw [if_pos (show M' 30 2 ≤ nI N by rw [g1 30 (by decide) (by decide), h30]; exact nle_y (by omega) (by omega))]
    exact ⟨_, rfl, _, M', R, rfl, g1, g⟩
  · rintro q ⟨z, M', R, rfl, g1, g2, g3, g4, g5, g6⟩
    dsimp only
    rw [g1 30 (by decide) (by decide), h30, g3]
    refine ⟨_, rfl, g1, R, rfl, g4, fun i h8 hi => ?_, g6⟩
    apply Decidable.byContradiction
    intro hne
    obtain ⟨t1, -⟩ := (g4 i hi).2.resolve_left hne
    have := g5 i hi i t1
    rw [show (255 : Nat) = 2 ^ 8 - 1 from rfl, Nat.testBit_two_pow_sub_one, decide_eq_false (by omega)] at this
    exact absurd this (by decide)
theorem hnr_rk {H : Nat → Nat} {i v : Nat} (hi : i < 8) (h0 : H i = 0) (hv : v ≠ 0) : hrk (nr H i v) = hrk H + 1 := by
  unfold hrk
  refine sm_upd hi (fun j hj => by rw [nr_o hj]) ?_
  rw [nr_s, if_neg hv, if_pos h0]
theorem hnr_sol {H : Nat → Nat} {i v : Nat} (hi : i < 8) (h0 : H i = 0) (y : Nat) : HSol (nr H i v) y ↔ HSol H y ∧ pr (v &&& y) = 0 := by
  constructor
  · intro h
    refine ⟨fun j hj => ?_, ?_⟩
    · by_cases e : j = i
      · subst e; rw [h0, Nat.zero_and, pr_0]
      · have := h j hj
        rwa [nr_o e] at this
    · have := h i hi
      rwa [nr_s] at this
  · rintro ⟨h1, h2⟩ j hj
    by_cases e : j = i
    · subst e; rw [nr_s]; exact h2
    · rw [nr_o e]; exact h1 j hj
theorem rank_r {X : am_M} {N : Nat} {B : Nat → Nat} (hN : N ≤ 64) (h22 : X 43 22 = nI N) (h49 : ∀ k, k < N → X 49 k = nI (B k) ∧ B k < 2 ^ 8) : ∃ q : Int32 × am_M, f_X8_rankOfEffects_43 X = some q ∧ ((∀ x, x ≠ 50 → q.2 x = X x) ∧ ∃ H, q.1 = nI (hrk H) ∧ HC H ∧ ∀ y, HSol H y ↔ ∀ k, k < N → pr (B k &&& y) = 0) := by
  unfold f_X8_rankOfEffects_43
  refine lp_bnd (fun q => q) (fun i s => ∃ M', s = (nI i, M') ∧ (∀ x, x ≠ 50 → M' x = X x) ∧ ∀ j, j < i → M' 50 j = 0) (fun q => ∃ y M', q = (y, M') ∧ (∀ x, x ≠ 50 → M' x = X x) ∧ ∀ j, j < 8 → M' 50 j = 0) (n := 8) (lpF (by omega)) ⟨X, rfl, fun x _ => rfl, fun j hj => by omega⟩ ?_ ?_ ?_
  · rintro i s hi ⟨M', rfl, h1, h2⟩
    dsimp only
    rw [if_neg (c := 8 ≤ nI i) (nle_n (n := 8) hi (by omega)), if_pos (db_ok hi (by omega)), nI_clamp (by omega), bl_s, nI_s]
    refine Or.inl ⟨_, rfl, _, rfl, fun x hx => by rw [am_up_ne hx, h1 x hx], fun j hj => ?_⟩
    by_cases e : j = i
    · subst e; rw [up_s]
    · rw [up_k (by omega), h2 j (by omega)]
  · rintro s ⟨M', rfl, h⟩
    dsimp only
    rw [if_pos (c := 8 ≤ nI 8) (by decide)]
    exact ⟨_, rfl, _, M', rfl, h⟩
  · rintro q ⟨z, M9, rfl, c1, c2⟩
    dsimp only
    refine lp_bnd (fun q => q) (fun k s => ∃ M' H, s = (nI (hrk H), nI k, M') ∧ (∀ x, x ≠ 50 → M' x = X x) ∧ (∀ i, i < 8 → M' 50 i = nI (H i)) ∧ HC H ∧ ∀ y, HSol H y ↔ ∀ k', k' < k → pr (B k' &&& y) = 0) (fun q => ∃ z M' H, q = (nI (hrk H), z, M') ∧ (∀ x, x ≠ 50 → M' x = X x) ∧ HC H ∧ ∀ y, HSol H y ↔ ∀ k', k' < N → pr (B k' &&& y) = 0) (n := N) (lpF (by omega)) ⟨M9, fun _ => 0, ?_, c1, fun i hi => by rw [c2 i hi]; rfl, fun i hi => Or.inl rfl, fun y => ⟨fun _ k hk => by omega, fun _ i hi => by rw [Nat.zero_and, pr_0]⟩⟩ ?_ ?_ ?_
    · have : hrk (fun _ => 0) = 0 := by
        unfold hrk
        rw [show (fun i : Nat => if (fun _ : Nat => 0) i = 0 then 0 else 1) = (fun _ => 0) from by funext i; rfl, sm_0]
      rw [this]; rfl
    · rintro k s hk ⟨M', H0, rfl, g1, g2, g3, g4⟩
      obtain ⟨h1, h2⟩ := h49 k hk
      dsimp only
      rw [if_neg (show ¬ M' 43 22 ≤ nI k by rw [g1 43 (by decide), h22]; exact nle_n hk (by omega)), if_pos (db_ok (by omega) (by omega)), nI_clamp (by omega), show M' 49 k = nI (B k) by rw [g1 49 (by decide), h1]]
      refine Or.inl (lp_bnd Sum.inl (fun i s => ∃ M2 H v, s = (nI (hrk H), nI v, nI 8 - nI (i + 1), M2) ∧ (∀ x, x ≠ 50 → M2 x = X x) ∧ (∀ i, i < 8 → M2 50 i = nI (H i)) ∧ HC H ∧ v < 2 ^ (8 - i) ∧ ∀ y, (HSol H y ∧ pr (v &&& y) = 0) ↔ (HSol H0 y ∧ pr (B k &&& y) = 0)) (fun q => ∃ M2 H y z, q = (nI (hrk H), y, z, M2) ∧ (∀ x, x ≠ 50 → M2 x = X x) ∧ (∀ i, i < 8 → M2 50 i = nI (H i)) ∧ HC H ∧ ∀ y, HSol H y ↔ (HSol H0 y ∧ pr (B k &&& y) = 0)) (n := 8) (lpF (by omega)) ⟨M', H0, B k, rfl, g1, g2, g3, h2, fun y => Iff.rfl⟩ ?_ ?_ ?_)
      · rintro i s hi ⟨M2, H, v, rfl, k1, k2, k3, k4, k5⟩
        have hv256 : v < 2 ^ 8 := Nat.lt_of_lt_of_le k4 (Nat.pow_le_pow_right (by omega) (by omega))
        have e1 : nI 8 - nI (i + 1) = nI (7 - i) := by
          rw [pk_sub (by omega)]
          congr 1
          omega
        have k4' : v < 2 ^ (7 - i + 1) := by rw [show 7 - i + 1 = 8 - i by omega]; exact k4
        dsimp only
        rw [dn1 8 (by omega) i (by omega), e1, if_neg (nI_pos (by omega))]
        by_cases ev : v = 0
        · subst ev
          rw [if_pos (c := nI 0 = 0) rfl]
          refine Or.inr ⟨_, rfl, M2, H, _, _, rfl, k1, k2, k3, fun y => ?_⟩
          rw [← k5 y, Nat.zero_and, pr_0]
          simp
        · rw [if_neg (c := nI v = 0) (nI_ne (b := 0) (by omega) (by omega) ev)]
          by_cases eb : v.testBit (7 - i) = true
          · have hh := has_y (a := v) (i := 7 - i) (by omega) (by omega) eb
            rw [if_neg hh, if_pos (db_ok (by omega) (by omega)), if_pos (db_ok (by omega) (by omega)), if_neg hh, if_pos (db_ok (by omega) (by omega)), nI_clamp (by omega), bl_s, nI_s]
            by_cases e0 : H (7 - i) = 0
            · rw [if_pos (show M2 50 (7 - i) = 0 by rw [k2 _ (by omega), e0]; rfl)]
              refine Or.inl ⟨_, rfl, am_up M2 50 (7 - i) (nI v), nr H (7 - i) v, 0, ?_, fun x hx => by rw [am_up_ne hx, k1 x hx], fun j hj => ?_, fun j hj => ?_, Nat.pow_pos (by omega), fun y => ?_⟩
              · rw [hnr_rk (by omega) e0 ev]; rfl
              · by_cases ej : j = 7 - i
                · subst ej; rw [up_s, nr_s]
                · rw [up_k ej, nr_o ej, k2 j hj]
              · by_cases ej : j = 7 - i
                · subst ej; rw [nr_s]; exact Or.inr ⟨eb, k4'⟩
                · rw [nr_o ej]; exact k3 j hj
              · rw [hnr_sol (by omega) e0, ← k5 y, Nat.zero_and, pr_0]
                simp
            · obtain ⟨t1, t2⟩ := (k3 (7 - i) (by omega)).resolve_left e0
              have hH8 : H (7 - i) < 2 ^ 8 := Nat.lt_of_lt_of_le t2 (Nat.pow_le_pow_right (by omega) (by omega))
              have hne : ¬ M2 50 (7 - i) = 0 := by
                rw [k2 _ (by omega)]
                exact nI_ne (b := 0) (by omega) (by omega) e0
              rw [if_neg hne, k2 _ (by omega), n_xor]
              refine Or.inl ⟨_, rfl, M2, H, v ^^^ H (7 - i), rfl, k1, k2, k3, ?_, fun y => ?_⟩
              · rw [show 8 - (i + 1) = 7 - i by omega]
                refine lt_top (Nat.xor_lt_two_pow k4' t2) ?_
                rw [Nat.testBit_xor, eb, t1]; rfl
              · rw [← k5 y]
                constructor
                · rintro ⟨u1, u2⟩
                  refine ⟨u1, ?_⟩
                  rw [pr_l, u1 _ (by omega)] at u2
                  have := pr_1 (v &&& y)
                  omega
                · rintro ⟨u1, u2⟩
                  refine ⟨u1, ?_⟩
                  rw [pr_l, u1 _ (by omega), u2]
          · have hh := has_n (a := v) (i := 7 - i) (by omega) (by omega) eb
            rw [if_pos hh, if_pos hh]
            refine Or.inl ⟨_, rfl, M2, H, v, rfl, k1, k2, k3, ?_, k5⟩
            rw [show 8 - (i + 1) = 7 - i by omega]
            exact lt_top k4' (by simpa using eb)
      · rintro s ⟨M2, H, v, rfl, k1, k2, k3, k4, k5⟩
        have ev : v = 0 := by
          rw [Nat.sub_self, Nat.pow_zero] at k4
          omega
        subst ev
        dsimp only
        rw [if_pos (dn2 8 (by omega))]
        refine ⟨_, rfl, M2, H, _, _, rfl, k1, k2, k3, fun y => ?_⟩
        rw [← k5 y, Nat.zero_and, pr_0]
        simp
      · rintro q ⟨M2, H, y, z, rfl, k1, k2, k3, k5⟩
        dsimp only
        rw [nI_s]
        refine ⟨_, rfl, M2, H, rfl, k1, k2, k3, fun y => ?_⟩
        rw [k5, g4]
        constructor
        · rintro ⟨u1, u2⟩ k' hk'
          by_cases e : k' = k
          · subst e; exact u2
          · exact u1 k' (by omega)
        · intro u
          exact ⟨fun k' hk' => u k' (by omega), u k (by omega)⟩
    · rintro s ⟨M', H, rfl, g1, g2, g3, g4⟩
      dsimp only
      rw [if_pos (show M' 43 22 ≤ nI N by rw [g1 43 (by decide), h22]; exact nle_y (by omega) (by omega))]
      exact ⟨_, rfl, _, M', H, rfl, g1, g3, g4⟩
    · rintro q ⟨z, M', H, rfl, g1, g3, g4⟩
      exact ⟨_, rfl, g1, H, rfl, g3, g4⟩
theorem rel_al {M M' : am_M} (h : Rel M) (hx : ∀ x, (x < 30 ∨ 33 < x) → x ≠ 43 → x ≠ 49 → x ≠ 50 → M' x = M x) (h43 : ∀ j, j ≠ 22 → M' 43 j = M 43 j) : Rel M' := by
  refine rel_same h (fun x hx' => hx x (by omega) (by omega) (by omega) (by omega)) ⟨fun x hx' => hx x (by omega) (by omega) (by omega) (by omega), ?_, ?_, ?_, ?_, ?_, ?_⟩
  · rw [hx 0 (by decide) (by decide) (by decide) (by decide)]
  · rw [hx 0 (by decide) (by decide) (by decide) (by decide)]
  · rw [hx 2 (by decide) (by decide) (by decide) (by decide)]
  · rw [h43 12 (by decide)]
  · rw [h43 17 (by decide)]
  · rw [h43 30 (by decide)]
/-- what the reference counts -/
def vs (B : Nat → Nat) (a : Nat) (k : Nat) : Nat := (if a = 1 then dl (B k) 0 else 0) + (if a = 2 then sm (fun j => dl (B j) (B k)) k else 0)
theorem fl_dl {a b : Nat} (ha : a < 2 ^ 8) (hb : b < 2 ^ 8) : f_X8_flag (if nI a = nI b then 1 else 0) = nI (dl a b) := by
  unfold dl
  by_cases e : a = b
  · rw [if_pos (by rw [e]), if_pos e]; rfl
  · rw [if_neg (nI_ne (by omega) (by omega) e), if_neg e]; rfl
theorem alias_r {X : am_M} {n m w O C K} (hB : VB n m w O C K) (hV : VR X n m w O C K) (p2 : X 9 2 = nI w) (q6 : X 44 6 = X 9 6) {a : Nat} (ha : a < 3) : ∃ q2, ((∀ x, x ≠ 49 → x ≠ 43 → q2 x = X x) ∧ (∀ j, j ≠ 22 → q2 43 j = X 43 j) ∧ q2 43 22 = nI (m * qn O n) ∧ ∀ c, c < n → O.testBit c = false → ∀ i, i < m → q2 49 (m * qn O c + i) = nI (efI (mvN X) (K c) (m - 1 - i))) ∧ ∀ B : Nat → Nat, m * qn O n ≤ 64 → (∀ k, k < m * qn O n → q2 49 k = nI (B k) ∧ B k < 2 ^ 8) → f_X8_alias_43 (nI a) X = (if nI a = 0 then ((f_X8_rankOfEffects_43 q2).bind (fun q31 => (some (((q2 43 22) - q31.1), q31.2)))) else (some (nI (sm (vs B a) (m * qn O n)), q2))) := by
  obtain ⟨q2, e2, h1, h2, h3, h4⟩ := effects_r hB hV p2 q6
  refine ⟨q2, ⟨h1, h2, h3, h4⟩, fun B hN hB49 => ?_⟩
  unfold f_X8_alias_43
  rw [if_neg (in_y (b := 0) (c := 2) (by decide) (by decide) (in_nat (N := 2) (by omega) (by omega))), e2, Option.bind_some, h3]
  have hl := lp_sum (body := (fun (s3 : Int32 × Int32) => match s3 with | (x4, x5) => (if nI (m * qn O n) ≤ x5 then (some (.inr (x4, x5))) else (bl (fun (v12 : Int32) => (((lp (σ := Int32 × Int32) (ρ := Int32 × Int32) (fun (s13 : Int32 × Int32) => match s13 with | (x14, x15) => (if x5 ≤ x15 then (some (.inr (x14, x15))) else (if nI a = 2 then (if am_dbin x15 64 = true then (if am_dbin x5 64 = true then (bl (if (q2 49 x15.toNatClampNeg) = (q2 49 x5.toNatClampNeg) then 1 else 0) (fun (v21 : Int32) => (some (.inl ((x14 + (f_X8_flag v21)), (x15 + 1)))))) else none) else none) else (some (.inr (x14, x15)))))) lp_F (v12, 0)).bind (fun (s22 : Int32 × Int32) => match s22 with | (x23, x24) => (some (.inl (x23, (x5 + 1)))))) : Option ((Int32 × Int32) ⊕ (Int32 × Int32)))) (fun (j25 : Int32 → Option ((Int32 × Int32) ⊕ (Int32 × Int32))) => (if nI a = 1 then (if am_dbin x5 64 = true then (bl (if (q2 49 x5.toNatClampNeg) = 0 then 1 else 0) (fun (v11 : Int32) => (j25 (x4 + (f_X8_flag v11))))) else none) else (j25 x4))))))) (a := 0) (vs B a) (n := m * qn O n) (by omega) ?_ ?_
  · rw [Nat.zero_add] at hl
    have hz : ((0 : Int32), (0 : Int32)) = (nI 0, 0) := rfl
    rw [hz, hl, Option.bind_some]
  · intro k x hk
    obtain ⟨b1, b2⟩ := hB49 k hk
    have h3' : a = 0 ∨ a = 1 ∨ a = 2 := by omega
    dsimp only
    rw [if_neg (nle_n hk (by omega)), bl_s]
    rcases h3' with rfl | rfl | rfl
    · rw [if_neg (c := nI 0 = 1) (by decide)]
      dsimp only
      refine Option.bind_eq_some_iff.mpr ⟨(nI x, 0), lp_run (fun _ => (nI x, 0)) (n := 0) (fun i hi => by omega) ?_ (lpF (by omega)), ?_⟩
      · dsimp only
        by_cases e : nI k ≤ 0
        · rw [if_pos e]
        · rw [if_neg e, if_neg (c := nI 0 = 2) (by decide)]
      · dsimp only
        rw [nI_s]
        rfl
    · have hf : f_X8_flag (if nI (B k) = 0 then 1 else 0) = nI (dl (B k) 0) := fl_dl (b := 0) b2 (by omega)
      rw [if_pos (c := nI 1 = 1) rfl, if_pos (db_ok (by omega) (by omega)), nI_clamp (by omega), b1, bl_s, hf, nI_add]
      dsimp only
      refine Option.bind_eq_some_iff.mpr ⟨(nI (x + dl (B k) 0), 0), lp_run (fun _ => (nI (x + dl (B k) 0), 0)) (n := 0) (fun i hi => by omega) ?_ (lpF (by omega)), ?_⟩
      · dsimp only
        by_cases e : nI k ≤ 0
        · rw [if_pos e]
        · rw [if_neg e, if_neg (c := nI 1 = 2) (by decide)]
      · dsimp only
        rw [nI_s]
        rfl
    · rw [if_neg (c := nI 2 = 1) (by decide)]
      dsimp only
      refine Option.bind_eq_some_iff.mpr ⟨_, lp_sum (fun j => dl (B j) (B k)) (n := k) (by omega) ?_ ?_, ?_⟩
      · intro j y hj
        obtain ⟨c1, c2⟩ := hB49 j (by omega)
        dsimp only
        rw [if_neg (nle_n hj (by omega)), if_pos (c := nI 2 = 2) rfl, if_pos (db_ok (by omega) (by omega)), if_pos (db_ok (by omega) (by omega)), nI_clamp (by omega), nI_clamp (by omega), b1, c1, bl_s, fl_dl c2 b2, nI_add, nI_s]
      · intro y
        dsimp only
        rw [if_pos (nle_y (by omega) (by omega))]
      · dsimp only
        rw [nI_s]
        show some (Sum.inl (nI (x + sm (fun j => dl (B j) (B k)) k), nI (k + 1))) = some (Sum.inl (nI (x + (0 + sm (fun j => dl (B j) (B k)) k)), nI (k + 1)))
        rw [Nat.zero_add]
  · intro x
    dsimp only
    rw [if_pos (nle_y (by omega) (by omega))]
theorem op_alias (a0 : Int32) {M : am_M} (h : Rel M) : ∃ v M1 M2, f_X7_alias_0 a0 M = some (v, M1) ∧ f_X8_alias_43 a0 M1 = some (v, M2) ∧ Rel M2 := by
  obtain ⟨n, m, w, O, C, K, hB, hVC, hVR⟩ := rel_V h
  obtain ⟨n', m', w', b, hch⟩ := chp_iff.mp h.1
  have q6 : M 44 6 = M 9 6 := hch.2.2.1.2.2.2.2.2.2
  have hn := hB.1.1
  have hm := hB.1.2.1
  have hw := hB.1.2.2
  by_cases hx : 0 ≤ a0 ∧ a0 ≤ 2
  · obtain ⟨a, ha, rfl⟩ := nat_in (N := 2) (by omega) hx
    obtain ⟨r, er, g1, g2, g3⟩ := gather_c hB hVC
    have hQ : qn O n ≤ 8 := Nat.le_trans (qn_le O n) hn
    have hN : m * qn O n ≤ 64 := by
      have := Nat.mul_le_mul hm hQ
      omega
    have hw8 : 2 ^ w ≤ 2 ^ 8 := Nat.pow_le_pow_right (by omega) hw
    have hk : ∀ k, k < m * qn O n → ∃ c i, c < n ∧ O.testBit c = false ∧ i < m ∧ k = m * qn O c + i := by
      intro k hk
      have hm0 : 0 < m := by
        apply Decidable.byContradiction
        intro hn'
        have : m = 0 := by omega
        subst this
        rw [Nat.zero_mul] at hk
        omega
      obtain ⟨c, h1, h2, h3⟩ := qn_ex (Nat.div_lt_of_lt_mul hk)
      exact ⟨c, k % m, h1, h2, Nat.mod_lt _ hm0, by rw [h3]; exact (Nat.div_add_mod k m).symm⟩
    have hA : ∀ k, k < m * qn O n → r 31 k = nI (tn (r 31 k)) ∧ tn (r 31 k) < 2 ^ 8 := by
      intro k hk'
      refine ⟨tn_n _, ?_⟩
      obtain ⟨c, i, h1, h2, h3, rfl⟩ := hk k hk'
      rw [g3 c h1 h2 i h3]
      have := ef_lt hw hVC.1.2.2.1 (hB.2.2.2 c h1) i
      rw [tn_nI (by omega)]
      omega
    have main : ∀ r', (∀ x, (x < 30 ∨ 33 < x) → r' x = M x) → ∃ q2 : am_M, ((∀ x, x ≠ 49 → x ≠ 43 → q2 x = r' x) ∧ (∀ j, j ≠ 22 → q2 43 j = r' 43 j) ∧ q2 43 22 = nI (m * qn O n)) ∧ ∃ B : Nat → Nat, rvs (fun k => tn (r 31 k)) B m (qn O n) ∧ (∀ k, k < m * qn O n → q2 49 k = nI (B k) ∧ B k < 2 ^ 8) ∧ f_X8_alias_43 (nI a) r' = (if nI a = 0 then ((f_X8_rankOfEffects_43 q2).bind (fun q31 => (some (((q2 43 22) - q31.1), q31.2)))) else (some (nI (sm (vs B a) (m * qn O n)), q2))) := by
      intro r' hr'
      have e9 := hr' 9 (by omega)
      have e44 := hr' 44 (by omega)
      have hVR' : VR r' n m w O C K := by
        unfold VR
        rw [e44]
        exact hVR
      obtain ⟨q2, ⟨k1, k2, k3, k4⟩, k5⟩ := alias_r hB hVR' (by rw [e9]; exact hVC.1.2.2.1) (by rw [e44, e9]; exact q6) (a := a) (by omega)
      have hmv : mvN r' = mvN M := by
        funext s
        unfold mvN
        rw [mv_9 (M := M) e9]
      rw [hmv] at k4
      have hBB : ∀ k, k < m * qn O n → q2 49 k = nI (tn (q2 49 k)) ∧ tn (q2 49 k) < 2 ^ 8 := by
        intro k hk'
        refine ⟨tn_n _, ?_⟩
        obtain ⟨c, i, h1, h2, h3, rfl⟩ := hk k hk'
        rw [k4 c h1 h2 i h3]
        have := ef_lt hw hVC.1.2.2.1 (hB.2.2.2 c h1) (m - 1 - i)
        rw [tn_nI (by omega)]
        omega
      refine ⟨q2, ⟨k1, k2, k3⟩, fun k => tn (q2 49 k), ?_, hBB, k5 _ hN hBB⟩
      intro q i hq hi
      obtain ⟨c, h1, h2, rfl⟩ := qn_ex hq
      show tn (q2 49 _) = tn (r 31 _)
      rw [k4 c h1 h2 i hi, g3 c h1 h2 (m - 1 - i) (by omega)]
    have hc0 : f_X7_alias_0 (nI a) M = (if nI a = 0 then ((f_X4_freedom_30 r).bind (fun q4 => (some (q4.1, q4.2)))) else (if nI a = 1 then ((f_X4_lonely_30 r).bind (fun v5 => (some (v5, r)))) else ((f_X4_pairs_30 r).bind (fun v6 => (some (v6, r)))))) := by
      unfold f_X7_alias_0
      rw [if_neg (Int32.not_lt.mpr hx.1), if_pos hx.2, er, Option.bind_some]
    have h3 : a = 0 ∨ a = 1 ∨ a = 2 := by omega
    rcases h3 with rfl | rfl | rfl
    · obtain ⟨q, eq, f1, R, f2, f3, f4, f5⟩ := free_c hN g2 hA
      obtain ⟨q2, ⟨k1, k2, k3⟩, B, hrv, hBB, k6⟩ := main q.2 (fun x hx' => by rw [f1 x (by omega) (by omega), g1 x (by omega) (by omega)])
      obtain ⟨q3, e3, l1, H, l2, l3, l4⟩ := rank_r hN k3 hBB
      have hrk := rk_eq f3 f4 l3 (fun y _ => by rw [f5, l4]; exact rvs_all hrv (fun v => pr (v &&& y) = 0))
      refine ⟨q.1, q.2, q3.2, ?_, ?_, rel_al h (fun x a1 a2 a3 a4 => by rw [l1 x a4, k1 x a3 a2, f1 x (by omega) (by omega), g1 x (by omega) (by omega)]) (fun j hj => by rw [l1 43 (by decide), k2 j hj, f1 43 (by decide) (by decide), g1 43 (by decide) (by decide)])⟩
      · rw [hc0, if_pos (c := nI 0 = 0) rfl, eq]; rfl
      · rw [k6, if_pos (c := nI 0 = 0) rfl, e3, Option.bind_some, k3, l2, f2, hrk]
    · obtain ⟨q2, ⟨k1, k2, k3⟩, B, hrv, hBB, k6⟩ := main r (fun x hx' => g1 x (by omega) (by omega))
      refine ⟨nI (sm (fun k => dl (tn (r 31 k)) 0) (m * qn O n)), r, q2, ?_, ?_, rel_al h (fun x a1 a2 a3 a4 => by rw [k1 x a3 a2, g1 x (by omega) (by omega)]) (fun j hj => by rw [k2 j hj, g1 43 (by decide) (by decide)])⟩
      · rw [hc0, if_neg (c := nI 1 = 0) (by decide), if_pos (c := nI 1 = 1) rfl, lonely_c hN g2 hA]; rfl
      · rw [k6, if_neg (c := nI 1 = 0) (by decide), rvs_sm hrv (fun v => dl v 0)]
        rfl
    · obtain ⟨q2, ⟨k1, k2, k3⟩, B, hrv, hBB, k6⟩ := main r (fun x hx' => g1 x (by omega) (by omega))
      refine ⟨nI (sm (fun i => sm (fun j => dl (tn (r 31 i)) (tn (r 31 j))) i) (m * qn O n)), r, q2, ?_, ?_, rel_al h (fun x a1 a2 a3 a4 => by rw [k1 x a3 a2, g1 x (by omega) (by omega)]) (fun j hj => by rw [k2 j hj, g1 43 (by decide) (by decide)])⟩
      · rw [hc0, if_neg (c := nI 2 = 0) (by decide), if_neg (c := nI 2 = 1) (by decide), pairs_c hN g2 hA]; rfl
      · rw [k6, if_neg (c := nI 2 = 0) (by decide), rvs_pairs hrv]
        congr 3
        refine sm_cong (fun k _ => ?_)
        show (0 + sm (fun j => dl (B j) (B k)) k) = _
        rw [Nat.zero_add]
        exact sm_cong (fun j _ => dl_c _ _)
  · refine ⟨-1, M, M, ?_, ?_, h⟩
    · unfold f_X7_alias_0
      by_cases c1 : a0 < 0
      · rw [if_pos c1]
      · rw [if_neg c1, if_neg (fun c2 => hx ⟨Int32.not_lt.mp c1, c2⟩)]
    · unfold f_X8_alias_43
      rw [if_pos (in_n (b := 0) (c := 2) (by decide) (by decide) hx)]
