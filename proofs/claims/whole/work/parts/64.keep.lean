/-! KEEP, BACK -/
def st7 (P Q : Nat) (M : am_M) (k : Nat) : am_M := am_up M P k (M Q k)
def sta (P Q n : Nat) (M : am_M) : am_M := am_wr M P (va_cpy (M Q) (M P) 0 0 n)
def like (M : am_M) (P Q : Nat) : am_M := sta (P + 4) (Q + 4) 8 (sta (P + 3) (Q + 3) 8 (sta (P + 2) (Q + 2) 64 (sta (P + 1) (Q + 1) 64 (st7 P Q (st7 P Q (st7 P Q (st7 P Q (st7 P Q (st7 P Q (st7 P Q M 0) 1) 2) 3) 4) 5) 6))))
theorem like_15 (M : am_M) : f_X0_becomeLike_15_9 M = some (like M 15 9) := rfl
theorem like_20 (M : am_M) : f_X0_becomeLike_20_9 M = some (like M 20 9) := rfl
theorem like_915 (M : am_M) : f_X0_becomeLike_9_15 M = some (like M 9 15) := rfl
theorem like_920 (M : am_M) : f_X0_becomeLike_9_20 M = some (like M 9 20) := rfl
theorem like_94 (M : am_M) : f_X0_becomeLike_9_4 M = some (like M 9 4) := rfl
theorem st7_o {P Q k x : Nat} {M : am_M} (h : x ≠ P) : st7 P Q M k x = M x := am_up_ne h
theorem st7_k {P Q k j : Nat} {M : am_M} (h : j ≠ k) : st7 P Q M k P j = M P j := up_k h
theorem st7_s {P Q k : Nat} {M : am_M} : st7 P Q M k P k = M Q k := up_s
theorem sta_o {P Q n x : Nat} {M : am_M} (h : x ≠ P) : sta P Q n M x = M x := am_wr_ne h
theorem sta_i {P Q n j : Nat} {M : am_M} (h : j < n) : sta P Q n M P j = M Q j := by
  unfold sta
  rw [am_wr_eq, sb_cpy0 h]
theorem like_o {M : am_M} {P Q x : Nat} (h : x < P ∨ P + 4 < x) : like M P Q x = M x := by
  unfold like
  rw [sta_o (by omega), sta_o (by omega), sta_o (by omega), sta_o (by omega), st7_o (by omega), st7_o (by omega), st7_o (by omega), st7_o (by omega), st7_o (by omega), st7_o (by omega), st7_o (by omega)]
theorem like_f {M : am_M} {P Q : Nat} (h : Q ≠ P) {j : Nat} (hj : j < 7) : like M P Q P j = M Q j := by
  unfold like
  rw [sta_o (by omega), sta_o (by omega), sta_o (by omega), sta_o (by omega)]
  have : j = 0 ∨ j = 1 ∨ j = 2 ∨ j = 3 ∨ j = 4 ∨ j = 5 ∨ j = 6 := by omega
  rcases this with e | e | e | e | e | e | e <;> subst e
  · rw [st7_k (by decide), st7_k (by decide), st7_k (by decide), st7_k (by decide), st7_k (by decide), st7_k (by decide), st7_s]
  · rw [st7_k (by decide), st7_k (by decide), st7_k (by decide), st7_k (by decide), st7_k (by decide), st7_s, st7_o h]
  · rw [st7_k (by decide), st7_k (by decide), st7_k (by decide), st7_k (by decide), st7_s, st7_o h, st7_o h]
  · rw [st7_k (by decide), st7_k (by decide), st7_k (by decide), st7_s, st7_o h, st7_o h, st7_o h]
  · rw [st7_k (by decide), st7_k (by decide), st7_s, st7_o h, st7_o h, st7_o h, st7_o h]
  · rw [st7_k (by decide), st7_s, st7_o h, st7_o h, st7_o h, st7_o h, st7_o h]
  · rw [st7_s, st7_o h, st7_o h, st7_o h, st7_o h, st7_o h, st7_o h]
theorem like_1 {M : am_M} {P Q : Nat} (h : Q + 4 < P ∨ P + 4 < Q) {j : Nat} (hj : j < 64) : like M P Q (P + 1) j = M (Q + 1) j := by
  unfold like
  rw [sta_o (by omega), sta_o (by omega), sta_o (by omega), sta_i hj, st7_o (by omega), st7_o (by omega), st7_o (by omega), st7_o (by omega), st7_o (by omega), st7_o (by omega), st7_o (by omega)]
theorem like_2 {M : am_M} {P Q : Nat} (h : Q + 4 < P ∨ P + 4 < Q) {j : Nat} (hj : j < 64) : like M P Q (P + 2) j = M (Q + 2) j := by
  unfold like
  rw [sta_o (by omega), sta_o (by omega), sta_i hj, sta_o (by omega), st7_o (by omega), st7_o (by omega), st7_o (by omega), st7_o (by omega), st7_o (by omega), st7_o (by omega), st7_o (by omega)]
theorem like_3 {M : am_M} {P Q : Nat} (h : Q + 4 < P ∨ P + 4 < Q) {j : Nat} (hj : j < 8) : like M P Q (P + 3) j = M (Q + 3) j := by
  unfold like
  rw [sta_o (by omega), sta_i hj, sta_o (by omega), sta_o (by omega), st7_o (by omega), st7_o (by omega), st7_o (by omega), st7_o (by omega), st7_o (by omega), st7_o (by omega), st7_o (by omega)]
theorem like_4 {M : am_M} {P Q : Nat} (h : Q + 4 < P ∨ P + 4 < Q) {j : Nat} (hj : j < 8) : like M P Q (P + 4) j = M (Q + 4) j := by
  unfold like
  rw [sta_i hj, sta_o (by omega), sta_o (by omega), sta_o (by omega), st7_o (by omega), st7_o (by omega), st7_o (by omega), st7_o (by omega), st7_o (by omega), st7_o (by omega), st7_o (by omega)]
/-- a chip told at another place -/
theorem crel_cp {M M' : am_M} {p q o p' q' o' : Nat} (h : crel M p q o) (h0 : ∀ j, j < 7 → M' p' j = M p j) (h1 : ∀ j, j < 64 → M' (p' + 1) j = M (p + 1) j) (h2 : ∀ j, j < 64 → M' (p' + 2) j = M (p + 2) j) (h3 : ∀ j, j < 8 → M' (p' + 3) j = M (p + 3) j) (h4 : ∀ j, j < 8 → M' (p' + 4) j = M (p + 4) j) (hq : ∀ j, j < 151 → M' q' (o' + j) = M q (o + j)) : crel M' p' q' o' := by
  obtain ⟨n, m, w, ⟨hn, hm, hw⟩, ⟨p0, p1, p2⟩, ⟨q0, q1, q2⟩, ⟨q3, q4, q5, q6⟩, ⟨b3, b4, b6⟩, hcell, hwant, hcol, hsus⟩ := h
  have hq0 : M' q' o' = M q o := hq 0 (by omega)
  refine ⟨n, m, w, ⟨hn, hm, hw⟩, ?_, ?_, ?_, ?_, ?_, ?_, ?_, ?_⟩
  · rw [h0 0 (by omega), h0 1 (by omega), h0 2 (by omega)]
    exact ⟨p0, p1, p2⟩
  · rw [hq0, hq 1 (by omega), hq 2 (by omega)]
    exact ⟨q0, q1, q2⟩
  · rw [hq 3 (by omega), hq 4 (by omega), hq 5 (by omega), hq 6 (by omega), h0 3 (by omega), h0 4 (by omega), h0 5 (by omega), h0 6 (by omega)]
    exact ⟨q3, q4, q5, q6⟩
  · rw [h0 3 (by omega), h0 4 (by omega), h0 5 (by omega), h0 6 (by omega)]
    exact ⟨b3, b4, b6⟩
  · intro c t hc ht
    rw [hq _ (by omega), h1 _ (by omega)]
    exact hcell c t hc ht
  · intro c t hc ht
    rw [hq _ (by omega), h2 _ (by omega)]
    exact hwant c t hc ht
  · intro c hc
    rw [hq _ (by omega), h3 _ (by omega)]
    exact hcol c hc
  · intro c hc
    rw [hq _ (by omega), h4 _ (by omega)]
    exact hsus c hc
theorem a_151 (k j : Nat) : ((151 : Int32) * nI k) + nI j = nI (151 * k + j) := by
  rw [show (151 : Int32) = nI 151 from rfl, pk_mul, nI_add]
theorem keep_r {M : am_M} {k : Nat} (hk : k < 2) : ∃ r, f_X8_keep_43 (nI k) M = some (f_X8_flag (M 46 k), r) ∧ ((∀ x, x ≠ 45 → x ≠ 46 → r x = M x) ∧ r 46 k = 1 ∧ (∀ j, j ≠ k → r 46 j = M 46 j) ∧ (∀ j, j < 151 → r 45 (151 * k + j) = M 44 j) ∧ (∀ j, j < 151 * k ∨ 151 * k + 151 ≤ j → r 45 j = M 45 j)) := by
  unfold f_X8_keep_43
  rw [if_neg (in_y (a := nI k) (b := 0) (c := 1) (by decide) (by decide) ⟨nI_pos' (by omega), (ni_le (a := k) (b := 1) (by omega) (by omega)).mpr (by omega)⟩), if_pos (db_ok hk (by omega)), if_pos (db_ok hk (by omega)), bl_s, nI_clamp (by omega)]
  refine lp_bnd (fun r => (f_X8_flag (M 46 k), r)) (fun i s => ∃ M', s = (nI i, M') ∧ (∀ x, x ≠ 45 → x ≠ 46 → M' x = M x) ∧ M' 46 k = 1 ∧ (∀ j, j ≠ k → M' 46 j = M 46 j) ∧ (∀ j, j < i → M' 45 (151 * k + j) = M 44 j) ∧ (∀ j, j < 151 * k ∨ 151 * k + 151 ≤ j → M' 45 j = M 45 j)) (fun q => ∃ y M', q = (y, M') ∧ (∀ x, x ≠ 45 → x ≠ 46 → M' x = M x) ∧ M' 46 k = 1 ∧ (∀ j, j ≠ k → M' 46 j = M 46 j) ∧ (∀ j, j < 151 → M' 45 (151 * k + j) = M 44 j) ∧ (∀ j, j < 151 * k ∨ 151 * k + 151 ≤ j → M' 45 j = M 45 j)) (n := 151) (lpF (by omega)) ⟨_, rfl, fun x _ h => am_up_ne h, by rw [up_s]; rfl, fun j hj => up_k hj, fun j hj => by omega, fun j _ => up_p (by decide)⟩ ?_ ?_ ?_
  · rintro i s hi ⟨M', rfl, h1, h2, h3, h4, h5⟩
    dsimp only
    rw [if_neg (c := 151 ≤ nI i) (nle_n (n := 151) hi (by omega)), if_pos (db_ok hi (by omega)), a_151, if_pos (db_ok (by omega) (by omega)), nI_clamp (by omega), nI_clamp (by omega), bl_s, nI_s]
    refine Or.inl ⟨_, rfl, _, rfl, fun x hx hx' => by rw [am_up_ne hx, h1 x hx hx'], by rw [up_p (by decide), h2], fun j hj => by rw [up_p (by decide), h3 j hj], fun j hj => ?_, fun j hj => by rw [up_k (by omega), h5 j hj]⟩
    by_cases e : j = i
    · subst e; rw [up_s, h1 44 (by decide) (by decide)]
    · rw [up_k (by omega), h4 j (by omega)]
  · rintro s ⟨M', rfl, h⟩
    dsimp only
    rw [if_pos (c := 151 ≤ nI 151) (by decide)]
    exact ⟨_, rfl, _, M', rfl, h⟩
  · rintro q ⟨y, M', rfl, h⟩
    exact ⟨_, rfl, h⟩
theorem img_c (a : Int32) : (f_X7_isImage a = 1 ∧ ∃ k, k < 2 ∧ a = nI k) ∨ (f_X7_isImage a = 0 ∧ ¬ (0 ≤ a ∧ a ≤ 1)) := by
  unfold f_X7_isImage
  by_cases h1 : a < 0
  · rw [if_pos h1]
    exact Or.inr ⟨rfl, fun h => absurd h1 (Int32.not_lt.mpr h.1)⟩
  · rw [if_neg h1]
    obtain ⟨k, hk, rfl⟩ := nI_of h1
    by_cases h2 : 2 ≤ nI k
    · rw [if_pos h2]
      refine Or.inr ⟨rfl, fun h => ?_⟩
      have a1 := (ni_le (a := 2) (b := k) (by omega) (by omega)).mp h2
      have a2 := (ni_le (a := k) (b := 1) (by omega) (by omega)).mp h.2
      omega
    · rw [if_neg h2]
      refine Or.inl ⟨rfl, k, ?_, rfl⟩
      apply Decidable.byContradiction
      intro hn
      exact h2 ((ni_le (a := 2) (b := k) (by omega) (by omega)).mpr (by omega))
theorem bool1 : vp_nar .boolean 1 = 1 := by decide
theorem flag_01 {x : Int32} (h : x = 0 ∨ x = 1) : f_X8_flag x = x := by
  rcases h with e | e <;> subst e <;> rfl
theorem flag_i (x : Int32) : f_X8_flag x = if x = 0 then 0 else 1 := rfl
theorem op_keep (a0 : Int32) {M : am_M} (h : Rel M) : ∃ v M1 M2, f_X7_keep_0 a0 M = some (v, M1) ∧ f_X8_keep_43 a0 M1 = some (v, M2) ∧ Rel M2 := by
  have hR := h
  obtain ⟨hc, ⟨i1, i2⟩, ⟨i3, i4⟩, ht, ⟨f1, f2⟩, s1, s2, s3, s4⟩ := h
  unfold f_X7_keep_0
  rcases img_c a0 with ⟨e, k, hk, rfl⟩ | ⟨e, hno⟩
  · rw [e, if_neg (c := (1 : Int32) = 0) (by decide), if_pos (db_ok hk (by omega)), bl_s, nI_clamp (by omega), bool1]
    simp only [if_pos (db_ok hk (show 2 < 2 ^ 31 by omega))]
    have hk2 : k = 0 ∨ k = 1 := by omega
    rcases hk2 with rfl | rfl
    · rw [if_pos (c := nI 0 = 0) rfl, like_15, Option.bind_some, bl_s]
      have e46 : ∀ j, am_up (like M 15 9) 25 0 1 46 j = M 46 j := fun j => by rw [up_p (by decide), like_o (by omega)]
      obtain ⟨r, er, g1, g2, g3, g4, g5⟩ := keep_r (M := am_up (like M 15 9) 25 0 1) (k := 0) (by omega)
      refine ⟨_, _, r, rfl, ?_, ?_⟩
      · rw [er, e46, i1]; rfl
      · have hx : ∀ x, x ≠ 45 → x ≠ 46 → x ≠ 25 → (x < 15 ∨ 19 < x) → r x = M x := fun x h1 h2 h3 h4 => by rw [g1 x h1 h2, am_up_ne h3, like_o (by omega)]
        have h25 : ∀ j, r 25 j = am_up (like M 15 9) 25 0 1 25 j := fun j => by rw [g1 25 (by decide) (by decide)]
        have hlk : ∀ x j, 15 ≤ x → x ≤ 19 → r x j = like M 15 9 x j := fun x j h1 h2 => by rw [g1 x (by omega) (by omega), up_p (by omega)]
        refine ⟨crel_fr (fun x h => hx x (by omega) (by omega) (by omega) (by omega)) hc, ⟨by rw [g2, h25, up_s], Or.inr ⟨by rw [h25, up_s], ?_⟩⟩, ⟨?_, ?_⟩, trel_fr (hx 3 (by decide) (by decide) (by decide) (by decide)) (hx 48 (by decide) (by decide) (by decide) (by decide)) (by rw [hx 2 (by decide) (by decide) (by decide) (by decide)]) (by rw [hx 43 (by decide) (by decide) (by decide) (by decide)]) ht, ⟨by rw [hx 43 (by decide) (by decide) (by decide) (by decide), hx 0 (by decide) (by decide) (by decide) (by decide)]; exact f1, by rw [hx 43 (by decide) (by decide) (by decide) (by decide), hx 0 (by decide) (by decide) (by decide) (by decide)]; exact f2⟩, srel_fr (fun x h => hx x (by omega) (by omega) (by omega) (by omega)) s1, srel_fr (fun x h => hx x (by omega) (by omega) (by omega) (by omega)) s2, srel_fr (fun x h => hx x (by omega) (by omega) (by omega) (by omega)) s3, srel_fr (fun x h => hx x (by omega) (by omega) (by omega) (by omega)) s4⟩
        · refine crel_cp (p' := 15) (q' := 45) (o' := 0) hc (fun j hj => ?_) (fun j hj => ?_) (fun j hj => ?_) (fun j hj => ?_) (fun j hj => ?_) (fun j hj => ?_)
          · rw [hlk _ _ (by omega) (by omega)]; exact like_f (by decide) hj
          · rw [hlk _ _ (by omega) (by omega)]; exact like_1 (by omega) hj
          · rw [hlk _ _ (by omega) (by omega)]; exact like_2 (by omega) hj
          · rw [hlk _ _ (by omega) (by omega)]; exact like_3 (by omega) hj
          · rw [hlk _ _ (by omega) (by omega)]; exact like_4 (by omega) hj
          · have := g4 j hj
            rw [up_p (by decide), like_o (by omega)] at this
            simpa using this
        · rw [g3 1 (by decide), e46, h25, up_k (by decide), like_o (by omega)]; exact i3
        · rw [h25, up_k (by decide), like_o (by omega)]
          refine i4.imp id (fun h => ⟨h.1, crel_cp h.2 (fun j hj => ?_) (fun j hj => ?_) (fun j hj => ?_) (fun j hj => ?_) (fun j hj => ?_) (fun j hj => ?_)⟩)
          · rw [hx 20 (by decide) (by decide) (by decide) (by decide)]
          · rw [hx (20 + 1) (by decide) (by decide) (by decide) (by decide)]
          · rw [hx (20 + 2) (by decide) (by decide) (by decide) (by decide)]
          · rw [hx (20 + 3) (by decide) (by decide) (by decide) (by decide)]
          · rw [hx (20 + 4) (by decide) (by decide) (by decide) (by decide)]
          · rw [g5 _ (by omega), up_p (by decide), like_o (by omega)]
    · rw [if_neg (c := nI 1 = 0) (by decide), if_pos (c := nI 1 = 1) rfl, like_20, Option.bind_some, bl_s]
      have e46 : ∀ j, am_up (like M 20 9) 25 1 1 46 j = M 46 j := fun j => by rw [up_p (by decide), like_o (by omega)]
      obtain ⟨r, er, g1, g2, g3, g4, g5⟩ := keep_r (M := am_up (like M 20 9) 25 1 1) (k := 1) (by omega)
      refine ⟨_, _, r, rfl, ?_, ?_⟩
      · rw [er, e46, i3]; rfl
      · have hx : ∀ x, x ≠ 45 → x ≠ 46 → x ≠ 25 → (x < 20 ∨ 24 < x) → r x = M x := fun x h1 h2 h3 h4 => by rw [g1 x h1 h2, am_up_ne h3, like_o (by omega)]
        have h25 : ∀ j, r 25 j = am_up (like M 20 9) 25 1 1 25 j := fun j => by rw [g1 25 (by decide) (by decide)]
        have hlk : ∀ x j, 20 ≤ x → x ≤ 24 → r x j = like M 20 9 x j := fun x j h1 h2 => by rw [g1 x (by omega) (by omega), up_p (by omega)]
        refine ⟨crel_fr (fun x h => hx x (by omega) (by omega) (by omega) (by omega)) hc, ⟨?_, ?_⟩, ⟨by rw [g2, h25, up_s], Or.inr ⟨by rw [h25, up_s], ?_⟩⟩, trel_fr (hx 3 (by decide) (by decide) (by decide) (by decide)) (hx 48 (by decide) (by decide) (by decide) (by decide)) (by rw [hx 2 (by decide) (by decide) (by decide) (by decide)]) (by rw [hx 43 (by decide) (by decide) (by decide) (by decide)]) ht, ⟨by rw [hx 43 (by decide) (by decide) (by decide) (by decide), hx 0 (by decide) (by decide) (by decide) (by decide)]; exact f1, by rw [hx 43 (by decide) (by decide) (by decide) (by decide), hx 0 (by decide) (by decide) (by decide) (by decide)]; exact f2⟩, srel_fr (fun x h => hx x (by omega) (by omega) (by omega) (by omega)) s1, srel_fr (fun x h => hx x (by omega) (by omega) (by omega) (by omega)) s2, srel_fr (fun x h => hx x (by omega) (by omega) (by omega) (by omega)) s3, srel_fr (fun x h => hx x (by omega) (by omega) (by omega) (by omega)) s4⟩
        · rw [g3 0 (by decide), e46, h25, up_k (by decide), like_o (by omega)]; exact i1
        · rw [h25, up_k (by decide), like_o (by omega)]
          refine i2.imp id (fun h => ⟨h.1, crel_cp h.2 (fun j hj => ?_) (fun j hj => ?_) (fun j hj => ?_) (fun j hj => ?_) (fun j hj => ?_) (fun j hj => ?_)⟩)
          · rw [hx 15 (by decide) (by decide) (by decide) (by decide)]
          · rw [hx (15 + 1) (by decide) (by decide) (by decide) (by decide)]
          · rw [hx (15 + 2) (by decide) (by decide) (by decide) (by decide)]
          · rw [hx (15 + 3) (by decide) (by decide) (by decide) (by decide)]
          · rw [hx (15 + 4) (by decide) (by decide) (by decide) (by decide)]
          · rw [g5 _ (by omega), up_p (by decide), like_o (by omega)]
        · refine crel_cp (p' := 20) (q' := 45) (o' := 151) hc (fun j hj => ?_) (fun j hj => ?_) (fun j hj => ?_) (fun j hj => ?_) (fun j hj => ?_) (fun j hj => ?_)
          · rw [hlk _ _ (by omega) (by omega)]; exact like_f (by decide) hj
          · rw [hlk _ _ (by omega) (by omega)]; exact like_1 (by omega) hj
          · rw [hlk _ _ (by omega) (by omega)]; exact like_2 (by omega) hj
          · rw [hlk _ _ (by omega) (by omega)]; exact like_3 (by omega) hj
          · rw [hlk _ _ (by omega) (by omega)]; exact like_4 (by omega) hj
          · have := g4 j hj
            rw [up_p (by decide), like_o (by omega)] at this
            simpa using this
  · refine ⟨-1, M, M, ?_, ?_, hR⟩
    · rw [e, if_pos (c := (0 : Int32) = 0) rfl]
    · unfold f_X8_keep_43
      rw [if_pos (in_n (b := 0) (c := 1) (by decide) (by decide) hno)]
/-- the reference takes an image back -/
theorem takes_r {M : am_M} {k : Nat} (hk : k < 2) : ∃ r, f_X8_takes_43 (nI k) M = some r ∧ ((∀ x, x ≠ 44 → r x = M x) ∧ (∀ j, j < 151 → r 44 j = M 45 (151 * k + j)) ∧ (∀ j, 151 ≤ j → r 44 j = M 44 j)) := by
  unfold f_X8_takes_43
  refine lp_bnd (fun r => r) (fun i s => ∃ M', s = (nI i, M') ∧ (∀ x, x ≠ 44 → M' x = M x) ∧ (∀ j, j < i → M' 44 j = M 45 (151 * k + j)) ∧ (∀ j, 151 ≤ j → M' 44 j = M 44 j)) (fun q => ∃ y M', q = (y, M') ∧ (∀ x, x ≠ 44 → M' x = M x) ∧ (∀ j, j < 151 → M' 44 j = M 45 (151 * k + j)) ∧ (∀ j, 151 ≤ j → M' 44 j = M 44 j)) (n := 151) (lpF (by omega)) ⟨M, rfl, fun x _ => rfl, fun j hj => by omega, fun j _ => rfl⟩ ?_ ?_ ?_
  · rintro i s hi ⟨M', rfl, h1, h2, h3⟩
    dsimp only
    rw [if_neg (c := 151 ≤ nI i) (nle_n (n := 151) hi (by omega)), a_151, if_pos (db_ok (by omega) (by omega)), if_pos (db_ok hi (by omega)), nI_clamp (by omega), nI_clamp (by omega), bl_s, nI_s]
    refine Or.inl ⟨_, rfl, _, rfl, fun x hx => by rw [am_up_ne hx, h1 x hx], fun j hj => ?_, fun j hj => by rw [up_k (by omega), h3 j hj]⟩
    by_cases e : j = i
    · subst e; rw [up_s, h1 45 (by decide)]
    · rw [up_k (by omega), h2 j (by omega)]
  · rintro s ⟨M', rfl, h⟩
    dsimp only
    rw [if_pos (c := 151 ≤ nI 151) (by decide)]
    exact ⟨_, rfl, _, M', rfl, h⟩
  · rintro q ⟨y, M', rfl, h⟩
    exact ⟨_, rfl, h⟩
theorem op_back (a0 : Int32) {M : am_M} (h : Rel M) : ∃ v M1 M2, f_X7_back_0 a0 M = some (v, M1) ∧ f_X8_back_43 a0 M1 = some (v, M2) ∧ Rel M2 := by
  have hR := h
  obtain ⟨hc, ⟨i1, i2⟩, ⟨i3, i4⟩, ht, ⟨f1, f2⟩, s1, s2, s3, s4⟩ := h
  unfold f_X7_back_0 f_X8_back_43
  rcases img_c a0 with ⟨e, k, hk, rfl⟩ | ⟨e, hno⟩
  · have hin := in_y (a := nI k) (b := 0) (c := 1) (B := 0) (C := 1) (by decide) (by decide) ⟨nI_pos' (by omega), (ni_le (a := k) (b := 1) (by omega) (by omega)).mpr (by omega)⟩
    rw [e, if_neg (c := (1 : Int32) = 0) (by decide), if_pos (db_ok hk (by omega)), nI_clamp (by omega)]
    simp only [if_neg hin, if_pos (db_ok hk (show 2 < 2 ^ 31 by omega))]
    have hk2 : k = 0 ∨ k = 1 := by omega
    rcases hk2 with rfl | rfl
    · rcases i2 with z | ⟨z, hcr⟩
      · rw [z, if_pos (c := (0 : Int32) = 0) rfl]
        exact ⟨_, _, M, rfl, by rw [i1, z, if_pos (c := (0 : Int32) = 0) rfl], hR⟩
      · rw [z, if_neg (c := (1 : Int32) = 0) (by decide), if_pos (c := nI 0 = 0) rfl, like_915, Option.bind_some]
        obtain ⟨r, er, g1, g2, g3⟩ := takes_r (M := like M 9 15) (k := 0) (by omega)
        have hlk : ∀ x j, 9 ≤ x → x ≤ 13 → r x j = like M 9 15 x j := fun x j h1 h2 => by rw [g1 x (by omega)]
        have hcr2 : crel r 9 44 0 := by
          refine crel_cp (p' := 9) (q' := 44) (o' := 0) hcr (fun j hj => ?_) (fun j hj => ?_) (fun j hj => ?_) (fun j hj => ?_) (fun j hj => ?_) (fun j hj => ?_)
          · rw [hlk _ _ (by omega) (by omega)]; exact like_f (by decide) hj
          · rw [hlk _ _ (by omega) (by omega)]; exact like_1 (by omega) hj
          · rw [hlk _ _ (by omega) (by omega)]; exact like_2 (by omega) hj
          · rw [hlk _ _ (by omega) (by omega)]; exact like_3 (by omega) hj
          · rw [hlk _ _ (by omega) (by omega)]; exact like_4 (by omega) hj
          · have := g2 j hj
            rw [like_o (x := 45) (by omega)] at this
            simpa using this
        have hx : ∀ x, x ≠ 44 → (x < 9 ∨ 13 < x) → r x = M x := fun x h1 h2 => by rw [g1 x h1, like_o (by omega)]
        refine ⟨_, _, r, rfl, ?_, rel_chip hR hcr2 ⟨fun x h => hx x (by omega) (by omega), ?_, ?_, ?_, ?_, ?_, ?_⟩⟩
        · rw [like_o (x := 46) (by omega), i1, z, if_neg (c := (1 : Int32) = 0) (by decide), er, Option.bind_some, clamp0]
          obtain ⟨n, m, w, -, ⟨p0, -⟩, ⟨q0, -⟩, -⟩ := hcr2
          rw [hlk 9 0 (by omega) (by omega)] at p0
          rw [p0, q0]
        · rw [hx 0 (by decide) (by decide)]
        · rw [hx 0 (by decide) (by decide)]
        · rw [hx 2 (by decide) (by decide)]
        · rw [hx 43 (by decide) (by decide)]
        · rw [hx 43 (by decide) (by decide)]
        · rw [hx 43 (by decide) (by decide)]
    · rcases i4 with z | ⟨z, hcr⟩
      · rw [z, if_pos (c := (0 : Int32) = 0) rfl]
        exact ⟨_, _, M, rfl, by rw [i3, z, if_pos (c := (0 : Int32) = 0) rfl], hR⟩
      · rw [z, if_neg (c := (1 : Int32) = 0) (by decide), if_neg (c := nI 1 = 0) (by decide), if_pos (c := nI 1 = 1) rfl, like_920, Option.bind_some]
        obtain ⟨r, er, g1, g2, g3⟩ := takes_r (M := like M 9 20) (k := 1) (by omega)
        have hlk : ∀ x j, 9 ≤ x → x ≤ 13 → r x j = like M 9 20 x j := fun x j h1 h2 => by rw [g1 x (by omega)]
        have hcr2 : crel r 9 44 0 := by
          refine crel_cp (p' := 9) (q' := 44) (o' := 0) hcr (fun j hj => ?_) (fun j hj => ?_) (fun j hj => ?_) (fun j hj => ?_) (fun j hj => ?_) (fun j hj => ?_)
          · rw [hlk _ _ (by omega) (by omega)]; exact like_f (by decide) hj
          · rw [hlk _ _ (by omega) (by omega)]; exact like_1 (by omega) hj
          · rw [hlk _ _ (by omega) (by omega)]; exact like_2 (by omega) hj
          · rw [hlk _ _ (by omega) (by omega)]; exact like_3 (by omega) hj
          · rw [hlk _ _ (by omega) (by omega)]; exact like_4 (by omega) hj
          · have := g2 j hj
            rw [like_o (x := 45) (by omega)] at this
            simpa using this
        have hx : ∀ x, x ≠ 44 → (x < 9 ∨ 13 < x) → r x = M x := fun x h1 h2 => by rw [g1 x h1, like_o (by omega)]
        refine ⟨_, _, r, rfl, ?_, rel_chip hR hcr2 ⟨fun x h => hx x (by omega) (by omega), ?_, ?_, ?_, ?_, ?_, ?_⟩⟩
        · rw [like_o (x := 46) (by omega), i3, z, if_neg (c := (1 : Int32) = 0) (by decide), er, Option.bind_some, clamp0]
          obtain ⟨n, m, w, -, ⟨p0, -⟩, ⟨q0, -⟩, -⟩ := hcr2
          rw [hlk 9 0 (by omega) (by omega)] at p0
          rw [p0, q0]
        · rw [hx 0 (by decide) (by decide)]
        · rw [hx 0 (by decide) (by decide)]
        · rw [hx 2 (by decide) (by decide)]
        · rw [hx 43 (by decide) (by decide)]
        · rw [hx 43 (by decide) (by decide)]
        · rw [hx 43 (by decide) (by decide)]
  · refine ⟨-1, M, M, ?_, ?_, hR⟩
    · rw [e, if_pos (c := (0 : Int32) = 0) rfl]
    · rw [if_pos (in_n (b := 0) (c := 1) (by decide) (by decide) hno)]
