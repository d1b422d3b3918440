/-! LOOPS THAT COUNT, THE TAPE -/
theorem lp_for {α : Type} {body : α × Int32 → Option ((α × Int32) ⊕ (α × Int32))} (g : Nat → α → α) {n : Nat} (hn : n < 4999) {a : α} (hs : ∀ i x, i < n → body (x, nI i) = some (.inl (g i x, nI (i + 1)))) (hx : ∀ x, body (x, nI n) = some (.inr (x, nI n))) : lp body lp_F (a, 0) = some (itr g a n, nI n) :=
  lp_run (fun i => (itr g a i, nI i)) (n := n) (fun i hi => hs i _ hi) (hx _) (lpF hn)
theorem lp_forI {α : Type} {body : α × Int32 → Option ((α × Int32) ⊕ (α × Int32))} (g : Nat → α → α) (I : Nat → α → Prop) {n : Nat} (hn : n < 4999) {a : α} (h0 : I 0 a) (hs : ∀ i x, i < n → I i x → body (x, nI i) = some (.inl (g i x, nI (i + 1))) ∧ I (i + 1) (g i x)) (hx : ∀ x, I n x → body (x, nI n) = some (.inr (x, nI n))) : lp body lp_F (a, 0) = some (itr g a n, nI n) ∧ I n (itr g a n) := by
  have key : ∀ i, i ≤ n → I i (itr g a i) := by
    intro i
    induction i with
    | zero => intro _; exact h0
    | succ i ih => intro hi; exact (hs i _ (by omega) (ih (by omega))).2
  exact ⟨lp_run (fun i => (itr g a i, nI i)) (n := n) (fun i hi => (hs i _ hi (key i (by omega))).1) (hx _ (key n (Nat.le_refl n))) (lpF hn), key n (Nat.le_refl n)⟩
theorem lp_forL {α : Type} {body : Int32 × α → Option ((Int32 × α) ⊕ (Int32 × α))} (g : Nat → α → α) (I : Nat → α → Prop) {n : Nat} (hn : n < 4999) {a : α} (h0 : I 0 a) (hs : ∀ i x, i < n → I i x → body (nI i, x) = some (.inl (nI (i + 1), g i x)) ∧ I (i + 1) (g i x)) (hx : ∀ x, I n x → body (nI n, x) = some (.inr (nI n, x))) : lp body lp_F (0, a) = some (nI n, itr g a n) ∧ I n (itr g a n) := by
  have key : ∀ i, i ≤ n → I i (itr g a i) := by
    intro i
    induction i with
    | zero => intro _; exact h0
    | succ i ih => intro hi; exact (hs i _ (by omega) (ih (by omega))).2
  exact ⟨lp_run (fun i => (nI i, itr g a i)) (n := n) (fun i hi => (hs i _ hi (key i (by omega))).1) (hx _ (key n (Nat.le_refl n))) (lpF hn), key n (Nat.le_refl n)⟩
/-- the end of a loop, and a turn -/
theorem nle_y {n i : Nat} (h : n ≤ i) (hi : i < 2 ^ 31) : nI n ≤ nI i := (ni_le (by omega) hi).mpr h
theorem nle_n {n i : Nat} (h : i < n) (hn : n < 2 ^ 31) : ¬ nI n ≤ nI i := fun q => by
  have := (ni_le hn (by omega)).mp q
  omega
theorem nI_s (i : Nat) : nI i + 1 = nI (i + 1) := nI_add i 1
theorem rel_tape {M M' : am_M} (h : Rel M) (hx : ∀ x, x ≠ 2 → x ≠ 43 → x ≠ 3 → x ≠ 48 → M' x = M x) (h17 : M' 43 17 = M 43 17) (h30 : M' 43 30 = M 43 30) (ht : trel M') : Rel M' := by
  obtain ⟨hc, hi0, hi1, -, hf, hs⟩ := h
  have e25 := hx 25 (by decide) (by decide) (by decide) (by decide)
  have e46 := hx 46 (by decide) (by decide) (by decide) (by decide)
  have e0 := hx 0 (by decide) (by decide) (by decide) (by decide)
  refine ⟨crel_fr (fun x h => hx x (by omega) (by omega) (by omega) (by omega)) hc, ⟨by rw [e46, e25]; exact hi0.1, ?_⟩, ⟨by rw [e46, e25]; exact hi1.1, ?_⟩, ht, ⟨by rw [h17, e0]; exact hf.1, by rw [h30, e0]; exact hf.2⟩, srel_fr (fun x h => hx x (by omega) (by omega) (by omega) (by omega)) hs.1, srel_fr (fun x h => hx x (by omega) (by omega) (by omega) (by omega)) hs.2.1, srel_fr (fun x h => hx x (by omega) (by omega) (by omega) (by omega)) hs.2.2.1, srel_fr (fun x h => hx x (by omega) (by omega) (by omega) (by omega)) hs.2.2.2⟩
  · rw [e25]
    exact hi0.2.imp id (fun h => ⟨h.1, crel_fr (fun x h => hx x (by omega) (by omega) (by omega) (by omega)) h.2⟩)
  · rw [e25]
    exact hi1.2.imp id (fun h => ⟨h.1, crel_fr (fun x h => hx x (by omega) (by omega) (by omega) (by omega)) h.2⟩)
set_option maxRecDepth 10000 in
theorem byte_7 : ∀ k, k < 128 → vp_nar .byte ((nI k).toInt8.toInt32) = nI k := by decide
theorem op_feed (a0 : Int32) {M : am_M} (h : Rel M) : ∃ v M1 M2, f_X7_feed_0 a0 M = some (v, M1) ∧ f_X8_feed_43 a0 M1 = some (v, M2) ∧ Rel M2 := by
  have hR := h
  obtain ⟨hc, hi0, hi1, ⟨l, hl, t1, t2, ht⟩, hf, hs⟩ := h
  unfold f_X7_feed_0 f_X8_feed_43
  by_cases hb : ∃ k, k < 128 ∧ a0 = nI k
  · obtain ⟨k, hk, rfl⟩ := hb
    rw [if_neg (nI_pos (by omega)), if_pos (c := nI k ≤ 127) ((ni_le (a := k) (b := 127) (by omega) (by omega)).mpr (by omega))]
    unfold f_X5_append_2
    rw [t1, byte_7 k hk]
    have hin := in_y (a := nI k) (b := 0) (c := 127) (B := 0) (C := 127) (by decide) (by decide) ⟨nI_pos' (by omega), (ni_le (a := k) (b := 127) (by omega) (by omega)).mpr (by omega)⟩
    by_cases h160 : l < 160
    · rw [if_pos (c := nI l < 160) ((ni_lt (a := l) (b := 160) (by omega) (by omega)).mpr h160), if_pos (db_ok h160 (by omega)), nI_clamp (by omega)]
      simp only [bl, Option.bind_some]
      rw [up_p (q := 2) (by decide), t1, nI_s, up_s, if_neg (by decide)]
      refine ⟨nI (l + 1), am_up (am_up M 3 l (nI k)) 2 1 (nI (l + 1)), am_up (am_up (am_up (am_up M 3 l (nI k)) 2 1 (nI (l + 1))) 48 l (nI k)) 43 12 (nI (l + 1)), rfl, ?_, ?_⟩
      · have e1 : am_up (am_up M 3 l (nI k)) 2 1 (nI (l + 1)) 43 12 = nI l := by simp [up_i, t2]
        have e2 : am_up (am_up (am_up M 3 l (nI k)) 2 1 (nI (l + 1))) 48 l (nI k) 43 12 = nI l := by simp [up_i, t2]
        rw [if_neg hin, e1, if_neg (c := nI l = 160) (fun q => by
          have := (nI_eq (a := l) (b := 160) (by omega) (by omega)).mp q
          omega), if_pos (db_ok h160 (by omega)), nI_clamp (by omega), e2, nI_s, up_s]
      · refine rel_tape hR (fun x h2 h43 h3 h48 => by rw [am_up_ne h43, am_up_ne h48, am_up_ne h2, am_up_ne h3]) (by rw [up_k (by decide), up_p (by decide), up_p (by decide), up_p (by decide)]) (by rw [up_k (by decide), up_p (by decide), up_p (by decide), up_p (by decide)]) ⟨l + 1, by omega, by rw [up_p (by decide), up_p (by decide), up_s], up_s, ?_⟩
        intro i hi
        rw [up_p (q := 48) (by decide), up_p (q := 3) (by decide), up_p (q := 3) (by decide), up_p (q := 3) (by decide)]
        by_cases e : i = l
        · subst e
          rw [up_s, up_s]
          exact ⟨rfl, k, by omega, rfl⟩
        · rw [up_k e, up_k e, up_p (by decide), up_p (by decide)]
          exact ht i (by omega)
    · rw [if_neg (c := nI l < 160) (fun q => h160 ((ni_lt (a := l) (b := 160) (by omega) (by omega)).mp q)), Option.bind_some, if_pos rfl]
      have : l = 160 := by omega
      subst this
      refine ⟨-3, M, M, rfl, ?_, hR⟩
      rw [if_neg hin, t2, if_pos (c := nI 160 = 160) rfl]
  · refine ⟨-1, M, M, ?_, ?_, hR⟩
    · by_cases h1 : a0 < 0
      · rw [if_pos h1]
      · rw [if_neg h1]
        obtain ⟨k, hk, rfl⟩ := nI_of h1
        rw [if_neg (c := nI k ≤ 127) (fun q => hb ⟨k, by
          have := (ni_le (a := k) (b := 127) (by omega) (by omega)).mp q
          omega, rfl⟩)]
    · rw [if_pos (in_n (b := 0) (c := 127) (by decide) (by decide) (fun q => hb (by
        obtain ⟨q1, q2⟩ := q
        obtain ⟨k, hk, rfl⟩ := nI_of (x := a0) (Int32.not_lt.mpr q1)
        exact ⟨k, by
          have := (ni_le (a := k) (b := 127) (by omega) (by omega)).mp q2
          omega, rfl⟩)))]
