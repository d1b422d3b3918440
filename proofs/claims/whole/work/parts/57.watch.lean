/-! WATCHED -/
def bN (O : Nat) (C : Nat → Nat → Nat) (K : Nat → Nat) (t : Nat) : Nat → Nat
  | 0 => 0
  | c + 1 => if O.testBit c = false ∧ C c t = 2 then bN O C K t c ||| K c else bN O C K t c
theorem bN_bit {O : Nat} {C : Nat → Nat → Nat} {K : Nat → Nat} {t n : Nat} (o : Nat) : (bN O C K t n).testBit o = true ↔ ∃ c, c < n ∧ O.testBit c = false ∧ (K c).testBit o = true ∧ C c t = 2 := by
  induction n with
  | zero =>
    constructor
    · intro h
      exact absurd h (by show ¬ ((0 : Nat).testBit o = true); simp)
    · rintro ⟨c, hc, -⟩
      omega
  | succ n ih =>
    show (if O.testBit n = false ∧ C n t = 2 then bN O C K t n ||| K n else bN O C K t n).testBit o = true ↔ _
    by_cases e : O.testBit n = false ∧ C n t = 2
    · rw [if_pos e, Nat.testBit_or, Bool.or_eq_true, ih]
      constructor
      · rintro (⟨c, hc, hr⟩ | h)
        · exact ⟨c, by omega, hr⟩
        · exact ⟨n, by omega, e.1, h, e.2⟩
      · rintro ⟨c, hc, hr⟩
        by_cases ec : c = n
        · subst ec; exact Or.inr hr.2.1
        · exact Or.inl ⟨c, by omega, hr⟩
    · rw [if_neg e, ih]
      constructor
      · rintro ⟨c, hc, hr⟩
        exact ⟨c, by omega, hr⟩
      · rintro ⟨c, hc, hr⟩
        by_cases ec : c = n
        · subst ec; exact absurd ⟨hr.1, hr.2.2⟩ e
        · exact ⟨c, by omega, hr⟩
theorem bN_lt {O : Nat} {C : Nat → Nat → Nat} {K : Nat → Nat} {t n w : Nat} (hK : ∀ c, c < n → K c < 2 ^ w) : bN O C K t n < 2 ^ w := by
  induction n with
  | zero => exact Nat.pow_pos (by omega)
  | succ n ih =>
    have h := ih (fun c hc => hK c (by omega))
    show (if O.testBit n = false ∧ C n t = 2 then bN O C K t n ||| K n else bN O C K t n) < 2 ^ w
    by_cases e : O.testBit n = false ∧ C n t = 2
    · rw [if_pos e]
      exact Nat.or_lt_two_pow h (hK n (by omega))
    · rw [if_neg e]; exact h
theorem blur_c {M : am_M} {n m w O C K} (hB : VB n m w O C K) (hV : VC M 9 n m w O C K) {t o' : Nat} (ht : t < m) (ho : o' < 2 ^ n) : f_X0_blurred_9 (nI t) (nI o') M = some (nI (bN o' C K t n)) := by
  obtain ⟨⟨hn, hm, hw⟩, hO, hC2, hKw⟩ := hB
  obtain ⟨⟨p0, p1, p2, p3⟩, hC, hK⟩ := hV
  have h8 := pw8 hn
  have h8w := pw8 hw
  unfold f_X0_blurred_9
  rw [p0]
  refine Option.bind_eq_some_iff.mpr ⟨(nI (bN o' C K t n), nI n), lp_run (fun i => (nI (bN o' C K t i), nI i)) (n := n) ?_ ?_ (lpF (by omega)), rfl⟩
  · intro c hc
    have hc2 := hC2 c t hc ht
    dsimp only
    rw [if_neg (nle_n hc (by omega)), nI_s, a_at]
    show _ = some (Sum.inl (nI (if o'.testBit c = false ∧ C c t = 2 then bN o' C K t c ||| K c else bN o' C K t c), nI (c + 1)))
    by_cases e1 : o'.testBit c = true
    · rw [if_neg (isIn_y (by omega) (by omega) e1), if_neg (fun h => by rw [e1] at h; exact absurd h.1 (by decide))]
    · rw [if_pos (isIn_n (by omega) (by omega) e1), if_pos (db_ok (by omega) (by omega)), nI_clamp (by omega), hC c t hc ht]
      by_cases e4 : C c t = 2
      · rw [if_pos (c := o'.testBit c = false ∧ C c t = 2) ⟨by simpa using e1, e4⟩, e4, if_pos (c := nI 2 = 2) rfl, if_pos (db_ok (by omega) (by omega)), nI_clamp (by omega), hK c hc, n_or]
      · rw [if_neg (c := nI (C c t) = 2) (nI_ne (b := 2) (by omega) (by omega) e4), if_neg (fun h => e4 h.2)]
  · dsimp only
    rw [if_pos (nle_y (by omega) (by omega))]
/-- watched -/
def wN (O : Nat) (C : Nat → Nat → Nat) (K : Nat → Nat) (n c t : Nat) : Prop := C c t ≠ 2 ∧ O.testBit c = false ∧ ∃ o, (K c).testBit o = true ∧ ¬ (bN O C K t n).testBit o = true
noncomputable def wB (O : Nat) (C : Nat → Nat → Nat) (K : Nat → Nat) (n c t : Nat) : Nat := (Classical.propDecidable (wN O C K n c t)).casesOn (fun _ => 0) (fun _ => 1)
theorem wB_y {O C K n c t} (h : wN O C K n c t) : wB O C K n c t = 1 := by
  unfold wB
  cases Classical.propDecidable (wN O C K n c t) with
  | isTrue h' => rfl
  | isFalse h' => exact absurd h h'
theorem wB_n {O C K n c t} (h : ¬ wN O C K n c t) : wB O C K n c t = 0 := by
  unfold wB
  cases Classical.propDecidable (wN O C K n c t) with
  | isTrue h' => exact absurd h' h
  | isFalse h' => rfl
theorem wB_1 {O C K n c t} : wB O C K n c t ≤ 1 := by
  by_cases h : wN O C K n c t
  · rw [wB_y h]; omega
  · rw [wB_n h]; omega
theorem watch_c {M : am_M} {n m w O C K} (hB : VB n m w O C K) (hV : VC M 9 n m w O C K) {c t o' : Nat} (hc : c < n) (ht : t < m) (ho : o' < 2 ^ n) : f_X0_isWatched_9 (nI c) (nI t) (nI o') (nI (bN o' C K t n)) M = some (nI (wB o' C K n c t)) := by
  obtain ⟨⟨hn, hm, hw⟩, hO, hC2, hKw⟩ := hB
  obtain ⟨⟨p0, p1, p2, p3⟩, hC, hK⟩ := hV
  have h8 := pw8 hn
  have h8w := pw8 hw
  have hc2 := hC2 c t hc ht
  have hkc := hKw c hc
  have hb := bN_lt (O := o') (C := C) (t := t) hKw
  unfold f_X0_isWatched_9
  rw [a_at, if_pos (db_ok (by omega) (by omega)), nI_clamp (by omega), hC c t hc ht]
  by_cases e4 : C c t = 2
  · rw [wB_n (fun h => h.1 e4), e4, if_pos (c := nI 2 = 2) rfl]
    rfl
  · rw [if_neg (c := nI (C c t) = 2) (nI_ne (b := 2) (by omega) (by omega) e4)]
    by_cases e1 : o'.testBit c = true
    · rw [if_neg (isIn_y (by omega) (by omega) e1), wB_n (fun h => by rw [h.2.1] at e1; exact absurd e1 (by decide))]
      rfl
    · rw [if_pos (isIn_n (by omega) (by omega) e1), if_pos (db_ok (by omega) (by omega)), nI_clamp (by omega), hK c hc]
      have hiff := n_andn (a := K c) (b := bN o' C K t n) (by omega) (by omega)
      by_cases e5 : (nI (K c) &&& (nI (bN o' C K t n) ^^^ (-1))) = 0
      · rw [if_pos e5, wB_n (fun h => by
          obtain ⟨o, h1, h2⟩ := h.2.2
          exact h2 (hiff.mp e5 o h1))]
        rfl
      · rw [if_neg e5, wB_y ⟨e4, by simpa using e1, by
          apply Classical.byContradiction
          intro hne
          exact e5 (hiff.mpr (fun i hi => Classical.byContradiction (fun hb => hne ⟨i, hi, hb⟩)))⟩]
        rfl
/-- the reference's loop over outputs: whether one before o shows it -/
theorem watch_r {M : am_M} {n m w O C K} (hB : VB n m w O C K) (hV : VR M n m w O C K) {c t : Nat} (hc : c < n) (ht : t < m) : f_X8_isWatched_43 (nI c) (nI t) M = some (nI (wB O C K n c t)) := by
  have hB' := hB
  have hV' := hV
  obtain ⟨⟨hn, hm, hw⟩, hO, hC2, hKw⟩ := hB
  obtain ⟨⟨p0, p1, p2, p3⟩, hC, hK⟩ := hV
  have h8 := pw8 hn
  have h8w := pw8 hw
  have hc2 := hC2 c t hc ht
  have hkc := hKw c hc
  unfold f_X8_isWatched_43
  rw [clamp2, clamp3, p2, p3, a_135, nI_clamp (by omega), hK c hc, cell_of hB' hV' hc ht]
  have hl := lp_inv (body := fun (s1 : Int32 × Int32) => match s1 with | (x2, x3) => (if nI w ≤ x3 then (some (.inr (x2, x3))) else (if x2 = 0 then (if am_dbin (nI (135 + c)) 151 = true then (if (f_X8_has (nI (K c)) x3) = 0 then (some (.inl (0, (x3 + 1)))) else ((f_X8_seenAt_43 (nI t) x3 M).bind (fun v9 => (if v9 = 2 then (some (.inl (0, (x3 + 1)))) else (some (.inl (1, (x3 + 1)))))))) else none) else (some (.inl (1, (x3 + 1)))))))
    (fun i s => (s = (0, nI i) ∧ ¬ ∃ o, o < i ∧ (K c).testBit o = true ∧ sN O C K t o n ≠ 2) ∨ (s = (1, nI i) ∧ ∃ o, o < i ∧ (K c).testBit o = true ∧ sN O C K t o n ≠ 2)) (fun q : Int32 × Int32 => (q = (0, nI w) ∧ ¬ ∃ o, o < w ∧ (K c).testBit o = true ∧ sN O C K t o n ≠ 2) ∨ (q = (1, nI w) ∧ ∃ o, o < w ∧ (K c).testBit o = true ∧ sN O C K t o n ≠ 2)) (n := w) ?_ ?_ (s0 := (0, 0)) (Or.inl ⟨rfl, by rintro ⟨o, ho, -⟩; omega⟩) (F := lp_F) (lpF (by omega))
  · obtain ⟨q, h1, h2⟩ := hl
    refine Option.bind_eq_some_iff.mpr ⟨q, h1, ?_⟩
    have hsb : ∀ o, (sN O C K t o n = 2 ↔ (bN O C K t n).testBit o = true) := fun o => (sN_2 (m := m) ht hC2).2.trans (bN_bit o).symm
    have hw1 : (∃ o, o < w ∧ (K c).testBit o = true ∧ sN O C K t o n ≠ 2) ↔ ∃ o, (K c).testBit o = true ∧ ¬ (bN O C K t n).testBit o = true := by
      constructor
      · rintro ⟨o, ho, h3, h4⟩
        exact ⟨o, h3, fun h => h4 ((hsb o).mpr h)⟩
      · rintro ⟨o, h3, h4⟩
        refine ⟨o, ?_, h3, fun h => h4 ((hsb o).mp h)⟩
        apply Decidable.byContradiction
        intro hn
        rw [Nat.testBit_lt_two_pow (Nat.lt_of_lt_of_le hkc (Nat.pow_le_pow_right (by omega) (by omega)))] at h3
        exact absurd h3 (by decide)
    rcases h2 with ⟨h2, h3⟩ | ⟨h2, h3⟩
    · rw [h2]
      dsimp only
      rw [if_pos rfl, wB_n (fun h => h3 (hw1.mpr h.2.2))]
      rfl
    · rw [h2]
      dsimp only
      rw [if_neg (by decide), Option.bind_some]
      by_cases e4 : C c t = 2
      · rw [wB_n (fun h => h.1 e4), e4, if_pos (c := nI 2 = 2) rfl]
        rfl
      · rw [if_neg (c := nI (C c t) = 2) (nI_ne (b := 2) (by omega) (by omega) e4)]
        by_cases e1 : O.testBit c = true
        · rw [if_neg (has_y (by omega) (by omega) e1), wB_n (fun h => by rw [h.2.1] at e1; exact absurd e1 (by decide))]
          rfl
        · rw [if_pos (has_n (by omega) (by omega) e1), wB_y ⟨e4, by simpa using e1, hw1.mp h3⟩]
          rfl
  · rintro o s ho (⟨rfl, hs⟩ | ⟨rfl, hs⟩)
    · dsimp only
      rw [if_neg (nle_n ho (by omega)), nI_s, if_pos rfl, if_pos (db_ok (by omega) (by omega))]
      by_cases e2 : (K c).testBit o = true
      · rw [if_neg (has_y (by omega) (by omega) e2), seen_r hB' hV' ht ho, Option.bind_some]
        have hsm := (sN_2 (O := O) (K := K) (o := o) (m := m) ht hC2).1
        by_cases e3 : sN O C K t o n = 2
        · rw [e3, if_pos (c := nI 2 = 2) rfl]
          refine Or.inl ⟨_, rfl, Or.inl ⟨rfl, ?_⟩⟩
          rintro ⟨o', ho', hr⟩
          by_cases eo : o' = o
          · subst eo; exact hr.2 e3
          · exact hs ⟨o', by omega, hr⟩
        · rw [if_neg (c := nI (sN O C K t o n) = 2) (nI_ne (b := 2) (by omega) (by omega) e3)]
          exact Or.inl ⟨_, rfl, Or.inr ⟨rfl, o, by omega, e2, e3⟩⟩
      · rw [if_pos (has_n (by omega) (by omega) e2)]
        refine Or.inl ⟨_, rfl, Or.inl ⟨rfl, ?_⟩⟩
        rintro ⟨o', ho', hr⟩
        by_cases eo : o' = o
        · subst eo; exact e2 hr.1
        · exact hs ⟨o', by omega, hr⟩
    · dsimp only
      rw [if_neg (nle_n ho (by omega)), nI_s, if_neg (by decide)]
      obtain ⟨o', ho', hr⟩ := hs
      exact Or.inl ⟨_, rfl, Or.inr ⟨rfl, o', by omega, hr⟩⟩
  · rintro s (⟨rfl, hs⟩ | ⟨rfl, hs⟩)
    · dsimp only
      rw [if_pos (nle_y (by omega) (by omega))]
      exact ⟨_, rfl, Or.inl ⟨rfl, hs⟩⟩
    · dsimp only
      rw [if_pos (nle_y (by omega) (by omega))]
      exact ⟨_, rfl, Or.inr ⟨rfl, hs⟩⟩
noncomputable def wS (O : Nat) (C : Nat → Nat → Nat) (K : Nat → Nat) (n m : Nat) : Nat := sm (fun c => sm (fun t => wB O C K n c t) m) n
theorem watched_c {M : am_M} {n m w O C K} (hB : VB n m w O C K) (hV : VC M 9 n m w O C K) {o' : Nat} (ho : o' < 2 ^ n) : f_X0_watchedWithout_9 (nI o') M = some (nI (wS o' C K n m)) := by
  have hB' := hB
  have hV' := hV
  obtain ⟨⟨hn, hm, hw⟩, hO, hC2, hKw⟩ := hB
  obtain ⟨⟨p0, p1, p2, p3⟩, hC, hK⟩ := hV
  unfold f_X0_watchedWithout_9 wS
  rw [p0, p1, sm_swap]
  refine Option.bind_eq_some_iff.mpr ⟨_, lp_sum (a := 0) (fun t => sm (fun c => wB o' C K n c t) n) (n := m) (by omega) ?_ ?_, by simp only [Nat.zero_add]⟩
  · intro t x ht
    dsimp only
    rw [if_neg (nle_n ht (by omega)), blur_c hB' hV' ht ho, Option.bind_some]
    refine Option.bind_eq_some_iff.mpr ⟨_, lp_sum (fun c => wB o' C K n c t) (n := n) (by omega) ?_ ?_, by rw [nI_s]⟩
    · intro c y hc
      dsimp only
      rw [if_neg (nle_n hc (by omega)), watch_c hB' hV' hc ht ho, Option.bind_some, nI_s, nI_s]
      have h1 := wB_1 (O := o') (C := C) (K := K) (n := n) (c := c) (t := t)
      have h2 : wB o' C K n c t = 0 ∨ wB o' C K n c t = 1 := by omega
      rcases h2 with h2 | h2
      · rw [h2, if_pos (c := nI 0 = 0) rfl]
        rfl
      · rw [h2, if_neg (c := nI 1 = 0) (by decide)]
    · intro y
      dsimp only
      rw [if_pos (nle_y (by omega) (by omega))]
  · intro x
    dsimp only
    rw [if_pos (nle_y (by omega) (by omega))]
theorem flag_w {a : Nat} (h : a ≤ 1) : f_X8_flag (nI a) = nI a := by
  have h2 : a = 0 ∨ a = 1 := by omega
  rcases h2 with h2 | h2 <;> subst h2 <;> rfl
theorem watched_r {M : am_M} {n m w O C K} (hB : VB n m w O C K) (hV : VR M n m w O C K) : f_X8_watched_43 M = some (nI (wS O C K n m)) := by
  have hB' := hB
  have hV' := hV
  obtain ⟨⟨hn, hm, hw⟩, hO, hC2, hKw⟩ := hB
  obtain ⟨⟨p0, p1, p2, p3⟩, hC, hK⟩ := hV
  unfold f_X8_watched_43 wS
  rw [clamp0, clamp1, p0, p1]
  refine Option.bind_eq_some_iff.mpr ⟨_, lp_sum (a := 0) (fun c => sm (fun t => wB O C K n c t) m) (n := n) (by omega) ?_ ?_, by simp only [Nat.zero_add]⟩
  · intro c x hc
    dsimp only
    rw [if_neg (nle_n hc (by omega))]
    refine Option.bind_eq_some_iff.mpr ⟨_, lp_sum (fun t => wB O C K n c t) (n := m) (by omega) ?_ ?_, by rw [nI_s]⟩
    · intro t y ht
      dsimp only
      rw [if_neg (nle_n ht (by omega)), watch_r hB' hV' hc ht, Option.bind_some, nI_s, flag_w wB_1, nI_add]
    · intro y
      dsimp only
      rw [if_pos (nle_y (by omega) (by omega))]
  · intro x
    dsimp only
    rw [if_pos (nle_y (by omega) (by omega))]
theorem op_watched {M : am_M} (h : Rel M) : ∃ v, f_X7_watched_0 M = some v ∧ f_X8_watched_43 M = some v ∧ Rel M := by
  obtain ⟨n, m, w, O, C, K, hB, hVC, hVR⟩ := rel_V h
  unfold f_X7_watched_0
  rw [hVC.1.2.2.2, watched_c hB hVC hB.2.1, watched_r hB hVR]
  exact ⟨_, rfl, rfl, h⟩
theorem op_cell (a0 a1 a2 : Int32) {M : am_M} (h : Rel M) : ∃ v, f_X7_cell_0 a0 a1 a2 M = some v ∧ f_X8_cell_43 a0 a1 a2 M = some v ∧ Rel M := by
  obtain ⟨n, m, w, b, ⟨hn, hm, hw, hb1, hb2⟩, ⟨p0, p1, p2, p4⟩, ⟨q0, q1, q2, q3, q4, q5, q6⟩, ⟨b3, b5, b6⟩, hcell, hwant, hcol, hsus⟩ := chp_iff.mp h.1
  unfold f_X7_cell_0 f_X8_cell_43
  rcases cell_c hn hm p0 p1 a0 a1 with ⟨e, i, j, hi, hj, rfl, rfl⟩ | ⟨e, hno⟩
  · rw [e, (cell_r hn hm q0 q1 _ _).1 ⟨i, j, hi, hj, rfl, rfl⟩, Option.bind_some]
    simp only [if_neg (show ¬ (1 : Int32) = 0 by decide)]
    rw [a_at, a_71, nI_clamp (by omega), nI_clamp (by omega), if_pos (db_ok (by omega) (by omega)), if_pos (db_ok (by omega) (by omega)), if_pos (db_ok (by omega) (by omega))]
    have hce : f_X8_cellOf_43 (nI i) (nI j) M = some (M 10 (8 * i + j)) := by
      unfold f_X8_cellOf_43
      rw [a_7, if_pos (db_ok (by omega) (by omega)), nI_clamp (by omega), (hcell i j hi hj).1]
    rw [hce, (hwant i j hi hj).1]
    by_cases c0 : a2 = 0
    · subst c0
      exact ⟨_, rfl, rfl, h⟩
    · by_cases c1 : a2 = 1
      · subst c1
        exact ⟨_, rfl, rfl, h⟩
      · by_cases c2 : a2 = 2
        · subst c2
          rw [if_neg c0, if_neg c1, if_pos rfl, if_neg (in_y (b := 0) (c := 2) (by decide) (by decide) (by decide)), if_neg c0, if_neg c1]
          obtain ⟨n', m', w', O, C, K, hB, hVC, hVR⟩ := rel_V h
          have en : n' = n := (nI_eq (by have := hB.1.1; omega) (by omega)).mp (hVC.1.1.symm.trans p0)
          have em : m' = m := (nI_eq (by have := hB.1.2.1; omega) (by omega)).mp (hVC.1.2.1.symm.trans p1)
          subst en
          subst em
          rw [hVC.1.2.2.2, blur_c hB hVC hj hB.2.1, Option.bind_some, watch_c hB hVC hi hj hB.2.1, Option.bind_some, watch_r hB hVR hi hj, Option.bind_some, flag_w wB_1]
          have h1 := wB_1 (O := O) (C := C) (K := K) (n := n') (c := i) (t := j)
          have h2 : wB O C K n' i j = 0 ∨ wB O C K n' i j = 1 := by omega
          rcases h2 with h2 | h2
          · rw [h2, if_pos (c := nI 0 = 0) rfl]
            exact ⟨_, rfl, rfl, h⟩
          · rw [h2, if_neg (c := nI 1 = 0) (by decide)]
            exact ⟨_, rfl, rfl, h⟩
        · refine ⟨-1, ?_, ?_, h⟩
          · rw [if_neg c0, if_neg c1, if_neg c2]
          · rw [if_pos (in_n (b := 0) (c := 2) (by decide) (by decide) (fun q => by
              rcases (v3 a2).mp q with q | q | q
              · exact c0 q
              · exact c1 q
              · exact c2 q))]
  · refine ⟨-1, ?_, ?_, h⟩
    · rw [e, if_pos rfl]
    · rw [(cell_r hn hm q0 q1 _ _).2 hno, Option.bind_some, if_pos rfl]
