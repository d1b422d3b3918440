/-! WHAT IS SEEN -/
/-- seen at cell t at output o: 2 unknown -/
def sN (O : Nat) (C : Nat → Nat → Nat) (K : Nat → Nat) (t o : Nat) : Nat → Nat
  | 0 => 0
  | c + 1 => if O.testBit c = false ∧ (K c).testBit o = true then (if sN O C K t o c = 2 ∨ C c t = 2 then 2 else sN O C K t o c ^^^ C c t) else sN O C K t o c
theorem sN_2 {O : Nat} {C : Nat → Nat → Nat} {K : Nat → Nat} {t o n m : Nat} (ht : t < m) (hC : ∀ c t, c < n → t < m → C c t ≤ 2) : sN O C K t o n ≤ 2 ∧ (sN O C K t o n = 2 ↔ ∃ c, c < n ∧ O.testBit c = false ∧ (K c).testBit o = true ∧ C c t = 2) := by
  induction n with
  | zero =>
    refine ⟨by show 0 ≤ 2; omega, fun h => absurd h (by show ¬ (0 = 2); omega), ?_⟩
    rintro ⟨c, hc, -⟩
    omega
  | succ n ih =>
    obtain ⟨h1, h2⟩ := ih (fun c t hc ht => hC c t (by omega) ht)
    have hCn := hC n t (by omega) ht
    show (if O.testBit n = false ∧ (K n).testBit o = true then (if sN O C K t o n = 2 ∨ C n t = 2 then 2 else sN O C K t o n ^^^ C n t) else sN O C K t o n) ≤ 2 ∧ ((if O.testBit n = false ∧ (K n).testBit o = true then (if sN O C K t o n = 2 ∨ C n t = 2 then 2 else sN O C K t o n ^^^ C n t) else sN O C K t o n) = 2 ↔ _)
    by_cases e : O.testBit n = false ∧ (K n).testBit o = true
    · simp only [if_pos e]
      by_cases e2 : sN O C K t o n = 2 ∨ C n t = 2
      · simp only [if_pos e2]
        refine ⟨by omega, fun _ => ?_, fun _ => by trivial⟩
        rcases e2 with e2 | e2
        · obtain ⟨c, hc, hr⟩ := h2.mp e2
          exact ⟨c, by omega, hr⟩
        · exact ⟨n, by omega, e.1, e.2, e2⟩
      · simp only [if_neg e2]
        have hx : ∀ a b, a ≤ 1 → b ≤ 1 → a ^^^ b ≤ 1 := by
          intro a b ha hb
          have : a = 0 ∨ a = 1 := by omega
          have : b = 0 ∨ b = 1 := by omega
          rcases ‹a = 0 ∨ a = 1› with h | h <;> rcases ‹b = 0 ∨ b = 1› with h' | h' <;> subst h <;> subst h' <;> decide
        have := hx (sN O C K t o n) (C n t) (by omega) (by omega)
        refine ⟨by omega, fun h => by omega, ?_⟩
        rintro ⟨c, hc, hr⟩
        exfalso
        by_cases ec : c = n
        · subst ec; exact e2 (Or.inr hr.2.2)
        · exact e2 (Or.inl (h2.mpr ⟨c, by omega, hr⟩))
    · simp only [if_neg e]
      refine ⟨h1, h2.trans ⟨?_, ?_⟩⟩
      · rintro ⟨c, hc, hr⟩
        exact ⟨c, by omega, hr⟩
      · rintro ⟨c, hc, hr⟩
        by_cases ec : c = n
        · subst ec; exact absurd ⟨hr.1, hr.2.1⟩ e
        · exact ⟨c, by omega, hr⟩
theorem pw8 {n : Nat} (h : n ≤ 8) : 2 ^ n ≤ 256 := Nat.le_trans (Nat.pow_le_pow_right (by omega) h) (by decide)
theorem nI_ne {a b : Nat} (ha : a < 2 ^ 31) (hb : b < 2 ^ 31) (h : a ≠ b) : ¬ nI a = nI b := fun e => h ((nI_eq ha hb).mp e)
theorem seen_r {M : am_M} {n m w O C K} (hB : VB n m w O C K) (hV : VR M n m w O C K) {t o : Nat} (ht : t < m) (ho : o < w) : f_X8_seenAt_43 (nI t) (nI o) M = some (nI (sN O C K t o n)) := by
  have hB' := hB
  have hV' := hV
  obtain ⟨⟨hn, hm, hw⟩, hO, hC2, hKw⟩ := hB
  obtain ⟨⟨p0, p1, p2, p3⟩, hC, hK⟩ := hV
  have h8 := pw8 hn
  have h8w := pw8 hw
  unfold f_X8_seenAt_43
  rw [clamp0, clamp3, p0, p3]
  refine Option.bind_eq_some_iff.mpr ⟨(nI (sN O C K t o n), nI n), lp_run (fun i => (nI (sN O C K t o i), nI i)) (n := n) ?_ ?_ (lpF (by omega)), rfl⟩
  · intro c hc
    have hc2 := hC2 c t hc ht
    have hkc := hKw c hc
    obtain ⟨s1, -⟩ := sN_2 (O := O) (C := C) (K := K) (t := t) (o := o) (n := c) (m := m) ht (fun c' t' h1 h2 => hC2 c' t' (by omega) h2)
    dsimp only
    rw [if_neg (nle_n hc (by omega)), a_135, nI_s]
    show _ = some (Sum.inl (nI (if O.testBit c = false ∧ (K c).testBit o = true then (if sN O C K t o c = 2 ∨ C c t = 2 then 2 else sN O C K t o c ^^^ C c t) else sN O C K t o c), nI (c + 1)))
    by_cases e1 : O.testBit c = true
    · rw [if_neg (has_y (by omega) (by omega) e1), if_neg (fun h => by rw [e1] at h; exact absurd h.1 (by decide))]
    · rw [if_pos (has_n (by omega) (by omega) e1), if_pos (db_ok (by omega) (by omega)), nI_clamp (by omega), hK c hc]
      by_cases e2 : (K c).testBit o = true
      · rw [if_neg (has_y (by omega) (by omega) e2), if_pos (c := O.testBit c = false ∧ (K c).testBit o = true) ⟨by simpa using e1, e2⟩, cell_of hB' hV' hc ht]
        by_cases e3 : sN O C K t o c = 2
        · rw [if_pos (Or.inl e3), e3, if_pos (c := nI 2 = 2) rfl]
          rfl
        · rw [if_neg (c := nI (sN O C K t o c) = 2) (nI_ne (b := 2) (by omega) (by omega) e3), Option.bind_some, Option.bind_some]
          by_cases e4 : C c t = 2
          · rw [if_pos (Or.inr e4), e4, if_pos (c := nI 2 = 2) rfl]
            rfl
          · rw [if_neg (c := nI (C c t) = 2) (nI_ne (b := 2) (by omega) (by omega) e4), if_neg (fun h => h.elim e3 e4), n_xor]
      · rw [if_pos (has_n (by omega) (by omega) e2), if_neg (fun h => e2 h.2)]
  · dsimp only
    rw [if_pos (nle_y (by omega) (by omega))]
theorem seen_c9 {M : am_M} {n m w O C K} (hB : VB n m w O C K) (hV : VC M 9 n m w O C K) {t o : Nat} (ht : t < m) (ho : o < w) : f_X0_seenAt_9 (nI t) (nI o) M = some (nI (sN O C K t o n)) := by
  obtain ⟨⟨hn, hm, hw⟩, hO, hC2, hKw⟩ := hB
  obtain ⟨⟨p0, p1, p2, p3⟩, hC, hK⟩ := hV
  have h8 := pw8 hn
  have h8w := pw8 hw
  unfold f_X0_seenAt_9
  rw [p0, p3]
  have hsn := fun c (hc : c ≤ n) => sN_2 (O := O) (C := C) (K := K) (t := t) (o := o) (n := c) (m := m) ht (fun c' t' h1 h2 => hC2 c' t' (by omega) h2)
  have hl := lp_inv (body := fun (s1 : Int32 × Int32) => match s1 with | (x2, x3) => (if nI n ≤ x3 then (some (.inr (.inr (x2, x3)))) else (if (f_X0_isIn x3 (nI O)) = 0 then (if am_dbin x3 8 = true then (if (f_X0_isIn (nI o) (M 12 x3.toNatClampNeg)) = 0 then (some (.inl (x2, (x3 + 1)))) else (if am_dbin (f_X0_at x3 (nI t)) 64 = true then (if (M 10 (f_X0_at x3 (nI t)).toNatClampNeg) = 2 then (some (.inr (.inl 2))) else (some (.inl ((x2 ^^^ (M 10 (f_X0_at x3 (nI t)).toNatClampNeg)), (x3 + 1))))) else none)) else none) else (some (.inl (x2, (x3 + 1)))))))
    (fun i s => s = (nI (sN O C K t o i), nI i) ∧ sN O C K t o i ≠ 2) (fun q : Int32 ⊕ (Int32 × Int32) => (q = .inl 2 ∧ sN O C K t o n = 2) ∨ q = .inr (nI (sN O C K t o n), nI n)) (n := n) ?_ ?_ (s0 := (0, 0)) ⟨rfl, by show ¬ (0 = 2); omega⟩ (F := lp_F) (lpF (by omega))
  · obtain ⟨q, h1, h2⟩ := hl
    refine Option.bind_eq_some_iff.mpr ⟨q, h1, ?_⟩
    rcases h2 with ⟨h2, h3⟩ | h2
    · rw [h2, h3]; rfl
    · rw [h2]; rfl
  · rintro c s hc ⟨rfl, hs⟩
    have hc2 := hC2 c t hc ht
    have hkc := hKw c hc
    obtain ⟨s1, -⟩ := hsn c (by omega)
    dsimp only
    rw [if_neg (nle_n hc (by omega)), nI_s]
    have hstep : sN O C K t o (c + 1) = if O.testBit c = false ∧ (K c).testBit o = true then (if sN O C K t o c = 2 ∨ C c t = 2 then 2 else sN O C K t o c ^^^ C c t) else sN O C K t o c := rfl
    by_cases e1 : O.testBit c = true
    · rw [if_neg (isIn_y (by omega) (by omega) e1)]
      rw [if_neg (fun h => by rw [e1] at h; exact absurd h.1 (by decide))] at hstep
      exact Or.inl ⟨_, rfl, by rw [hstep], by rw [hstep]; exact hs⟩
    · rw [if_pos (isIn_n (by omega) (by omega) e1), if_pos (db_ok (by omega) (by omega)), nI_clamp (by omega), hK c hc]
      by_cases e2 : (K c).testBit o = true
      · rw [if_neg (isIn_y (by omega) (by omega) e2), a_at, if_pos (db_ok (by omega) (by omega)), nI_clamp (by omega), hC c t hc ht]
        rw [if_pos ⟨by simpa using e1, e2⟩] at hstep
        by_cases e4 : C c t = 2
        · rw [e4, if_pos (c := nI 2 = 2) rfl]
          exact Or.inr ⟨_, rfl, Or.inl ⟨rfl, (hsn n (by omega)).2.mpr ⟨c, hc, by simpa using e1, e2, e4⟩⟩⟩
        · rw [if_neg (c := nI (C c t) = 2) (nI_ne (b := 2) (by omega) (by omega) e4), n_xor]
          rw [if_neg (fun h => h.elim hs e4)] at hstep
          refine Or.inl ⟨_, rfl, by rw [hstep], ?_⟩
          rw [hstep]
          intro h
          have h5 := (hsn (c + 1) (by omega)).2.mp (by rw [hstep]; exact h)
          obtain ⟨d, hd, hr⟩ := h5
          by_cases ed : d = c
          · subst ed; exact e4 hr.2.2
          · exact hs ((hsn c (by omega)).2.mpr ⟨d, by omega, hr⟩)
      · rw [if_pos (isIn_n (by omega) (by omega) e2)]
        rw [if_neg (fun h => e2 h.2)] at hstep
        exact Or.inl ⟨_, rfl, by rw [hstep], by rw [hstep]; exact hs⟩
  · rintro s ⟨rfl, hs⟩
    dsimp only
    rw [if_pos (nle_y (by omega) (by omega))]
    exact ⟨_, rfl, Or.inr rfl⟩
theorem seen_c15 {M : am_M} {n m w O C K} (hB : VB n m w O C K) (hV : VC M 15 n m w O C K) {t o : Nat} (ht : t < m) (ho : o < w) : f_X0_seenAt_15 (nI t) (nI o) M = some (nI (sN O C K t o n)) := by
  obtain ⟨⟨hn, hm, hw⟩, hO, hC2, hKw⟩ := hB
  obtain ⟨⟨p0, p1, p2, p3⟩, hC, hK⟩ := hV
  have h8 := pw8 hn
  have h8w := pw8 hw
  unfold f_X0_seenAt_15
  rw [p0, p3]
  have hsn := fun c (hc : c ≤ n) => sN_2 (O := O) (C := C) (K := K) (t := t) (o := o) (n := c) (m := m) ht (fun c' t' h1 h2 => hC2 c' t' (by omega) h2)
  have hl := lp_inv (body := fun (s1 : Int32 × Int32) => match s1 with | (x2, x3) => (if nI n ≤ x3 then (some (.inr (.inr (x2, x3)))) else (if (f_X0_isIn x3 (nI O)) = 0 then (if am_dbin x3 8 = true then (if (f_X0_isIn (nI o) (M 18 x3.toNatClampNeg)) = 0 then (some (.inl (x2, (x3 + 1)))) else (if am_dbin (f_X0_at x3 (nI t)) 64 = true then (if (M 16 (f_X0_at x3 (nI t)).toNatClampNeg) = 2 then (some (.inr (.inl 2))) else (some (.inl ((x2 ^^^ (M 16 (f_X0_at x3 (nI t)).toNatClampNeg)), (x3 + 1))))) else none)) else none) else (some (.inl (x2, (x3 + 1)))))))
    (fun i s => s = (nI (sN O C K t o i), nI i) ∧ sN O C K t o i ≠ 2) (fun q : Int32 ⊕ (Int32 × Int32) => (q = .inl 2 ∧ sN O C K t o n = 2) ∨ q = .inr (nI (sN O C K t o n), nI n)) (n := n) ?_ ?_ (s0 := (0, 0)) ⟨rfl, by show ¬ (0 = 2); omega⟩ (F := lp_F) (lpF (by omega))
  · obtain ⟨q, h1, h2⟩ := hl
    refine Option.bind_eq_some_iff.mpr ⟨q, h1, ?_⟩
    rcases h2 with ⟨h2, h3⟩ | h2
    · rw [h2, h3]; rfl
    · rw [h2]; rfl
  · rintro c s hc ⟨rfl, hs⟩
    have hc2 := hC2 c t hc ht
    have hkc := hKw c hc
    obtain ⟨s1, -⟩ := hsn c (by omega)
    dsimp only
    rw [if_neg (nle_n hc (by omega)), nI_s]
    have hstep : sN O C K t o (c + 1) = if O.testBit c = false ∧ (K c).testBit o = true then (if sN O C K t o c = 2 ∨ C c t = 2 then 2 else sN O C K t o c ^^^ C c t) else sN O C K t o c := rfl
    by_cases e1 : O.testBit c = true
    · rw [if_neg (isIn_y (by omega) (by omega) e1)]
      rw [if_neg (fun h => by rw [e1] at h; exact absurd h.1 (by decide))] at hstep
      exact Or.inl ⟨_, rfl, by rw [hstep], by rw [hstep]; exact hs⟩
    · rw [if_pos (isIn_n (by omega) (by omega) e1), if_pos (db_ok (by omega) (by omega)), nI_clamp (by omega), hK c hc]
      by_cases e2 : (K c).testBit o = true
      · rw [if_neg (isIn_y (by omega) (by omega) e2), a_at, if_pos (db_ok (by omega) (by omega)), nI_clamp (by omega), hC c t hc ht]
        rw [if_pos ⟨by simpa using e1, e2⟩] at hstep
        by_cases e4 : C c t = 2
        · rw [e4, if_pos (c := nI 2 = 2) rfl]
          exact Or.inr ⟨_, rfl, Or.inl ⟨rfl, (hsn n (by omega)).2.mpr ⟨c, hc, by simpa using e1, e2, e4⟩⟩⟩
        · rw [if_neg (c := nI (C c t) = 2) (nI_ne (b := 2) (by omega) (by omega) e4), n_xor]
          rw [if_neg (fun h => h.elim hs e4)] at hstep
          refine Or.inl ⟨_, rfl, by rw [hstep], ?_⟩
          rw [hstep]
          intro h
          have h5 := (hsn (c + 1) (by omega)).2.mp (by rw [hstep]; exact h)
          obtain ⟨d, hd, hr⟩ := h5
          by_cases ed : d = c
          · subst ed; exact e4 hr.2.2
          · exact hs ((hsn c (by omega)).2.mpr ⟨d, by omega, hr⟩)
      · rw [if_pos (isIn_n (by omega) (by omega) e2)]
        rw [if_neg (fun h => e2 h.2)] at hstep
        exact Or.inl ⟨_, rfl, by rw [hstep], by rw [hstep]; exact hs⟩
  · rintro s ⟨rfl, hs⟩
    dsimp only
    rw [if_pos (nle_y (by omega) (by omega))]
    exact ⟨_, rfl, Or.inr rfl⟩
theorem seen_c20 {M : am_M} {n m w O C K} (hB : VB n m w O C K) (hV : VC M 20 n m w O C K) {t o : Nat} (ht : t < m) (ho : o < w) : f_X0_seenAt_20 (nI t) (nI o) M = some (nI (sN O C K t o n)) := by
  obtain ⟨⟨hn, hm, hw⟩, hO, hC2, hKw⟩ := hB
  obtain ⟨⟨p0, p1, p2, p3⟩, hC, hK⟩ := hV
  have h8 := pw8 hn
  have h8w := pw8 hw
  unfold f_X0_seenAt_20
  rw [p0, p3]
  have hsn := fun c (hc : c ≤ n) => sN_2 (O := O) (C := C) (K := K) (t := t) (o := o) (n := c) (m := m) ht (fun c' t' h1 h2 => hC2 c' t' (by omega) h2)
  have hl := lp_inv (body := fun (s1 : Int32 × Int32) => match s1 with | (x2, x3) => (if nI n ≤ x3 then (some (.inr (.inr (x2, x3)))) else (if (f_X0_isIn x3 (nI O)) = 0 then (if am_dbin x3 8 = true then (if (f_X0_isIn (nI o) (M 23 x3.toNatClampNeg)) = 0 then (some (.inl (x2, (x3 + 1)))) else (if am_dbin (f_X0_at x3 (nI t)) 64 = true then (if (M 21 (f_X0_at x3 (nI t)).toNatClampNeg) = 2 then (some (.inr (.inl 2))) else (some (.inl ((x2 ^^^ (M 21 (f_X0_at x3 (nI t)).toNatClampNeg)), (x3 + 1))))) else none)) else none) else (some (.inl (x2, (x3 + 1)))))))
    (fun i s => s = (nI (sN O C K t o i), nI i) ∧ sN O C K t o i ≠ 2) (fun q : Int32 ⊕ (Int32 × Int32) => (q = .inl 2 ∧ sN O C K t o n = 2) ∨ q = .inr (nI (sN O C K t o n), nI n)) (n := n) ?_ ?_ (s0 := (0, 0)) ⟨rfl, by show ¬ (0 = 2); omega⟩ (F := lp_F) (lpF (by omega))
  · obtain ⟨q, h1, h2⟩ := hl
    refine Option.bind_eq_some_iff.mpr ⟨q, h1, ?_⟩
    rcases h2 with ⟨h2, h3⟩ | h2
    · rw [h2, h3]; rfl
    · rw [h2]; rfl
  · rintro c s hc ⟨rfl, hs⟩
    have hc2 := hC2 c t hc ht
    have hkc := hKw c hc
    obtain ⟨s1, -⟩ := hsn c (by omega)
    dsimp only
    rw [if_neg (nle_n hc (by omega)), nI_s]
    have hstep : sN O C K t o (c + 1) = if O.testBit c = false ∧ (K c).testBit o = true then (if sN O C K t o c = 2 ∨ C c t = 2 then 2 else sN O C K t o c ^^^ C c t) else sN O C K t o c := rfl
    by_cases e1 : O.testBit c = true
    · rw [if_neg (isIn_y (by omega) (by omega) e1)]
      rw [if_neg (fun h => by rw [e1] at h; exact absurd h.1 (by decide))] at hstep
      exact Or.inl ⟨_, rfl, by rw [hstep], by rw [hstep]; exact hs⟩
    · rw [if_pos (isIn_n (by omega) (by omega) e1), if_pos (db_ok (by omega) (by omega)), nI_clamp (by omega), hK c hc]
      by_cases e2 : (K c).testBit o = true
      · rw [if_neg (isIn_y (by omega) (by omega) e2), a_at, if_pos (db_ok (by omega) (by omega)), nI_clamp (by omega), hC c t hc ht]
        rw [if_pos ⟨by simpa using e1, e2⟩] at hstep
        by_cases e4 : C c t = 2
        · rw [e4, if_pos (c := nI 2 = 2) rfl]
          exact Or.inr ⟨_, rfl, Or.inl ⟨rfl, (hsn n (by omega)).2.mpr ⟨c, hc, by simpa using e1, e2, e4⟩⟩⟩
        · rw [if_neg (c := nI (C c t) = 2) (nI_ne (b := 2) (by omega) (by omega) e4), n_xor]
          rw [if_neg (fun h => h.elim hs e4)] at hstep
          refine Or.inl ⟨_, rfl, by rw [hstep], ?_⟩
          rw [hstep]
          intro h
          have h5 := (hsn (c + 1) (by omega)).2.mp (by rw [hstep]; exact h)
          obtain ⟨d, hd, hr⟩ := h5
          by_cases ed : d = c
          · subst ed; exact e4 hr.2.2
          · exact hs ((hsn c (by omega)).2.mpr ⟨d, by omega, hr⟩)
      · rw [if_pos (isIn_n (by omega) (by omega) e2)]
        rw [if_neg (fun h => e2 h.2)] at hstep
        exact Or.inl ⟨_, rfl, by rw [hstep], by rw [hstep]; exact hs⟩
  · rintro s ⟨rfl, hs⟩
    dsimp only
    rw [if_pos (nle_y (by omega) (by omega))]
    exact ⟨_, rfl, Or.inr rfl⟩
theorem blw {n : Nat} (hn : n ≤ 8) (a : Int32) : (∃ k, k < n ∧ a = nI k) ∨ ((a < 0 ∨ nI n ≤ a) ∧ ¬ (0 ≤ a ∧ a ≤ nI n - 1)) := by
  by_cases h : ∃ k, k < n ∧ a = nI k
  · exact Or.inl h
  · right
    have hb := below (n := n) (by omega) a
    refine ⟨?_, fun q => h (hb.mp q)⟩
    by_cases h1 : a < 0
    · exact Or.inl h1
    · right
      obtain ⟨k, hk, rfl⟩ := nI_of h1
      have : ¬ k < n := fun hk => h ⟨k, hk, rfl⟩
      exact nle_y (by omega) hk
theorem op_seen (a0 a1 : Int32) {M : am_M} (h : Rel M) : ∃ v, f_X7_seen_0 a0 a1 M = some v ∧ f_X8_seen_43 a0 a1 M = some v ∧ Rel M := by
  obtain ⟨n, m, w, O, C, K, hB, hVC, hVR⟩ := rel_V h
  have hB' := hB
  obtain ⟨⟨hn, hm, hw⟩, -⟩ := hB
  unfold f_X7_seen_0 f_X8_seen_43
  rw [clamp1, clamp2, hVC.1.2.1, hVC.1.2.2.1, hVR.1.2.1, hVR.1.2.2.1]
  rcases blw hm a0 with ⟨t, ht, rfl⟩ | ⟨h1, h2⟩
  · rw [if_neg (nI_pos (by omega)), if_neg (nle_n ht (by omega)), if_neg (in_y (b := 0) (c := nI m - 1) (by decide) rfl ((below (by omega) _).mpr ⟨t, ht, rfl⟩))]
    rcases blw hw a1 with ⟨o, ho, rfl⟩ | ⟨h1, h2⟩
    · rw [if_neg (nI_pos (by omega)), if_pos ((ni_lt (by omega) (by omega)).mpr ho), if_neg (in_y (b := 0) (c := nI w - 1) (by decide) rfl ((below (by omega) _).mpr ⟨o, ho, rfl⟩)), seen_c9 hB' hVC ht ho, seen_r hB' hVR ht ho]
      exact ⟨_, rfl, rfl, h⟩
    · refine ⟨-1, ?_, ?_, h⟩
      · rcases h1 with h1 | h1
        · rw [if_pos h1]
        · by_cases h3 : a1 < 0
          · rw [if_pos h3]
          · rw [if_neg h3, if_neg (Int32.not_lt.mpr h1)]
      · rw [if_pos (in_n (b := 0) (c := nI w - 1) (by decide) rfl h2)]
  · refine ⟨-1, ?_, ?_, h⟩
    · rcases h1 with h1 | h1
      · rw [if_pos h1]
      · by_cases h3 : a0 < 0
        · rw [if_pos h3]
        · rw [if_neg h3, if_pos h1]
    · rw [if_pos (in_n (b := 0) (c := nI m - 1) (by decide) rfl h2)]
