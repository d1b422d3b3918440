/-! TEXT -/
theorem keepDraft_r {M : am_M} {A h : Nat → Nat} (hr : RS M A h) (hb : BS A h) : ∃ r, f_X8_keepDraft_43 M = some r ∧ ((∀ x, x ≠ 44 → x ≠ 46 → x ≠ 47 → r x = M x) ∧ (∀ j, j < 143 → r 44 j = nI (A j)) ∧ (∀ c, c < 8 → r 44 (143 + c) = f_X8_allSuspects (nI (A 1))) ∧ r 46 0 = 0 ∧ r 46 1 = 0) := by
  have hbool : vp_nar .boolean 0 = 0 := by decide
  unfold f_X8_keepDraft_43
  refine lp_bnd (fun r => r) (fun i s => ∃ M', s = (nI i, M') ∧ (∀ x, x ≠ 47 → M' x = M x) ∧ (∀ j, j < 143 → M' 47 j = M 47 j) ∧ ∀ c, c < i → M' 47 (143 + c) = f_X8_allSuspects (nI (A 1))) (fun q => ∃ y M', q = (y, M') ∧ (∀ x, x ≠ 47 → M' x = M x) ∧ (∀ j, j < 143 → M' 47 j = M 47 j) ∧ ∀ c, c < 8 → M' 47 (143 + c) = f_X8_allSuspects (nI (A 1))) (n := 8) (lpF (by omega)) ⟨_, rfl, fun x _ => rfl, fun j _ => rfl, fun j hj => by omega⟩ ?_ ?_ ?_
  · rintro i s hi ⟨M', rfl, h1, h2, h3⟩
    dsimp only
    rw [if_neg (c := 8 ≤ nI i) (nle_n (n := 8) hi (by omega)), a_143, if_pos (db_ok (by omega) (by omega)), nI_clamp (by omega), clamp1, h2 1 (by omega), hr.1 1 (by omega), bl_s, nI_s]
    refine Or.inl ⟨_, rfl, _, rfl, fun x hx => by rw [am_up_ne hx, h1 x hx], fun j hj => by rw [up_k (by omega), h2 j hj], fun j hj => ?_⟩
    by_cases e : j = i
    · subst e; rw [up_s]
    · rw [up_k (by omega), h3 j (by omega)]
  · rintro s ⟨M', rfl, h⟩
    dsimp only
    rw [if_pos (c := 8 ≤ nI 8) (by decide)]
    exact ⟨_, rfl, _, M', rfl, h⟩
  · rintro q ⟨y, X, rfl, x1, x2, x3⟩
    dsimp only
    refine lp_bnd (fun r => r) (fun i s => ∃ M', s = (nI i, M') ∧ (∀ x, x ≠ 44 → M' x = X x) ∧ ∀ j, j < i → M' 44 j = X 47 j) (fun q => ∃ y M', q = (y, M') ∧ (∀ x, x ≠ 44 → M' x = X x) ∧ ∀ j, j < 151 → M' 44 j = X 47 j) (n := 151) (lpF (by omega)) ⟨_, rfl, fun x _ => rfl, fun j hj => by omega⟩ ?_ ?_ ?_
    · rintro i s hi ⟨M', rfl, h1, h2⟩
      dsimp only
      rw [if_neg (c := 151 ≤ nI i) (nle_n (n := 151) hi (by omega)), if_pos (db_ok hi (by omega)), if_pos (db_ok hi (by omega)), nI_clamp (by omega), bl_s, nI_s]
      refine Or.inl ⟨_, rfl, _, rfl, fun x hx => by rw [am_up_ne hx, h1 x hx], fun j hj => ?_⟩
      by_cases e : j = i
      · subst e; rw [up_s, h1 47 (by decide)]
      · rw [up_k (by omega), h2 j (by omega)]
    · rintro s ⟨M', rfl, h⟩
      dsimp only
      rw [if_pos (c := 151 ≤ nI 151) (by decide)]
      exact ⟨_, rfl, _, M', rfl, h⟩
    · rintro q ⟨y, Y, rfl, y1, y2⟩
      dsimp only
      rw [clamp0, clamp1, hbool, bl_s, bl_s]
      refine ⟨_, rfl, fun x a b c => by rw [am_up_ne b, am_up_ne b, y1 x a, x1 x c], fun j hj => by rw [up_p (by decide), up_p (by decide), y2 j (by omega), x2 j hj, hr.1 j hj], fun c hc => by rw [up_p (by decide), up_p (by decide), y2 _ (by omega), x3 c hc], by rw [up_k (by decide), up_s], up_s⟩
/-- how a text ends, for the reference -/
def XS (M : am_M) (r : Int32 × am_M) (l : Nat) (R : (Nat × Nat) ⊕ (Nat × (Nat → Nat) × (Nat → Nat))) : Prop := (∀ x, x ≠ 43 → x ≠ 44 → x ≠ 46 → x ≠ 47 → r.2 x = M x) ∧ r.2 43 12 = 0 ∧ r.2 43 30 = M 43 30 ∧ ((∃ f p, R = .inl (f, p) ∧ r.1 = -10 - nI p ∧ r.2 43 17 = nI f ∧ r.2 44 = M 44 ∧ r.2 46 = M 46) ∨ (∃ n A h, R = .inr (n, A, h) ∧ ¬ wh A h ∧ r.1 = -10 - nI l ∧ r.2 43 17 = 6 ∧ r.2 44 = M 44 ∧ r.2 46 = M 46) ∨ (∃ n A h, R = .inr (n, A, h) ∧ wh A h ∧ r.1 = nI n ∧ r.2 43 17 = 0 ∧ (∀ j, j < 143 → r.2 44 j = nI (A j)) ∧ (∀ c, c < 8 → r.2 44 (143 + c) = f_X8_allSuspects (nI (A 1))) ∧ r.2 46 0 = 0 ∧ r.2 46 1 = 0))
theorem text_r {M : am_M} {g : Nat → Nat} {l : Nat} (hB : BR M g l) (hg : BG g l) (c7 c8 : Nat) : ∃ r, f_X8_text_43 M = some r ∧ XS M r l (psA g l 400 0 (sk g l 0) A0 (H0 c7 c8)) := by
  have hl := hg.1
  unfold f_X8_text_43
  rw [bl_s, bl_s]
  have hf0 : FR M (am_up (am_up M 43 17 0) 43 13 0) := FR_t (FR_u (by omega)) (FR_u (by omega))
  obtain ⟨r1, e1, d1, d2, d3⟩ := draft_r (am_up (am_up M 43 17 0) 43 13 0) c7 c8
  have hf1 := FR_t hf0 d2
  obtain ⟨r2, e2, t1, t2⟩ := reads_r (M := r1) (p := 0) (BR_r hB hf1) hg (by omega) (by rw [d3 13 (by omega) (by omega), up_s]; rfl) (by rw [d3 17 (by omega) (by omega), up_k (by decide), up_s])
  rw [e1, Option.bind_some, e2, Option.bind_some]
  have hf2 := FR_t hf1 (FR_43 t2)
  generalize hR : psA g l 400 0 (sk g l 0) A0 (H0 c7 c8) = R
  have hs0 := sk_b (g := g) (l := l) (p := 0) (by omega)
  have hfo : ∀ X : am_M, FR M X → (∀ x, x ≠ 43 → x ≠ 47 → am_up X 43 12 0 x = M x) ∧ am_up X 43 12 0 43 30 = M 43 30 := fun X hX => ⟨fun x a b => by rw [am_up_ne a, hX.1 x a b], by rw [up_k (by decide), hX.2 30 (by omega)]⟩
  refine lp_bnd (fun r => r)
    (fun i s => (∃ M' q' A' h', s = (nI i, M') ∧ TR M' g l q' ∧ RS M' A' h' ∧ BS A' h' ∧ i ≤ q' ∧ q' ≤ l ∧ psA g l (400 - i) i q' A' h' = R ∧ FR M M') ∨ (∃ M' y f p, s = (y, M') ∧ R = .inl (f, p) ∧ 1 ≤ f ∧ f ≤ 6 ∧ FL M' f p ∧ FR M M'))
    (fun s => (∃ M' n A' h', s = (nI n, M') ∧ R = .inr (n, A', h') ∧ M' 43 17 = 0 ∧ M' 43 14 = nI l ∧ RS M' A' h' ∧ BS A' h' ∧ FR M M') ∨ (∃ M' y f p, s = (y, M') ∧ R = .inl (f, p) ∧ 1 ≤ f ∧ f ≤ 6 ∧ FL M' f p ∧ FR M M'))
    (n := 162) (lpF (by omega)) (Or.inl ⟨r2, sk g l 0, A0, _, rfl, t1, RS_43 d1 t2, bs_0 c7 c8, by omega, hs0.2, hR, hf2⟩) ?_ ?_ ?_
  · rintro i s hi162 (⟨M', q', A', h', rfl, g2, g3, g4, g5, g6, g7, g8⟩ | ⟨M', y, f, p, rfl, g1, g2, g3, g4, g5⟩)
    · have hk4 := kd_le (g := g) (l := l) (q := q')
      have h400 : 400 - i = (399 - i) + 1 := by omega
      have g2' := g2
      dsimp only
      rcases g2 with ⟨z0, z17, z14, z13, z15, z16⟩ | ⟨z0, z17, z18⟩
      · rw [if_pos z17]
        by_cases e4 : kd g l q' = 4
        · have hu := psA_4 (f := 399 - i) (n := i) (A := A') (h := h') e4
          rw [← h400, g7] at hu
          have hql : q' = l := by
            have := kd_4.mp e4
            omega
          rw [if_pos (show M' 43 15 = 0 by rw [z15, e4]; rfl)]
          exact Or.inr ⟨_, rfl, Or.inl ⟨M', i, A', h', rfl, hu, z17, by rw [z14, hql], g3, g4, g8⟩⟩
        · have hkr : ¬ nI (kr (kd g l q')) = 0 := by
            unfold kr
            rw [if_neg e4]
            exact nI_ne (b := 0) (by omega) (by omega) z0
          obtain ⟨r, er, n1, n2⟩ := readLine_r (BR_r hB g8) hg g6 g2' z0 g3 g4
          rw [if_neg (show ¬ M' 43 15 = 0 by rw [z15]; exact hkr), er, Option.bind_some, nI_s]
          rcases n2 with ⟨f, p, m1, m2, m3, m4⟩ | ⟨q2, A2, h2, m1, m2, m3, m4, m5, m6⟩
          · have hu := psA_l (f := 399 - i) (n := i) e4 m1
            rw [← h400, g7] at hu
            exact Or.inl ⟨_, rfl, Or.inr ⟨r, _, f, p, rfl, hu, m2, m3, m4, FR_t g8 n1⟩⟩
          · have hu := psA_r (f := 399 - i) (n := i) e4 m1
            rw [← h400, g7] at hu
            exact Or.inl ⟨_, rfl, Or.inl ⟨r, q2, A2, h2, rfl, m2, m3, m4, by omega, m6, by rw [show 400 - (i + 1) = 399 - i by omega]; exact hu.symm, FR_t g8 n1⟩⟩
      · have hs : stp g l q' A' h' = .inl (1, q') := by
          unfold stp
          rw [if_pos (Or.inl (by omega)), if_pos z0]
        have hu := psA_l (f := 399 - i) (n := i) (show kd g l q' ≠ 4 by omega) hs
        rw [← h400, g7] at hu
        rw [if_neg (show ¬ M' 43 17 = 0 by rw [z17]; decide)]
        exact Or.inr ⟨_, rfl, Or.inr ⟨M', _, 1, q', rfl, hu, by omega, by omega, ⟨z17, z18⟩, g8⟩⟩
    · dsimp only
      rw [if_neg (flt17 g4 g2 g3).1]
      exact Or.inr ⟨_, rfl, Or.inr ⟨M', _, f, p, rfl, g1, g2, g3, g4, g5⟩⟩
  · rintro s (⟨M', q', A', h', rfl, g2, g3, g4, g5, g6, g7, g8⟩ | ⟨M', y, f, p, rfl, g1, g2, g3, g4, g5⟩)
    · omega
    · dsimp only
      rw [if_neg (flt17 g4 g2 g3).1]
      exact ⟨_, rfl, Or.inr ⟨M', _, f, p, rfl, g1, g2, g3, g4, g5⟩⟩
  · rintro s (⟨X, n, A', h', rfl, g0, g17, g14, g3, g4, g8⟩ | ⟨X, y, f, p, rfl, g1, g2, g3, g4, g5⟩)
    · dsimp only
      rw [bl_s, if_pos g17]
      have hw := whole_r g3 g4
      by_cases e : wh A' h'
      · rw [hw.1 e, req_1 (by decide), Option.bind_some]
        dsimp only
        have x17 : am_up X 43 12 0 43 17 = 0 := by rw [up_k (by decide)]; exact g17
        rw [bl_s, if_pos (show am_up X 43 12 0 43 17 ≤ 0 by rw [x17]; decide)]
        have hRS : RS (am_up X 43 12 0) A' h' := by
          unfold RS
          rw [am_up_ne (show (47 : Nat) ≠ 43 by decide), up_k (by decide), up_k (by decide), up_k (by decide), up_k (by decide), up_k (by decide), up_k (by decide), up_k (by decide)]
          exact g3
        obtain ⟨r, er, k1, k2, k3, k4, k5⟩ := keepDraft_r hRS g4
        rw [er, Option.bind_some]
        have ho := hfo X g8
        refine ⟨(nI n, r), rfl, fun x a b c d => ?_, ?_, ?_, Or.inr (Or.inr ⟨n, A', h', g0, e, rfl, ?_, k2, k3, k4, k5⟩)⟩
        · show r x = M x
          rw [k1 x b c d, ho.1 x a d]
        · show r 43 12 = 0
          rw [k1 43 (by decide) (by decide) (by decide), up_s]
        · show r 43 30 = M 43 30
          rw [k1 43 (by decide) (by decide) (by decide), ho.2]
        · show r 43 17 = 0
          rw [k1 43 (by decide) (by decide) (by decide), x17]
      · rw [hw.2 e, req_0 g17, Option.bind_some, g14]
        dsimp only
        generalize hY : am_up (am_up X 43 17 6) 43 18 (nI l) = Y
        have hfY : FR M Y := by rw [← hY]; exact FR_t g8 (FR_t (FR_u (by omega)) (FR_u (by omega)))
        have y17 : am_up Y 43 12 0 43 17 = 6 := by rw [up_k (by decide), ← hY, up_k (by decide), up_s]
        have y18 : am_up Y 43 12 0 43 18 = nI l := by rw [up_k (by decide), ← hY, up_s]
        rw [bl_s, if_neg (show ¬ am_up Y 43 12 0 43 17 ≤ 0 by rw [y17]; decide), y18]
        have ho := hfo Y hfY
        exact ⟨_, rfl, fun x a b c d => ho.1 x a d, (show am_up Y 43 12 0 43 12 = 0 from up_s), ho.2, Or.inr (Or.inl ⟨n, A', h', g0, e, rfl, y17, ho.1 44 (by decide) (by decide), ho.1 46 (by decide) (by decide)⟩)⟩
    · obtain ⟨n1, n2⟩ := flt17 g4 g2 g3
      dsimp only
      rw [bl_s, if_neg n1]
      dsimp only
      have y17 : am_up X 43 12 0 43 17 = nI f := by rw [up_k (by decide)]; exact g4.1
      have y18 : am_up X 43 12 0 43 18 = nI p := by rw [up_k (by decide)]; exact g4.2
      rw [bl_s, if_neg (show ¬ am_up X 43 12 0 43 17 ≤ 0 by rw [up_k (by decide)]; exact n2), y18]
      have ho := hfo X g5
      exact ⟨_, rfl, fun x a b c d => ho.1 x a d, (show am_up X 43 12 0 43 12 = 0 from up_s), ho.2, Or.inl ⟨f, p, g1, rfl, y17, ho.1 44 (by decide) (by decide), ho.1 46 (by decide) (by decide)⟩⟩
theorem zero_25 (M : am_M) : ∃ r, ((lp (σ := Int32 × am_M) (ρ := Int32 × am_M) (fun (s6 : Int32 × am_M) => match s6 with | (x7, M8) => (if 2 ≤ x7 then (some (.inr (x7, M8))) else (if am_dbin x7 2 = true then (bl (am_up M8 25 x7.toNatClampNeg (vp_nar .boolean 0)) (fun (M11 : am_M) => (some (.inl ((x7 + 1), M11))))) else none))) lp_F (0, M)) = some r ∧ ((∀ x, x ≠ 25 → r.2 x = M x) ∧ r.2 25 0 = 0 ∧ r.2 25 1 = 0)) := by
  have hbool : vp_nar .boolean 0 = 0 := by decide
  refine ⟨(nI 2, am_up (am_up M 25 0 0) 25 1 0), ?_, fun x hx => by show am_up (am_up M 25 0 0) 25 1 0 x = M x; rw [am_up_ne hx, am_up_ne hx], by show am_up (am_up M 25 0 0) 25 1 0 25 0 = 0; rw [up_k (by decide), up_s], (show am_up (am_up M 25 0 0) 25 1 0 25 1 = 0 from up_s)⟩
  refine lp_run (fun i => (nI i, if i = 0 then M else if i = 1 then am_up M 25 0 0 else am_up (am_up M 25 0 0) 25 1 0)) (n := 2) ?_ ?_ (lpF (by omega))
  · intro i hi
    dsimp only
    rw [if_neg (c := 2 ≤ nI i) (nle_n (n := 2) hi (by omega)), if_pos (db_ok hi (by omega)), nI_clamp (by omega), hbool, bl_s, nI_s]
    have : i = 0 ∨ i = 1 := by omega
    rcases this with rfl | rfl <;> rfl
  · dsimp only
    rw [if_pos (c := 2 ≤ nI 2) (by decide)]
    rfl
theorem rel_tx {M M2 : am_M} (hR : Rel M) (hx : ∀ x, x ≠ 0 → x ≠ 1 → x ≠ 2 → x ≠ 4 → x ≠ 5 → x ≠ 6 → x ≠ 7 → x ≠ 8 → x ≠ 43 → x ≠ 47 → M2 x = M x) (h21 : M2 2 1 = 0) (h12 : M2 43 12 = 0) (h17 : M2 43 17 = M2 0 1) (h30 : M2 43 30 = M2 0 8) : Rel M2 := by
  obtain ⟨hc, ⟨i1, i2⟩, ⟨i3, i4⟩, ht, ⟨f1, f2⟩, s1, s2, s3, s4⟩ := hR
  have e : ∀ x, 8 < x ∧ x ≠ 43 ∧ x ≠ 47 → M2 x = M x := fun x h => hx x (by omega) (by omega) (by omega) (by omega) (by omega) (by omega) (by omega) (by omega) h.2.1 h.2.2
  refine ⟨crel_fr (fun x h => e x (by omega)) hc, ⟨by rw [e 46 (by omega), e 25 (by omega)]; exact i1, ?_⟩, ⟨by rw [e 46 (by omega), e 25 (by omega)]; exact i3, ?_⟩, ⟨0, by omega, h21, h12, fun i hi => by omega⟩, ⟨h17, h30⟩, srel_fr (fun x h => e x (by omega)) s1, srel_fr (fun x h => e x (by omega)) s2, srel_fr (fun x h => e x (by omega)) s3, srel_fr (fun x h => e x (by omega)) s4⟩
  · rw [e 25 (by omega)]
    exact i2.imp id (fun h => ⟨h.1, crel_fr (fun x hx => e x (by omega)) h.2⟩)
  · rw [e 25 (by omega)]
    exact i4.imp id (fun h => ⟨h.1, crel_fr (fun x hx => e x (by omega)) h.2⟩)
theorem op_text {M : am_M} (h : Rel M) : ∃ v M1 M2, f_X7_text_0 M = some (v, M1) ∧ f_X8_text_43 M1 = some (v, M2) ∧ Rel M2 := by
  have hR := h
  obtain ⟨hc, ⟨i1, i2⟩, ⟨i3, i4⟩, ⟨l, hl, t1, t2, ht⟩, ⟨f1, f2⟩, s1, s2, s3, s4⟩ := h
  have hg : BG (fun i => tn (M 3 i)) l := ⟨hl, fun i hi => by
    have := bit_tn (k := 7) (by omega) (ht i hi).2
    show tn (M 3 i) < 128
    omega⟩
  have hBY : BY M (fun i => tn (M 3 i)) l := ⟨t1, fun i hi => tn_n _⟩
  generalize hgg : (fun i => tn (M 3 i)) = g at *
  have hgi : ∀ i, i < l → M 48 i = nI (g i) := fun i hi => by rw [(ht i hi).1, hBY.2 i hi]
  obtain ⟨r, er, x1, x2⟩ := takeText_c hBY hg
  have hBR : ∀ X : am_M, X 43 = M 43 → X 48 = M 48 → BR X g l := fun X a b => ⟨by rw [a]; exact t2, by rw [b]; exact hgi⟩
  generalize hRR : psA g l 400 0 (sk g l 0) A0 (H0 (tn (M 1 5)) (tn (M 1 6))) = R at *
  have htx : ∀ X : am_M, X 43 = M 43 → X 48 = M 48 → ∃ r, f_X8_text_43 X = some r ∧ XS X r l R := fun X a b => by
    have := text_r (hBR X a b) hg (tn (M 1 5)) (tn (M 1 6))
    rw [hRR] at this
    exact this
  unfold f_X7_text_0
  rw [er, Option.bind_some, bl_s, up_p (q := 1) (by decide), bl_s, up_s]
  generalize hX : am_up (am_up r.2 2 1 0) 0 1 (r.2 1 2) = X
  have xo : ∀ x, x ≠ 0 → x ≠ 2 → X x = r.2 x := fun x a b => by rw [← hX, am_up_ne a, am_up_ne b]
  have x01 : X 0 1 = r.2 1 2 := by rw [← hX, up_s]
  have x08 : X 0 8 = M 0 8 := by rw [← hX, up_k (by decide), up_p (by decide), x1 0 (by decide) (by decide) (by decide) (by decide) (by decide) (by decide) (by decide)]
  have x21 : X 2 1 = 0 := by rw [← hX, up_p (by decide), up_s]
  have xm : ∀ x, x ≠ 0 → x ≠ 1 → x ≠ 2 → x ≠ 4 → x ≠ 5 → x ≠ 6 → x ≠ 7 → x ≠ 8 → X x = M x := fun x a0 a1 a2 a4 a5 a6 a7 a8 => by rw [xo x a0 a2, x1 x a1 a2 a4 a5 a6 a7 a8]
  have x43 : X 43 = M 43 := xm 43 (by decide) (by decide) (by decide) (by decide) (by decide) (by decide) (by decide) (by decide)
  have x48 : X 48 = M 48 := xm 48 (by decide) (by decide) (by decide) (by decide) (by decide) (by decide) (by decide) (by decide)
  -- a fault ends it
  have bad : ∀ f p : Nat, 1 ≤ f → f ≤ 6 → r.2 1 2 = nI f → r.2 1 3 = nI p → (∀ r2 : Int32 × am_M, XS X r2 l R → r2.1 = -10 - nI p ∧ r2.2 43 17 = nI f ∧ r2.2 44 = X 44 ∧ r2.2 46 = X 46) → ∃ v M1 M2, (if r.2 1 2 = 0 then ((f_X0_becomeLike_9_4 X).bind (fun q5 => ((lp (σ := Int32 × am_M) (ρ := Int32 × am_M) (fun (s6 : Int32 × am_M) => match s6 with | (x7, M8) => (if 2 ≤ x7 then (some (.inr (x7, M8))) else (if am_dbin x7 2 = true then (bl (am_up M8 25 x7.toNatClampNeg (vp_nar .boolean 0)) (fun (M11 : am_M) => (some (.inl ((x7 + 1), M11))))) else none))) lp_F (0, q5)).bind (fun (s12 : Int32 × am_M) => match s12 with | (x13, M14) => (some (r.1, M14)))))) else (some ((((-10) : Int32) - (X 1 3)), X))) = some (v, M1) ∧ f_X8_text_43 M1 = some (v, M2) ∧ Rel M2 := by
    intro f p hf1 hf6 e1 e2 hXS
    obtain ⟨r2, er2, y⟩ := htx X x43 x48
    obtain ⟨z1, z2, z3, z4⟩ := hXS r2 y
    obtain ⟨y1, y2, y3, -⟩ := y
    rw [if_neg (show ¬ r.2 1 2 = 0 by rw [e1]; exact nI_ne (b := 0) (by omega) (by omega) (by omega)), xo 1 (by decide) (by decide), e2]
    refine ⟨-10 - nI p, X, r2.2, rfl, by rw [er2, ← z1], rel_tx hR (fun x a0 a1 a2 a4 a5 a6 a7 a8 a43 a47 => ?_) ?_ y2 ?_ ?_⟩
    · by_cases e44 : x = 44
      · subst e44; rw [z3, xm 44 a0 a1 a2 a4 a5 a6 a7 a8]
      · by_cases e46 : x = 46
        · subst e46; rw [z4, xm 46 a0 a1 a2 a4 a5 a6 a7 a8]
        · rw [y1 x a43 e44 e46 a47, xm x a0 a1 a2 a4 a5 a6 a7 a8]
    · rw [y1 2 (by decide) (by decide) (by decide) (by decide), x21]
    · rw [z2, y1 0 (by decide) (by decide) (by decide) (by decide), x01, e1]
    · rw [y3, x43, y1 0 (by decide) (by decide) (by decide) (by decide), x08]; exact f2
  rcases x2 with ⟨f, p, k1, k2, k3, k4, k5⟩ | ⟨n, A, hh, k1, k2, k3, k4⟩ | ⟨n, A, hh, k1, k2, k3, k4, k5, k6, k7⟩
  · refine bad f p k2 k3 k4 k5 (fun r2 y => ?_)
    obtain ⟨-, -, -, ⟨f', p', z1, z2, z3, z4⟩ | ⟨n', A', h', z1, -⟩ | ⟨n', A', h', z1, -⟩⟩ := y
    · rw [k1] at z1
      obtain ⟨rfl, rfl⟩ := Prod.mk.inj (Sum.inl.inj z1)
      exact ⟨z2, z3, z4⟩
    · rw [k1] at z1; exact absurd z1 (by simp)
    · rw [k1] at z1; exact absurd z1 (by simp)
  · refine bad 6 l (by omega) (by omega) k3 k4 (fun r2 y => ?_)
    obtain ⟨-, -, -, ⟨f', p', z1, -⟩ | ⟨n', A', h', z1, z0, z2, z3, z4⟩ | ⟨n', A', h', z1, z2, -⟩⟩ := y
    · rw [k1] at z1; exact absurd z1 (by simp)
    · exact ⟨z2, z3, z4⟩
    · rw [k1] at z1
      obtain ⟨-, e⟩ := Prod.mk.inj (Sum.inr.inj z1)
      obtain ⟨e1, e2⟩ := Prod.mk.inj e
      subst e1
      subst e2
      exact absurd z2 k2
  · rw [if_pos k4, like_94, Option.bind_some]
    obtain ⟨Y, eY, u1, u2, u3⟩ := zero_25 (like X 9 4)
    rw [eY, Option.bind_some]
    have yo : ∀ x, x ≠ 25 → (x < 9 ∨ 13 < x) → Y.2 x = X x := fun x a b => by rw [u1 x a, like_o (by omega)]
    have y43 : Y.2 43 = M 43 := by rw [yo 43 (by decide) (by decide)]; exact x43
    have y48 : Y.2 48 = M 48 := by rw [yo 48 (by decide) (by decide)]; exact x48
    obtain ⟨r2, er2, v1, v2, v3, v4⟩ := htx Y.2 y43 y48
    obtain ⟨f', p', z1, -⟩ | ⟨n', A', h', z1, z0, -⟩ | ⟨n', A', h', z1, z0, z2, z3, z4, z5, z6, z7⟩ := v4
    · rw [k1] at z1; exact absurd z1 (by simp)
    · rw [k1] at z1
      obtain ⟨-, e⟩ := Prod.mk.inj (Sum.inr.inj z1)
      obtain ⟨e1, e2⟩ := Prod.mk.inj e
      subst e1
      subst e2
      exact absurd k2 z0
    · rw [k1] at z1
      obtain ⟨en', e⟩ := Prod.mk.inj (Sum.inr.inj z1)
      obtain ⟨e1, e2⟩ := Prod.mk.inj e
      subst en'
      subst e1
      subst e2
      refine ⟨r.1, Y.2, r2.2, rfl, by rw [er2, k3, ← z2], ?_⟩
      have hre : ∀ x, x ≠ 43 → x ≠ 44 → x ≠ 46 → x ≠ 47 → r2.2 x = Y.2 x := v1
      have hlk : ∀ x j, 9 ≤ x → x ≤ 13 → r2.2 x j = like X 9 4 x j := fun x j a b => by rw [hre x (by omega) (by omega) (by omega) (by omega), u1 x (by omega)]
      have hD : ∀ x j, 4 ≤ x → x ≤ 8 → X x j = r.2 x j := fun x j a b => by rw [xo x (by omega) (by omega)]
      obtain ⟨c4, c5, c6, c7, ch, ct⟩ := k5
      obtain ⟨b1, b2, b3, b4, b5, b6, b7, b8, b9⟩ := k6
      obtain ⟨w0, w1, w2, w3, w4⟩ := k2
      have m9 : ∀ j, j < 7 → r2.2 9 j = nI (A j) := fun j hj => by rw [hlk 9 j (by omega) (by omega), like_f (by decide) hj, hD 4 j (by omega) (by omega), c4 j hj]
      have m10 : ∀ j, j < 64 → r2.2 (9 + 1) j = nI (A (7 + j)) := fun j hj => by rw [hlk _ j (by omega) (by omega), like_1 (by omega) hj, hD 5 j (by omega) (by omega), c5 j hj]
      have m11 : ∀ j, j < 64 → r2.2 (9 + 2) j = 2 := fun j hj => by rw [hlk _ j (by omega) (by omega), like_2 (by omega) hj, hD 6 j (by omega) (by omega), c6 j hj]
      have m12 : ∀ j, j < 8 → r2.2 (9 + 3) j = nI (A (135 + j)) := fun j hj => by rw [hlk _ j (by omega) (by omega), like_3 (by omega) hj, hD 7 j (by omega) (by omega), c7 j hj]
      have m13 : ∀ j, j < 8 → r2.2 (9 + 4) j = f_X8_allSuspects (nI (A 1)) := fun j hj => by rw [hlk _ j (by omega) (by omega), like_4 (by omega) hj, hD 8 j (by omega) (by omega), k7 j hj]
      have hcr : crel r2.2 9 44 0 := by
        refine ⟨A 0, A 1, A 2, b1, ⟨m9 0 (by omega), m9 1 (by omega), m9 2 (by omega)⟩, ⟨z4 0 (by omega), z4 1 (by omega), z4 2 (by omega)⟩, ⟨?_, ?_, ?_, ?_⟩, ⟨?_, ⟨A 4, b2.1, b2.2.1, m9 4 (by omega), ?_⟩, ?_⟩, fun c t hc ht => ?_, fun c t hc ht => ?_, fun c hc => ?_, fun c hc => ?_⟩
        · rw [m9 3 (by omega)]; exact z4 3 (by omega)
        · rw [m9 4 (by omega)]; exact z4 4 (by omega)
        · rw [m9 5 (by omega)]; exact z4 5 (by omega)
        · rw [m9 6 (by omega)]; exact z4 6 (by omega)
        · rw [m9 3 (by omega)]
          exact ⟨A 3, Nat.lt_of_lt_of_le b3 (Nat.pow_le_pow_right (by omega) w0), rfl⟩
        · rw [m9 5 (by omega)]
          exact ⟨A 5, div_0.mp w3, rfl⟩
        · rw [m9 6 (by omega)]
          exact ⟨A 6, b2.2.2.2, rfl⟩
        · rw [m10 _ (by omega), Nat.zero_add, z4 _ (by omega), show 7 + 8 * c + t = 7 + (8 * c + t) by omega]
          have hv := b5 (8 * c + t) (by omega)
          refine ⟨rfl, ?_⟩
          have : A (7 + (8 * c + t)) = 0 ∨ A (7 + (8 * c + t)) = 1 ∨ A (7 + (8 * c + t)) = 2 := by omega
          rcases this with e | e | e <;> rw [e]
          · exact Or.inl rfl
          · exact Or.inr (Or.inl rfl)
          · exact Or.inr (Or.inr rfl)
        · rw [m11 _ (by omega), Nat.zero_add, z4 _ (by omega), show 71 + 8 * c + t = 71 + (8 * c + t) by omega, b6 _ (by omega)]
          exact ⟨rfl, Or.inr (Or.inr rfl)⟩
        · rw [m12 _ (by omega), Nat.zero_add, z4 _ (by omega)]
          exact ⟨rfl, _, Nat.lt_of_lt_of_le (b4 c (by omega)) (Nat.pow_le_pow_right (by omega) w2), rfl⟩
        · rw [m13 _ (by omega), Nat.zero_add, z5 _ (by omega)]
          exact ⟨rfl, _, (sus_eq (A 1) (by omega)).2, nI_self _⟩
      have eo : ∀ x, (13 < x ∧ x ≠ 25 ∧ x ≠ 43 ∧ x ≠ 44 ∧ x ≠ 46 ∧ x ≠ 47) → r2.2 x = M x := fun x hx => by rw [hre x (by omega) (by omega) (by omega) (by omega), yo x (by omega) (by omega), xm x (by omega) (by omega) (by omega) (by omega) (by omega) (by omega) (by omega) (by omega)]
      have e25 : ∀ j, r2.2 25 j = Y.2 25 j := fun j => by rw [hre 25 (by decide) (by decide) (by decide) (by decide)]
      have e0 : r2.2 0 = X 0 := by rw [hre 0 (by decide) (by decide) (by decide) (by decide), yo 0 (by decide) (by decide)]
      refine ⟨hcr, ⟨by rw [z6, e25, u2], Or.inl (by rw [e25, u2])⟩, ⟨by rw [z7, e25, u3], Or.inl (by rw [e25, u3])⟩, ⟨0, by omega, ?_, v2, fun i hi => by omega⟩, ⟨?_, ?_⟩, srel_fr (fun x h => eo x (by omega)) s1, srel_fr (fun x h => eo x (by omega)) s2, srel_fr (fun x h => eo x (by omega)) s3, srel_fr (fun x h => eo x (by omega)) s4⟩
      · rw [hre 2 (by decide) (by decide) (by decide) (by decide), yo 2 (by decide) (by decide), x21]; rfl
      · rw [z3, e0, x01, k4]
      · rw [v3, y43, e0, x08]; exact f2
