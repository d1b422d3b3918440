/-! DRAW -/
theorem bl_s {α β : Type} (x : α) (f : α → β) : bl x f = f x := rfl
theorem sq_s (a : Int32) (k : Nat) : sq a k * 1103515245 + 12345 = sq a (k + 1) := rfl
theorem dcv_d (x : Int32) : dcv x = f_X7_drawnCell (nI (tn x / 65536 % 32768)) := rfl
theorem draw_c {M : am_M} {n m w O C K} (hB : VB n m w O C K) (hV : VC M 9 n m w O C K) (a : Int32) : ∃ M1, f_X7_draw_0 a M = some (nI (cwN n m (fun i j => decide (dcv (sq a (i * m + j + 1)) = 2))), M1) ∧ (∀ x, x ≠ 10 → M1 x = M x) ∧ ∀ c t, c < n → t < m → M1 10 (8 * c + t) = dcv (sq a (c * m + t + 1)) := by
  have hB' := hB
  obtain ⟨⟨hn, hm, hw⟩, hO, hC2, hKw⟩ := hB
  obtain ⟨⟨p0, p1, p2, p3⟩, hC, hK⟩ := hV
  unfold f_X7_draw_0
  have hl := lp_inv (body := (fun (s1 : Int32 × Int32 × am_M) => match s1 with | (x2, x3, M4) => (if (M4 9 0) ≤ x3 then (some (.inr (x2, x3, M4))) else ((lp (σ := Int32 × Int32 × am_M) (ρ := Int32 × Int32 × am_M) (fun (s7 : Int32 × Int32 × am_M) => match s7 with | (x8, x9, M10) => (if (M10 9 1) ≤ x9 then (some (.inr (x8, x9, M10))) else (if am_dbin (f_X0_at x3 x9) 64 = true then (bl (am_up M10 10 (f_X0_at x3 x9).toNatClampNeg (f_X7_drawnCell ((ushr ((x8 * 1103515245) + 12345) 16) &&& 32767))) (fun (M13 : am_M) => (some (.inl (((x8 * 1103515245) + 12345), (x9 + 1), M13))))) else none))) lp_F (x2, 0, M4)).bind (fun (s14 : Int32 × Int32 × am_M) => match s14 with | (x15, x16, M17) => (some (.inl (x15, (x3 + 1), M17))))))))
    (fun i s => ∃ M', s = (sq a (i * m), nI i, M') ∧ (∀ x, x ≠ 10 → M' x = M x) ∧ ∀ c t, c < i → t < m → M' 10 (8 * c + t) = dcv (sq a (c * m + t + 1)))
    (fun q : Int32 × Int32 × am_M => ∃ x y M', q = (x, y, M') ∧ (∀ x, x ≠ 10 → M' x = M x) ∧ ∀ c t, c < n → t < m → M' 10 (8 * c + t) = dcv (sq a (c * m + t + 1))) (n := n) ?_ ?_ (s0 := (a, 0, M)) ⟨M, by rw [Nat.zero_mul]; rfl, fun x _ => rfl, fun c t hc => by omega⟩ (F := lp_F) (lpF (by omega))
  · obtain ⟨q, h1, x, y, M1, rfl, h3, h4⟩ := hl
    refine ⟨M1, Option.bind_eq_some_iff.mpr ⟨_, h1, ?_⟩, h3, h4⟩
    dsimp only
    have hBn : VB n m w O (fun c t => tn (dcv (sq a (c * m + t + 1)))) K := ⟨⟨hn, hm, hw⟩, hO, fun c t _ _ => cv3_tn (dcv_3 _), hKw⟩
    have hVn : VC M1 9 n m w O (fun c t => tn (dcv (sq a (c * m + t + 1)))) K := ⟨by rw [h3 9 (by decide)]; exact ⟨p0, p1, p2, p3⟩, fun c t hc ht => (h4 c t hc ht).trans (tn_n _), by rw [h3 12 (by decide)]; exact hK⟩
    rw [cells_c hBn hVn 2, Option.bind_some]
    simp only [← tn_n]
  · rintro i s hi ⟨M', rfl, h1, h2⟩
    dsimp only
    rw [h1 9 (by decide), p0, if_neg (nle_n hi (by omega))]
    have hl2 := lp_inv (body := (fun (s7 : Int32 × Int32 × am_M) => match s7 with | (x8, x9, M10) => (if (M10 9 1) ≤ x9 then (some (.inr (x8, x9, M10))) else (if am_dbin (f_X0_at (nI i) x9) 64 = true then (bl (am_up M10 10 (f_X0_at (nI i) x9).toNatClampNeg (f_X7_drawnCell ((ushr ((x8 * 1103515245) + 12345) 16) &&& 32767))) (fun (M13 : am_M) => (some (.inl (((x8 * 1103515245) + 12345), (x9 + 1), M13))))) else none))))
      (fun j s => ∃ M', s = (sq a (i * m + j), nI j, M') ∧ (∀ x, x ≠ 10 → M' x = M x) ∧ (∀ c t, c < i → t < m → M' 10 (8 * c + t) = dcv (sq a (c * m + t + 1))) ∧ ∀ t, t < j → M' 10 (8 * i + t) = dcv (sq a (i * m + t + 1)))
      (fun q : Int32 × Int32 × am_M => ∃ M', q = (sq a (i * m + m), nI m, M') ∧ (∀ x, x ≠ 10 → M' x = M x) ∧ (∀ c t, c < i → t < m → M' 10 (8 * c + t) = dcv (sq a (c * m + t + 1))) ∧ ∀ t, t < m → M' 10 (8 * i + t) = dcv (sq a (i * m + t + 1))) (n := m) ?_ ?_ (s0 := (sq a (i * m), 0, M')) ⟨M', rfl, h1, h2, fun t ht => by omega⟩ (F := lp_F) (lpF (by omega))
    · obtain ⟨q, g1, M2, rfl, g3, g4, g5⟩ := hl2
      refine Or.inl ⟨_, Option.bind_eq_some_iff.mpr ⟨_, g1, rfl⟩, M2, ?_, g3, ?_⟩
      · rw [nI_s, Nat.succ_mul]
      · intro c t hc ht
        by_cases e : c = i
        · subst e; exact g5 t ht
        · exact g4 c t (by omega) ht
    · rintro j s hj ⟨M2, rfl, g3, g4, g5⟩
      dsimp only
      rw [g3 9 (by decide), p1, if_neg (nle_n hj (by omega)), a_at, if_pos (db_ok (by omega) (by omega)), nI_clamp (by omega), sq_s, (sh16 _).1, nI_s, ← dcv_d, Nat.add_assoc]
      refine Or.inl ⟨_, rfl, am_up M2 10 (8 * i + j) (dcv (sq a (i * m + j + 1))), rfl, fun x hx => by rw [am_up_ne hx, g3 x hx], ?_, ?_⟩
      · intro c t hc ht
        rw [up_k (by omega)]
        exact g4 c t hc ht
      · intro t ht
        by_cases e : t = j
        · subst e; rw [up_s]
        · rw [up_k (by omega)]
          exact g5 t (by omega)
    · rintro s ⟨M2, rfl, g3, g4, g5⟩
      dsimp only
      rw [g3 9 (by decide), p1, if_pos (nle_y (by omega) (by omega))]
      exact ⟨_, rfl, M2, rfl, g3, g4, g5⟩
  · rintro s ⟨M', rfl, h1, h2⟩
    dsimp only
    rw [h1 9 (by decide), p0, if_pos (nle_y (by omega) (by omega))]
    exact ⟨_, rfl, _, _, M', rfl, h1, h2⟩
theorem lp_bnd {σ ρ τ υ : Type} {body : σ → Option (σ ⊕ ρ)} {k : ρ → Option τ} (e : υ → τ) (I : Nat → σ → Prop) (G : ρ → Prop) {P : υ → Prop} {n : Nat} {s0 : σ} {F : Nat} (hF : n < F) (h0 : I 0 s0) (hs : ∀ i s, i < n → I i s → (∃ s', body s = some (.inl s') ∧ I (i + 1) s') ∨ (∃ q, body s = some (.inr q) ∧ G q)) (hx : ∀ s, I n s → ∃ q, body s = some (.inr q) ∧ G q) (hk : ∀ q, G q → ∃ r, k q = some (e r) ∧ P r) : ∃ r, (lp body F s0).bind k = some (e r) ∧ P r := by
  obtain ⟨q, h1, h2⟩ := lp_inv I G hs hx h0 hF
  obtain ⟨r, h3, h4⟩ := hk q h2
  exact ⟨r, by rw [h1]; exact h3, h4⟩
theorem draw_r {M : am_M} {n m w O C K} (hB : VB n m w O C K) (hV : VR M n m w O C K) (a : Int32) : ∃ M1, f_X8_draw_43 a M = some (nI (cwN n m (fun i j => decide (dcv (sq a (i * m + j + 1)) = 2))), M1) ∧ (∀ x, x ≠ 44 → M1 x = M x) ∧ (∀ j, j < 7 ∨ 71 ≤ j → M1 44 j = M 44 j) ∧ ∀ c t, c < n → t < m → M1 44 (7 + 8 * c + t) = dcv (sq a (c * m + t + 1)) := by
  have hB' := hB
  obtain ⟨⟨hn, hm, hw⟩, hO, hC2, hKw⟩ := hB
  obtain ⟨⟨p0, p1, p2, p3⟩, hC, hK⟩ := hV
  unfold f_X8_draw_43
  refine lp_bnd (fun M1 => (nI (cwN n m (fun i j => decide (dcv (sq a (i * m + j + 1)) = 2))), M1))
    (fun i s => ∃ M', s = (sq a (i * m), nI i, M') ∧ (∀ x, x ≠ 44 → M' x = M x) ∧ (∀ j, j < 7 ∨ 71 ≤ j → M' 44 j = M 44 j) ∧ ∀ c t, c < i → t < m → M' 44 (7 + 8 * c + t) = dcv (sq a (c * m + t + 1)))
    (fun q : Int32 × Int32 × am_M => ∃ x y M', q = (x, y, M') ∧ (∀ x, x ≠ 44 → M' x = M x) ∧ (∀ j, j < 7 ∨ 71 ≤ j → M' 44 j = M 44 j) ∧ ∀ c t, c < n → t < m → M' 44 (7 + 8 * c + t) = dcv (sq a (c * m + t + 1))) (n := n) (lpF (by omega)) ⟨M, by rw [Nat.zero_mul]; rfl, fun x _ => rfl, fun j _ => rfl, fun c t hc => by omega⟩ ?_ ?_ ?_
  · rintro i s hi ⟨M', rfl, h1, h1', h2⟩
    dsimp only
    rw [if_neg (show ¬ (M' 44 (0 : Int32).toNatClampNeg ≤ nI i) by rw [clamp0, h1' 0 (by omega), p0]; exact nle_n hi (by omega))]
    refine Or.inl (lp_bnd Sum.inl
      (fun j s => ∃ M', s = (sq a (i * m + j), nI j, M') ∧ (∀ x, x ≠ 44 → M' x = M x) ∧ (∀ j, j < 7 ∨ 71 ≤ j → M' 44 j = M 44 j) ∧ (∀ c t, c < i → t < m → M' 44 (7 + 8 * c + t) = dcv (sq a (c * m + t + 1))) ∧ ∀ t, t < j → M' 44 (7 + 8 * i + t) = dcv (sq a (i * m + t + 1)))
      (fun q : Int32 × Int32 × am_M => ∃ M', q = (sq a (i * m + m), nI m, M') ∧ (∀ x, x ≠ 44 → M' x = M x) ∧ (∀ j, j < 7 ∨ 71 ≤ j → M' 44 j = M 44 j) ∧ (∀ c t, c < i → t < m → M' 44 (7 + 8 * c + t) = dcv (sq a (c * m + t + 1))) ∧ ∀ t, t < m → M' 44 (7 + 8 * i + t) = dcv (sq a (i * m + t + 1))) (n := m) (lpF (by omega)) ⟨M', rfl, h1, h1', h2, fun t ht => by omega⟩ ?_ ?_ ?_)
    · rintro j s hj ⟨M2, rfl, g3, g3', g4, g5⟩
      dsimp only
      rw [if_neg (show ¬ (M2 44 (1 : Int32).toNatClampNeg ≤ nI j) by rw [clamp1, g3' 1 (by omega), p1]; exact nle_n hj (by omega)), a_7, nI_clamp (by omega), sq_s, (sh16 _).2, nI_s]
      obtain ⟨r, hr, hr2⟩ := dcv_r (tn (sq a (i * m + j + 1)) / 65536 % 32768) (by omega)
      rw [hr]
      refine Or.inl ⟨(sq a (i * m + (j + 1)), nI (j + 1), am_up M2 44 (7 + 8 * i + j) (dcv (sq a (i * m + j + 1)))), ?_, am_up M2 44 (7 + 8 * i + j) (dcv (sq a (i * m + j + 1))), rfl, fun x hx => by rw [am_up_ne hx, g3 x hx], fun k hk => by rw [up_k (by omega), g3' k hk], ?_, ?_⟩
      · rw [dcv_d, ← Nat.add_assoc, bl_s]
        rcases hr2 with ⟨r1, r2⟩ | ⟨r1, r2, r3⟩ | ⟨r1, r2, r3⟩
        · rw [if_pos r1, if_pos (db_ok (by omega) (by omega)), bl_s, r2]
        · rw [if_neg r1, if_pos r2, if_pos (db_ok (by omega) (by omega)), bl_s, r3]
        · rw [if_neg r1, if_neg r2, if_pos (db_ok (by omega) (by omega)), bl_s, r3]
      · intro c t hc ht
        rw [up_k (by omega)]
        exact g4 c t hc ht
      · intro t ht
        by_cases e : t = j
        · subst e; rw [up_s]
        · rw [up_k (by omega)]
          exact g5 t (by omega)
    · rintro s ⟨M2, rfl, g3, g3', g4, g5⟩
      dsimp only
      rw [if_pos (show M2 44 (1 : Int32).toNatClampNeg ≤ nI m by rw [clamp1, g3' 1 (by omega), p1]; exact nle_y (by omega) (by omega))]
      exact ⟨_, rfl, M2, rfl, g3, g3', g4, g5⟩
    · rintro q ⟨M2, rfl, g3, g3', g4, g5⟩
      refine ⟨_, rfl, M2, ?_, g3, g3', ?_⟩
      · rw [nI_s, Nat.succ_mul]
      · intro c t hc ht
        by_cases e : c = i
        · subst e; exact g5 t ht
        · exact g4 c t (by omega) ht
  · rintro s ⟨M', rfl, h1, h1', h2⟩
    dsimp only
    rw [if_pos (show M' 44 (0 : Int32).toNatClampNeg ≤ nI n by rw [clamp0, h1' 0 (by omega), p0]; exact nle_y (by omega) (by omega))]
    exact ⟨_, rfl, _, _, M', rfl, h1, h1', h2⟩
  · rintro q ⟨x, y, M1, rfl, h3, h3', h4⟩
    refine ⟨M1, ?_, h3, h3', h4⟩
    dsimp only
    have hBn : VB n m w O (fun c t => tn (dcv (sq a (c * m + t + 1)))) K := ⟨⟨hn, hm, hw⟩, hO, fun c t _ _ => cv3_tn (dcv_3 _), hKw⟩
    have hVn : VR M1 n m w O (fun c t => tn (dcv (sq a (c * m + t + 1)))) K := ⟨by rw [h3' 0 (by omega), h3' 1 (by omega), h3' 2 (by omega), h3' 3 (by omega)]; exact ⟨p0, p1, p2, p3⟩, fun c t hc ht => (h4 c t hc ht).trans (tn_n _), fun c hc => (h3' _ (by omega)).trans (hK c hc)⟩
    rw [cells_r hBn hVn 2, Option.bind_some]
    simp only [← tn_n]
theorem op_draw (a0 : Int32) {M : am_M} (h : Rel M) : ∃ v M1 M2, f_X7_draw_0 a0 M = some (v, M1) ∧ f_X8_draw_43 a0 M1 = some (v, M2) ∧ Rel M2 := by
  obtain ⟨n, m, w, O, C, K, hB, hVC, hVR⟩ := rel_V h
  obtain ⟨n', m', w', b, ⟨hn, hm, hw, hb1, hb2⟩, ⟨p0, p1, p2, p4⟩, ⟨q0, q1, q2, q3, q4, q5, q6⟩, ⟨b3, b5, b6⟩, hcell, hwant, hcol, hsus⟩ := chp_iff.mp h.1
  have en : n' = n := (nI_eq (by omega) (by have := hB.1.1; omega)).mp (p0.symm.trans hVC.1.1)
  have em : m' = m := (nI_eq (by omega) (by have := hB.1.2.1; omega)).mp (p1.symm.trans hVC.1.2.1)
  subst en
  subst em
  obtain ⟨M1, e1, f1, f2⟩ := draw_c hB hVC a0
  have hVR1 : VR M1 n' m' w O C K := by
    unfold VR
    rw [f1 44 (by decide)]
    exact hVR
  obtain ⟨M2, e2, g1, g2, g3⟩ := draw_r hB hVR1 a0
  refine ⟨_, M1, M2, e1, e2, rel_chip h (chp_iff.mpr ⟨n', m', w', b, ⟨hn, hm, hw, hb1, hb2⟩, ?_, ?_, ?_, ?_, ?_, ?_, ?_⟩) ⟨fun x hx => (g1 x (by omega)).trans (f1 x (by omega)), ?_, ?_, ?_, ?_, ?_, ?_⟩⟩
  · rw [g1 9 (by decide), f1 9 (by decide)]
    exact ⟨p0, p1, p2, p4⟩
  · rw [g2 0 (by omega), g2 1 (by omega), g2 2 (by omega), g2 3 (by omega), g2 4 (by omega), g2 5 (by omega), g2 6 (by omega), g1 9 (by decide), f1 9 (by decide), f1 44 (by decide)]
    exact ⟨q0, q1, q2, q3, q4, q5, q6⟩
  · rw [g1 9 (by decide), f1 9 (by decide)]
    exact ⟨b3, b5, b6⟩
  · intro c t hc ht
    rw [g3 c t hc ht, g1 10 (by decide), f2 c t hc ht]
    exact ⟨rfl, dcv_3 _⟩
  · intro c t hc ht
    rw [g2 _ (by omega), g1 11 (by decide), f1 11 (by decide), f1 44 (by decide)]
    exact hwant c t hc ht
  · intro c hc
    rw [g2 _ (by omega), g1 12 (by decide), f1 12 (by decide), f1 44 (by decide)]
    exact hcol c hc
  · intro c hc
    rw [g2 _ (by omega), g1 13 (by decide), f1 13 (by decide), f1 44 (by decide)]
    exact hsus c hc
  · rw [g1 0 (by decide), f1 0 (by decide)]
  · rw [g1 0 (by decide), f1 0 (by decide)]
  · rw [g1 2 (by decide), f1 2 (by decide)]
  · rw [g1 43 (by decide), f1 43 (by decide)]
  · rw [g1 43 (by decide), f1 43 (by decide)]
  · rw [g1 43 (by decide), f1 43 (by decide)]
