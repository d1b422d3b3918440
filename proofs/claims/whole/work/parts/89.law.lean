/-! THE LAW'S FUNCTION ANSWERS 1 -/
theorem lw_fin {σ : Type} {body : σ → Option (σ ⊕ ((Int32 × am_M) ⊕ (Int32 × am_M)))} {F : Nat} {s0 : σ} (h : ∃ q, lp body F s0 = some q ∧ ∃ s, q = Sum.inr s) : ∃ M', (lp body F s0).bind (fun o => Sum.elim (fun u => some u) (fun (s : Int32 × am_M) => match s with | (_, M1) => some ((1 : Int32), M1)) o) = some ((1 : Int32), M') := by
  obtain ⟨q, h1, ⟨x, M1⟩, rfl⟩ := h
  exact ⟨M1, by rw [h1]; rfl⟩
set_option maxRecDepth 20000 in
set_option maxHeartbeats 4000000 in
theorem law_fun {LN : Nat} {xs : Nat → Int32} (hL : LN ≤ 2560) {M : am_M} (hM : ∀ q ∈ am_pl0, M q.1 q.2 = am_m0 q.1 q.2) : ∃ M', f_L_law_1000 LN xs 0 M = some (1, M') := by
  unfold f_L_law_1000
  have h5 : (5 : Int32) = nI 5 := rfl
  refine lw_fin ?_
  refine lp_inv (fun i s => ∃ M1, s = (nI (5 * i), M1) ∧ Rel M1) (fun q => ∃ s, q = Sum.inr s) (n := LN / 5) ?_ ?_ ⟨M, rfl, rel_0 hM⟩ (lpF (by omega))
  · rintro i s hi ⟨M1, rfl, hR⟩
    dsimp only
    have hlt : 5 * i + 5 ≤ LN := by omega
    have hnl : ¬ (Int32.ofNat LN - 5 < nI (5 * i)) := by
      rw [h5, show Int32.ofNat LN = nI LN from rfl, pk_sub (by omega), ni_lt (by omega) (by omega)]
      omega
    rw [if_neg hnl, if_pos (db_ok (by omega) (by omega))]
    have e1 : nI (5 * i) + 1 = nI (5 * i + 1) := nI_add (5 * i) 1
    have e2 : nI (5 * i) + 2 = nI (5 * i + 2) := nI_add (5 * i) 2
    have e3 : nI (5 * i) + 3 = nI (5 * i + 3) := nI_add (5 * i) 3
    have e4 : nI (5 * i) + 4 = nI (5 * i + 4) := nI_add (5 * i) 4
    have e5 : nI (5 * i) + 5 = nI (5 * (i + 1)) := nI_add (5 * i) 5
    have d1 : am_dbin (nI (5 * i + 1)) LN = true := db_ok (by omega) (by omega)
    have d2 : am_dbin (nI (5 * i + 2)) LN = true := db_ok (by omega) (by omega)
    have d3 : am_dbin (nI (5 * i + 3)) LN = true := db_ok (by omega) (by omega)
    have d4 : am_dbin (nI (5 * i + 4)) LN = true := db_ok (by omega) (by omega)
    rw [e1, e2, e3, e4, e5]
    generalize xs (nI (5 * i + 1)).toNatClampNeg = b1
    generalize xs (nI (5 * i + 2)).toNatClampNeg = b2
    generalize xs (nI (5 * i + 3)).toNatClampNeg = b3
    generalize xs (nI (5 * i + 4)).toNatClampNeg = b4
    generalize (xs (nI (5 * i)).toNatClampNeg &&& 63) = code
    left
    by_cases c0 : code = 0
    · rw [if_pos c0]
      obtain ⟨v, M2, M3, g1, g2, g3⟩ := op_feed b1 hR
      refine ⟨(nI (5 * (i + 1)), M3), ?_, M3, rfl, g3⟩
      simp only [if_pos d1]
      rw [g1]
      simp only [Option.bind_some]
      rw [g2]
      simp only [Option.bind_some, if_true]
    rw [if_neg c0]
    by_cases c1 : code = 1
    · rw [if_pos c1]
      obtain ⟨v, M2, M3, g1, g2, g3⟩ := op_end b1 hR
      refine ⟨(nI (5 * (i + 1)), M3), ?_, M3, rfl, g3⟩
      simp only [if_pos d1]
      rw [g1]
      simp only [Option.bind_some]
      rw [g2]
      simp only [Option.bind_some, if_true]
    rw [if_neg c1]
    by_cases c2 : code = 2
    · rw [if_pos c2]
      obtain ⟨v, M2, M3, g1, g2, g3⟩ := op_text hR
      refine ⟨(nI (5 * (i + 1)), M3), ?_, M3, rfl, g3⟩
      rw [g1]
      simp only [Option.bind_some]
      rw [g2]
      simp only [Option.bind_some, if_true]
    rw [if_neg c2]
    by_cases c3 : code = 3
    · rw [if_pos c3]
      obtain ⟨v, g1, g2, g3⟩ := op_fault hR
      refine ⟨(nI (5 * (i + 1)), M1), ?_, M1, rfl, g3⟩
      rw [g1, g2, if_pos rfl]
    rw [if_neg c3]
    by_cases c4 : code = 4
    · rw [if_pos c4]
      obtain ⟨v, g1, g2, g3⟩ := op_rule b1 hR
      refine ⟨(nI (5 * (i + 1)), M1), ?_, M1, rfl, g3⟩
      simp only [if_pos d1]
      rw [g1]
      simp only [Option.bind_some]
      rw [g2]
      simp only [Option.bind_some, if_true]
    rw [if_neg c4]
    by_cases c5 : code = 5
    · rw [if_pos c5]
      obtain ⟨v, g1, g2, g3⟩ := op_cell b1 b2 b3 hR
      refine ⟨(nI (5 * (i + 1)), M1), ?_, M1, rfl, g3⟩
      simp only [if_pos d1, if_pos d2, if_pos d3]
      rw [g1]
      simp only [Option.bind_some]
      rw [g2]
      simp only [Option.bind_some, if_true]
    rw [if_neg c5]
    by_cases c6 : code = 6
    · rw [if_pos c6]
      obtain ⟨v, g1, g2, g3⟩ := op_column b1 hR
      refine ⟨(nI (5 * (i + 1)), M1), ?_, M1, rfl, g3⟩
      simp only [if_pos d1]
      rw [g1]
      simp only [Option.bind_some]
      rw [g2]
      simp only [Option.bind_some, if_true]
    rw [if_neg c6]
    by_cases c7 : code = 7
    · rw [if_pos c7]
      obtain ⟨v, g1, g2, g3⟩ := op_seen b1 b2 hR
      refine ⟨(nI (5 * (i + 1)), M1), ?_, M1, rfl, g3⟩
      simp only [if_pos d1, if_pos d2]
      rw [g1]
      simp only [Option.bind_some]
      rw [g2]
      simp only [Option.bind_some, if_true]
    rw [if_neg c7]
    by_cases c8 : code = 8
    · rw [if_pos c8]
      obtain ⟨v, g1, g2, g3⟩ := op_weak b1 hR
      refine ⟨(nI (5 * (i + 1)), M1), ?_, M1, rfl, g3⟩
      simp only [if_pos d1]
      rw [g1]
      simp only [Option.bind_some]
      rw [g2]
      simp only [Option.bind_some, if_true]
    rw [if_neg c8]
    by_cases c9 : code = 9
    · rw [if_pos c9]
      obtain ⟨v, M3, g1, g2, g3⟩ := op_hidden b1 b2 b3 hR
      refine ⟨(nI (5 * (i + 1)), M3), ?_, M3, rfl, g3⟩
      simp only [if_pos d1, if_pos d2, if_pos d3]
      rw [g1]
      simp only [Option.bind_some]
      rw [g2]
      simp only [Option.bind_some, if_true]
    rw [if_neg c9]
    by_cases c10 : code = 10
    · rw [if_pos c10]
      obtain ⟨v, M3, g1, g2, g3⟩ := op_sure b1 hR
      refine ⟨(nI (5 * (i + 1)), M3), ?_, M3, rfl, g3⟩
      simp only [if_pos d1]
      rw [g1]
      simp only [Option.bind_some]
      rw [g2]
      simp only [Option.bind_some, if_true]
    rw [if_neg c10]
    by_cases c11 : code = 11
    · rw [if_pos c11]
      obtain ⟨v, g1, g2, g3⟩ := op_hides b1 hR
      refine ⟨(nI (5 * (i + 1)), M1), ?_, M1, rfl, g3⟩
      simp only [if_pos d1]
      rw [g1]
      simp only [Option.bind_some]
      rw [g2]
      simp only [Option.bind_some, if_true]
    rw [if_neg c11]
    by_cases c12 : code = 12
    · rw [if_pos c12]
      obtain ⟨v, g1, g2, g3⟩ := op_watched hR
      refine ⟨(nI (5 * (i + 1)), M1), ?_, M1, rfl, g3⟩
      rw [g1]
      simp only [Option.bind_some]
      rw [g2]
      simp only [Option.bind_some, if_true]
    rw [if_neg c12]
    by_cases c13 : code = 13
    · rw [if_pos c13]
      obtain ⟨v, M3, g1, g2, g3⟩ := op_best hR
      refine ⟨(nI (5 * (i + 1)), M3), ?_, M3, rfl, g3⟩
      rw [g1]
      simp only [Option.bind_some]
      rw [g2]
      simp only [Option.bind_some, if_true]
    rw [if_neg c13]
    by_cases c14 : code = 14
    · rw [if_pos c14]
      obtain ⟨v, M2, M3, g1, g2, g3⟩ := op_set b1 b2 b3 hR
      refine ⟨(nI (5 * (i + 1)), M3), ?_, M3, rfl, g3⟩
      simp only [if_pos d1, if_pos d2, if_pos d3]
      rw [g1]
      simp only [Option.bind_some]
      rw [g2]
      simp only [Option.bind_some, if_true]
    rw [if_neg c14]
    by_cases c15 : code = 15
    · rw [if_pos c15]
      obtain ⟨v, M2, M3, g1, g2, g3⟩ := op_put b1 b2 hR
      refine ⟨(nI (5 * (i + 1)), M3), ?_, M3, rfl, g3⟩
      simp only [if_pos d1, if_pos d2]
      rw [g1]
      simp only [Option.bind_some]
      rw [g2]
      simp only [Option.bind_some, if_true]
    rw [if_neg c15]
    by_cases c16 : code = 16
    · rw [if_pos c16]
      obtain ⟨v, M2, M3, g1, g2, g3⟩ := op_out b1 hR
      refine ⟨(nI (5 * (i + 1)), M3), ?_, M3, rfl, g3⟩
      simp only [if_pos d1]
      rw [g1]
      simp only [Option.bind_some]
      rw [g2]
      simp only [Option.bind_some, if_true]
    rw [if_neg c16]
    by_cases c17 : code = 17
    · rw [if_pos c17]
      obtain ⟨v, M2, M3, g1, g2, g3⟩ := op_draw b1 hR
      refine ⟨(nI (5 * (i + 1)), M3), ?_, M3, rfl, g3⟩
      simp only [if_pos d1]
      rw [g1]
      simp only [Option.bind_some]
      rw [g2]
      simp only [Option.bind_some, if_true]
    rw [if_neg c17]
    by_cases c18 : code = 18
    · rw [if_pos c18]
      obtain ⟨v, M2, M3, g1, g2, g3⟩ := op_want b1 b2 b3 hR
      refine ⟨(nI (5 * (i + 1)), M3), ?_, M3, rfl, g3⟩
      simp only [if_pos d1, if_pos d2, if_pos d3]
      rw [g1]
      simp only [Option.bind_some]
      rw [g2]
      simp only [Option.bind_some, if_true]
    rw [if_neg c18]
    by_cases c19 : code = 19
    · rw [if_pos c19]
      obtain ⟨v, M2, g1, g2, g3⟩ := op_brought b1 b2 b3 hR
      refine ⟨(nI (5 * (i + 1)), M2), ?_, M2, rfl, g3⟩
      simp only [if_pos d1, if_pos d2, if_pos d3]
      rw [g1]
      simp only [Option.bind_some]
      rw [g2]
      simp only [Option.bind_some, if_true]
    rw [if_neg c19]
    by_cases c20 : code = 20
    · rw [if_pos c20]
      obtain ⟨v, M2, g1, g2, g3⟩ := op_seed b1 hR
      refine ⟨(nI (5 * (i + 1)), M2), ?_, M2, rfl, g3⟩
      simp only [if_pos d1]
      rw [g1]
      simp only [Option.bind_some]
      rw [g2]
      simp only [Option.bind_some, if_true]
    rw [if_neg c20]
    by_cases c21 : code = 21
    · rw [if_pos c21]
      obtain ⟨v, g1, g2, g3⟩ := op_signature hR
      refine ⟨(nI (5 * (i + 1)), M1), ?_, M1, rfl, g3⟩
      rw [g1]
      simp only [Option.bind_some]
      rw [g2]
      simp only [Option.bind_some, if_true]
    rw [if_neg c21]
    by_cases c22 : code = 22
    · rw [if_pos c22]
      obtain ⟨v, M2, M3, g1, g2, g3⟩ := op_alias b1 hR
      refine ⟨(nI (5 * (i + 1)), M3), ?_, M3, rfl, g3⟩
      simp only [if_pos d1]
      rw [g1]
      simp only [Option.bind_some]
      rw [g2]
      simp only [Option.bind_some, if_true]
    rw [if_neg c22]
    by_cases c23 : code = 23
    · rw [if_pos c23]
      obtain ⟨v, g1, g2, g3⟩ := op_suspects b1 hR
      refine ⟨(nI (5 * (i + 1)), M1), ?_, M1, rfl, g3⟩
      simp only [if_pos d1]
      rw [g1]
      simp only [Option.bind_some]
      rw [g2]
      simp only [Option.bind_some, if_true]
    rw [if_neg c23]
    by_cases c24 : code = 24
    · rw [if_pos c24]
      obtain ⟨v, M2, M3, g1, g2, g3⟩ := op_dump b1 b2 hR
      refine ⟨(nI (5 * (i + 1)), M3), ?_, M3, rfl, g3⟩
      simp only [if_pos d1, if_pos d2]
      rw [g1]
      simp only [Option.bind_some]
      rw [g2]
      simp only [Option.bind_some, if_true]
    rw [if_neg c24]
    by_cases c25 : code = 25
    · rw [if_pos c25]
      obtain ⟨v, M2, M3, g1, g2, g3⟩ := op_clear b1 hR
      refine ⟨(nI (5 * (i + 1)), M3), ?_, M3, rfl, g3⟩
      simp only [if_pos d1]
      rw [g1]
      simp only [Option.bind_some]
      rw [g2]
      simp only [Option.bind_some, if_true]
    rw [if_neg c25]
    by_cases c26 : code = 26
    · rw [if_pos c26]
      obtain ⟨v, M2, M3, g1, g2, g3⟩ := op_keep b1 hR
      refine ⟨(nI (5 * (i + 1)), M3), ?_, M3, rfl, g3⟩
      simp only [if_pos d1]
      rw [g1]
      simp only [Option.bind_some]
      rw [g2]
      simp only [Option.bind_some, if_true]
    rw [if_neg c26]
    by_cases c27 : code = 27
    · rw [if_pos c27]
      obtain ⟨v, M2, M3, g1, g2, g3⟩ := op_back b1 hR
      refine ⟨(nI (5 * (i + 1)), M3), ?_, M3, rfl, g3⟩
      simp only [if_pos d1]
      rw [g1]
      simp only [Option.bind_some]
      rw [g2]
      simp only [Option.bind_some, if_true]
    rw [if_neg c27]
    by_cases c28 : code = 28
    · rw [if_pos c28]
      obtain ⟨v, M3, g1, g2, g3⟩ := op_differs b1 b2 hR
      refine ⟨(nI (5 * (i + 1)), M3), ?_, M3, rfl, g3⟩
      simp only [if_pos d1, if_pos d2]
      rw [g1]
      simp only [Option.bind_some]
      rw [g2]
      simp only [Option.bind_some, if_true]
    rw [if_neg c28]
    by_cases c29 : code = 29
    · rw [if_pos c29]
      obtain ⟨v, M2, M3, g1, g2, g3⟩ := op_sheet b1 b2 b3 hR
      refine ⟨(nI (5 * (i + 1)), M3), ?_, M3, rfl, g3⟩
      simp only [if_pos d1, if_pos d2, if_pos d3]
      rw [g1]
      simp only [Option.bind_some]
      rw [g2]
      simp only [Option.bind_some, if_true]
    rw [if_neg c29]
    by_cases c30 : code = 30
    · rw [if_pos c30]
      obtain ⟨v, M2, M3, g1, g2, g3⟩ := op_lay b1 b2 b3 hR
      refine ⟨(nI (5 * (i + 1)), M3), ?_, M3, rfl, g3⟩
      simp only [if_pos d1, if_pos d2, if_pos d3]
      rw [g1]
      simp only [Option.bind_some]
      rw [g2]
      simp only [Option.bind_some, if_true]
    rw [if_neg c30]
    by_cases c31 : code = 31
    · rw [if_pos c31]
      obtain ⟨v, M2, M3, g1, g2, g3⟩ := op_read b1 b2 b3 b4 hR
      refine ⟨(nI (5 * (i + 1)), M3), ?_, M3, rfl, g3⟩
      simp only [if_pos d1, if_pos d2, if_pos d3, if_pos d4]
      rw [g1]
      simp only [Option.bind_some]
      rw [g2]
      simp only [Option.bind_some, if_true]
    rw [if_neg c31]
    by_cases c32 : code = 32
    · rw [if_pos c32]
      obtain ⟨v, g1, g2, g3⟩ := op_torn hR
      refine ⟨(nI (5 * (i + 1)), M1), ?_, M1, rfl, g3⟩
      rw [g1, g2, if_pos rfl]
    rw [if_neg c32]
    by_cases c33 : code = 33
    · rw [if_pos c33]
      obtain ⟨v, g1, g2, g3⟩ := op_count b1 hR
      refine ⟨(nI (5 * (i + 1)), M1), ?_, M1, rfl, g3⟩
      simp only [if_pos d1]
      rw [g1]
      simp only [Option.bind_some]
      rw [g2]
      simp only [Option.bind_some, if_true]
    rw [if_neg c33]
    exact ⟨(nI (5 * (i + 1)), M1), rfl, M1, rfl, hR⟩
  · rintro s ⟨M1, rfl, hR⟩
    dsimp only
    have hnl : Int32.ofNat LN - 5 < nI (5 * (LN / 5)) := by
      rcases Nat.lt_or_ge LN 5 with h | h
      · have : LN / 5 = 0 := by omega
        rw [this, h5, show Int32.ofNat LN = nI LN from rfl]
        exact pk_sneg (by omega) h
      · rw [h5, show Int32.ofNat LN = nI LN from rfl, pk_sub h, ni_lt (by omega) (by omega)]
        omega
    rw [if_pos hnl]
    exact ⟨_, rfl, _, rfl⟩
