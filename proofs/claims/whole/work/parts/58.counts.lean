/-! RULE, COUNT, WEAK, DRAW -/
theorem op_rule (a0 : Int32) {M : am_M} (h : Rel M) : ∃ v, f_X7_rule_0 a0 M = some v ∧ f_X8_rule_43 a0 M = some v ∧ Rel M := by
  obtain ⟨n, m, w, O, C, K, hB, hVC, hVR⟩ := rel_V h
  obtain ⟨n', m', w', b', -, ⟨p0, p1, p2, p4⟩, ⟨q0, q1, q2, q3, q4, q5, q6⟩, -⟩ := chp_iff.mp h.1
  unfold f_X7_rule_0 f_X8_rule_43
  rw [cells_c hB hVC, cells_r hB hVR]
  by_cases c0 : a0 = 0
  · subst c0
    exact ⟨M 9 0, rfl, by rw [if_neg (in_y (a := 0) (b := 0) (c := 6) (by decide) (by decide) (by decide)), if_pos (by decide), clamp0, q0, p0], h⟩
  by_cases c1 : a0 = 1
  · subst c1
    exact ⟨M 9 1, rfl, by rw [if_neg (in_y (a := 1) (b := 0) (c := 6) (by decide) (by decide) (by decide)), if_pos (by decide), clamp1, q1, p1], h⟩
  by_cases c2 : a0 = 2
  · subst c2
    exact ⟨M 9 2, rfl, by rw [if_neg (in_y (a := 2) (b := 0) (c := 6) (by decide) (by decide) (by decide)), if_pos (by decide), clamp2, q2, p2], h⟩
  by_cases c3 : a0 = 3
  · subst c3
    exact ⟨M 9 3, rfl, by rw [if_neg (in_y (a := 3) (b := 0) (c := 6) (by decide) (by decide) (by decide)), if_pos (by decide), clamp3, q3], h⟩
  by_cases c4 : a0 = 4
  · subst c4
    exact ⟨M 9 4, rfl, by rw [if_neg (in_y (a := 4) (b := 0) (c := 6) (by decide) (by decide) (by decide)), if_pos (by decide), clamp4, q4, p4], h⟩
  by_cases c5 : a0 = 5
  · subst c5
    exact ⟨M 9 5, rfl, by rw [if_neg (in_y (a := 5) (b := 0) (c := 6) (by decide) (by decide) (by decide)), if_pos (by decide), clamp5, q5], h⟩
  by_cases c6 : a0 = 6
  · subst c6
    exact ⟨M 9 6, rfl, by rw [if_neg (in_y (a := 6) (b := 0) (c := 6) (by decide) (by decide) (by decide)), if_pos (by decide), clamp6, q6], h⟩
  have hn6 : (f_X8_in a0.toInt64 0 6) = 0 := in_n (b := 0) (c := 6) (by decide) (by decide) (fun q => by
    obtain ⟨k, hk, rfl⟩ := nI_of (x := a0) (Int32.not_lt.mpr q.1)
    have hk6 := (ni_le (a := k) (b := 6) (by omega) (by omega)).mp q.2
    have : k = 0 ∨ k = 1 ∨ k = 2 ∨ k = 3 ∨ k = 4 ∨ k = 5 ∨ k = 6 := by omega
    rcases this with e | e | e | e | e | e | e <;> subst e
    · exact c0 rfl
    · exact c1 rfl
    · exact c2 rfl
    · exact c3 rfl
    · exact c4 rfl
    · exact c5 rfl
    · exact c6 rfl)
  rw [if_neg c0, if_neg c1, if_neg c2, if_neg c3, if_neg c4, if_neg c5, if_neg c6, hn6]
  simp only [Option.bind_some]
  by_cases c7 : a0 = 7
  · rw [if_pos c7]
    exact ⟨_, rfl, by rw [if_pos trivial], h⟩
  · rw [if_neg c7]
    exact ⟨_, rfl, by rw [if_pos trivial], h⟩
theorem wants_cr {M : am_M} (h : Rel M) : ∃ v, f_X0_wantsTold_9 M = some v ∧ f_X8_wantsOfAll_43 M = some v := by
  obtain ⟨n, m, w, b, ⟨hn, hm, hw, hb1, hb2⟩, ⟨p0, p1, p2, p4⟩, ⟨q0, q1, q2, q3, q4, q5, q6⟩, ⟨b3, b5, b6⟩, hcell, hwant, hcol, hsus⟩ := chp_iff.mp h.1
  refine ⟨nI (sm (fun i => sm (fun j => if M 11 (8 * i + j) = 2 then 0 else 1) m) n), ?_, ?_⟩
  · unfold f_X0_wantsTold_9
    rw [p0, p1]
    refine Option.bind_eq_some_iff.mpr ⟨_, lp_sum (a := 0) (fun i => sm (fun j => if M 11 (8 * i + j) = 2 then 0 else 1) m) (n := n) (by omega) ?_ ?_, by simp only [Nat.zero_add]⟩
    · intro i x hi
      dsimp only
      rw [if_neg (nle_n hi (by omega))]
      refine Option.bind_eq_some_iff.mpr ⟨_, lp_sum (fun j => if M 11 (8 * i + j) = 2 then 0 else 1) (n := m) (by omega) ?_ ?_, by rw [nI_s]⟩
      · intro j y hj
        dsimp only
        rw [if_neg (nle_n hj (by omega)), a_at, if_pos (db_ok (by omega) (by omega)), nI_clamp (by omega), nI_s, nI_s]
        by_cases e : M 11 (8 * i + j) = 2
        · simp only [if_pos e]; rfl
        · simp only [if_neg e]
      · intro y
        dsimp only
        rw [if_pos (nle_y (by omega) (by omega))]
    · intro x
      dsimp only
      rw [if_pos (nle_y (by omega) (by omega))]
  · unfold f_X8_wantsOfAll_43
    rw [clamp0, clamp1, q0, q1]
    refine Option.bind_eq_some_iff.mpr ⟨_, lp_sum (a := 0) (fun i => sm (fun j => if M 11 (8 * i + j) = 2 then 0 else 1) m) (n := n) (by omega) ?_ ?_, by simp only [Nat.zero_add]⟩
    · intro i x hi
      dsimp only
      rw [if_neg (nle_n hi (by omega))]
      refine Option.bind_eq_some_iff.mpr ⟨_, lp_sum (fun j => if M 11 (8 * i + j) = 2 then 0 else 1) (n := m) (by omega) ?_ ?_, by rw [nI_s]⟩
      · intro j y hj
        dsimp only
        rw [if_neg (nle_n hj (by omega)), a_71, if_pos (db_ok (by omega) (by omega)), nI_clamp (by omega), (hwant i j hi hj).1, nI_s]
        simp only [bl]
        by_cases e : M 11 (8 * i + j) = 2
        · simp only [if_pos e]
          rw [show f_X8_flag 0 = 0 from rfl, add_0]
          rfl
        · simp only [if_neg e]
          rw [show f_X8_flag 1 = 1 from rfl, nI_s]
      · intro y
        dsimp only
        rw [if_pos (nle_y (by omega) (by omega))]
    · intro x
      dsimp only
      rw [if_pos (nle_y (by omega) (by omega))]
theorem colbits_cr {M : am_M} (h : Rel M) : ∃ v, f_X0_columnBits_9 M = some v ∧ f_X8_columnBits_43 M = some v := by
  obtain ⟨n, m, w, O, C, K, hB, hVC, hVR⟩ := rel_V h
  obtain ⟨⟨hn, hm, hw⟩, hO, hC2, hKw⟩ := hB
  obtain ⟨⟨p0, p1, p2, p3⟩, hC, hK⟩ := hVC
  obtain ⟨⟨q0, q1, q2, q3⟩, rC, rK⟩ := hVR
  have h8w := pw8 hw
  refine ⟨nI (sm (fun i => cntN (K i) 20) n), ?_, ?_⟩
  · unfold f_X0_columnBits_9
    rw [p0]
    refine Option.bind_eq_some_iff.mpr ⟨_, lp_sum (a := 0) (fun i => cntN (K i) 20) (n := n) (by omega) ?_ ?_, by simp only [Nat.zero_add]⟩
    · intro i x hi
      have := hKw i hi
      dsimp only
      rw [if_neg (nle_n hi (by omega)), if_pos (db_ok (by omega) (by omega)), nI_clamp (by omega), hK i hi, bc_ok (by omega), nI_add, nI_s]
    · intro x
      dsimp only
      rw [if_pos (nle_y (by omega) (by omega))]
  · unfold f_X8_columnBits_43
    rw [clamp0, q0]
    refine Option.bind_eq_some_iff.mpr ⟨_, lp_sum (a := 0) (fun i => cntN (K i) 20) (n := n) (by omega) ?_ ?_, by simp only [Nat.zero_add]⟩
    · intro i x hi
      have := hKw i hi
      dsimp only
      rw [if_neg (nle_n hi (by omega)), a_135, if_pos (db_ok (by omega) (by omega)), nI_clamp (by omega), rK i hi, bits_ok (by omega), Option.bind_some, nI_add, nI_s]
    · intro x
      dsimp only
      rw [if_pos (nle_y (by omega) (by omega))]
theorem op_count (a0 : Int32) {M : am_M} (h : Rel M) : ∃ v, f_X7_count_0 a0 M = some v ∧ f_X8_count_43 a0 M = some v ∧ Rel M := by
  obtain ⟨n, m, w, O, C, K, hB, hVC, hVR⟩ := rel_V h
  unfold f_X7_count_0 f_X8_count_43
  by_cases c0 : a0 = 0
  · rw [if_pos c0, if_pos c0, clamp0, clamp1]
    obtain ⟨e0, d0⟩ := h.2.1
    obtain ⟨e1, d1⟩ := h.2.2.1
    have f0 : M 25 0 = 0 ∨ M 25 0 = 1 := d0.imp id (fun q => q.1)
    have f1 : M 25 1 = 0 ∨ M 25 1 = 1 := d1.imp id (fun q => q.1)
    rw [e0, e1]
    refine ⟨(f_X8_flag (M 25 0)) + (f_X8_flag (M 25 1)), ?_, rfl, h⟩
    unfold f_X7_imagesKept_0
    refine Option.bind_eq_some_iff.mpr ⟨f_X8_flag (M 25 0) + f_X8_flag (M 25 1), Option.bind_eq_some_iff.mpr ⟨(f_X8_flag (M 25 0) + f_X8_flag (M 25 1), nI 2), lp_run (fun i => (match i with | 0 => 0 | 1 => f_X8_flag (M 25 0) | _ => f_X8_flag (M 25 0) + f_X8_flag (M 25 1), nI i)) (n := 2) ?_ ?_ (lpF (by omega)), rfl⟩, rfl⟩
    · intro i hi
      have : i = 0 ∨ i = 1 := by omega
      rcases this with e | e <;> subst e
      · dsimp only
        rw [if_neg (by decide), if_pos (by decide), nI_clamp (by omega)]
        rcases f0 with f | f <;> rw [f] <;> rfl
      · dsimp only
        rw [if_neg (by decide), if_pos (by decide), nI_clamp (by omega)]
        rcases f0 with f | f <;> rcases f1 with g | g <;> rw [f, g] <;> rfl
    · dsimp only
      rw [if_pos (by decide)]
      rfl
  rw [if_neg c0, if_neg c0]
  by_cases c1 : a0 = 1
  · rw [if_pos c1, if_pos c1, cells_c hB hVC, cells_r hB hVR]
    exact ⟨_, rfl, rfl, h⟩
  rw [if_neg c1, if_neg c1]
  by_cases c2 : a0 = 2
  · rw [if_pos c2, if_pos c2]
    obtain ⟨l, hl, t1, t2, ht⟩ := h.2.2.2.1
    exact ⟨_, rfl, by rw [t1, t2], h⟩
  rw [if_neg c2, if_neg c2]
  by_cases c3 : a0 = 3
  · rw [if_pos c3, if_pos c3, clamp0]
    unfold f_X3_isNothing_35
    rcases h.2.2.2.2.2.1 with ⟨s1, s2⟩ | ⟨ln, sz, hl, hz, s1, s2, s3, s4, -⟩
    · rw [s1, s2]
      exact ⟨-4, rfl, rfl, h⟩
    · rw [s1, s2, s3, s4]
      have hl3 : ln = 0 ∨ ln = 1 ∨ ln = 2 := by omega
      refine ⟨nI sz, ?_, ?_, h⟩
      · rcases hl3 with e | e | e <;> subst e <;> rfl
      · rcases hl3 with e | e | e <;> subst e <;> rfl
  rw [if_neg c3, if_neg c3]
  by_cases c4 : a0 = 4
  · rw [if_pos c4, if_pos c4]
    obtain ⟨v, e1, e2⟩ := wants_cr h
    rw [e1, e2]
    exact ⟨_, rfl, rfl, h⟩
  rw [if_neg c4, if_neg c4]
  by_cases c5 : a0 = 5
  · rw [if_pos c5, if_pos c5]
    obtain ⟨v, e1, e2⟩ := colbits_cr h
    rw [e1, e2]
    exact ⟨_, rfl, rfl, h⟩
  rw [if_neg c5, if_neg c5]
  exact ⟨_, rfl, rfl, h⟩
