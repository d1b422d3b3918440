/-! BITS -/
theorem nI_self (x : Int32) : x = nI x.toBitVec.toNat := by
  apply Int32.toBitVec_inj.mp
  apply BitVec.eq_of_toNat_eq
  rw [pk_tn x.toBitVec.isLt]
theorem sh1 : ∀ n, n < 17 → (1 : Int32) <<< (nI n &&& 31) = nI (2 ^ n) := by decide
theorem all1 : ∀ n, n < 17 → ((1 : Int32) <<< (nI n &&& 31)) - 1 = nI (2 ^ n - 1) := by decide
theorem maskm {n : Nat} (hn : n < 17) (x : Int32) : (x &&& (nI (2 ^ n - 1) ^^^ (-1))) = 0 ↔ bit x n := by
  have hp : 2 ^ n - 1 < 2 ^ 32 := by
    have : 2 ^ n ≤ 2 ^ 16 := Nat.pow_le_pow_right (by omega) (by omega)
    omega
  have hbit : ∀ i, i < 32 → (x &&& (nI (2 ^ n - 1) ^^^ (-1))).toBitVec.getLsbD i = (x.toBitVec.getLsbD i && !decide (i < n)) := by
    intro i hi
    rw [Int32.toBitVec_and, Int32.toBitVec_xor, BitVec.getLsbD_and, BitVec.getLsbD_xor]
    have h1 : (nI (2 ^ n - 1)).toBitVec.getLsbD i = decide (i < n) := by
      rw [← BitVec.testBit_toNat, pk_tn hp, Nat.testBit_two_pow_sub_one]
    have h2 : (-1 : Int32).toBitVec.getLsbD i = true := by
      have : (-1 : Int32).toBitVec = BitVec.allOnes 32 := by decide
      rw [this, BitVec.getLsbD_allOnes]
      simpa using hi
    rw [h1, h2]
    simp
  constructor
  · intro h
    refine ⟨x.toBitVec.toNat, ?_, nI_self x⟩
    apply Nat.lt_pow_two_of_testBit
    intro i hi
    by_cases h32 : i < 32
    · have h3 := hbit i h32
      rw [h] at h3
      have h4 : (0 : Int32).toBitVec.getLsbD i = false := by
        have : (0 : Int32).toBitVec = 0#32 := by decide
        rw [this]
        simp
      rw [h4] at h3
      have h5 : decide (i < n) = false := by simpa using hi
      rw [h5] at h3
      rw [BitVec.testBit_toNat]
      simpa using h3.symm
    · rw [BitVec.testBit_toNat]
      exact BitVec.getLsbD_of_ge _ _ (by omega)
  · rintro ⟨a, ha, rfl⟩
    apply Int32.toBitVec_inj.mp
    apply BitVec.eq_of_getLsbD_eq
    intro i hi
    rw [hbit i hi]
    have h4 : (0 : Int32).toBitVec.getLsbD i = false := by
      have : (0 : Int32).toBitVec = 0#32 := by decide
      rw [this]
      simp
    rw [h4]
    by_cases h5 : i < n
    · simp [h5]
    · have ha32 : a < 2 ^ 32 := Nat.lt_trans ha (by
        have : 2 ^ n ≤ 2 ^ 16 := Nat.pow_le_pow_right (by omega) (by omega)
        omega)
      rw [← BitVec.testBit_toNat, pk_tn ha32, Nat.testBit_lt_two_pow (Nat.lt_of_lt_of_le ha (Nat.pow_le_pow_right (by omega) (by omega)))]
      rfl
theorem bit_in {n : Nat} (hn : n < 17) (x : Int32) : (0 ≤ x ∧ x ≤ nI (2 ^ n - 1)) ↔ bit x n := by
  have h2 : 2 ^ n ≤ 2 ^ 16 := Nat.pow_le_pow_right (by omega) (by omega)
  have h1 : 0 < 2 ^ n := Nat.pow_pos (by omega)
  have h := below (n := 2 ^ n) (by omega) x
  rw [show nI (2 ^ n) - 1 = nI (2 ^ n - 1) by
    rw [show (1 : Int32) = nI 1 from rfl, pk_sub (by omega)]] at h
  exact h
theorem chp_out {M : am_M} {n m w b : Nat} {v : Int32} (hv : bit v n) (h : chp M n m w b) : chp (am_up (am_up M 9 3 v) 44 3 v) n m w b := by
  obtain ⟨h0, ⟨p0, p1, p2, p4⟩, ⟨q0, q1, q2, q3, q4, q5, q6⟩, ⟨b3, b5, b6⟩, hcell, hwant, hcol, hsus⟩ := h
  have e9 : ∀ j, j ≠ 3 → am_up (am_up M 9 3 v) 44 3 v 9 j = M 9 j := fun j hj => by rw [up_p (by decide), up_k hj]
  have e44 : ∀ j, j ≠ 3 → am_up (am_up M 9 3 v) 44 3 v 44 j = M 44 j := fun j hj => by rw [up_k hj, up_p (by decide)]
  have ex : ∀ x, x ≠ 9 → x ≠ 44 → am_up (am_up M 9 3 v) 44 3 v x = M x := fun x h1 h2 => by rw [am_up_ne h2, am_up_ne h1]
  refine ⟨h0, ?_, ?_, ?_, ?_, ?_, ?_, ?_⟩
  · rw [e9 0 (by decide), e9 1 (by decide), e9 2 (by decide), e9 4 (by decide)]
    exact ⟨p0, p1, p2, p4⟩
  · rw [e44 0 (by decide), e44 1 (by decide), e44 2 (by decide), e44 4 (by decide), e44 5 (by decide), e44 6 (by decide), e9 5 (by decide), e9 6 (by decide), up_s, up_p (q := 9) (by decide), up_s]
    exact ⟨q0, q1, q2, rfl, q4, q5, q6⟩
  · rw [e9 5 (by decide), e9 6 (by decide), up_p (q := 9) (by decide), up_s]
    exact ⟨hv, b5, b6⟩
  · intro c t hc ht
    rw [e44 _ (by omega), ex 10 (by decide) (by decide)]
    exact hcell c t hc ht
  · intro c t hc ht
    rw [e44 _ (by omega), ex 11 (by decide) (by decide)]
    exact hwant c t hc ht
  · intro c hc
    rw [e44 _ (by omega), ex 12 (by decide) (by decide)]
    exact hcol c hc
  · intro c hc
    rw [e44 _ (by omega), ex 13 (by decide) (by decide)]
    exact hsus c hc
theorem op_out (a0 : Int32) {M : am_M} (h : Rel M) : ∃ v M1 M2, f_X7_out_0 a0 M = some (v, M1) ∧ f_X8_out_43 a0 M1 = some (v, M2) ∧ Rel M2 := by
  obtain ⟨n, m, w, b, hch⟩ := chp_iff.mp h.1
  have hch0 := hch
  obtain ⟨⟨hn, hm, hw, hb1, hb2⟩, ⟨p0, p1, p2, p4⟩, ⟨q0, q1, q2, q3, q4, q5, q6⟩, ⟨b3, b5, b6⟩, hcell, hwant, hcol, hsus⟩ := hch
  unfold f_X7_out_0 f_X8_out_43 f_X0_allChains_9
  rw [p0, all1 n (by omega), clamp0]
  by_cases hx : bit a0 n
  · refine ⟨M 9 3, am_up M 9 3 a0, am_up (am_up M 9 3 a0) 44 3 a0, ?_, ?_, rel_upd (by omega) h ⟨n, m, w, b, chp_out hx hch0⟩⟩
    · rw [if_pos ((maskm (by omega) a0).mpr hx)]
      rfl
    · rw [up_p (by decide), q0, all1 n (by omega), if_neg (in_y (b := 0) (c := nI (2 ^ n - 1)) (by decide) rfl ((bit_in (by omega) a0).mpr hx))]
      unfold f_X8_becomes_43
      rw [clamp3, if_pos (by decide), if_pos (by decide), up_p (by decide), q3]
      rfl
  · refine ⟨-1, M, M, ?_, ?_, h⟩
    · rw [if_neg (fun h => hx ((maskm (by omega) a0).mp h))]
    · rw [q0, all1 n (by omega), if_pos (in_n (b := 0) (c := nI (2 ^ n - 1)) (by decide) rfl (fun h => hx ((bit_in (by omega) a0).mp h)))]
theorem op_put (a0 a1 : Int32) {M : am_M} (h : Rel M) : ∃ v M1 M2, f_X7_put_0 a0 a1 M = some (v, M1) ∧ f_X8_put_43 a0 a1 M1 = some (v, M2) ∧ Rel M2 := by
  obtain ⟨n, m, w, b, hch⟩ := chp_iff.mp h.1
  have hch0 := hch
  obtain ⟨⟨hn, hm, hw, hb1, hb2⟩, ⟨p0, p1, p2, p4⟩, ⟨q0, q1, q2, q3, q4, q5, q6⟩, ⟨b3, b5, b6⟩, hcell, hwant, hcol, hsus⟩ := hch
  unfold f_X7_put_0 f_X8_put_43 f_X0_allOutputs_9
  rw [p2, all1 w (by omega), clamp2]
  rcases chain_c hn p0 a0 with ⟨e, k, hk, rfl⟩ | ⟨e, hno⟩
  · by_cases hx : bit a1 w
    · refine ⟨M 12 k, am_up M 12 k a1, am_up (am_up M 12 k a1) 44 (135 + k) a1, ?_, ?_, rel_upd (by omega) h ⟨n, m, w, b, chp_col hk hx hch0⟩⟩
      · rw [e, if_neg (by decide), if_pos ((maskm (by omega) a1).mpr hx)]
        unfold f_X7_exchange_12
        rw [if_pos (db_ok (by omega) (by omega)), if_pos (db_ok (by omega) (by omega)), nI_clamp (by omega)]
        rfl
      · rw [chain_r hn (by rw [up_p (by decide)]; exact q0), if_pos ⟨k, hk, rfl⟩, Option.bind_some, if_neg (by decide), up_p (by decide), q2, all1 w (by omega), if_neg (in_y (b := 0) (c := nI (2 ^ w - 1)) (by decide) rfl ((bit_in (by omega) a1).mpr hx)), a_135]
        unfold f_X8_becomes_43
        rw [if_pos (db_ok (by omega) (by omega)), if_pos (db_ok (by omega) (by omega)), nI_clamp (by omega), up_p (by decide), (hcol k hk).1]
        rfl
    · refine ⟨-1, M, M, ?_, ?_, h⟩
      · rw [e, if_neg (by decide), if_neg (fun h => hx ((maskm (by omega) a1).mp h))]
      · rw [chain_r hn q0, if_pos ⟨k, hk, rfl⟩, Option.bind_some, if_neg (by decide), q2, all1 w (by omega), if_pos (in_n (b := 0) (c := nI (2 ^ w - 1)) (by decide) rfl (fun h => hx ((bit_in (by omega) a1).mp h)))]
  · refine ⟨-1, M, M, ?_, ?_, h⟩
    · rw [e, if_pos rfl]
    · rw [chain_r hn q0, if_neg hno, Option.bind_some, if_pos rfl]
