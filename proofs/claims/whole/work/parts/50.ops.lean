/-! OPS: the short ones -/
theorem op_fault {M : am_M} (h : Rel M) : ∃ v, f_X7_fault_0 M = v ∧ f_X8_fault_43 M = v ∧ Rel M := ⟨_, rfl, h.2.2.2.2.1.1, h⟩
theorem op_torn {M : am_M} (h : Rel M) : ∃ v, f_X7_torn_0 M = v ∧ f_X8_torn_43 M = v ∧ Rel M := ⟨_, rfl, h.2.2.2.2.1.2, h⟩
/-- a chain, asked by the class and by the reference -/
theorem chain_c {M : am_M} {n : Nat} (hn : n ≤ 8) (h0 : M 9 0 = nI n) (c : Int32) : (f_X0_hasChain_9 c M = 1 ∧ ∃ k, k < n ∧ c = nI k) ∨ (f_X0_hasChain_9 c M = 0 ∧ ¬ ∃ k, k < n ∧ c = nI k) := by
  unfold f_X0_hasChain_9
  by_cases h1 : c < 0
  · right
    rw [if_pos h1]
    refine ⟨rfl, ?_⟩
    rintro ⟨k, hk, rfl⟩
    exact absurd h1 (nI_pos (by omega))
  · rw [if_neg h1, h0]
    obtain ⟨k, hk, rfl⟩ := nI_of h1
    by_cases h2 : nI n ≤ nI k
    · right
      rw [if_pos h2]
      refine ⟨rfl, ?_⟩
      rintro ⟨j, hj, e⟩
      rw [nI_eq hk (by omega)] at e
      rw [ni_le (by omega) hk] at h2
      omega
    · left
      rw [if_neg h2]
      rw [ni_le (by omega) hk] at h2
      exact ⟨rfl, k, by omega, rfl⟩
theorem clamp0 : (0 : Int32).toNatClampNeg = 0 := by decide
theorem clamp1 : (1 : Int32).toNatClampNeg = 1 := by decide
theorem clamp2 : (2 : Int32).toNatClampNeg = 2 := by decide
theorem clamp3 : (3 : Int32).toNatClampNeg = 3 := by decide
theorem clamp4 : (4 : Int32).toNatClampNeg = 4 := by decide
theorem clamp5 : (5 : Int32).toNatClampNeg = 5 := by decide
theorem clamp6 : (6 : Int32).toNatClampNeg = 6 := by decide
/-- 0 ≤ c ≤ nI n - 1 -/
theorem below {n : Nat} (hn : n < 2 ^ 30) (c : Int32) : (0 ≤ c ∧ c ≤ nI n - 1) ↔ ∃ k, k < n ∧ c = nI k := by
  constructor
  · rintro ⟨h1, h2⟩
    obtain ⟨k, hk, rfl⟩ := nI_of (x := c) (by rw [Int32.lt_iff_toInt_lt]; rw [Int32.le_iff_toInt_le] at h1; omega)
    refine ⟨k, ?_, rfl⟩
    rw [Int32.le_iff_toInt_le, show (1 : Int32) = nI 1 from rfl, nI_toInt hk, pk_sub_toInt hn (by omega)] at h2
    omega
  · rintro ⟨k, hk, rfl⟩
    refine ⟨nI_pos' (by omega), ?_⟩
    rw [Int32.le_iff_toInt_le, show (1 : Int32) = nI 1 from rfl, nI_toInt (by omega), pk_sub_toInt hn (by omega)]
    omega
theorem chain_r {M : am_M} {n : Nat} (hn : n ≤ 8) (h0 : M 44 0 = nI n) (c : Int32) : f_X8_isChain_43 c M = some (if ∃ k, k < n ∧ c = nI k then 1 else 0) := by
  unfold f_X8_isChain_43
  rw [clamp0, h0, in_l (b := 0) (c := nI n - 1) c (by decide) rfl]
  have hb := below (n := n) (by omega) c
  by_cases hx : ∃ k, k < n ∧ c = nI k
  · rw [if_pos (hb.mpr hx)]
    simp [hx]
  · rw [if_neg (fun h => hx (hb.mp h))]
    simp [hx]
def cv3 (x : Int32) : Prop := x = 0 ∨ x = 1 ∨ x = 2
/-- the chip as both have it -/
def chp (M : am_M) (n m w b : Nat) : Prop :=
  (n ≤ 8 ∧ m ≤ 8 ∧ w ≤ 8 ∧ 1 ≤ b ∧ b ≤ 12) ∧ (M 9 0 = nI n ∧ M 9 1 = nI m ∧ M 9 2 = nI w ∧ M 9 4 = nI b) ∧ (M 44 0 = nI n ∧ M 44 1 = nI m ∧ M 44 2 = nI w ∧ M 44 3 = M 9 3 ∧ M 44 4 = nI b ∧ M 44 5 = M 9 5 ∧ M 44 6 = M 9 6) ∧ (bit (M 9 3) n ∧ bit (M 9 5) b ∧ bit (M 9 6) 8) ∧
  (∀ c t, c < n → t < m → M 44 (7 + 8 * c + t) = M 10 (8 * c + t) ∧ cv3 (M 10 (8 * c + t))) ∧ (∀ c t, c < n → t < m → M 44 (71 + 8 * c + t) = M 11 (8 * c + t) ∧ cv3 (M 11 (8 * c + t))) ∧ (∀ c, c < n → M 44 (135 + c) = M 12 c ∧ bit (M 12 c) w) ∧ (∀ c, c < n → M 44 (143 + c) = M 13 c ∧ bit (M 13 c) 17)
theorem chp_iff {M : am_M} : crel M 9 44 0 ↔ ∃ n m w b, chp M n m w b := by
  constructor
  · rintro ⟨n, m, w, ⟨hn, hm, hw⟩, ⟨p0, p1, p2⟩, ⟨q0, q1, q2⟩, ⟨q3, q4, q5, q6⟩, ⟨b3, ⟨b, hb1, hb2, hb4, hb5⟩, b6⟩, hcell, hwant, hcol, hsus⟩
    simp only [Nat.zero_add] at q0 q1 q2 q3 q4 q5 q6 hcell hwant hcol hsus
    exact ⟨n, m, w, b, ⟨hn, hm, hw, hb1, hb2⟩, ⟨p0, p1, p2, hb4⟩, ⟨q0, q1, q2, q3, q4.trans hb4, q5, q6⟩, ⟨b3, hb5, b6⟩, hcell, hwant, hcol, hsus⟩
  · rintro ⟨n, m, w, b, ⟨hn, hm, hw, hb1, hb2⟩, ⟨p0, p1, p2, hb4⟩, ⟨q0, q1, q2, q3, q4, q5, q6⟩, ⟨b3, hb5, b6⟩, hcell, hwant, hcol, hsus⟩
    refine ⟨n, m, w, ⟨hn, hm, hw⟩, ⟨p0, p1, p2⟩, ⟨by simpa using q0, by simpa using q1, by simpa using q2⟩, ⟨by simpa using q3, by simpa using q4.trans hb4.symm, by simpa using q5, by simpa using q6⟩, ⟨b3, ⟨b, hb1, hb2, hb4, hb5⟩, b6⟩, ?_, ?_, ?_, ?_⟩
    · intro c t hc ht
      rw [Nat.zero_add]
      exact hcell c t hc ht
    · intro c t hc ht
      rw [Nat.zero_add]
      exact hwant c t hc ht
    · simpa only [Nat.zero_add] using hcol
    · simpa only [Nat.zero_add] using hsus
theorem a_135 (k : Nat) : (135 : Int32) + nI k = nI (135 + k) := nI_add 135 k
theorem a_143 (k : Nat) : (143 : Int32) + nI k = nI (143 + k) := nI_add 143 k
theorem a_at (c t : Nat) : f_X0_at (nI c) (nI t) = nI (8 * c + t) := by
  unfold f_X0_at
  rw [show (8 : Int32) = nI 8 from rfl, pk_mul, nI_add]
theorem a_7 (c t : Nat) : ((7 : Int32) + (8 : Int32) * nI c) + nI t = nI (7 + 8 * c + t) := by
  rw [show (8 : Int32) = nI 8 from rfl, show (7 : Int32) = nI 7 from rfl, pk_mul, nI_add, nI_add]
theorem a_71 (c t : Nat) : ((71 : Int32) + (8 : Int32) * nI c) + nI t = nI (71 + 8 * c + t) := by
  rw [show (8 : Int32) = nI 8 from rfl, show (71 : Int32) = nI 71 from rfl, pk_mul, nI_add, nI_add]
theorem op_column (a0 : Int32) {M : am_M} (h : Rel M) : ∃ v, f_X7_column_0 a0 M = some v ∧ f_X8_column_43 a0 M = some v ∧ Rel M := by
  obtain ⟨n, m, w, b, ⟨hn, hm, hw, hb1, hb2⟩, ⟨p0, p1, p2, p4⟩, ⟨q0, q1, q2, q3, q4, q5, q6⟩, ⟨b3, b5, b6⟩, hcell, hwant, hcol, hsus⟩ := chp_iff.mp h.1
  unfold f_X7_column_0 f_X8_column_43
  rw [chain_r hn q0]
  rcases chain_c hn p0 a0 with ⟨e, k, hk, rfl⟩ | ⟨e, hno⟩
  · refine ⟨M 12 k, ?_, ?_, h⟩
    · rw [e, if_neg (by decide), if_pos (db_ok (by omega) (by omega)), nI_clamp (by omega)]
    · rw [if_pos ⟨k, hk, rfl⟩, Option.bind_some, if_neg (by decide), a_135, if_pos (db_ok (by omega) (by omega)), nI_clamp (by omega), (hcol k hk).1]
  · refine ⟨-1, ?_, ?_, h⟩
    · rw [e, if_pos rfl]
    · rw [if_neg hno, Option.bind_some, if_pos rfl]
theorem op_suspects (a0 : Int32) {M : am_M} (h : Rel M) : ∃ v, f_X7_suspects_0 a0 M = some v ∧ f_X8_suspects_43 a0 M = some v ∧ Rel M := by
  obtain ⟨n, m, w, b, ⟨hn, hm, hw, hb1, hb2⟩, ⟨p0, p1, p2, p4⟩, ⟨q0, q1, q2, q3, q4, q5, q6⟩, ⟨b3, b5, b6⟩, hcell, hwant, hcol, hsus⟩ := chp_iff.mp h.1
  unfold f_X7_suspects_0 f_X8_suspects_43
  rw [chain_r hn q0]
  rcases chain_c hn p0 a0 with ⟨e, k, hk, rfl⟩ | ⟨e, hno⟩
  · refine ⟨M 13 k, ?_, ?_, h⟩
    · rw [e, if_neg (by decide), if_pos (db_ok (by omega) (by omega)), nI_clamp (by omega)]
    · rw [if_pos ⟨k, hk, rfl⟩, Option.bind_some, if_neg (by decide), a_143, if_pos (db_ok (by omega) (by omega)), nI_clamp (by omega), (hsus k hk).1]
  · refine ⟨-1, ?_, ?_, h⟩
    · rw [e, if_pos rfl]
    · rw [if_neg hno, Option.bind_some, if_pos rfl]
theorem op_end (a0 : Int32) {M : am_M} (h : Rel M) : ∃ v M1 M2, f_X7_end_0 a0 M = some (v, M1) ∧ f_X8_end_43 a0 M1 = some (v, M2) ∧ Rel M2 := by
  obtain ⟨hc, hi0, hi1, ⟨l, hl, t1, t2, ht⟩, hf, hs⟩ := h
  unfold f_X7_end_0 f_X8_end_43
  rw [t1]
  by_cases h1 : a0 < 0
  · rw [if_pos h1]
    refine ⟨_, _, M, rfl, ?_, hc, hi0, hi1, ⟨l, hl, t1, t2, ht⟩, hf, hs⟩
    rw [t2, if_pos (in_n (b := 0) (c := nI l) (by decide) rfl (fun h => absurd h1 (Int32.not_lt.mpr h.1)))]
  · rw [if_neg h1]
    obtain ⟨k, hk, rfl⟩ := nI_of h1
    by_cases h2 : nI k ≤ nI l
    · rw [if_pos h2]
      have hkl : k ≤ l := (ni_le hk (by omega)).mp h2
      refine ⟨nI l, _, am_up (am_up M 2 1 (nI k)) 43 12 (nI k), rfl, ?_, ?_⟩
      · rw [up_p (by decide), t2, if_neg (in_y (b := 0) (c := nI l) (by decide) rfl ⟨nI_pos' hk, h2⟩)]
        rfl
      · have hx : ∀ x, x ≠ 2 → x ≠ 43 → am_up (am_up M 2 1 (nI k)) 43 12 (nI k) x = M x := fun x h2 h43 => by rw [am_up_ne h43, am_up_ne h2]
        refine ⟨crel_fr (fun x h => hx x (by omega) (by omega)) hc, ⟨by rw [hx 46 (by decide) (by decide), hx 25 (by decide) (by decide)]; exact hi0.1, ?_⟩, ⟨by rw [hx 46 (by decide) (by decide), hx 25 (by decide) (by decide)]; exact hi1.1, ?_⟩, ⟨k, by omega, ?_, up_s, ?_⟩, ⟨?_, ?_⟩, srel_fr (fun x h => hx x (by omega) (by omega)) hs.1, srel_fr (fun x h => hx x (by omega) (by omega)) hs.2.1, srel_fr (fun x h => hx x (by omega) (by omega)) hs.2.2.1, srel_fr (fun x h => hx x (by omega) (by omega)) hs.2.2.2⟩
        · rw [hx 25 (by decide) (by decide)]
          exact hi0.2.imp id (fun h => ⟨h.1, crel_fr (fun x h => hx x (by omega) (by omega)) h.2⟩)
        · rw [hx 25 (by decide) (by decide)]
          exact hi1.2.imp id (fun h => ⟨h.1, crel_fr (fun x h => hx x (by omega) (by omega)) h.2⟩)
        · rw [up_p (by decide), up_s]
        · intro i hi
          rw [hx 48 (by decide) (by decide), hx 3 (by decide) (by decide)]
          exact ht i (by omega)
        · rw [up_k (by decide), up_p (by decide), hx 0 (by decide) (by decide)]
          exact hf.1
        · rw [up_k (by decide), up_p (by decide), hx 0 (by decide) (by decide)]
          exact hf.2
    · rw [if_neg h2]
      refine ⟨_, _, M, rfl, ?_, hc, hi0, hi1, ⟨l, hl, t1, t2, ht⟩, hf, hs⟩
      rw [t2, if_pos (in_n (b := 0) (c := nI l) (by decide) rfl (fun h => h2 h.2))]
