/-! OPS: the short ones -/
theorem op_fault {M : am_M} (h : Rel M) : ∃ v, f_X7_fault_0 M = v ∧ f_X8_fault_43 M = v ∧ Rel M := ⟨_, rfl, h.2.2.2.2.1.1, h⟩
theorem op_torn {M : am_M} (h : Rel M) : ∃ v, f_X7_torn_0 M = v ∧ f_X8_torn_43 M = v ∧ Rel M := ⟨_, rfl, h.2.2.2.2.1.2, h⟩
/-- a chain, asked by the class and by the reference -/
theorem chain_c {M : am_M} {n : Nat} (hn : n ≤ 8) (h0 : M 9 0 = nI n) (c : Int32) : (f_X0_hasChain_9 c M = 1 ∧ ∃ k, k < n ∧ c = nI k) ∨ (f_X0_hasChain_9 c M = 0 ∧ ¬ ∃ k, k < n ∧ c = nI k) := by
  unfold f_X0_hasChain_9
  by_cases h1 : c < 0
  · right
    rw [if_pos h1]
    refine ⟨rfl, ?_⟩
    rintro ⟨k, hk, rfl⟩
    exact absurd h1 (nI_pos (by omega))
  · rw [if_neg h1, h0]
    obtain ⟨k, hk, rfl⟩ := nI_of h1
    by_cases h2 : nI n ≤ nI k
    · right
      rw [if_pos h2]
      refine ⟨rfl, ?_⟩
      rintro ⟨j, hj, e⟩
      rw [nI_eq hk (by omega)] at e
      rw [ni_le (by omega) hk] at h2
      omega
    · left
      rw [if_neg h2]
      rw [ni_le (by omega) hk] at h2
      exact ⟨rfl, k, by omega, rfl⟩
theorem clamp0 : (0 : Int32).toNatClampNeg = 0 := by decide
theorem clamp1 : (1 : Int32).toNatClampNeg = 1 := by decide
theorem clamp2 : (2 : Int32).toNatClampNeg = 2 := by decide
theorem clamp3 : (3 : Int32).toNatClampNeg = 3 := by decide
theorem clamp4 : (4 : Int32).toNatClampNeg = 4 := by decide
theorem clamp5 : (5 : Int32).toNatClampNeg = 5 := by decide
theorem clamp6 : (6 : Int32).toNatClampNeg = 6 := by decide
/-- 0 ≤ c ≤ nI n - 1 -/
theorem below {n : Nat} (hn : n < 2 ^ 30) (c : Int32) : (0 ≤ c ∧ c ≤ nI n - 1) ↔ ∃ k, k < n ∧ c = nI k := by
  constructor
  · rintro ⟨h1, h2⟩
    obtain ⟨k, hk, rfl⟩ := nI_of (x := c) (by rw [Int32.lt_iff_toInt_lt]; rw [Int32.le_iff_toInt_le] at h1; omega)
    refine ⟨k, ?_, rfl⟩
    rw [Int32.le_iff_toInt_le, show (1 : Int32) = nI 1 from rfl, nI_toInt hk, pk_sub_toInt hn (by omega)] at h2
    omega
  · rintro ⟨k, hk, rfl⟩
    refine ⟨nI_pos' (by omega), ?_⟩
    rw [Int32.le_iff_toInt_le, show (1 : Int32) = nI 1 from rfl, nI_toInt (by omega), pk_sub_toInt hn (by omega)]
    omega
theorem chain_r {M : am_M} {n : Nat} (hn : n ≤ 8) (h0 : M 44 0 = nI n) (c : Int32) : f_X8_isChain_43 c M = some (if ∃ k, k < n ∧ c = nI k then 1 else 0) := by
  unfold f_X8_isChain_43
  rw [clamp0, h0, in_l (b := 0) (c := nI n - 1) c (by decide) rfl]
  have hb := below (n := n) (by omega) c
  by_cases hx : ∃ k, k < n ∧ c = nI k
  · rw [if_pos (hb.mpr hx)]
    simp [hx]
  · rw [if_neg (fun h => hx (hb.mp h))]
    simp [hx]
