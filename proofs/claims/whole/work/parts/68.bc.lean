/-! BIT COUNTS, UP TO 17 BITS -/
def bcq (q : Nat) : Bool := (List.range 16).all (fun h => (List.range 256).all (fun l => bcN (4096 * q + (256 * h + l)) == cntN (4096 * q + (256 * h + l)) 20))
set_option maxRecDepth 100000 in
theorem bcq_0 : bcq 0 = true := by decide +kernel
set_option maxRecDepth 100000 in
theorem bcq_1 : bcq 1 = true := by decide +kernel
set_option maxRecDepth 100000 in
theorem bcq_2 : bcq 2 = true := by decide +kernel
set_option maxRecDepth 100000 in
theorem bcq_3 : bcq 3 = true := by decide +kernel
set_option maxRecDepth 100000 in
theorem bcq_4 : bcq 4 = true := by decide +kernel
set_option maxRecDepth 100000 in
theorem bcq_5 : bcq 5 = true := by decide +kernel
set_option maxRecDepth 100000 in
theorem bcq_6 : bcq 6 = true := by decide +kernel
set_option maxRecDepth 100000 in
theorem bcq_7 : bcq 7 = true := by decide +kernel
set_option maxRecDepth 100000 in
theorem bcq_8 : bcq 8 = true := by decide +kernel
set_option maxRecDepth 100000 in
theorem bcq_9 : bcq 9 = true := by decide +kernel
set_option maxRecDepth 100000 in
theorem bcq_10 : bcq 10 = true := by decide +kernel
set_option maxRecDepth 100000 in
theorem bcq_11 : bcq 11 = true := by decide +kernel
set_option maxRecDepth 100000 in
theorem bcq_12 : bcq 12 = true := by decide +kernel
set_option maxRecDepth 100000 in
theorem bcq_13 : bcq 13 = true := by decide +kernel
set_option maxRecDepth 100000 in
theorem bcq_14 : bcq 14 = true := by decide +kernel
set_option maxRecDepth 100000 in
theorem bcq_15 : bcq 15 = true := by decide +kernel
set_option maxRecDepth 100000 in
theorem bcq_16 : bcq 16 = true := by decide +kernel
set_option maxRecDepth 100000 in
theorem bcq_17 : bcq 17 = true := by decide +kernel
set_option maxRecDepth 100000 in
theorem bcq_18 : bcq 18 = true := by decide +kernel
set_option maxRecDepth 100000 in
theorem bcq_19 : bcq 19 = true := by decide +kernel
set_option maxRecDepth 100000 in
theorem bcq_20 : bcq 20 = true := by decide +kernel
set_option maxRecDepth 100000 in
theorem bcq_21 : bcq 21 = true := by decide +kernel
set_option maxRecDepth 100000 in
theorem bcq_22 : bcq 22 = true := by decide +kernel
set_option maxRecDepth 100000 in
theorem bcq_23 : bcq 23 = true := by decide +kernel
set_option maxRecDepth 100000 in
theorem bcq_24 : bcq 24 = true := by decide +kernel
set_option maxRecDepth 100000 in
theorem bcq_25 : bcq 25 = true := by decide +kernel
set_option maxRecDepth 100000 in
theorem bcq_26 : bcq 26 = true := by decide +kernel
set_option maxRecDepth 100000 in
theorem bcq_27 : bcq 27 = true := by decide +kernel
set_option maxRecDepth 100000 in
theorem bcq_28 : bcq 28 = true := by decide +kernel
set_option maxRecDepth 100000 in
theorem bcq_29 : bcq 29 = true := by decide +kernel
set_option maxRecDepth 100000 in
theorem bcq_30 : bcq 30 = true := by decide +kernel
set_option maxRecDepth 100000 in
theorem bcq_31 : bcq 31 = true := by decide +kernel
theorem bcq_all : ∀ q, q < 32 → bcq q = true
  | 0, _ => bcq_0
  | 1, _ => bcq_1
  | 2, _ => bcq_2
  | 3, _ => bcq_3
  | 4, _ => bcq_4
  | 5, _ => bcq_5
  | 6, _ => bcq_6
  | 7, _ => bcq_7
  | 8, _ => bcq_8
  | 9, _ => bcq_9
  | 10, _ => bcq_10
  | 11, _ => bcq_11
  | 12, _ => bcq_12
  | 13, _ => bcq_13
  | 14, _ => bcq_14
  | 15, _ => bcq_15
  | 16, _ => bcq_16
  | 17, _ => bcq_17
  | 18, _ => bcq_18
  | 19, _ => bcq_19
  | 20, _ => bcq_20
  | 21, _ => bcq_21
  | 22, _ => bcq_22
  | 23, _ => bcq_23
  | 24, _ => bcq_24
  | 25, _ => bcq_25
  | 26, _ => bcq_26
  | 27, _ => bcq_27
  | 28, _ => bcq_28
  | 29, _ => bcq_29
  | 30, _ => bcq_30
  | 31, _ => bcq_31
  | q + 32, h => absurd h (by omega)
theorem bc_17 {a : Nat} (ha : a < 2 ^ 17) : f_J6_bitCount_0f7a4 (nI a) = nI (cntN a 20) := by
  rw [bc_N ha]
  have h0 := bcq_all (a / 4096) (by omega)
  unfold bcq at h0
  have h1 := List.all_eq_true.mp h0 (a % 4096 / 256) (List.mem_range.mpr (by omega))
  have h2 := List.all_eq_true.mp h1 (a % 256) (List.mem_range.mpr (by omega))
  have h3 : 4096 * (a / 4096) + (256 * (a % 4096 / 256) + a % 256) = a := by omega
  rw [h3] at h2
  rw [beq_iff_eq.mp h2]
