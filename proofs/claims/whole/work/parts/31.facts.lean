/-! FACTS: cells of the shape -/
theorem el_r {α β γ : Type} {f : α → γ} {g : β → γ} {b : β} : Sum.elim f g (.inr b) = g b := rfl
theorem aal_14_0 : am_aal am_sh 14 0 = some (.ref 15) := by decide +kernel
theorem aal_14_1 : am_aal am_sh 14 1 = some (.ref 20) := by decide +kernel
theorem aal_34_0 : am_aal am_sh 34 0 = some (.ref 35) := by decide +kernel
theorem aal_34_1 : am_aal am_sh 34 1 = some (.ref 37) := by decide +kernel
theorem aal_34_2 : am_aal am_sh 34 2 = some (.ref 39) := by decide +kernel
theorem aal_34_3 : am_aal am_sh 34 3 = some (.ref 41) := by decide +kernel
theorem ba_25 : am_ba am_sh 25 = some (.boolean, 2) := rfl
theorem ba_3 : am_ba am_sh 3 = some (.byte, 160) := rfl
theorem ba_46 : am_ba am_sh 46 = some (.boolean, 2) := rfl
theorem bal_1101 {M : am_M} {i : Int32} (h : am_dbin i 4 = true) : am_bal am_x am_sh M 1101 i = some (([99, 104, 105, 112] : List Int32).getD i.toNatClampNeg 0) := by
  show (if am_dbin i 4 = true then some (([99, 104, 105, 112] : List Int32).getD i.toNatClampNeg 0) else none) = _
  rw [if_pos h]
theorem bal_1102 {M : am_M} {i : Int32} (h : am_dbin i 6 = true) : am_bal am_x am_sh M 1102 i = some (([99, 111, 108, 117, 109, 110] : List Int32).getD i.toNatClampNeg 0) := by
  show (if am_dbin i 6 = true then some (([99, 111, 108, 117, 109, 110] : List Int32).getD i.toNatClampNeg 0) else none) = _
  rw [if_pos h]
theorem bal_1103 {M : am_M} {i : Int32} (h : am_dbin i 3 = true) : am_bal am_x am_sh M 1103 i = some (([111, 117, 116] : List Int32).getD i.toNatClampNeg 0) := by
  show (if am_dbin i 3 = true then some (([111, 117, 116] : List Int32).getD i.toNatClampNeg 0) else none) = _
  rw [if_pos h]
theorem bal_1104 {M : am_M} {i : Int32} (h : am_dbin i 8 = true) : am_bal am_x am_sh M 1104 i = some (([114, 101, 103, 105, 115, 116, 101, 114] : List Int32).getD i.toNatClampNeg 0) := by
  show (if am_dbin i 8 = true then some (([114, 101, 103, 105, 115, 116, 101, 114] : List Int32).getD i.toNatClampNeg 0) else none) = _
  rw [if_pos h]
theorem bal_1105 {M : am_M} {i : Int32} (h : am_dbin i 4 = true) : am_bal am_x am_sh M 1105 i = some (([112, 111, 108, 121] : List Int32).getD i.toNatClampNeg 0) := by
  show (if am_dbin i 4 = true then some (([112, 111, 108, 121] : List Int32).getD i.toNatClampNeg 0) else none) = _
  rw [if_pos h]
theorem bal_1106 {M : am_M} {i : Int32} (h : am_dbin i 4 = true) : am_bal am_x am_sh M 1106 i = some (([99, 101, 108, 108] : List Int32).getD i.toNatClampNeg 0) := by
  show (if am_dbin i 4 = true then some (([99, 101, 108, 108] : List Int32).getD i.toNatClampNeg 0) else none) = _
  rw [if_pos h]
theorem gf_0_0 (M : am_M) : am_gf am_x am_sh M 0 7 0 = some (.ref 1) := rfl
theorem gf_0_1 (M : am_M) : am_gf am_x am_sh M 0 7 1 = some (.int (M 0 1)) := rfl
theorem gf_0_2 (M : am_M) : am_gf am_x am_sh M 0 7 2 = some (.ref 9) := rfl
theorem gf_0_3 (M : am_M) : am_gf am_x am_sh M 0 7 3 = some (.ref 14) := rfl
theorem gf_0_4 (M : am_M) : am_gf am_x am_sh M 0 7 4 = some (.ref 25) := rfl
theorem gf_0_5 (M : am_M) : am_gf am_x am_sh M 0 7 5 = some (.ref 26) := rfl
theorem gf_0_6 (M : am_M) : am_gf am_x am_sh M 0 7 6 = some (.ref 30) := rfl
theorem gf_0_7 (M : am_M) : am_gf am_x am_sh M 0 7 7 = some (.ref 34) := rfl
theorem gf_0_8 (M : am_M) : am_gf am_x am_sh M 0 7 8 = some (.int (M 0 8)) := rfl
theorem gf_15_0 (M : am_M) : am_gf am_x am_sh M 15 0 0 = some (.int (M 15 0)) := rfl
theorem gf_15_1 (M : am_M) : am_gf am_x am_sh M 15 0 1 = some (.int (M 15 1)) := rfl
theorem gf_15_10 (M : am_M) : am_gf am_x am_sh M 15 0 10 = some (.ref 19) := rfl
theorem gf_15_2 (M : am_M) : am_gf am_x am_sh M 15 0 2 = some (.int (M 15 2)) := rfl
theorem gf_15_3 (M : am_M) : am_gf am_x am_sh M 15 0 3 = some (.int (M 15 3)) := rfl
theorem gf_15_4 (M : am_M) : am_gf am_x am_sh M 15 0 4 = some (.int (M 15 4)) := rfl
theorem gf_15_5 (M : am_M) : am_gf am_x am_sh M 15 0 5 = some (.int (M 15 5)) := rfl
theorem gf_15_6 (M : am_M) : am_gf am_x am_sh M 15 0 6 = some (.int (M 15 6)) := rfl
theorem gf_15_7 (M : am_M) : am_gf am_x am_sh M 15 0 7 = some (.ref 16) := rfl
theorem gf_15_8 (M : am_M) : am_gf am_x am_sh M 15 0 8 = some (.ref 17) := rfl
theorem gf_15_9 (M : am_M) : am_gf am_x am_sh M 15 0 9 = some (.ref 18) := rfl
theorem gf_1_0 (M : am_M) : am_gf am_x am_sh M 1 6 0 = some (.ref 2) := rfl
theorem gf_1_1 (M : am_M) : am_gf am_x am_sh M 1 6 1 = some (.ref 4) := rfl
theorem gf_1_2 (M : am_M) : am_gf am_x am_sh M 1 6 2 = some (.int (M 1 2)) := rfl
theorem gf_1_3 (M : am_M) : am_gf am_x am_sh M 1 6 3 = some (.int (M 1 3)) := rfl
theorem gf_1_4 (M : am_M) : am_gf am_x am_sh M 1 6 4 = some (.int (M 1 4)) := rfl
theorem gf_1_5 (M : am_M) : am_gf am_x am_sh M 1 6 5 = some (.int (M 1 5)) := rfl
theorem gf_1_6 (M : am_M) : am_gf am_x am_sh M 1 6 6 = some (.int (M 1 6)) := rfl
theorem gf_1_7 (M : am_M) : am_gf am_x am_sh M 1 6 7 = some (.int (M 1 7)) := rfl
theorem gf_1_8 (M : am_M) : am_gf am_x am_sh M 1 6 8 = some (.int (M 1 8)) := rfl
theorem gf_1_9 (M : am_M) : am_gf am_x am_sh M 1 6 9 = some (.int (M 1 9)) := rfl
theorem gf_20_0 (M : am_M) : am_gf am_x am_sh M 20 0 0 = some (.int (M 20 0)) := rfl
theorem gf_20_1 (M : am_M) : am_gf am_x am_sh M 20 0 1 = some (.int (M 20 1)) := rfl
theorem gf_20_10 (M : am_M) : am_gf am_x am_sh M 20 0 10 = some (.ref 24) := rfl
theorem gf_20_2 (M : am_M) : am_gf am_x am_sh M 20 0 2 = some (.int (M 20 2)) := rfl
theorem gf_20_3 (M : am_M) : am_gf am_x am_sh M 20 0 3 = some (.int (M 20 3)) := rfl
theorem gf_20_4 (M : am_M) : am_gf am_x am_sh M 20 0 4 = some (.int (M 20 4)) := rfl
theorem gf_20_5 (M : am_M) : am_gf am_x am_sh M 20 0 5 = some (.int (M 20 5)) := rfl
theorem gf_20_6 (M : am_M) : am_gf am_x am_sh M 20 0 6 = some (.int (M 20 6)) := rfl
theorem gf_20_7 (M : am_M) : am_gf am_x am_sh M 20 0 7 = some (.ref 21) := rfl
theorem gf_20_8 (M : am_M) : am_gf am_x am_sh M 20 0 8 = some (.ref 22) := rfl
theorem gf_20_9 (M : am_M) : am_gf am_x am_sh M 20 0 9 = some (.ref 23) := rfl
theorem gf_26_0 (M : am_M) : am_gf am_x am_sh M 26 2 0 = some (.ref 27) := rfl
theorem gf_26_1 (M : am_M) : am_gf am_x am_sh M 26 2 1 = some (.ref 28) := rfl
theorem gf_26_2 (M : am_M) : am_gf am_x am_sh M 26 2 2 = some (.int (M 26 2)) := rfl
theorem gf_26_3 (M : am_M) : am_gf am_x am_sh M 26 2 3 = some (.int (M 26 3)) := rfl
theorem gf_28_0 (M : am_M) : am_gf am_x am_sh M 28 1 0 = some (.ref 29) := rfl
theorem gf_28_1 (M : am_M) : am_gf am_x am_sh M 28 1 1 = some (.int (M 28 1)) := rfl
theorem gf_28_2 (M : am_M) : am_gf am_x am_sh M 28 1 2 = some (.int (M 28 2)) := rfl
theorem gf_2_0 (M : am_M) : am_gf am_x am_sh M 2 5 0 = some (.ref 3) := rfl
theorem gf_2_1 (M : am_M) : am_gf am_x am_sh M 2 5 1 = some (.int (M 2 1)) := rfl
theorem gf_2_2 (M : am_M) : am_gf am_x am_sh M 2 5 2 = some (.int (M 2 2)) := rfl
theorem gf_2_3 (M : am_M) : am_gf am_x am_sh M 2 5 3 = some (.int (M 2 3)) := rfl
theorem gf_2_4 (M : am_M) : am_gf am_x am_sh M 2 5 4 = some (.int (M 2 4)) := rfl
theorem gf_2_5 (M : am_M) : am_gf am_x am_sh M 2 5 5 = some (.int (M 2 5)) := rfl
theorem gf_30_0 (M : am_M) : am_gf am_x am_sh M 30 4 0 = some (.ref 31) := rfl
theorem gf_30_1 (M : am_M) : am_gf am_x am_sh M 30 4 1 = some (.ref 32) := rfl
theorem gf_30_2 (M : am_M) : am_gf am_x am_sh M 30 4 2 = some (.int (M 30 2)) := rfl
theorem gf_32_0 (M : am_M) : am_gf am_x am_sh M 32 1 0 = some (.ref 33) := rfl
theorem gf_32_1 (M : am_M) : am_gf am_x am_sh M 32 1 1 = some (.int (M 32 1)) := rfl
theorem gf_35_0 (M : am_M) : am_gf am_x am_sh M 35 3 0 = some (.int (M 35 0)) := rfl
theorem gf_35_1 (M : am_M) : am_gf am_x am_sh M 35 3 1 = some (.int (M 35 1)) := rfl
theorem gf_35_2 (M : am_M) : am_gf am_x am_sh M 35 3 2 = some (.ref 36) := rfl
theorem gf_37_0 (M : am_M) : am_gf am_x am_sh M 37 3 0 = some (.int (M 37 0)) := rfl
theorem gf_37_1 (M : am_M) : am_gf am_x am_sh M 37 3 1 = some (.int (M 37 1)) := rfl
theorem gf_37_2 (M : am_M) : am_gf am_x am_sh M 37 3 2 = some (.ref 38) := rfl
theorem gf_39_0 (M : am_M) : am_gf am_x am_sh M 39 3 0 = some (.int (M 39 0)) := rfl
theorem gf_39_1 (M : am_M) : am_gf am_x am_sh M 39 3 1 = some (.int (M 39 1)) := rfl
theorem gf_39_2 (M : am_M) : am_gf am_x am_sh M 39 3 2 = some (.ref 40) := rfl
theorem gf_41_0 (M : am_M) : am_gf am_x am_sh M 41 3 0 = some (.int (M 41 0)) := rfl
theorem gf_41_1 (M : am_M) : am_gf am_x am_sh M 41 3 1 = some (.int (M 41 1)) := rfl
theorem gf_41_2 (M : am_M) : am_gf am_x am_sh M 41 3 2 = some (.ref 42) := rfl
theorem gf_43_0 (M : am_M) : am_gf am_x am_sh M 43 8 0 = some (.ref 44) := rfl
theorem gf_43_1 (M : am_M) : am_gf am_x am_sh M 43 8 1 = some (.ref 45) := rfl
theorem gf_43_10 (M : am_M) : am_gf am_x am_sh M 43 8 10 = some (.int (M 43 10)) := rfl
theorem gf_43_11 (M : am_M) : am_gf am_x am_sh M 43 8 11 = some (.ref 48) := rfl
theorem gf_43_12 (M : am_M) : am_gf am_x am_sh M 43 8 12 = some (.int (M 43 12)) := rfl
theorem gf_43_13 (M : am_M) : am_gf am_x am_sh M 43 8 13 = some (.int (M 43 13)) := rfl
theorem gf_43_14 (M : am_M) : am_gf am_x am_sh M 43 8 14 = some (.int (M 43 14)) := rfl
theorem gf_43_15 (M : am_M) : am_gf am_x am_sh M 43 8 15 = some (.int (M 43 15)) := rfl
theorem gf_43_16 (M : am_M) : am_gf am_x am_sh M 43 8 16 = some (.int (M 43 16)) := rfl
theorem gf_43_17 (M : am_M) : am_gf am_x am_sh M 43 8 17 = some (.int (M 43 17)) := rfl
theorem gf_43_18 (M : am_M) : am_gf am_x am_sh M 43 8 18 = some (.int (M 43 18)) := rfl
theorem gf_43_19 (M : am_M) : am_gf am_x am_sh M 43 8 19 = some (.int (M 43 19)) := rfl
theorem gf_43_2 (M : am_M) : am_gf am_x am_sh M 43 8 2 = some (.ref 46) := rfl
theorem gf_43_20 (M : am_M) : am_gf am_x am_sh M 43 8 20 = some (.int (M 43 20)) := rfl
theorem gf_43_21 (M : am_M) : am_gf am_x am_sh M 43 8 21 = some (.ref 49) := rfl
theorem gf_43_22 (M : am_M) : am_gf am_x am_sh M 43 8 22 = some (.int (M 43 22)) := rfl
theorem gf_43_23 (M : am_M) : am_gf am_x am_sh M 43 8 23 = some (.ref 50) := rfl
theorem gf_43_24 (M : am_M) : am_gf am_x am_sh M 43 8 24 = some (.ref 51) := rfl
theorem gf_43_25 (M : am_M) : am_gf am_x am_sh M 43 8 25 = some (.ref 52) := rfl
theorem gf_43_26 (M : am_M) : am_gf am_x am_sh M 43 8 26 = some (.ref 53) := rfl
theorem gf_43_27 (M : am_M) : am_gf am_x am_sh M 43 8 27 = some (.ref 54) := rfl
theorem gf_43_28 (M : am_M) : am_gf am_x am_sh M 43 8 28 = some (.ref 55) := rfl
theorem gf_43_29 (M : am_M) : am_gf am_x am_sh M 43 8 29 = some (.ref 56) := rfl
theorem gf_43_3 (M : am_M) : am_gf am_x am_sh M 43 8 3 = some (.ref 47) := rfl
theorem gf_43_30 (M : am_M) : am_gf am_x am_sh M 43 8 30 = some (.int (M 43 30)) := rfl
theorem gf_43_4 (M : am_M) : am_gf am_x am_sh M 43 8 4 = some (.int (M 43 4)) := rfl
theorem gf_43_5 (M : am_M) : am_gf am_x am_sh M 43 8 5 = some (.int (M 43 5)) := rfl
theorem gf_43_6 (M : am_M) : am_gf am_x am_sh M 43 8 6 = some (.int (M 43 6)) := rfl
theorem gf_43_7 (M : am_M) : am_gf am_x am_sh M 43 8 7 = some (.int (M 43 7)) := rfl
theorem gf_43_8 (M : am_M) : am_gf am_x am_sh M 43 8 8 = some (.int (M 43 8)) := rfl
theorem gf_43_9 (M : am_M) : am_gf am_x am_sh M 43 8 9 = some (.int (M 43 9)) := rfl
theorem gf_4_0 (M : am_M) : am_gf am_x am_sh M 4 0 0 = some (.int (M 4 0)) := rfl
theorem gf_4_1 (M : am_M) : am_gf am_x am_sh M 4 0 1 = some (.int (M 4 1)) := rfl
theorem gf_4_10 (M : am_M) : am_gf am_x am_sh M 4 0 10 = some (.ref 8) := rfl
theorem gf_4_2 (M : am_M) : am_gf am_x am_sh M 4 0 2 = some (.int (M 4 2)) := rfl
theorem gf_4_3 (M : am_M) : am_gf am_x am_sh M 4 0 3 = some (.int (M 4 3)) := rfl
theorem gf_4_4 (M : am_M) : am_gf am_x am_sh M 4 0 4 = some (.int (M 4 4)) := rfl
theorem gf_4_5 (M : am_M) : am_gf am_x am_sh M 4 0 5 = some (.int (M 4 5)) := rfl
theorem gf_4_6 (M : am_M) : am_gf am_x am_sh M 4 0 6 = some (.int (M 4 6)) := rfl
theorem gf_4_7 (M : am_M) : am_gf am_x am_sh M 4 0 7 = some (.ref 5) := rfl
theorem gf_4_8 (M : am_M) : am_gf am_x am_sh M 4 0 8 = some (.ref 6) := rfl
theorem gf_4_9 (M : am_M) : am_gf am_x am_sh M 4 0 9 = some (.ref 7) := rfl
theorem gf_9_0 (M : am_M) : am_gf am_x am_sh M 9 0 0 = some (.int (M 9 0)) := rfl
theorem gf_9_1 (M : am_M) : am_gf am_x am_sh M 9 0 1 = some (.int (M 9 1)) := rfl
theorem gf_9_10 (M : am_M) : am_gf am_x am_sh M 9 0 10 = some (.ref 13) := rfl
theorem gf_9_2 (M : am_M) : am_gf am_x am_sh M 9 0 2 = some (.int (M 9 2)) := rfl
theorem gf_9_3 (M : am_M) : am_gf am_x am_sh M 9 0 3 = some (.int (M 9 3)) := rfl
theorem gf_9_4 (M : am_M) : am_gf am_x am_sh M 9 0 4 = some (.int (M 9 4)) := rfl
theorem gf_9_5 (M : am_M) : am_gf am_x am_sh M 9 0 5 = some (.int (M 9 5)) := rfl
theorem gf_9_6 (M : am_M) : am_gf am_x am_sh M 9 0 6 = some (.int (M 9 6)) := rfl
theorem gf_9_7 (M : am_M) : am_gf am_x am_sh M 9 0 7 = some (.ref 10) := rfl
theorem gf_9_8 (M : am_M) : am_gf am_x am_sh M 9 0 8 = some (.ref 11) := rfl
theorem gf_9_9 (M : am_M) : am_gf am_x am_sh M 9 0 9 = some (.ref 12) := rfl
theorem ia_10 : am_ia .int am_sh 10 = some 64 := rfl
theorem ia_11 : am_ia .int am_sh 11 = some 64 := rfl
theorem ia_12 : am_ia .int am_sh 12 = some 8 := rfl
theorem ia_13 : am_ia .int am_sh 13 = some 8 := rfl
theorem ia_16 : am_ia .int am_sh 16 = some 64 := rfl
theorem ia_18 : am_ia .int am_sh 18 = some 8 := rfl
theorem ia_21 : am_ia .int am_sh 21 = some 64 := rfl
theorem ia_23 : am_ia .int am_sh 23 = some 8 := rfl
theorem ia_27 : am_ia .int am_sh 27 = some 12 := rfl
theorem ia_29 : am_ia .int am_sh 29 = some 12 := rfl
theorem ia_31 : am_ia .int am_sh 31 = some 64 := rfl
theorem ia_33 : am_ia .int am_sh 33 = some 12 := rfl
theorem ia_36 : am_ia .int am_sh 36 = some 40 := rfl
theorem ia_38 : am_ia .int am_sh 38 = some 40 := rfl
theorem ia_40 : am_ia .int am_sh 40 = some 40 := rfl
theorem ia_42 : am_ia .int am_sh 42 = some 40 := rfl
theorem ia_44 : am_ia .int am_sh 44 = some 151 := rfl
theorem ia_45 : am_ia .int am_sh 45 = some 302 := rfl
theorem ia_47 : am_ia .int am_sh 47 = some 151 := rfl
theorem ia_48 : am_ia .int am_sh 48 = some 160 := rfl
theorem ia_49 : am_ia .int am_sh 49 = some 64 := rfl
theorem ia_5 : am_ia .int am_sh 5 = some 64 := rfl
theorem ia_50 : am_ia .int am_sh 50 = some 8 := rfl
theorem ia_51 : am_ia .int am_sh 51 = some 151 := rfl
theorem ia_52 : am_ia .int am_sh 52 = some 64 := rfl
theorem ia_53 : am_ia .int am_sh 53 = some 64 := rfl
theorem ia_54 : am_ia .int am_sh 54 = some 4 := rfl
theorem ia_55 : am_ia .int am_sh 55 = some 4 := rfl
theorem ia_56 : am_ia .int am_sh 56 = some 160 := rfl
theorem ia_6 : am_ia .int am_sh 6 = some 64 := rfl
theorem ia_7 : am_ia .int am_sh 7 = some 8 := rfl
theorem ia_8 : am_ia .int am_sh 8 = some 8 := rfl
theorem pf_0_1 {M M2 : am_M} {v : Int32} (h : M2 = am_up M 0 1 v) : am_pf am_sh M 0 7 1 (.int 0) (.int v) = some (am_sh, M2) := by subst h; rfl
theorem pf_0_8 {M M2 : am_M} {v : Int32} (h : M2 = am_up M 0 8 v) : am_pf am_sh M 0 7 8 (.int 0) (.int v) = some (am_sh, M2) := by subst h; rfl
theorem pf_15_0 {M M2 : am_M} {v : Int32} (h : M2 = am_up M 15 0 v) : am_pf am_sh M 15 0 0 (.int 0) (.int v) = some (am_sh, M2) := by subst h; rfl
theorem pf_15_1 {M M2 : am_M} {v : Int32} (h : M2 = am_up M 15 1 v) : am_pf am_sh M 15 0 1 (.int 0) (.int v) = some (am_sh, M2) := by subst h; rfl
theorem pf_15_2 {M M2 : am_M} {v : Int32} (h : M2 = am_up M 15 2 v) : am_pf am_sh M 15 0 2 (.int 0) (.int v) = some (am_sh, M2) := by subst h; rfl
theorem pf_15_3 {M M2 : am_M} {v : Int32} (h : M2 = am_up M 15 3 v) : am_pf am_sh M 15 0 3 (.int 0) (.int v) = some (am_sh, M2) := by subst h; rfl
theorem pf_15_4 {M M2 : am_M} {v : Int32} (h : M2 = am_up M 15 4 v) : am_pf am_sh M 15 0 4 (.int 0) (.int v) = some (am_sh, M2) := by subst h; rfl
theorem pf_15_5 {M M2 : am_M} {v : Int32} (h : M2 = am_up M 15 5 v) : am_pf am_sh M 15 0 5 (.int 0) (.int v) = some (am_sh, M2) := by subst h; rfl
theorem pf_15_6 {M M2 : am_M} {v : Int32} (h : M2 = am_up M 15 6 v) : am_pf am_sh M 15 0 6 (.int 0) (.int v) = some (am_sh, M2) := by subst h; rfl
theorem pf_1_2 {M M2 : am_M} {v : Int32} (h : M2 = am_up M 1 2 v) : am_pf am_sh M 1 6 2 (.int 0) (.int v) = some (am_sh, M2) := by subst h; rfl
theorem pf_1_3 {M M2 : am_M} {v : Int32} (h : M2 = am_up M 1 3 v) : am_pf am_sh M 1 6 3 (.int 0) (.int v) = some (am_sh, M2) := by subst h; rfl
theorem pf_1_4 {M M2 : am_M} {v : Int32} (h : M2 = am_up M 1 4 v) : am_pf am_sh M 1 6 4 (.int 0) (.int v) = some (am_sh, M2) := by subst h; rfl
theorem pf_1_5 {M M2 : am_M} {v : Int32} (h : M2 = am_up M 1 5 v) : am_pf am_sh M 1 6 5 (.int 0) (.int v) = some (am_sh, M2) := by subst h; rfl
theorem pf_1_6 {M M2 : am_M} {v : Int32} (h : M2 = am_up M 1 6 v) : am_pf am_sh M 1 6 6 (.int 0) (.int v) = some (am_sh, M2) := by subst h; rfl
theorem pf_1_7 {M M2 : am_M} {v : Int32} (h : M2 = am_up M 1 7 v) : am_pf am_sh M 1 6 7 (.int 0) (.int v) = some (am_sh, M2) := by subst h; rfl
theorem pf_1_8 {M M2 : am_M} {v : Int32} (h : M2 = am_up M 1 8 v) : am_pf am_sh M 1 6 8 (.int 0) (.int v) = some (am_sh, M2) := by subst h; rfl
theorem pf_1_9 {M M2 : am_M} {v : Int32} (h : M2 = am_up M 1 9 v) : am_pf am_sh M 1 6 9 (.int 0) (.int v) = some (am_sh, M2) := by subst h; rfl
theorem pf_20_0 {M M2 : am_M} {v : Int32} (h : M2 = am_up M 20 0 v) : am_pf am_sh M 20 0 0 (.int 0) (.int v) = some (am_sh, M2) := by subst h; rfl
theorem pf_20_1 {M M2 : am_M} {v : Int32} (h : M2 = am_up M 20 1 v) : am_pf am_sh M 20 0 1 (.int 0) (.int v) = some (am_sh, M2) := by subst h; rfl
theorem pf_20_2 {M M2 : am_M} {v : Int32} (h : M2 = am_up M 20 2 v) : am_pf am_sh M 20 0 2 (.int 0) (.int v) = some (am_sh, M2) := by subst h; rfl
theorem pf_20_3 {M M2 : am_M} {v : Int32} (h : M2 = am_up M 20 3 v) : am_pf am_sh M 20 0 3 (.int 0) (.int v) = some (am_sh, M2) := by subst h; rfl
theorem pf_20_4 {M M2 : am_M} {v : Int32} (h : M2 = am_up M 20 4 v) : am_pf am_sh M 20 0 4 (.int 0) (.int v) = some (am_sh, M2) := by subst h; rfl
theorem pf_20_5 {M M2 : am_M} {v : Int32} (h : M2 = am_up M 20 5 v) : am_pf am_sh M 20 0 5 (.int 0) (.int v) = some (am_sh, M2) := by subst h; rfl
theorem pf_20_6 {M M2 : am_M} {v : Int32} (h : M2 = am_up M 20 6 v) : am_pf am_sh M 20 0 6 (.int 0) (.int v) = some (am_sh, M2) := by subst h; rfl
theorem pf_26_2 {M M2 : am_M} {v : Int32} (h : M2 = am_up M 26 2 v) : am_pf am_sh M 26 2 2 (.int 0) (.int v) = some (am_sh, M2) := by subst h; rfl
theorem pf_26_3 {M M2 : am_M} {v : Int32} (h : M2 = am_up M 26 3 v) : am_pf am_sh M 26 2 3 (.int 0) (.int v) = some (am_sh, M2) := by subst h; rfl
theorem pf_28_1 {M M2 : am_M} {v : Int32} (h : M2 = am_up M 28 1 v) : am_pf am_sh M 28 1 1 (.int 0) (.int v) = some (am_sh, M2) := by subst h; rfl
theorem pf_28_2 {M M2 : am_M} {v : Int32} (hv : v = 0 ∨ v = 1) (h : M2 = am_up M 28 2 v) : am_pf am_sh M 28 1 2 (.int 1) (.int v) = some (am_sh, M2) := by
  subst h
  show (if v = 0 ∨ v = 1 then some (am_sh, am_up M 28 2 v) else none) = _
  rw [if_pos hv]
theorem pf_2_1 {M M2 : am_M} {v : Int32} (h : M2 = am_up M 2 1 v) : am_pf am_sh M 2 5 1 (.int 0) (.int v) = some (am_sh, M2) := by subst h; rfl
theorem pf_2_2 {M M2 : am_M} {v : Int32} (h : M2 = am_up M 2 2 v) : am_pf am_sh M 2 5 2 (.int 0) (.int v) = some (am_sh, M2) := by subst h; rfl
theorem pf_2_3 {M M2 : am_M} {v : Int32} (h : M2 = am_up M 2 3 v) : am_pf am_sh M 2 5 3 (.int 0) (.int v) = some (am_sh, M2) := by subst h; rfl
theorem pf_2_4 {M M2 : am_M} {v : Int32} (h : M2 = am_up M 2 4 v) : am_pf am_sh M 2 5 4 (.int 0) (.int v) = some (am_sh, M2) := by subst h; rfl
theorem pf_2_5 {M M2 : am_M} {v : Int32} (h : M2 = am_up M 2 5 v) : am_pf am_sh M 2 5 5 (.int 0) (.int v) = some (am_sh, M2) := by subst h; rfl
theorem pf_30_2 {M M2 : am_M} {v : Int32} (h : M2 = am_up M 30 2 v) : am_pf am_sh M 30 4 2 (.int 0) (.int v) = some (am_sh, M2) := by subst h; rfl
theorem pf_32_1 {M M2 : am_M} {v : Int32} (h : M2 = am_up M 32 1 v) : am_pf am_sh M 32 1 1 (.int 0) (.int v) = some (am_sh, M2) := by subst h; rfl
theorem pf_32_2 {M M2 : am_M} {v : Int32} (hv : v = 0 ∨ v = 1) (h : M2 = am_up M 32 2 v) : am_pf am_sh M 32 1 2 (.int 1) (.int v) = some (am_sh, M2) := by
  subst h
  show (if v = 0 ∨ v = 1 then some (am_sh, am_up M 32 2 v) else none) = _
  rw [if_pos hv]
theorem pf_35_0 {M M2 : am_M} {v : Int32} (h : M2 = am_up M 35 0 v) : am_pf am_sh M 35 3 0 (.int 0) (.int v) = some (am_sh, M2) := by subst h; rfl
theorem pf_35_1 {M M2 : am_M} {v : Int32} (h : M2 = am_up M 35 1 v) : am_pf am_sh M 35 3 1 (.int 0) (.int v) = some (am_sh, M2) := by subst h; rfl
theorem pf_37_0 {M M2 : am_M} {v : Int32} (h : M2 = am_up M 37 0 v) : am_pf am_sh M 37 3 0 (.int 0) (.int v) = some (am_sh, M2) := by subst h; rfl
theorem pf_37_1 {M M2 : am_M} {v : Int32} (h : M2 = am_up M 37 1 v) : am_pf am_sh M 37 3 1 (.int 0) (.int v) = some (am_sh, M2) := by subst h; rfl
theorem pf_39_0 {M M2 : am_M} {v : Int32} (h : M2 = am_up M 39 0 v) : am_pf am_sh M 39 3 0 (.int 0) (.int v) = some (am_sh, M2) := by subst h; rfl
theorem pf_39_1 {M M2 : am_M} {v : Int32} (h : M2 = am_up M 39 1 v) : am_pf am_sh M 39 3 1 (.int 0) (.int v) = some (am_sh, M2) := by subst h; rfl
theorem pf_41_0 {M M2 : am_M} {v : Int32} (h : M2 = am_up M 41 0 v) : am_pf am_sh M 41 3 0 (.int 0) (.int v) = some (am_sh, M2) := by subst h; rfl
theorem pf_41_1 {M M2 : am_M} {v : Int32} (h : M2 = am_up M 41 1 v) : am_pf am_sh M 41 3 1 (.int 0) (.int v) = some (am_sh, M2) := by subst h; rfl
theorem pf_43_10 {M M2 : am_M} {v : Int32} (hv : v = 0 ∨ v = 1) (h : M2 = am_up M 43 10 v) : am_pf am_sh M 43 8 10 (.int 1) (.int v) = some (am_sh, M2) := by
  subst h
  show (if v = 0 ∨ v = 1 then some (am_sh, am_up M 43 10 v) else none) = _
  rw [if_pos hv]
theorem pf_43_12 {M M2 : am_M} {v : Int32} (h : M2 = am_up M 43 12 v) : am_pf am_sh M 43 8 12 (.int 0) (.int v) = some (am_sh, M2) := by subst h; rfl
theorem pf_43_13 {M M2 : am_M} {v : Int32} (h : M2 = am_up M 43 13 v) : am_pf am_sh M 43 8 13 (.int 0) (.int v) = some (am_sh, M2) := by subst h; rfl
theorem pf_43_14 {M M2 : am_M} {v : Int32} (h : M2 = am_up M 43 14 v) : am_pf am_sh M 43 8 14 (.int 0) (.int v) = some (am_sh, M2) := by subst h; rfl
theorem pf_43_15 {M M2 : am_M} {v : Int32} (h : M2 = am_up M 43 15 v) : am_pf am_sh M 43 8 15 (.int 0) (.int v) = some (am_sh, M2) := by subst h; rfl
theorem pf_43_16 {M M2 : am_M} {v : Int32} (h : M2 = am_up M 43 16 v) : am_pf am_sh M 43 8 16 (.int 0) (.int v) = some (am_sh, M2) := by subst h; rfl
theorem pf_43_17 {M M2 : am_M} {v : Int32} (h : M2 = am_up M 43 17 v) : am_pf am_sh M 43 8 17 (.int 0) (.int v) = some (am_sh, M2) := by subst h; rfl
theorem pf_43_18 {M M2 : am_M} {v : Int32} (h : M2 = am_up M 43 18 v) : am_pf am_sh M 43 8 18 (.int 0) (.int v) = some (am_sh, M2) := by subst h; rfl
theorem pf_43_19 {M M2 : am_M} {v : Int32} (h : M2 = am_up M 43 19 v) : am_pf am_sh M 43 8 19 (.int 0) (.int v) = some (am_sh, M2) := by subst h; rfl
theorem pf_43_20 {M M2 : am_M} {v : Int32} (h : M2 = am_up M 43 20 v) : am_pf am_sh M 43 8 20 (.int 0) (.int v) = some (am_sh, M2) := by subst h; rfl
theorem pf_43_22 {M M2 : am_M} {v : Int32} (h : M2 = am_up M 43 22 v) : am_pf am_sh M 43 8 22 (.int 0) (.int v) = some (am_sh, M2) := by subst h; rfl
theorem pf_43_30 {M M2 : am_M} {v : Int32} (h : M2 = am_up M 43 30 v) : am_pf am_sh M 43 8 30 (.int 0) (.int v) = some (am_sh, M2) := by subst h; rfl
theorem pf_43_4 {M M2 : am_M} {v : Int32} (hv : v = 0 ∨ v = 1) (h : M2 = am_up M 43 4 v) : am_pf am_sh M 43 8 4 (.int 1) (.int v) = some (am_sh, M2) := by
  subst h
  show (if v = 0 ∨ v = 1 then some (am_sh, am_up M 43 4 v) else none) = _
  rw [if_pos hv]
theorem pf_43_5 {M M2 : am_M} {v : Int32} (hv : v = 0 ∨ v = 1) (h : M2 = am_up M 43 5 v) : am_pf am_sh M 43 8 5 (.int 1) (.int v) = some (am_sh, M2) := by
  subst h
  show (if v = 0 ∨ v = 1 then some (am_sh, am_up M 43 5 v) else none) = _
  rw [if_pos hv]
theorem pf_43_6 {M M2 : am_M} {v : Int32} (hv : v = 0 ∨ v = 1) (h : M2 = am_up M 43 6 v) : am_pf am_sh M 43 8 6 (.int 1) (.int v) = some (am_sh, M2) := by
  subst h
  show (if v = 0 ∨ v = 1 then some (am_sh, am_up M 43 6 v) else none) = _
  rw [if_pos hv]
theorem pf_43_7 {M M2 : am_M} {v : Int32} (h : M2 = am_up M 43 7 v) : am_pf am_sh M 43 8 7 (.int 0) (.int v) = some (am_sh, M2) := by subst h; rfl
theorem pf_43_8 {M M2 : am_M} {v : Int32} (h : M2 = am_up M 43 8 v) : am_pf am_sh M 43 8 8 (.int 0) (.int v) = some (am_sh, M2) := by subst h; rfl
theorem pf_43_9 {M M2 : am_M} {v : Int32} (h : M2 = am_up M 43 9 v) : am_pf am_sh M 43 8 9 (.int 0) (.int v) = some (am_sh, M2) := by subst h; rfl
theorem pf_4_0 {M M2 : am_M} {v : Int32} (h : M2 = am_up M 4 0 v) : am_pf am_sh M 4 0 0 (.int 0) (.int v) = some (am_sh, M2) := by subst h; rfl
theorem pf_4_1 {M M2 : am_M} {v : Int32} (h : M2 = am_up M 4 1 v) : am_pf am_sh M 4 0 1 (.int 0) (.int v) = some (am_sh, M2) := by subst h; rfl
theorem pf_4_2 {M M2 : am_M} {v : Int32} (h : M2 = am_up M 4 2 v) : am_pf am_sh M 4 0 2 (.int 0) (.int v) = some (am_sh, M2) := by subst h; rfl
theorem pf_4_3 {M M2 : am_M} {v : Int32} (h : M2 = am_up M 4 3 v) : am_pf am_sh M 4 0 3 (.int 0) (.int v) = some (am_sh, M2) := by subst h; rfl
theorem pf_4_4 {M M2 : am_M} {v : Int32} (h : M2 = am_up M 4 4 v) : am_pf am_sh M 4 0 4 (.int 0) (.int v) = some (am_sh, M2) := by subst h; rfl
theorem pf_4_5 {M M2 : am_M} {v : Int32} (h : M2 = am_up M 4 5 v) : am_pf am_sh M 4 0 5 (.int 0) (.int v) = some (am_sh, M2) := by subst h; rfl
theorem pf_4_6 {M M2 : am_M} {v : Int32} (h : M2 = am_up M 4 6 v) : am_pf am_sh M 4 0 6 (.int 0) (.int v) = some (am_sh, M2) := by subst h; rfl
theorem pf_9_0 {M M2 : am_M} {v : Int32} (h : M2 = am_up M 9 0 v) : am_pf am_sh M 9 0 0 (.int 0) (.int v) = some (am_sh, M2) := by subst h; rfl
theorem pf_9_1 {M M2 : am_M} {v : Int32} (h : M2 = am_up M 9 1 v) : am_pf am_sh M 9 0 1 (.int 0) (.int v) = some (am_sh, M2) := by subst h; rfl
theorem pf_9_2 {M M2 : am_M} {v : Int32} (h : M2 = am_up M 9 2 v) : am_pf am_sh M 9 0 2 (.int 0) (.int v) = some (am_sh, M2) := by subst h; rfl
theorem pf_9_3 {M M2 : am_M} {v : Int32} (h : M2 = am_up M 9 3 v) : am_pf am_sh M 9 0 3 (.int 0) (.int v) = some (am_sh, M2) := by subst h; rfl
theorem pf_9_4 {M M2 : am_M} {v : Int32} (h : M2 = am_up M 9 4 v) : am_pf am_sh M 9 0 4 (.int 0) (.int v) = some (am_sh, M2) := by subst h; rfl
theorem pf_9_5 {M M2 : am_M} {v : Int32} (h : M2 = am_up M 9 5 v) : am_pf am_sh M 9 0 5 (.int 0) (.int v) = some (am_sh, M2) := by subst h; rfl
theorem pf_9_6 {M M2 : am_M} {v : Int32} (h : M2 = am_up M 9 6 v) : am_pf am_sh M 9 0 6 (.int 0) (.int v) = some (am_sh, M2) := by subst h; rfl
