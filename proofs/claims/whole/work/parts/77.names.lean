/-! NAMES OF LINES -/
def mtc (g : Nat → Nat) : Nat → List Nat → Bool
  | _, [] => true
  | q, a :: t => decide (g q = a) && mtc g (q + 1) t
def nm (g : Nat → Nat) (l q : Nat) (w : List Nat) : Bool := decide (en g l q - q = w.length) && mtc g q w
theorem mtc_d {g : Nat → Nat} {q : Nat} {w : List Nat} {i : Nat} (h : i < w.length) : mtc g (q + i) (w.drop i) = (decide (g (q + i) = w.getD i 0) && mtc g (q + (i + 1)) (w.drop (i + 1))) := by
  rw [List.drop_eq_getElem_cons h, List.getD_eq_getElem?_getD, List.getElem?_eq_getElem h]
  rfl
theorem len_1001 : f_J0_length_8abf5_1001 = some (nI 4) := by decide
theorem ch_1001 : ∀ i, i < 4 → f_J0_charAt_5068e_1001 (nI i) = some (nI (([99, 104, 105, 112] : List Nat).getD i 0)) := by decide
theorem isn_1001 {M : am_M} {g : Nat → Nat} {l q : Nat} (hB : BY M g l) (hg : BG g l) (hq : q ≤ l) (hT : TC M g l q) : f_X5_isName_2_1001 M = some (nI (b01 (decide (kd g l q = 1) && nm g l q [99, 104, 105, 112]))) := by
  have hl := hg.1
  have henb := en_b (g := g) (l := l) (q := q) hq
  have hk4 := kd_le (g := g) (l := l) (q := q)
  obtain ⟨h4, h2, h3, -⟩ := hT
  unfold f_X5_isName_2_1001
  rw [h3, h2, h4, sub_n henb.1, len_1001, Option.bind_some]
  by_cases e1 : kd g l q = 1
  · rw [if_pos (by rw [e1]; rfl), decide_eq_true e1, Bool.true_and]
    unfold nm
    by_cases e2 : en g l q - q = 4
    · rw [if_pos (by rw [e2]), decide_eq_true (show en g l q - q = ([99, 104, 105, 112] : List Nat).length from e2), Bool.true_and]
      have key : ∃ r, ((lp (σ := Int32) (ρ := (Int32) ⊕ (Int32)) (fun x5 => ((some (nI 4)).bind (fun v6 => (if v6 ≤ x5 then (some (.inr (.inr x5))) else (if am_dbin (nI q + x5) 160 = true then ((f_J0_charAt_5068e_1001 x5).bind (fun v9 => (if (M 3 (nI q + x5).toNatClampNeg) = v9 then (some (.inl (x5 + 1))) else (some (.inr (.inl 0)))))) else none))))) lp_F 0).bind (fun os11 => Sum.elim (fun u => (some u)) (fun x12 => (some 1)) os11)) = some r ∧ r = nI (b01 (mtc g q [99, 104, 105, 112])) := by
        refine lp_bnd (fun r => r) (fun i s => s = nI i ∧ mtc g (q + i) (([99, 104, 105, 112] : List Nat).drop i) = mtc g q [99, 104, 105, 112]) (fun s => (s = .inl 0 ∧ mtc g q [99, 104, 105, 112] = false) ∨ (∃ y, s = .inr y ∧ mtc g q [99, 104, 105, 112] = true)) (n := 4) (lpF (by omega)) ⟨rfl, rfl⟩ ?_ ?_ ?_
        · rintro i s hi ⟨rfl, hm⟩
          have hlt : q + i < l := by omega
          have h8 := hg.2 (q + i) hlt
          have hc : ([99, 104, 105, 112] : List Nat).getD i 0 < 128 := by
            have : ∀ i, i < 4 → ([99, 104, 105, 112] : List Nat).getD i 0 < 128 := by decide
            exact this i hi
          rw [Option.bind_some, if_neg (nle_n hi (by omega)), nI_add, if_pos (db_ok (by omega) (by omega)), ch_1001 i hi, Option.bind_some, nI_clamp (by omega), hB.2 _ hlt, nI_s]
          rw [mtc_d (show i < ([99, 104, 105, 112] : List Nat).length from hi)] at hm
          by_cases e : g (q + i) = ([99, 104, 105, 112] : List Nat).getD i 0
          · rw [if_pos (by rw [e])]
            rw [decide_eq_true e, Bool.true_and] at hm
            exact Or.inl ⟨_, rfl, rfl, hm⟩
          · rw [if_neg (nI_ne (by omega) (by omega) e)]
            rw [decide_eq_false e, Bool.false_and] at hm
            exact Or.inr ⟨_, rfl, Or.inl ⟨rfl, hm.symm⟩⟩
        · rintro s ⟨rfl, hm⟩
          rw [Option.bind_some, if_pos (nle_y (Nat.le_refl _) (by omega))]
          exact ⟨_, rfl, Or.inr ⟨_, rfl, hm.symm⟩⟩
        · rintro s (⟨rfl, hm⟩ | ⟨y, rfl, hm⟩)
          · exact ⟨_, rfl, by rw [hm]; rfl⟩
          · exact ⟨_, rfl, by rw [hm]; rfl⟩
      obtain ⟨r, hr, rfl⟩ := key
      exact hr
    · rw [if_neg (nI_ne (by omega) (by omega) e2), decide_eq_false (show ¬ en g l q - q = ([99, 104, 105, 112] : List Nat).length from e2)]
      rfl
  · rw [if_neg (c := nI (kd g l q) = 1) (nI_ne (b := 1) (by omega) (by omega) e1), decide_eq_false e1]
    rfl
theorem len_1002 : f_J0_length_8abf5_1002 = some (nI 6) := by decide
theorem ch_1002 : ∀ i, i < 6 → f_J0_charAt_5068e_1002 (nI i) = some (nI (([99, 111, 108, 117, 109, 110] : List Nat).getD i 0)) := by decide
theorem isn_1002 {M : am_M} {g : Nat → Nat} {l q : Nat} (hB : BY M g l) (hg : BG g l) (hq : q ≤ l) (hT : TC M g l q) : f_X5_isName_2_1002 M = some (nI (b01 (decide (kd g l q = 1) && nm g l q [99, 111, 108, 117, 109, 110]))) := by
  have hl := hg.1
  have henb := en_b (g := g) (l := l) (q := q) hq
  have hk4 := kd_le (g := g) (l := l) (q := q)
  obtain ⟨h4, h2, h3, -⟩ := hT
  unfold f_X5_isName_2_1002
  rw [h3, h2, h4, sub_n henb.1, len_1002, Option.bind_some]
  by_cases e1 : kd g l q = 1
  · rw [if_pos (by rw [e1]; rfl), decide_eq_true e1, Bool.true_and]
    unfold nm
    by_cases e2 : en g l q - q = 6
    · rw [if_pos (by rw [e2]), decide_eq_true (show en g l q - q = ([99, 111, 108, 117, 109, 110] : List Nat).length from e2), Bool.true_and]
      have key : ∃ r, ((lp (σ := Int32) (ρ := (Int32) ⊕ (Int32)) (fun x5 => ((some (nI 6)).bind (fun v6 => (if v6 ≤ x5 then (some (.inr (.inr x5))) else (if am_dbin (nI q + x5) 160 = true then ((f_J0_charAt_5068e_1002 x5).bind (fun v9 => (if (M 3 (nI q + x5).toNatClampNeg) = v9 then (some (.inl (x5 + 1))) else (some (.inr (.inl 0)))))) else none))))) lp_F 0).bind (fun os11 => Sum.elim (fun u => (some u)) (fun x12 => (some 1)) os11)) = some r ∧ r = nI (b01 (mtc g q [99, 111, 108, 117, 109, 110])) := by
        refine lp_bnd (fun r => r) (fun i s => s = nI i ∧ mtc g (q + i) (([99, 111, 108, 117, 109, 110] : List Nat).drop i) = mtc g q [99, 111, 108, 117, 109, 110]) (fun s => (s = .inl 0 ∧ mtc g q [99, 111, 108, 117, 109, 110] = false) ∨ (∃ y, s = .inr y ∧ mtc g q [99, 111, 108, 117, 109, 110] = true)) (n := 6) (lpF (by omega)) ⟨rfl, rfl⟩ ?_ ?_ ?_
        · rintro i s hi ⟨rfl, hm⟩
          have hlt : q + i < l := by omega
          have h8 := hg.2 (q + i) hlt
          have hc : ([99, 111, 108, 117, 109, 110] : List Nat).getD i 0 < 128 := by
            have : ∀ i, i < 6 → ([99, 111, 108, 117, 109, 110] : List Nat).getD i 0 < 128 := by decide
            exact this i hi
          rw [Option.bind_some, if_neg (nle_n hi (by omega)), nI_add, if_pos (db_ok (by omega) (by omega)), ch_1002 i hi, Option.bind_some, nI_clamp (by omega), hB.2 _ hlt, nI_s]
          rw [mtc_d (show i < ([99, 111, 108, 117, 109, 110] : List Nat).length from hi)] at hm
          by_cases e : g (q + i) = ([99, 111, 108, 117, 109, 110] : List Nat).getD i 0
          · rw [if_pos (by rw [e])]
            rw [decide_eq_true e, Bool.true_and] at hm
            exact Or.inl ⟨_, rfl, rfl, hm⟩
          · rw [if_neg (nI_ne (by omega) (by omega) e)]
            rw [decide_eq_false e, Bool.false_and] at hm
            exact Or.inr ⟨_, rfl, Or.inl ⟨rfl, hm.symm⟩⟩
        · rintro s ⟨rfl, hm⟩
          rw [Option.bind_some, if_pos (nle_y (Nat.le_refl _) (by omega))]
          exact ⟨_, rfl, Or.inr ⟨_, rfl, hm.symm⟩⟩
        · rintro s (⟨rfl, hm⟩ | ⟨y, rfl, hm⟩)
          · exact ⟨_, rfl, by rw [hm]; rfl⟩
          · exact ⟨_, rfl, by rw [hm]; rfl⟩
      obtain ⟨r, hr, rfl⟩ := key
      exact hr
    · rw [if_neg (nI_ne (by omega) (by omega) e2), decide_eq_false (show ¬ en g l q - q = ([99, 111, 108, 117, 109, 110] : List Nat).length from e2)]
      rfl
  · rw [if_neg (c := nI (kd g l q) = 1) (nI_ne (b := 1) (by omega) (by omega) e1), decide_eq_false e1]
    rfl
theorem len_1003 : f_J0_length_8abf5_1003 = some (nI 3) := by decide
theorem ch_1003 : ∀ i, i < 3 → f_J0_charAt_5068e_1003 (nI i) = some (nI (([111, 117, 116] : List Nat).getD i 0)) := by decide
theorem isn_1003 {M : am_M} {g : Nat → Nat} {l q : Nat} (hB : BY M g l) (hg : BG g l) (hq : q ≤ l) (hT : TC M g l q) : f_X5_isName_2_1003 M = some (nI (b01 (decide (kd g l q = 1) && nm g l q [111, 117, 116]))) := by
  have hl := hg.1
  have henb := en_b (g := g) (l := l) (q := q) hq
  have hk4 := kd_le (g := g) (l := l) (q := q)
  obtain ⟨h4, h2, h3, -⟩ := hT
  unfold f_X5_isName_2_1003
  rw [h3, h2, h4, sub_n henb.1, len_1003, Option.bind_some]
  by_cases e1 : kd g l q = 1
  · rw [if_pos (by rw [e1]; rfl), decide_eq_true e1, Bool.true_and]
    unfold nm
    by_cases e2 : en g l q - q = 3
    · rw [if_pos (by rw [e2]), decide_eq_true (show en g l q - q = ([111, 117, 116] : List Nat).length from e2), Bool.true_and]
      have key : ∃ r, ((lp (σ := Int32) (ρ := (Int32) ⊕ (Int32)) (fun x5 => ((some (nI 3)).bind (fun v6 => (if v6 ≤ x5 then (some (.inr (.inr x5))) else (if am_dbin (nI q + x5) 160 = true then ((f_J0_charAt_5068e_1003 x5).bind (fun v9 => (if (M 3 (nI q + x5).toNatClampNeg) = v9 then (some (.inl (x5 + 1))) else (some (.inr (.inl 0)))))) else none))))) lp_F 0).bind (fun os11 => Sum.elim (fun u => (some u)) (fun x12 => (some 1)) os11)) = some r ∧ r = nI (b01 (mtc g q [111, 117, 116])) := by
        refine lp_bnd (fun r => r) (fun i s => s = nI i ∧ mtc g (q + i) (([111, 117, 116] : List Nat).drop i) = mtc g q [111, 117, 116]) (fun s => (s = .inl 0 ∧ mtc g q [111, 117, 116] = false) ∨ (∃ y, s = .inr y ∧ mtc g q [111, 117, 116] = true)) (n := 3) (lpF (by omega)) ⟨rfl, rfl⟩ ?_ ?_ ?_
        · rintro i s hi ⟨rfl, hm⟩
          have hlt : q + i < l := by omega
          have h8 := hg.2 (q + i) hlt
          have hc : ([111, 117, 116] : List Nat).getD i 0 < 128 := by
            have : ∀ i, i < 3 → ([111, 117, 116] : List Nat).getD i 0 < 128 := by decide
            exact this i hi
          rw [Option.bind_some, if_neg (nle_n hi (by omega)), nI_add, if_pos (db_ok (by omega) (by omega)), ch_1003 i hi, Option.bind_some, nI_clamp (by omega), hB.2 _ hlt, nI_s]
          rw [mtc_d (show i < ([111, 117, 116] : List Nat).length from hi)] at hm
          by_cases e : g (q + i) = ([111, 117, 116] : List Nat).getD i 0
          · rw [if_pos (by rw [e])]
            rw [decide_eq_true e, Bool.true_and] at hm
            exact Or.inl ⟨_, rfl, rfl, hm⟩
          · rw [if_neg (nI_ne (by omega) (by omega) e)]
            rw [decide_eq_false e, Bool.false_and] at hm
            exact Or.inr ⟨_, rfl, Or.inl ⟨rfl, hm.symm⟩⟩
        · rintro s ⟨rfl, hm⟩
          rw [Option.bind_some, if_pos (nle_y (Nat.le_refl _) (by omega))]
          exact ⟨_, rfl, Or.inr ⟨_, rfl, hm.symm⟩⟩
        · rintro s (⟨rfl, hm⟩ | ⟨y, rfl, hm⟩)
          · exact ⟨_, rfl, by rw [hm]; rfl⟩
          · exact ⟨_, rfl, by rw [hm]; rfl⟩
      obtain ⟨r, hr, rfl⟩ := key
      exact hr
    · rw [if_neg (nI_ne (by omega) (by omega) e2), decide_eq_false (show ¬ en g l q - q = ([111, 117, 116] : List Nat).length from e2)]
      rfl
  · rw [if_neg (c := nI (kd g l q) = 1) (nI_ne (b := 1) (by omega) (by omega) e1), decide_eq_false e1]
    rfl
theorem len_1004 : f_J0_length_8abf5_1004 = some (nI 8) := by decide
theorem ch_1004 : ∀ i, i < 8 → f_J0_charAt_5068e_1004 (nI i) = some (nI (([114, 101, 103, 105, 115, 116, 101, 114] : List Nat).getD i 0)) := by decide
theorem isn_1004 {M : am_M} {g : Nat → Nat} {l q : Nat} (hB : BY M g l) (hg : BG g l) (hq : q ≤ l) (hT : TC M g l q) : f_X5_isName_2_1004 M = some (nI (b01 (decide (kd g l q = 1) && nm g l q [114, 101, 103, 105, 115, 116, 101, 114]))) := by
  have hl := hg.1
  have henb := en_b (g := g) (l := l) (q := q) hq
  have hk4 := kd_le (g := g) (l := l) (q := q)
  obtain ⟨h4, h2, h3, -⟩ := hT
  unfold f_X5_isName_2_1004
  rw [h3, h2, h4, sub_n henb.1, len_1004, Option.bind_some]
  by_cases e1 : kd g l q = 1
  · rw [if_pos (by rw [e1]; rfl), decide_eq_true e1, Bool.true_and]
    unfold nm
    by_cases e2 : en g l q - q = 8
    · rw [if_pos (by rw [e2]), decide_eq_true (show en g l q - q = ([114, 101, 103, 105, 115, 116, 101, 114] : List Nat).length from e2), Bool.true_and]
      have key : ∃ r, ((lp (σ := Int32) (ρ := (Int32) ⊕ (Int32)) (fun x5 => ((some (nI 8)).bind (fun v6 => (if v6 ≤ x5 then (some (.inr (.inr x5))) else (if am_dbin (nI q + x5) 160 = true then ((f_J0_charAt_5068e_1004 x5).bind (fun v9 => (if (M 3 (nI q + x5).toNatClampNeg) = v9 then (some (.inl (x5 + 1))) else (some (.inr (.inl 0)))))) else none))))) lp_F 0).bind (fun os11 => Sum.elim (fun u => (some u)) (fun x12 => (some 1)) os11)) = some r ∧ r = nI (b01 (mtc g q [114, 101, 103, 105, 115, 116, 101, 114])) := by
        refine lp_bnd (fun r => r) (fun i s => s = nI i ∧ mtc g (q + i) (([114, 101, 103, 105, 115, 116, 101, 114] : List Nat).drop i) = mtc g q [114, 101, 103, 105, 115, 116, 101, 114]) (fun s => (s = .inl 0 ∧ mtc g q [114, 101, 103, 105, 115, 116, 101, 114] = false) ∨ (∃ y, s = .inr y ∧ mtc g q [114, 101, 103, 105, 115, 116, 101, 114] = true)) (n := 8) (lpF (by omega)) ⟨rfl, rfl⟩ ?_ ?_ ?_
        · rintro i s hi ⟨rfl, hm⟩
          have hlt : q + i < l := by omega
          have h8 := hg.2 (q + i) hlt
          have hc : ([114, 101, 103, 105, 115, 116, 101, 114] : List Nat).getD i 0 < 128 := by
            have : ∀ i, i < 8 → ([114, 101, 103, 105, 115, 116, 101, 114] : List Nat).getD i 0 < 128 := by decide
            exact this i hi
          rw [Option.bind_some, if_neg (nle_n hi (by omega)), nI_add, if_pos (db_ok (by omega) (by omega)), ch_1004 i hi, Option.bind_some, nI_clamp (by omega), hB.2 _ hlt, nI_s]
          rw [mtc_d (show i < ([114, 101, 103, 105, 115, 116, 101, 114] : List Nat).length from hi)] at hm
          by_cases e : g (q + i) = ([114, 101, 103, 105, 115, 116, 101, 114] : List Nat).getD i 0
          · rw [if_pos (by rw [e])]
            rw [decide_eq_true e, Bool.true_and] at hm
            exact Or.inl ⟨_, rfl, rfl, hm⟩
          · rw [if_neg (nI_ne (by omega) (by omega) e)]
            rw [decide_eq_false e, Bool.false_and] at hm
            exact Or.inr ⟨_, rfl, Or.inl ⟨rfl, hm.symm⟩⟩
        · rintro s ⟨rfl, hm⟩
          rw [Option.bind_some, if_pos (nle_y (Nat.le_refl _) (by omega))]
          exact ⟨_, rfl, Or.inr ⟨_, rfl, hm.symm⟩⟩
        · rintro s (⟨rfl, hm⟩ | ⟨y, rfl, hm⟩)
          · exact ⟨_, rfl, by rw [hm]; rfl⟩
          · exact ⟨_, rfl, by rw [hm]; rfl⟩
      obtain ⟨r, hr, rfl⟩ := key
      exact hr
    · rw [if_neg (nI_ne (by omega) (by omega) e2), decide_eq_false (show ¬ en g l q - q = ([114, 101, 103, 105, 115, 116, 101, 114] : List Nat).length from e2)]
      rfl
  · rw [if_neg (c := nI (kd g l q) = 1) (nI_ne (b := 1) (by omega) (by omega) e1), decide_eq_false e1]
    rfl
theorem len_1005 : f_J0_length_8abf5_1005 = some (nI 4) := by decide
theorem ch_1005 : ∀ i, i < 4 → f_J0_charAt_5068e_1005 (nI i) = some (nI (([112, 111, 108, 121] : List Nat).getD i 0)) := by decide
theorem isn_1005 {M : am_M} {g : Nat → Nat} {l q : Nat} (hB : BY M g l) (hg : BG g l) (hq : q ≤ l) (hT : TC M g l q) : f_X5_isName_2_1005 M = some (nI (b01 (decide (kd g l q = 1) && nm g l q [112, 111, 108, 121]))) := by
  have hl := hg.1
  have henb := en_b (g := g) (l := l) (q := q) hq
  have hk4 := kd_le (g := g) (l := l) (q := q)
  obtain ⟨h4, h2, h3, -⟩ := hT
  unfold f_X5_isName_2_1005
  rw [h3, h2, h4, sub_n henb.1, len_1005, Option.bind_some]
  by_cases e1 : kd g l q = 1
  · rw [if_pos (by rw [e1]; rfl), decide_eq_true e1, Bool.true_and]
    unfold nm
    by_cases e2 : en g l q - q = 4
    · rw [if_pos (by rw [e2]), decide_eq_true (show en g l q - q = ([112, 111, 108, 121] : List Nat).length from e2), Bool.true_and]
      have key : ∃ r, ((lp (σ := Int32) (ρ := (Int32) ⊕ (Int32)) (fun x5 => ((some (nI 4)).bind (fun v6 => (if v6 ≤ x5 then (some (.inr (.inr x5))) else (if am_dbin (nI q + x5) 160 = true then ((f_J0_charAt_5068e_1005 x5).bind (fun v9 => (if (M 3 (nI q + x5).toNatClampNeg) = v9 then (some (.inl (x5 + 1))) else (some (.inr (.inl 0)))))) else none))))) lp_F 0).bind (fun os11 => Sum.elim (fun u => (some u)) (fun x12 => (some 1)) os11)) = some r ∧ r = nI (b01 (mtc g q [112, 111, 108, 121])) := by
        refine lp_bnd (fun r => r) (fun i s => s = nI i ∧ mtc g (q + i) (([112, 111, 108, 121] : List Nat).drop i) = mtc g q [112, 111, 108, 121]) (fun s => (s = .inl 0 ∧ mtc g q [112, 111, 108, 121] = false) ∨ (∃ y, s = .inr y ∧ mtc g q [112, 111, 108, 121] = true)) (n := 4) (lpF (by omega)) ⟨rfl, rfl⟩ ?_ ?_ ?_
        · rintro i s hi ⟨rfl, hm⟩
          have hlt : q + i < l := by omega
          have h8 := hg.2 (q + i) hlt
          have hc : ([112, 111, 108, 121] : List Nat).getD i 0 < 128 := by
            have : ∀ i, i < 4 → ([112, 111, 108, 121] : List Nat).getD i 0 < 128 := by decide
            exact this i hi
          rw [Option.bind_some, if_neg (nle_n hi (by omega)), nI_add, if_pos (db_ok (by omega) (by omega)), ch_1005 i hi, Option.bind_some, nI_clamp (by omega), hB.2 _ hlt, nI_s]
          rw [mtc_d (show i < ([112, 111, 108, 121] : List Nat).length from hi)] at hm
          by_cases e : g (q + i) = ([112, 111, 108, 121] : List Nat).getD i 0
          · rw [if_pos (by rw [e])]
            rw [decide_eq_true e, Bool.true_and] at hm
            exact Or.inl ⟨_, rfl, rfl, hm⟩
          · rw [if_neg (nI_ne (by omega) (by omega) e)]
            rw [decide_eq_false e, Bool.false_and] at hm
            exact Or.inr ⟨_, rfl, Or.inl ⟨rfl, hm.symm⟩⟩
        · rintro s ⟨rfl, hm⟩
          rw [Option.bind_some, if_pos (nle_y (Nat.le_refl _) (by omega))]
          exact ⟨_, rfl, Or.inr ⟨_, rfl, hm.symm⟩⟩
        · rintro s (⟨rfl, hm⟩ | ⟨y, rfl, hm⟩)
          · exact ⟨_, rfl, by rw [hm]; rfl⟩
          · exact ⟨_, rfl, by rw [hm]; rfl⟩
      obtain ⟨r, hr, rfl⟩ := key
      exact hr
    · rw [if_neg (nI_ne (by omega) (by omega) e2), decide_eq_false (show ¬ en g l q - q = ([112, 111, 108, 121] : List Nat).length from e2)]
      rfl
  · rw [if_neg (c := nI (kd g l q) = 1) (nI_ne (b := 1) (by omega) (by omega) e1), decide_eq_false e1]
    rfl
theorem len_1006 : f_J0_length_8abf5_1006 = some (nI 4) := by decide
theorem ch_1006 : ∀ i, i < 4 → f_J0_charAt_5068e_1006 (nI i) = some (nI (([99, 101, 108, 108] : List Nat).getD i 0)) := by decide
theorem isn_1006 {M : am_M} {g : Nat → Nat} {l q : Nat} (hB : BY M g l) (hg : BG g l) (hq : q ≤ l) (hT : TC M g l q) : f_X5_isName_2_1006 M = some (nI (b01 (decide (kd g l q = 1) && nm g l q [99, 101, 108, 108]))) := by
  have hl := hg.1
  have henb := en_b (g := g) (l := l) (q := q) hq
  have hk4 := kd_le (g := g) (l := l) (q := q)
  obtain ⟨h4, h2, h3, -⟩ := hT
  unfold f_X5_isName_2_1006
  rw [h3, h2, h4, sub_n henb.1, len_1006, Option.bind_some]
  by_cases e1 : kd g l q = 1
  · rw [if_pos (by rw [e1]; rfl), decide_eq_true e1, Bool.true_and]
    unfold nm
    by_cases e2 : en g l q - q = 4
    · rw [if_pos (by rw [e2]), decide_eq_true (show en g l q - q = ([99, 101, 108, 108] : List Nat).length from e2), Bool.true_and]
      have key : ∃ r, ((lp (σ := Int32) (ρ := (Int32) ⊕ (Int32)) (fun x5 => ((some (nI 4)).bind (fun v6 => (if v6 ≤ x5 then (some (.inr (.inr x5))) else (if am_dbin (nI q + x5) 160 = true then ((f_J0_charAt_5068e_1006 x5).bind (fun v9 => (if (M 3 (nI q + x5).toNatClampNeg) = v9 then (some (.inl (x5 + 1))) else (some (.inr (.inl 0)))))) else none))))) lp_F 0).bind (fun os11 => Sum.elim (fun u => (some u)) (fun x12 => (some 1)) os11)) = some r ∧ r = nI (b01 (mtc g q [99, 101, 108, 108])) := by
        refine lp_bnd (fun r => r) (fun i s => s = nI i ∧ mtc g (q + i) (([99, 101, 108, 108] : List Nat).drop i) = mtc g q [99, 101, 108, 108]) (fun s => (s = .inl 0 ∧ mtc g q [99, 101, 108, 108] = false) ∨ (∃ y, s = .inr y ∧ mtc g q [99, 101, 108, 108] = true)) (n := 4) (lpF (by omega)) ⟨rfl, rfl⟩ ?_ ?_ ?_
        · rintro i s hi ⟨rfl, hm⟩
          have hlt : q + i < l := by omega
          have h8 := hg.2 (q + i) hlt
          have hc : ([99, 101, 108, 108] : List Nat).getD i 0 < 128 := by
            have : ∀ i, i < 4 → ([99, 101, 108, 108] : List Nat).getD i 0 < 128 := by decide
            exact this i hi
          rw [Option.bind_some, if_neg (nle_n hi (by omega)), nI_add, if_pos (db_ok (by omega) (by omega)), ch_1006 i hi, Option.bind_some, nI_clamp (by omega), hB.2 _ hlt, nI_s]
          rw [mtc_d (show i < ([99, 101, 108, 108] : List Nat).length from hi)] at hm
          by_cases e : g (q + i) = ([99, 101, 108, 108] : List Nat).getD i 0
          · rw [if_pos (by rw [e])]
            rw [decide_eq_true e, Bool.true_and] at hm
            exact Or.inl ⟨_, rfl, rfl, hm⟩
          · rw [if_neg (nI_ne (by omega) (by omega) e)]
            rw [decide_eq_false e, Bool.false_and] at hm
            exact Or.inr ⟨_, rfl, Or.inl ⟨rfl, hm.symm⟩⟩
        · rintro s ⟨rfl, hm⟩
          rw [Option.bind_some, if_pos (nle_y (Nat.le_refl _) (by omega))]
          exact ⟨_, rfl, Or.inr ⟨_, rfl, hm.symm⟩⟩
        · rintro s (⟨rfl, hm⟩ | ⟨y, rfl, hm⟩)
          · exact ⟨_, rfl, by rw [hm]; rfl⟩
          · exact ⟨_, rfl, by rw [hm]; rfl⟩
      obtain ⟨r, hr, rfl⟩ := key
      exact hr
    · rw [if_neg (nI_ne (by omega) (by omega) e2), decide_eq_false (show ¬ en g l q - q = ([99, 101, 108, 108] : List Nat).length from e2)]
      rfl
  · rw [if_neg (c := nI (kd g l q) = 1) (nI_ne (b := 1) (by omega) (by omega) e1), decide_eq_false e1]
    rfl
def lineOf (g : Nat → Nat) (l q : Nat) : Nat := if nm g l q [99, 104, 105, 112] = true then 0 else if nm g l q [99, 111, 108, 117, 109, 110] = true then 1 else if nm g l q [111, 117, 116] = true then 2 else if nm g l q [114, 101, 103, 105, 115, 116, 101, 114] = true then 3 else if nm g l q [112, 111, 108, 121] = true then 4 else if nm g l q [99, 101, 108, 108] = true then 5 else 6
theorem line_c {M : am_M} {g : Nat → Nat} {l q : Nat} (hB : BY M g l) (hg : BG g l) (hq : q ≤ l) (hT : TC M g l q) : f_X6_lineOfName_1 M = some (nI (if kd g l q = 1 then lineOf g l q else 6)) := by
  unfold f_X6_lineOfName_1 lineOf
  simp only [isn_1001 hB hg hq hT, isn_1002 hB hg hq hT, isn_1003 hB hg hq hT, isn_1004 hB hg hq hT, isn_1005 hB hg hq hT, isn_1006 hB hg hq hT, Option.bind_some]
  by_cases e : kd g l q = 1
  · simp only [decide_eq_true e, Bool.true_and, if_pos e]
    generalize nm g l q [99, 104, 105, 112] = b1
    generalize nm g l q [99, 111, 108, 117, 109, 110] = b2
    generalize nm g l q [111, 117, 116] = b3
    generalize nm g l q [114, 101, 103, 105, 115, 116, 101, 114] = b4
    generalize nm g l q [112, 111, 108, 121] = b5
    generalize nm g l q [99, 101, 108, 108] = b6
    revert b1 b2 b3 b4 b5 b6
    decide
  · simp only [decide_eq_false e, Bool.false_and, if_neg e]
    decide
/-- the reference's names -/
def gb (g : Nat → Nat) (l p : Nat) : Int32 := if p < l then nI (g p) else -1
theorem byte_b {M : am_M} {g : Nat → Nat} {l p : Nat} (hB : BR M g l) (hl : l ≤ 160) (h : p < 2 ^ 31) : f_X8_byteAt_43 (nI p) M = some (gb g l p) := by
  unfold gb
  by_cases e : p < l
  · rw [if_pos e, byte_y hB hl e]
  · rw [if_neg e, byte_n hB (by omega) h]
def isB (g : Nat → Nat) (l q n : Nat) (a b c : Int32) : Bool := decide (en g l q - q = n) && (decide (gb g l q = a) && (decide (gb g l (q + 1) = b) && decide (gb g l (q + 2) = c)))
def goB (g : Nat → Nat) (l p : Nat) (a b c : Int32) : Bool := decide (gb g l p = a) && ((decide (b = 0) || decide (gb g l (p + 1) = b)) && (decide (c = 0) || decide (gb g l (p + 2) = c)))
theorem is_r {M : am_M} {g : Nat → Nat} {l q : Nat} (hB : BR M g l) (hl : l ≤ 160) (hq : q ≤ l) (h14 : M 43 14 = nI q) (h13 : M 43 13 = nI (en g l q)) {n : Nat} (hn : n < 100) (a b c : Int32) : f_X8_is_43 (nI n) a b c M = some (nI (b01 (isB g l q n a b c))) := by
  have henb := en_b (g := g) (l := l) (q := q) hq
  unfold f_X8_is_43 isB
  rw [h14, h13, sub_n henb.1, nI_s, show nI q + 2 = nI (q + 2) from nI_add q 2, byte_b hB hl (by omega), byte_b hB hl (by omega), byte_b hB hl (by omega), Option.bind_some, Option.bind_some, Option.bind_some]
  by_cases e : en g l q - q = n
  · rw [if_pos (by rw [e]), decide_eq_true e, Bool.true_and]
    by_cases e1 : gb g l q = a
    · rw [if_pos e1, decide_eq_true e1, Bool.true_and]
      by_cases e2 : gb g l (q + 1) = b
      · rw [if_pos e2, decide_eq_true e2, Bool.true_and]
        by_cases e3 : gb g l (q + 2) = c
        · rw [if_pos e3, decide_eq_true e3]; rfl
        · rw [if_neg e3, decide_eq_false e3]; rfl
      · rw [if_neg e2, decide_eq_false e2]; rfl
    · rw [if_neg e1, decide_eq_false e1]; rfl
  · rw [if_neg (nI_ne (by omega) (by omega) e), decide_eq_false e]; rfl
theorem go_r {M : am_M} {g : Nat → Nat} {l q : Nat} (hB : BR M g l) (hl : l ≤ 160) (hq : q ≤ l) (h14 : M 43 14 = nI q) {n : Nat} (hn : n < 100) (a b c : Int32) : f_X8_goesOn_43 (nI n) a b c M = some (nI (b01 (goB g l (q + n) a b c))) := by
  unfold f_X8_goesOn_43 goB
  rw [h14, nI_add, nI_s, show nI (q + n) + 2 = nI (q + n + 2) from nI_add _ 2, byte_b hB hl (by omega), byte_b hB hl (by omega), byte_b hB hl (by omega), Option.bind_some, Option.bind_some, Option.bind_some]
  by_cases e1 : gb g l (q + n) = a
  · rw [if_pos e1, decide_eq_true e1, Bool.true_and]
    by_cases e2 : b = 0
    · rw [if_pos e2, decide_eq_true e2, Bool.true_or, Bool.true_and]
      by_cases e3 : c = 0
      · rw [if_pos e3, decide_eq_true e3]; rfl
      · rw [if_neg e3, decide_eq_false e3, Bool.false_or]
        by_cases e4 : gb g l (q + n + 2) = c
        · rw [if_pos e4, decide_eq_true e4]; rfl
        · rw [if_neg e4, decide_eq_false e4]; rfl
    · rw [if_neg e2, decide_eq_false e2, Bool.false_or]
      by_cases e5 : gb g l (q + n + 1) = b
      · rw [if_pos e5, decide_eq_true e5, Bool.true_and]
        by_cases e3 : c = 0
        · rw [if_pos e3, decide_eq_true e3]; rfl
        · rw [if_neg e3, decide_eq_false e3, Bool.false_or]
          by_cases e4 : gb g l (q + n + 2) = c
          · rw [if_pos e4, decide_eq_true e4]; rfl
          · rw [if_neg e4, decide_eq_false e4]; rfl
      · rw [if_neg e5, decide_eq_false e5]; rfl
  · rw [if_neg e1, decide_eq_false e1]; rfl
theorem gb_i {g : Nat → Nat} {l p a : Nat} (hg : BG g l) (hp : p < l) (ha : a < 128) : decide (gb g l p = nI a) = decide (g p = a) := by
  have h8 := hg.2 p hp
  unfold gb
  rw [if_pos hp]
  by_cases e : g p = a
  · rw [decide_eq_true e, e, decide_eq_true rfl]
  · rw [decide_eq_false e, decide_eq_false (nI_ne (by omega) (by omega) e)]
theorem nmr_1001 {g : Nat → Nat} {l q : Nat} (hg : BG g l) (hq : q ≤ l) : (isB g l q 4 99 104 105 && goB g l (q + 3) 112 0 0) = nm g l q [99, 104, 105, 112] := by
  have henb := en_b (g := g) (l := l) (q := q) hq
  unfold nm isB goB
  by_cases e : en g l q - q = 4
  · rw [decide_eq_true e, decide_eq_true (show en g l q - q = ([99, 104, 105, 112] : List Nat).length from e)]
    have hgb : ∀ k a, k < 4 → a < 128 → decide (gb g l (q + k) = nI a) = decide (g (q + k) = a) := fun k a hk ha => gb_i hg (by omega) ha
    have h0 : decide (gb g l (q + 0) = 99) = decide (g (q + 0) = 99) := hgb 0 99 (by omega) (by omega)
    have h1 : decide (gb g l (q + 1) = 104) = decide (g (q + 1) = 104) := hgb 1 104 (by omega) (by omega)
    have h2 : decide (gb g l (q + 2) = 105) = decide (g (q + 2) = 105) := hgb 2 105 (by omega) (by omega)
    have h3 : decide (gb g l (q + 3) = 112) = decide (g (q + 3) = 112) := hgb 3 112 (by omega) (by omega)
    simp only [mtc, Nat.add_assoc, Nat.reduceAdd, Nat.add_zero] at *
    simp only [h0, h1, h2, h3]
    simp [Bool.and_assoc]
  · rw [decide_eq_false e, decide_eq_false (show ¬ en g l q - q = ([99, 104, 105, 112] : List Nat).length from e)]
    rfl
theorem nmr_1002 {g : Nat → Nat} {l q : Nat} (hg : BG g l) (hq : q ≤ l) : (isB g l q 6 99 111 108 && goB g l (q + 3) 117 109 110) = nm g l q [99, 111, 108, 117, 109, 110] := by
  have henb := en_b (g := g) (l := l) (q := q) hq
  unfold nm isB goB
  by_cases e : en g l q - q = 6
  · rw [decide_eq_true e, decide_eq_true (show en g l q - q = ([99, 111, 108, 117, 109, 110] : List Nat).length from e)]
    have hgb : ∀ k a, k < 6 → a < 128 → decide (gb g l (q + k) = nI a) = decide (g (q + k) = a) := fun k a hk ha => gb_i hg (by omega) ha
    have h0 : decide (gb g l (q + 0) = 99) = decide (g (q + 0) = 99) := hgb 0 99 (by omega) (by omega)
    have h1 : decide (gb g l (q + 1) = 111) = decide (g (q + 1) = 111) := hgb 1 111 (by omega) (by omega)
    have h2 : decide (gb g l (q + 2) = 108) = decide (g (q + 2) = 108) := hgb 2 108 (by omega) (by omega)
    have h3 : decide (gb g l (q + 3) = 117) = decide (g (q + 3) = 117) := hgb 3 117 (by omega) (by omega)
    have h4 : decide (gb g l (q + 4) = 109) = decide (g (q + 4) = 109) := hgb 4 109 (by omega) (by omega)
    have h5 : decide (gb g l (q + 5) = 110) = decide (g (q + 5) = 110) := hgb 5 110 (by omega) (by omega)
    simp only [mtc, Nat.add_assoc, Nat.reduceAdd, Nat.add_zero] at *
    simp only [h0, h1, h2, h3, h4, h5]
    simp [Bool.and_assoc]
  · rw [decide_eq_false e, decide_eq_false (show ¬ en g l q - q = ([99, 111, 108, 117, 109, 110] : List Nat).length from e)]
    rfl
theorem nmr_1003 {g : Nat → Nat} {l q : Nat} (hg : BG g l) (hq : q ≤ l) : isB g l q 3 111 117 116 = nm g l q [111, 117, 116] := by
  have henb := en_b (g := g) (l := l) (q := q) hq
  unfold nm isB
  by_cases e : en g l q - q = 3
  · rw [decide_eq_true e, decide_eq_true (show en g l q - q = ([111, 117, 116] : List Nat).length from e)]
    have hgb : ∀ k a, k < 3 → a < 128 → decide (gb g l (q + k) = nI a) = decide (g (q + k) = a) := fun k a hk ha => gb_i hg (by omega) ha
    have h0 : decide (gb g l (q + 0) = 111) = decide (g (q + 0) = 111) := hgb 0 111 (by omega) (by omega)
    have h1 : decide (gb g l (q + 1) = 117) = decide (g (q + 1) = 117) := hgb 1 117 (by omega) (by omega)
    have h2 : decide (gb g l (q + 2) = 116) = decide (g (q + 2) = 116) := hgb 2 116 (by omega) (by omega)
    simp only [mtc, Nat.add_assoc, Nat.reduceAdd, Nat.add_zero] at *
    simp only [h0, h1, h2]
    simp [Bool.and_assoc]
  · rw [decide_eq_false e, decide_eq_false (show ¬ en g l q - q = ([111, 117, 116] : List Nat).length from e)]
    rfl
theorem nmr_1004 {g : Nat → Nat} {l q : Nat} (hg : BG g l) (hq : q ≤ l) : (isB g l q 8 114 101 103 && (goB g l (q + 3) 105 115 116 && goB g l (q + 6) 101 114 0)) = nm g l q [114, 101, 103, 105, 115, 116, 101, 114] := by
  have henb := en_b (g := g) (l := l) (q := q) hq
  unfold nm isB goB
  by_cases e : en g l q - q = 8
  · rw [decide_eq_true e, decide_eq_true (show en g l q - q = ([114, 101, 103, 105, 115, 116, 101, 114] : List Nat).length from e)]
    have hgb : ∀ k a, k < 8 → a < 128 → decide (gb g l (q + k) = nI a) = decide (g (q + k) = a) := fun k a hk ha => gb_i hg (by omega) ha
    have h0 : decide (gb g l (q + 0) = 114) = decide (g (q + 0) = 114) := hgb 0 114 (by omega) (by omega)
    have h1 : decide (gb g l (q + 1) = 101) = decide (g (q + 1) = 101) := hgb 1 101 (by omega) (by omega)
    have h2 : decide (gb g l (q + 2) = 103) = decide (g (q + 2) = 103) := hgb 2 103 (by omega) (by omega)
    have h3 : decide (gb g l (q + 3) = 105) = decide (g (q + 3) = 105) := hgb 3 105 (by omega) (by omega)
    have h4 : decide (gb g l (q + 4) = 115) = decide (g (q + 4) = 115) := hgb 4 115 (by omega) (by omega)
    have h5 : decide (gb g l (q + 5) = 116) = decide (g (q + 5) = 116) := hgb 5 116 (by omega) (by omega)
    have h6 : decide (gb g l (q + 6) = 101) = decide (g (q + 6) = 101) := hgb 6 101 (by omega) (by omega)
    have h7 : decide (gb g l (q + 7) = 114) = decide (g (q + 7) = 114) := hgb 7 114 (by omega) (by omega)
    simp only [mtc, Nat.add_assoc, Nat.reduceAdd, Nat.add_zero] at *
    simp only [h0, h1, h2, h3, h4, h5, h6, h7]
    simp [Bool.and_assoc]
  · rw [decide_eq_false e, decide_eq_false (show ¬ en g l q - q = ([114, 101, 103, 105, 115, 116, 101, 114] : List Nat).length from e)]
    rfl
theorem nmr_1005 {g : Nat → Nat} {l q : Nat} (hg : BG g l) (hq : q ≤ l) : (isB g l q 4 112 111 108 && goB g l (q + 3) 121 0 0) = nm g l q [112, 111, 108, 121] := by
  have henb := en_b (g := g) (l := l) (q := q) hq
  unfold nm isB goB
  by_cases e : en g l q - q = 4
  · rw [decide_eq_true e, decide_eq_true (show en g l q - q = ([112, 111, 108, 121] : List Nat).length from e)]
    have hgb : ∀ k a, k < 4 → a < 128 → decide (gb g l (q + k) = nI a) = decide (g (q + k) = a) := fun k a hk ha => gb_i hg (by omega) ha
    have h0 : decide (gb g l (q + 0) = 112) = decide (g (q + 0) = 112) := hgb 0 112 (by omega) (by omega)
    have h1 : decide (gb g l (q + 1) = 111) = decide (g (q + 1) = 111) := hgb 1 111 (by omega) (by omega)
    have h2 : decide (gb g l (q + 2) = 108) = decide (g (q + 2) = 108) := hgb 2 108 (by omega) (by omega)
    have h3 : decide (gb g l (q + 3) = 121) = decide (g (q + 3) = 121) := hgb 3 121 (by omega) (by omega)
    simp only [mtc, Nat.add_assoc, Nat.reduceAdd, Nat.add_zero] at *
    simp only [h0, h1, h2, h3]
    simp [Bool.and_assoc]
  · rw [decide_eq_false e, decide_eq_false (show ¬ en g l q - q = ([112, 111, 108, 121] : List Nat).length from e)]
    rfl
theorem nmr_1006 {g : Nat → Nat} {l q : Nat} (hg : BG g l) (hq : q ≤ l) : (isB g l q 4 99 101 108 && goB g l (q + 3) 108 0 0) = nm g l q [99, 101, 108, 108] := by
  have henb := en_b (g := g) (l := l) (q := q) hq
  unfold nm isB goB
  by_cases e : en g l q - q = 4
  · rw [decide_eq_true e, decide_eq_true (show en g l q - q = ([99, 101, 108, 108] : List Nat).length from e)]
    have hgb : ∀ k a, k < 4 → a < 128 → decide (gb g l (q + k) = nI a) = decide (g (q + k) = a) := fun k a hk ha => gb_i hg (by omega) ha
    have h0 : decide (gb g l (q + 0) = 99) = decide (g (q + 0) = 99) := hgb 0 99 (by omega) (by omega)
    have h1 : decide (gb g l (q + 1) = 101) = decide (g (q + 1) = 101) := hgb 1 101 (by omega) (by omega)
    have h2 : decide (gb g l (q + 2) = 108) = decide (g (q + 2) = 108) := hgb 2 108 (by omega) (by omega)
    have h3 : decide (gb g l (q + 3) = 108) = decide (g (q + 3) = 108) := hgb 3 108 (by omega) (by omega)
    simp only [mtc, Nat.add_assoc, Nat.reduceAdd, Nat.add_zero] at *
    simp only [h0, h1, h2, h3]
    simp [Bool.and_assoc]
  · rw [decide_eq_false e, decide_eq_false (show ¬ en g l q - q = ([99, 101, 108, 108] : List Nat).length from e)]
    rfl
theorem line_r {M : am_M} {g : Nat → Nat} {l q : Nat} (hB : BR M g l) (hg : BG g l) (hq : q ≤ l) (h14 : M 43 14 = nI q) (h13 : M 43 13 = nI (en g l q)) : f_X8_lineNow_43 M = some (if lineOf g l q = 6 then -4 else nI (lineOf g l q)) := by
  unfold f_X8_lineNow_43 lineOf
  rw [← nmr_1001 hg hq, ← nmr_1002 hg hq, ← nmr_1003 hg hq, ← nmr_1004 hg hq, ← nmr_1005 hg hq, ← nmr_1006 hg hq]
  simp only [(show f_X8_is_43 4 99 104 105 M = _ from is_r (n := 4) hB hg.1 hq h14 h13 (by omega) 99 104 105), (show f_X8_goesOn_43 3 112 0 0 M = _ from go_r (n := 3) hB hg.1 hq h14 (by omega) 112 0 0), (show f_X8_is_43 6 99 111 108 M = _ from is_r (n := 6) hB hg.1 hq h14 h13 (by omega) 99 111 108), (show f_X8_goesOn_43 3 117 109 110 M = _ from go_r (n := 3) hB hg.1 hq h14 (by omega) 117 109 110), (show f_X8_is_43 3 111 117 116 M = _ from is_r (n := 3) hB hg.1 hq h14 h13 (by omega) 111 117 116), (show f_X8_is_43 8 114 101 103 M = _ from is_r (n := 8) hB hg.1 hq h14 h13 (by omega) 114 101 103), (show f_X8_goesOn_43 3 105 115 116 M = _ from go_r (n := 3) hB hg.1 hq h14 (by omega) 105 115 116), (show f_X8_goesOn_43 6 101 114 0 M = _ from go_r (n := 6) hB hg.1 hq h14 (by omega) 101 114 0), (show f_X8_is_43 4 112 111 108 M = _ from is_r (n := 4) hB hg.1 hq h14 h13 (by omega) 112 111 108), (show f_X8_goesOn_43 3 121 0 0 M = _ from go_r (n := 3) hB hg.1 hq h14 (by omega) 121 0 0), (show f_X8_is_43 4 99 101 108 M = _ from is_r (n := 4) hB hg.1 hq h14 h13 (by omega) 99 101 108), (show f_X8_goesOn_43 3 108 0 0 M = _ from go_r (n := 3) hB hg.1 hq h14 (by omega) 108 0 0), Option.bind_some]
  generalize isB g l q 4 99 104 105 = b0
  generalize goB g l (q + 3) 112 0 0 = b1
  generalize isB g l q 6 99 111 108 = b2
  generalize goB g l (q + 3) 117 109 110 = b3
  generalize isB g l q 3 111 117 116 = b4
  generalize isB g l q 8 114 101 103 = b5
  generalize goB g l (q + 3) 105 115 116 = b6
  generalize goB g l (q + 6) 101 114 0 = b7
  generalize isB g l q 4 112 111 108 = b8
  generalize goB g l (q + 3) 121 0 0 = b9
  generalize isB g l q 4 99 101 108 = b10
  generalize goB g l (q + 3) 108 0 0 = b11
  revert b0 b1 b2 b3 b4 b5 b6 b7 b8 b9 b10 b11
  decide +kernel
