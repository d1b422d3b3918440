/-! DIFFERS -/
def dfN (a b : Nat) : Nat := if a = 2 ∨ b = 2 ∨ a = b then 0 else 1
theorem df_c {a b : Nat} (ha : a ≤ 2) (hb : b ≤ 2) : f_X0_isOtherwise (nI a) (nI b) = nI (dfN a b) := by
  have h1 : a = 0 ∨ a = 1 ∨ a = 2 := by omega
  have h2 : b = 0 ∨ b = 1 ∨ b = 2 := by omega
  rcases h1 with h | h | h <;> rcases h2 with h' | h' | h' <;> subst h <;> subst h' <;> decide
theorem df_r {a b : Nat} (ha : a ≤ 2) (hb : b ≤ 2) : f_X8_flag (f_X8_differ (nI a) (nI b)) = nI (dfN a b) := by
  have h1 : a = 0 ∨ a = 1 ∨ a = 2 := by omega
  have h2 : b = 0 ∨ b = 1 ∨ b = 2 := by omega
  rcases h1 with h | h | h <;> rcases h2 with h' | h' | h' <;> subst h <;> subst h' <;> decide
theorem df_01 (a b : Nat) : dfN a b = 0 ∨ dfN a b = 1 := by
  unfold dfN
  split
  · exact Or.inl rfl
  · exact Or.inr rfl
theorem add_df (x : Nat) {y : Nat} (h : y = 0 ∨ y = 1) (j : Nat) : (if nI y = 0 then (some (Sum.inl (nI x, nI j + 1)) : Option ((Int32 × Int32) ⊕ (Int32 × Int32))) else some (Sum.inl (nI x + 1, nI j + 1))) = some (Sum.inl (nI (x + y), nI (j + 1))) := by
  rcases h with h | h
  · subst h
    rw [if_pos (c := nI 0 = 0) rfl, nI_s]; rfl
  · subst h
    rw [if_neg (c := nI 1 = 0) (by decide), nI_s, nI_s]
/-- a row of images in numbers -/
def VK (M : am_M) (k n m w O : Nat) (C : Nat → Nat → Nat) (K : Nat → Nat) : Prop :=
  (M 45 (151 * k + 0) = nI n ∧ M 45 (151 * k + 1) = nI m ∧ M 45 (151 * k + 2) = nI w ∧ M 45 (151 * k + 3) = nI O) ∧ (∀ c t, c < n → t < m → M 45 (151 * k + (7 + 8 * c + t)) = nI (C c t)) ∧ (∀ c, c < n → M 45 (151 * k + (135 + c)) = nI (K c))
theorem sot_15 {M : am_M} {n m w O C K O' C' K'} (hB : VB n m w O C K) (hV : VC M 9 n m w O C K) (hB' : VB n m w O' C' K') (hV' : VC M 15 n m w O' C' K') : f_X0_seenOtherwise_9_15 M = some (nI (sm (fun t => sm (fun o => dfN (sN O C K t o n) (sN O' C' K' t o n)) w) m)) := by
  have hn := hB.1.1
  have hm := hB.1.2.1
  have hw := hB.1.2.2
  unfold f_X0_seenOtherwise_9_15
  refine Option.bind_eq_some_iff.mpr ⟨_, lp_sum (a := 0) (fun t => sm (fun o => dfN (sN O C K t o n) (sN O' C' K' t o n)) w) (n := m) (by omega) ?_ ?_, by simp only [Nat.zero_add]⟩
  · intro t x ht
    dsimp only
    rw [hV.1.2.1, if_neg (nle_n ht (by omega))]
    refine Option.bind_eq_some_iff.mpr ⟨_, lp_sum (fun o => dfN (sN O C K t o n) (sN O' C' K' t o n)) (n := w) (by omega) ?_ ?_, by rw [nI_s]⟩
    · intro o y ho
      dsimp only
      rw [hV.1.2.2.1, if_neg (nle_n ho (by omega)), seen_c9 hB hV ht ho, Option.bind_some, seen_c15 hB' hV' ht ho, Option.bind_some, df_c (sN_2 ht hB.2.2.1).1 (sN_2 ht hB'.2.2.1).1]
      exact add_df y (df_01 _ _) o
    · intro y
      dsimp only
      rw [hV.1.2.2.1, if_pos (nle_y (by omega) (by omega))]
  · intro x
    dsimp only
    rw [hV.1.2.1, if_pos (nle_y (by omega) (by omega))]
theorem cot_15 {M : am_M} {n m w O C K O' C' K'} (hB : VB n m w O C K) (hV : VC M 9 n m w O C K) (hB' : VB n m w O' C' K') (hV' : VC M 15 n m w O' C' K') : f_X0_cellsOtherwise_9_15 M = some (nI (sm (fun c => sm (fun t => dfN (C c t) (C' c t)) m) n)) := by
  have hn := hB.1.1
  have hm := hB.1.2.1
  have hw := hB.1.2.2
  unfold f_X0_cellsOtherwise_9_15
  refine Option.bind_eq_some_iff.mpr ⟨_, lp_sum (a := 0) (fun c => sm (fun t => dfN (C c t) (C' c t)) m) (n := n) (by omega) ?_ ?_, by simp only [Nat.zero_add]⟩
  · intro c x hc
    dsimp only
    rw [hV.1.1, if_neg (nle_n hc (by omega))]
    refine Option.bind_eq_some_iff.mpr ⟨_, lp_sum (fun t => dfN (C c t) (C' c t)) (n := m) (by omega) ?_ ?_, by rw [nI_s]⟩
    · intro t y ht
      dsimp only
      rw [hV.1.2.1, if_neg (nle_n ht (by omega)), a_at, if_pos (db_ok (by omega) (by omega)), if_pos (db_ok (by omega) (by omega)), nI_clamp (by omega), hV.2.1 c t hc ht, hV'.2.1 c t hc ht, df_c (hB.2.2.1 c t hc ht) (hB'.2.2.1 c t hc ht)]
      exact add_df y (df_01 _ _) t
    · intro y
      dsimp only
      rw [hV.1.2.1, if_pos (nle_y (by omega) (by omega))]
  · intro x
    dsimp only
    rw [hV.1.1, if_pos (nle_y (by omega) (by omega))]
theorem sot_20 {M : am_M} {n m w O C K O' C' K'} (hB : VB n m w O C K) (hV : VC M 9 n m w O C K) (hB' : VB n m w O' C' K') (hV' : VC M 20 n m w O' C' K') : f_X0_seenOtherwise_9_20 M = some (nI (sm (fun t => sm (fun o => dfN (sN O C K t o n) (sN O' C' K' t o n)) w) m)) := by
  have hn := hB.1.1
  have hm := hB.1.2.1
  have hw := hB.1.2.2
  unfold f_X0_seenOtherwise_9_20
  refine Option.bind_eq_some_iff.mpr ⟨_, lp_sum (a := 0) (fun t => sm (fun o => dfN (sN O C K t o n) (sN O' C' K' t o n)) w) (n := m) (by omega) ?_ ?_, by simp only [Nat.zero_add]⟩
  · intro t x ht
    dsimp only
    rw [hV.1.2.1, if_neg (nle_n ht (by omega))]
    refine Option.bind_eq_some_iff.mpr ⟨_, lp_sum (fun o => dfN (sN O C K t o n) (sN O' C' K' t o n)) (n := w) (by omega) ?_ ?_, by rw [nI_s]⟩
    · intro o y ho
      dsimp only
      rw [hV.1.2.2.1, if_neg (nle_n ho (by omega)), seen_c9 hB hV ht ho, Option.bind_some, seen_c20 hB' hV' ht ho, Option.bind_some, df_c (sN_2 ht hB.2.2.1).1 (sN_2 ht hB'.2.2.1).1]
      exact add_df y (df_01 _ _) o
    · intro y
      dsimp only
      rw [hV.1.2.2.1, if_pos (nle_y (by omega) (by omega))]
  · intro x
    dsimp only
    rw [hV.1.2.1, if_pos (nle_y (by omega) (by omega))]
theorem cot_20 {M : am_M} {n m w O C K O' C' K'} (hB : VB n m w O C K) (hV : VC M 9 n m w O C K) (hB' : VB n m w O' C' K') (hV' : VC M 20 n m w O' C' K') : f_X0_cellsOtherwise_9_20 M = some (nI (sm (fun c => sm (fun t => dfN (C c t) (C' c t)) m) n)) := by
  have hn := hB.1.1
  have hm := hB.1.2.1
  have hw := hB.1.2.2
  unfold f_X0_cellsOtherwise_9_20
  refine Option.bind_eq_some_iff.mpr ⟨_, lp_sum (a := 0) (fun c => sm (fun t => dfN (C c t) (C' c t)) m) (n := n) (by omega) ?_ ?_, by simp only [Nat.zero_add]⟩
  · intro c x hc
    dsimp only
    rw [hV.1.1, if_neg (nle_n hc (by omega))]
    refine Option.bind_eq_some_iff.mpr ⟨_, lp_sum (fun t => dfN (C c t) (C' c t)) (n := m) (by omega) ?_ ?_, by rw [nI_s]⟩
    · intro t y ht
      dsimp only
      rw [hV.1.2.1, if_neg (nle_n ht (by omega)), a_at, if_pos (db_ok (by omega) (by omega)), if_pos (db_ok (by omega) (by omega)), nI_clamp (by omega), hV.2.1 c t hc ht, hV'.2.1 c t hc ht, df_c (hB.2.2.1 c t hc ht) (hB'.2.2.1 c t hc ht)]
      exact add_df y (df_01 _ _) t
    · intro y
      dsimp only
      rw [hV.1.2.1, if_pos (nle_y (by omega) (by omega))]
  · intro x
    dsimp only
    rw [hV.1.1, if_pos (nle_y (by omega) (by omega))]
theorem a_151c (k c t : Nat) : ((((151 : Int32) * nI k) + 7) + ((8 : Int32) * nI c)) + nI t = nI (151 * k + (7 + 8 * c + t)) := by
  rw [show (8 : Int32) = nI 8 from rfl, show (7 : Int32) = nI 7 from rfl, show (151 : Int32) = nI 151 from rfl, pk_mul, pk_mul, nI_add, nI_add, nI_add]
  congr 1
  omega
theorem a_8 (t o : Nat) : ((8 : Int32) * nI t) + nI o = nI (8 * t + o) := by
  rw [show (8 : Int32) = nI 8 from rfl, pk_mul, nI_add]
theorem cdf_r {M : am_M} {k n m w O C K O' C' K'} (hk : k < 2) (hB : VB n m w O C K) (hV : VR M n m w O C K) (hB' : VB n m w O' C' K') (hV' : VK M k n m w O' C' K') : f_X8_cellsDiffer_43 (nI k) M = some (nI (sm (fun c => sm (fun t => dfN (C c t) (C' c t)) m) n)) := by
  have hn := hB.1.1
  have hm := hB.1.2.1
  have hw := hB.1.2.2
  unfold f_X8_cellsDiffer_43
  rw [clamp0, clamp1, hV.1.1, hV.1.2.1]
  refine Option.bind_eq_some_iff.mpr ⟨_, lp_sum (a := 0) (fun c => sm (fun t => dfN (C c t) (C' c t)) m) (n := n) (by omega) ?_ ?_, by simp only [Nat.zero_add]⟩
  · intro c x hc
    dsimp only
    rw [if_neg (nle_n hc (by omega))]
    refine Option.bind_eq_some_iff.mpr ⟨_, lp_sum (fun t => dfN (C c t) (C' c t)) (n := m) (by omega) ?_ ?_, by rw [nI_s]⟩
    · intro t y ht
      dsimp only
      rw [if_neg (nle_n ht (by omega)), cell_of hB hV hc ht, Option.bind_some, a_151c, if_pos (db_ok (by omega) (by omega)), nI_clamp (by omega), hV'.2.1 c t hc ht, df_r (hB.2.2.1 c t hc ht) (hB'.2.2.1 c t hc ht), bl_s, nI_add, nI_s]
    · intro y
      dsimp only
      rw [if_pos (nle_y (by omega) (by omega))]
  · intro x
    dsimp only
    rw [if_pos (nle_y (by omega) (by omega))]
theorem find_52 {M : am_M} {n m w O C K} (hB : VB n m w O C K) (hV : VR M n m w O C K) : ∃ r, f_X8_findSeen_43_52 M = some r ∧ ((∀ x, x ≠ 52 → r x = M x) ∧ ∀ t o, t < m → o < w → r 52 (8 * t + o) = nI (sN O C K t o n)) := by
  have hn := hB.1.1
  have hm := hB.1.2.1
  have hw := hB.1.2.2
  unfold f_X8_findSeen_43_52
  refine lp_bnd (fun r => r) (fun i s => ∃ M', s = (nI i, M') ∧ (∀ x, x ≠ 52 → M' x = M x) ∧ ∀ t o, t < i → o < w → M' 52 (8 * t + o) = nI (sN O C K t o n)) (fun q => ∃ y M', q = (y, M') ∧ (∀ x, x ≠ 52 → M' x = M x) ∧ ∀ t o, t < m → o < w → M' 52 (8 * t + o) = nI (sN O C K t o n)) (n := m) (lpF (by omega)) ⟨M, rfl, fun x _ => rfl, fun t o ht => by omega⟩ ?_ ?_ ?_
  · rintro i s hi ⟨M', rfl, h1, h2⟩
    dsimp only
    rw [if_neg (show ¬ (M' 44 (1 : Int32).toNatClampNeg ≤ nI i) by rw [clamp1, h1 44 (by decide), hV.1.2.1]; exact nle_n hi (by omega))]
    refine Or.inl (lp_bnd Sum.inl (fun j s => ∃ M', s = (nI j, M') ∧ (∀ x, x ≠ 52 → M' x = M x) ∧ (∀ t o, t < i → o < w → M' 52 (8 * t + o) = nI (sN O C K t o n)) ∧ ∀ o, o < j → M' 52 (8 * i + o) = nI (sN O C K i o n)) (fun q => ∃ y M', q = (y, M') ∧ (∀ x, x ≠ 52 → M' x = M x) ∧ (∀ t o, t < i → o < w → M' 52 (8 * t + o) = nI (sN O C K t o n)) ∧ ∀ o, o < w → M' 52 (8 * i + o) = nI (sN O C K i o n)) (n := w) (lpF (by omega)) ⟨M', rfl, h1, h2, fun o ho => by omega⟩ ?_ ?_ ?_)
    · rintro j s hj ⟨M2, rfl, g1, g2, g3⟩
      dsimp only
      have hV2 : VR M2 n m w O C K := by
        unfold VR
        rw [g1 44 (by decide)]
        exact hV
      rw [if_neg (show ¬ (M2 44 (2 : Int32).toNatClampNeg ≤ nI j) by rw [clamp2, hV2.1.2.2.1]; exact nle_n hj (by omega)), seen_r hB hV2 hi hj, Option.bind_some, a_8, if_pos (db_ok (by omega) (by omega)), nI_clamp (by omega), bl_s, nI_s]
      refine Or.inl ⟨_, rfl, _, rfl, fun x hx => by rw [am_up_ne hx, g1 x hx], fun t o ht ho => by rw [up_k (by omega), g2 t o ht ho], fun o ho => ?_⟩
      by_cases e : o = j
      · subst e; rw [up_s]
      · rw [up_k (by omega), g3 o (by omega)]
    · rintro s ⟨M2, rfl, g1, g2, g3⟩
      dsimp only
      rw [if_pos (show M2 44 (2 : Int32).toNatClampNeg ≤ nI w by rw [clamp2, g1 44 (by decide), hV.1.2.2.1]; exact nle_y (by omega) (by omega))]
      exact ⟨_, rfl, _, M2, rfl, g1, g2, g3⟩
    · rintro q ⟨y, M2, rfl, g1, g2, g3⟩
      dsimp only
      rw [nI_s]
      refine ⟨_, rfl, M2, rfl, g1, fun t o ht ho => ?_⟩
      by_cases e : t = i
      · subst e; exact g3 o ho
      · exact g2 t o (by omega) ho
  · rintro s ⟨M', rfl, h1, h2⟩
    dsimp only
    rw [if_pos (show M' 44 (1 : Int32).toNatClampNeg ≤ nI m by rw [clamp1, h1 44 (by decide), hV.1.2.1]; exact nle_y (by omega) (by omega))]
    exact ⟨_, rfl, _, M', rfl, h1, h2⟩
  · rintro q ⟨y, M', rfl, h⟩
    exact ⟨_, rfl, h⟩
theorem find_53 {M : am_M} {n m w O C K} (hB : VB n m w O C K) (hV : VR M n m w O C K) : ∃ r, f_X8_findSeen_43_53 M = some r ∧ ((∀ x, x ≠ 53 → r x = M x) ∧ ∀ t o, t < m → o < w → r 53 (8 * t + o) = nI (sN O C K t o n)) := by
  have hn := hB.1.1
  have hm := hB.1.2.1
  have hw := hB.1.2.2
  unfold f_X8_findSeen_43_53
  refine lp_bnd (fun r => r) (fun i s => ∃ M', s = (nI i, M') ∧ (∀ x, x ≠ 53 → M' x = M x) ∧ ∀ t o, t < i → o < w → M' 53 (8 * t + o) = nI (sN O C K t o n)) (fun q => ∃ y M', q = (y, M') ∧ (∀ x, x ≠ 53 → M' x = M x) ∧ ∀ t o, t < m → o < w → M' 53 (8 * t + o) = nI (sN O C K t o n)) (n := m) (lpF (by omega)) ⟨M, rfl, fun x _ => rfl, fun t o ht => by omega⟩ ?_ ?_ ?_
  · rintro i s hi ⟨M', rfl, h1, h2⟩
    dsimp only
    rw [if_neg (show ¬ (M' 44 (1 : Int32).toNatClampNeg ≤ nI i) by rw [clamp1, h1 44 (by decide), hV.1.2.1]; exact nle_n hi (by omega))]
    refine Or.inl (lp_bnd Sum.inl (fun j s => ∃ M', s = (nI j, M') ∧ (∀ x, x ≠ 53 → M' x = M x) ∧ (∀ t o, t < i → o < w → M' 53 (8 * t + o) = nI (sN O C K t o n)) ∧ ∀ o, o < j → M' 53 (8 * i + o) = nI (sN O C K i o n)) (fun q => ∃ y M', q = (y, M') ∧ (∀ x, x ≠ 53 → M' x = M x) ∧ (∀ t o, t < i → o < w → M' 53 (8 * t + o) = nI (sN O C K t o n)) ∧ ∀ o, o < w → M' 53 (8 * i + o) = nI (sN O C K i o n)) (n := w) (lpF (by omega)) ⟨M', rfl, h1, h2, fun o ho => by omega⟩ ?_ ?_ ?_)
    · rintro j s hj ⟨M2, rfl, g1, g2, g3⟩
      dsimp only
      have hV2 : VR M2 n m w O C K := by
        unfold VR
        rw [g1 44 (by decide)]
        exact hV
      rw [if_neg (show ¬ (M2 44 (2 : Int32).toNatClampNeg ≤ nI j) by rw [clamp2, hV2.1.2.2.1]; exact nle_n hj (by omega)), seen_r hB hV2 hi hj, Option.bind_some, a_8, if_pos (db_ok (by omega) (by omega)), nI_clamp (by omega), bl_s, nI_s]
      refine Or.inl ⟨_, rfl, _, rfl, fun x hx => by rw [am_up_ne hx, g1 x hx], fun t o ht ho => by rw [up_k (by omega), g2 t o ht ho], fun o ho => ?_⟩
      by_cases e : o = j
      · subst e; rw [up_s]
      · rw [up_k (by omega), g3 o (by omega)]
    · rintro s ⟨M2, rfl, g1, g2, g3⟩
      dsimp only
      rw [if_pos (show M2 44 (2 : Int32).toNatClampNeg ≤ nI w by rw [clamp2, g1 44 (by decide), hV.1.2.2.1]; exact nle_y (by omega) (by omega))]
      exact ⟨_, rfl, _, M2, rfl, g1, g2, g3⟩
    · rintro q ⟨y, M2, rfl, g1, g2, g3⟩
      dsimp only
      rw [nI_s]
      refine ⟨_, rfl, M2, rfl, g1, fun t o ht ho => ?_⟩
      by_cases e : t = i
      · subst e; exact g3 o ho
      · exact g2 t o (by omega) ho
  · rintro s ⟨M', rfl, h1, h2⟩
    dsimp only
    rw [if_pos (show M' 44 (1 : Int32).toNatClampNeg ≤ nI m by rw [clamp1, h1 44 (by decide), hV.1.2.1]; exact nle_y (by omega) (by omega))]
    exact ⟨_, rfl, _, M', rfl, h1, h2⟩
  · rintro q ⟨y, M', rfl, h⟩
    exact ⟨_, rfl, h⟩
theorem sdf_r {M : am_M} {k n m w O C K O' C' K'} (hk : k < 2) (hB : VB n m w O C K) (hV : VR M n m w O C K) (hB' : VB n m w O' C' K') (hV' : VK M k n m w O' C' K') : ∃ r : Int32 × am_M, f_X8_seenDiffers_43 (nI k) M = some r ∧ (r.1 = nI (sm (fun t => sm (fun o => dfN (sN O C K t o n) (sN O' C' K' t o n)) w) m) ∧ (∀ x, x ≠ 44 → x ≠ 51 → x ≠ 52 → x ≠ 53 → r.2 x = M x) ∧ ∀ j, j < 151 → r.2 44 j = M 44 j) := by
  have hn := hB.1.1
  have hm := hB.1.2.1
  have hw := hB.1.2.2
  unfold f_X8_seenDiffers_43
  obtain ⟨r1, e1, a1, a2⟩ := find_52 hB hV
  rw [e1, Option.bind_some]
  refine lp_bnd (fun r => r) (fun i s => ∃ M', s = (nI i, M') ∧ (∀ x, x ≠ 51 → M' x = r1 x) ∧ ∀ j, j < i → M' 51 j = M 44 j) (fun q => ∃ y M', q = (y, M') ∧ (∀ x, x ≠ 51 → M' x = r1 x) ∧ ∀ j, j < 151 → M' 51 j = M 44 j) (n := 151) (lpF (by omega)) ⟨r1, rfl, fun x _ => rfl, fun j hj => by omega⟩ ?_ ?_ ?_
  · rintro i s hi ⟨M', rfl, h1, h2⟩
    dsimp only
    rw [if_neg (c := 151 ≤ nI i) (nle_n (n := 151) hi (by omega)), if_pos (db_ok hi (by omega)), if_pos (db_ok hi (by omega)), nI_clamp (by omega), bl_s, nI_s]
    refine Or.inl ⟨_, rfl, _, rfl, fun x hx => by rw [am_up_ne hx, h1 x hx], fun j hj => ?_⟩
    by_cases e : j = i
    · subst e; rw [up_s, h1 44 (by decide), a1 44 (by decide)]
    · rw [up_k (by omega), h2 j (by omega)]
  · rintro s ⟨M', rfl, h⟩
    dsimp only
    rw [if_pos (c := 151 ≤ nI 151) (by decide)]
    exact ⟨_, rfl, _, M', rfl, h⟩
  · rintro q ⟨y, M2, rfl, b1, b2⟩
    dsimp only
    obtain ⟨r3, e3, c1, c2, -⟩ := takes_r (M := M2) (k := k) hk
    rw [e3, Option.bind_some]
    have h45 : M2 45 = M 45 := by rw [b1 45 (by decide), a1 45 (by decide)]
    have hV3 : VR r3 n m w O' C' K' := by
      refine ⟨?_, fun c t hc ht => ?_, fun c hc => ?_⟩
      · rw [c2 0 (by omega), c2 1 (by omega), c2 2 (by omega), c2 3 (by omega), h45]
        exact hV'.1
      · rw [c2 _ (by omega), h45]
        exact hV'.2.1 c t hc ht
      · rw [c2 _ (by omega), h45]
        exact hV'.2.2 c hc
    obtain ⟨r4, e4, d1, d2⟩ := find_53 hB' hV3
    rw [e4, Option.bind_some]
    refine lp_bnd (fun r => r) (fun i s => ∃ M', s = (nI i, M') ∧ (∀ x, x ≠ 44 → M' x = r4 x) ∧ ∀ j, j < i → M' 44 j = M 44 j) (fun q => ∃ y M', q = (y, M') ∧ (∀ x, x ≠ 44 → M' x = r4 x) ∧ ∀ j, j < 151 → M' 44 j = M 44 j) (n := 151) (lpF (by omega)) ⟨r4, rfl, fun x _ => rfl, fun j hj => by omega⟩ ?_ ?_ ?_
    · rintro i s hi ⟨M', rfl, h1, h2⟩
      dsimp only
      rw [if_neg (c := 151 ≤ nI i) (nle_n (n := 151) hi (by omega)), if_pos (db_ok hi (by omega)), if_pos (db_ok hi (by omega)), nI_clamp (by omega), bl_s, nI_s]
      refine Or.inl ⟨_, rfl, _, rfl, fun x hx => by rw [am_up_ne hx, h1 x hx], fun j hj => ?_⟩
      by_cases e : j = i
      · subst e; rw [up_s, h1 51 (by decide), d1 51 (by decide), c1 51 (by decide), b2 j hi]
      · rw [up_k (by omega), h2 j (by omega)]
    · rintro s ⟨M', rfl, h⟩
      dsimp only
      rw [if_pos (c := 151 ≤ nI 151) (by decide)]
      exact ⟨_, rfl, _, M', rfl, h⟩
    · rintro q ⟨y, M5, rfl, f1, f2⟩
      dsimp only
      have z44 : M5 44 (1 : Int32).toNatClampNeg = nI m ∧ M5 44 (2 : Int32).toNatClampNeg = nI w := by
        rw [clamp1, clamp2, f2 1 (by omega), f2 2 (by omega)]
        exact ⟨hV.1.2.1, hV.1.2.2.1⟩
      refine ⟨(nI (sm (fun t => sm (fun o => dfN (sN O C K t o n) (sN O' C' K' t o n)) w) m), M5), Option.bind_eq_some_iff.mpr ⟨_, lp_sum (a := 0) (fun t => sm (fun o => dfN (sN O C K t o n) (sN O' C' K' t o n)) w) (n := m) (by omega) ?_ ?_, by simp only [Nat.zero_add]⟩, rfl, fun x h1 h2 h3 h4 => ?_, f2⟩
      · intro t x ht
        dsimp only
        rw [if_neg (show ¬ (M5 44 (1 : Int32).toNatClampNeg ≤ nI t) by rw [z44.1]; exact nle_n ht (by omega))]
        refine Option.bind_eq_some_iff.mpr ⟨_, lp_sum (fun o => dfN (sN O C K t o n) (sN O' C' K' t o n)) (n := w) (by omega) ?_ ?_, by rw [nI_s]⟩
        · intro o y ho
          dsimp only
          have z1 : M5 52 (8 * t + o) = nI (sN O C K t o n) := by rw [f1 52 (by decide), d1 52 (by decide), c1 52 (by decide), b1 52 (by decide), a2 t o ht ho]
          have z2 : M5 53 (8 * t + o) = nI (sN O' C' K' t o n) := by rw [f1 53 (by decide), d2 t o ht ho]
          rw [if_neg (show ¬ (M5 44 (2 : Int32).toNatClampNeg ≤ nI o) by rw [z44.2]; exact nle_n ho (by omega)), a_8, if_pos (db_ok (by omega) (by omega)), if_pos (db_ok (by omega) (by omega)), nI_clamp (by omega), z1, z2, df_r (sN_2 ht hB.2.2.1).1 (sN_2 ht hB'.2.2.1).1, bl_s, nI_add, nI_s]
        · intro y
          dsimp only
          rw [if_pos (show M5 44 (2 : Int32).toNatClampNeg ≤ nI w by rw [z44.2]; exact nle_y (by omega) (by omega))]
      · intro x
        dsimp only
        rw [if_pos (show M5 44 (1 : Int32).toNatClampNeg ≤ nI m by rw [z44.1]; exact nle_y (by omega) (by omega))]
      · show M5 x = M x
        rw [f1 x h1, d1 x h4, c1 x h1, b1 x h2, a1 x h3]
/-- the reference: its image has the shape -/
theorem shp_r {M : am_M} {k n m w n' m' w' : Nat} (hk : k < 2) (hb : n ≤ 8 ∧ m ≤ 8 ∧ w ≤ 8) (hb' : n' ≤ 8 ∧ m' ≤ 8 ∧ w' ≤ 8) (h : M 44 0 = nI n ∧ M 44 1 = nI m ∧ M 44 2 = nI w) (h' : M 45 (151 * k + 0) = nI n' ∧ M 45 (151 * k + 1) = nI m' ∧ M 45 (151 * k + 2) = nI w') (z : M 46 k = 1) (k2 : Int32 × Int32 → Option (Int32 × am_M)) : 
    ((lp (σ := Int32 × Int32) (ρ := Int32 × Int32) (fun (s5 : Int32 × Int32) => match s5 with | (x6, x7) => (if 2 < x7 then (some (.inr (x6, x7))) else (if x6 = 0 then (some (.inl (0, (x7 + 1)))) else (if am_dbin (((151 : Int32) * nI k) + x7) 302 = true then (if am_dbin x7 151 = true then (if (M 45 (((151 : Int32) * nI k) + x7).toNatClampNeg) = (M 44 x7.toNatClampNeg) then (some (.inl (1, (x7 + 1)))) else (some (.inl (0, (x7 + 1))))) else none) else none)))) lp_F ((M 46 k), 0)).bind k2) = k2 (nI (if n' = n ∧ m' = m ∧ w' = w then 1 else 0), nI 3) := by
  have hl := lp_run (body := (fun (s5 : Int32 × Int32) => match s5 with | (x6, x7) => (if 2 < x7 then (some (.inr (x6, x7))) else (if x6 = 0 then (some (.inl (0, (x7 + 1)))) else (if am_dbin (((151 : Int32) * nI k) + x7) 302 = true then (if am_dbin x7 151 = true then (if (M 45 (((151 : Int32) * nI k) + x7).toNatClampNeg) = (M 44 x7.toNatClampNeg) then (some (.inl (1, (x7 + 1)))) else (some (.inl (0, (x7 + 1))))) else none) else none)))))
    (fun i => (nI (if (0 < i → n' = n) ∧ (1 < i → m' = m) ∧ (2 < i → w' = w) then 1 else 0), nI i)) (n := 3) (q := (nI (if n' = n ∧ m' = m ∧ w' = w then 1 else 0), nI 3)) ?_ ?_ (F := lp_F) (lpF (by omega))
  · have e0 : ((M 46 k), (0 : Int32)) = (nI (if (0 < 0 → n' = n) ∧ (1 < 0 → m' = m) ∧ (2 < 0 → w' = w) then 1 else 0), nI 0) := by
      rw [z]; simp; exact ⟨rfl, rfl⟩
    rw [e0, hl, Option.bind_some]
  · intro i hi
    dsimp only
    rw [if_neg (c := 2 < nI i) (fun q => by
      have := (ni_lt (a := 2) (b := i) (by omega) (by omega)).mp q
      omega), a_151, if_pos (db_ok (by omega) (by omega)), if_pos (db_ok (by omega) (by omega)), nI_clamp (by omega), nI_clamp (by omega), nI_s]
    obtain ⟨p0, p1, p2⟩ := h
    obtain ⟨q0, q1, q2⟩ := h'
    have h3 : i = 0 ∨ i = 1 ∨ i = 2 := by omega
    have key : ∀ (A B : Prop) [Decidable A] [Decidable B] (a b : Nat) (j : Nat), a ≤ 8 → b ≤ 8 → (B ↔ (A ∧ b = a)) → (if nI (if A then 1 else 0) = 0 then some (Sum.inl (0, nI j)) else if nI b = nI a then some (Sum.inl (1, nI j)) else some (Sum.inl (0, nI j)) : Option ((Int32 × Int32) ⊕ (Int32 × Int32))) = some (Sum.inl (nI (if B then 1 else 0), nI j)) := by
      intro A B _ _ a b j ha hb hiff
      by_cases hA : A
      · rw [if_pos hA, if_neg (c := nI 1 = 0) (by decide)]
        by_cases hab : b = a
        · rw [if_pos (by rw [hab]), if_pos (hiff.mpr ⟨hA, hab⟩)]; rfl
        · rw [if_neg (nI_ne (by omega) (by omega) hab), if_neg (fun h => hab (hiff.mp h).2)]; rfl
      · rw [if_neg hA, if_pos (c := nI 0 = 0) rfl, if_neg (fun h => hA (hiff.mp h).1)]; rfl
    rcases h3 with rfl | rfl | rfl
    · rw [q0, p0]
      exact key _ _ n n' 1 (by omega) (by omega) (by omega)
    · rw [q1, p1]
      exact key _ _ m m' 2 (by omega) (by omega) (by omega)
    · rw [q2, p2]
      exact key _ _ w w' 3 (by omega) (by omega) (by omega)
  · dsimp only
    rw [if_pos (c := 2 < nI 3) (by decide)]
    congr 3
    congr 1
    simp
theorem op_differs (a0 a1 : Int32) {M : am_M} (h : Rel M) : ∃ v M2, f_X7_differs_0 a0 a1 M = some v ∧ f_X8_differs_43 a0 a1 M = some (v, M2) ∧ Rel M2 := by
  have hR := h
  obtain ⟨n, m, w, O, C, K, hB, hVC, hVR⟩ := rel_V h
  obtain ⟨hc, ⟨i1, i2⟩, ⟨i3, i4⟩, ht, ⟨f1, f2⟩, s1, s2, s3, s4⟩ := h
  have hb := hB.1
  unfold f_X7_differs_0 f_X8_differs_43
  rcases img_c a0 with ⟨e, k, hk, rfl⟩ | ⟨e, hno⟩
  · have hin := in_y (a := nI k) (b := 0) (c := 1) (B := 0) (C := 1) (by decide) (by decide) ⟨nI_pos' (by omega), (ni_le (a := k) (b := 1) (by omega) (by omega)).mpr (by omega)⟩
    rw [e, if_neg (c := (1 : Int32) = 0) (by decide), part_r, if_pos (db_ok hk (by omega)), nI_clamp (by omega)]
    simp only [if_neg hin, Option.bind_some]
    by_cases h2 : 0 ≤ a1 ∧ a1 ≤ 1
    · have hz : ∀ {x : Int32}, x = 0 → ∀ (k2 : Int32 × Int32 → Option (Int32 × am_M)), (∀ y, k2 (0, y) = some (-2, M)) → ((lp (σ := Int32 × Int32) (ρ := Int32 × Int32) (fun (s5 : Int32 × Int32) => match s5 with | (x6, x7) => (if 2 < x7 then (some (.inr (x6, x7))) else (if x6 = 0 then (some (.inl (0, (x7 + 1)))) else (if am_dbin (((151 : Int32) * nI k) + x7) 302 = true then (if am_dbin x7 151 = true then (if (M 45 (((151 : Int32) * nI k) + x7).toNatClampNeg) = (M 44 x7.toNatClampNeg) then (some (.inl (1, (x7 + 1)))) else (some (.inl (0, (x7 + 1))))) else none) else none)))) lp_F (x, 0)).bind k2) = some (-2, M) := by
        intro x hx k2 hk2
        subst hx
        refine Option.bind_eq_some_iff.mpr ⟨(0, nI 3), lp_run (fun i => (0, nI i)) (n := 3) ?_ ?_ (lpF (by omega)), hk2 _⟩
        · intro i hi
          dsimp only
          rw [if_neg (c := 2 < nI i) (fun q => by
            have := (ni_lt (a := 2) (b := i) (by omega) (by omega)).mp q
            omega), if_pos (c := (0 : Int32) = 0) rfl, nI_s]
        · dsimp only
          rw [if_pos (c := 2 < nI 3) (by decide)]
      simp only [if_pos h2, if_neg (show ¬ (1 : Int32) = 0 by decide), if_pos h2.2, if_neg (Int32.not_lt.mpr h2.1)]
      have hk2 : k = 0 ∨ k = 1 := by omega
      rcases hk2 with rfl | rfl
      · rcases i2 with z | ⟨z, hcr⟩
        · rw [z, if_pos (c := (0 : Int32) = 0) rfl]
          exact ⟨_, M, rfl, hz (i1.trans z) _ (fun y => rfl), hR⟩
        · have hcr0 := hcr
          obtain ⟨n', m', w', hcr⟩ := hcr
          obtain ⟨O', C', K', hB', hVC', r1, r2, r3⟩ := cr_V hcr
          rw [z, if_neg (c := (1 : Int32) = 0) (by decide), shp_r (k := 0) (by omega) hB.1 hB'.1 ⟨hVR.1.1, hVR.1.2.1, hVR.1.2.2.1⟩ ⟨r1.1, r1.2.1, r1.2.2.1⟩ (i1.trans z)]
          simp only [if_pos (show nI 0 = 0 from rfl)]
          unfold f_X0_isShapedLike_9_15
          rw [hVC.1.1, hVC.1.2.1, hVC.1.2.2.1, hVC'.1.1, hVC'.1.2.1, hVC'.1.2.2.1]
          by_cases es : n' = n ∧ m' = m ∧ w' = w
          · obtain ⟨rfl, rfl, rfl⟩ := es
            have hVK : VK M 0 n' m' w' O' C' K' := ⟨r1, r2, r3⟩
            simp only [true_and, if_true, if_neg (show ¬ (1 : Int32) = 0 by decide), if_neg (show ¬ nI 1 = 0 by decide)]
            rcases two01 h2 with ea | ea
            · subst ea
              simp only [if_true]
              obtain ⟨r, er, d1, d2, d3⟩ := sdf_r (by omega) hB hVR hB' hVK
              rw [sot_15 hB hVC hB' hVC', er]
              refine ⟨_, r.2, rfl, by rw [if_pos (c := am_dbin (nI 0) 2 = true) (by decide), Option.bind_some, d1], rel_chip hR (crel_cp hc (fun j _ => by rw [d2 9 (by decide) (by decide) (by decide) (by decide)]) (fun j _ => by rw [d2 (9 + 1) (by decide) (by decide) (by decide) (by decide)]) (fun j _ => by rw [d2 (9 + 2) (by decide) (by decide) (by decide) (by decide)]) (fun j _ => by rw [d2 (9 + 3) (by decide) (by decide) (by decide) (by decide)]) (fun j _ => by rw [d2 (9 + 4) (by decide) (by decide) (by decide) (by decide)]) (fun j hj => by simpa using d3 j hj)) ⟨fun x hx => d2 x (by omega) (by omega) (by omega) (by omega), ?_, ?_, ?_, ?_, ?_, ?_⟩⟩ <;> rw [d2 _ (by decide) (by decide) (by decide) (by decide)]
            · subst ea
              simp only [if_neg (show ¬ (1 : Int32) = 0 by decide)]
              rw [cot_15 hB hVC hB' hVC', cdf_r (by omega) hB hVR hB' hVK]
              exact ⟨_, M, rfl, rfl, hR⟩
          · have e0 : (if nI n = nI n' then (if nI m = nI m' then (if nI w = nI w' then (1 : Int32) else 0) else 0) else 0) = 0 := by
              by_cases c1 : nI n = nI n'
              · rw [if_pos c1]
                by_cases c2 : nI m = nI m'
                · rw [if_pos c2]
                  by_cases c3 : nI w = nI w'
                  · exfalso
                    have b' := hB'.1
                    exact es ⟨((nI_eq (by omega) (by omega)).mp c1).symm, ((nI_eq (by omega) (by omega)).mp c2).symm, ((nI_eq (by omega) (by omega)).mp c3).symm⟩
                  · rw [if_neg c3]
                · rw [if_neg c2]
              · rw [if_neg c1]
            rw [e0, if_pos (c := (0 : Int32) = 0) rfl, if_neg es]
            exact ⟨_, M, rfl, rfl, hR⟩
      · rcases i4 with z | ⟨z, hcr⟩
        · rw [z, if_pos (c := (0 : Int32) = 0) rfl]
          exact ⟨_, M, rfl, hz (i3.trans z) _ (fun y => rfl), hR⟩
        · have hcr0 := hcr
          obtain ⟨n', m', w', hcr⟩ := hcr
          obtain ⟨O', C', K', hB', hVC', r1, r2, r3⟩ := cr_V hcr
          rw [z, if_neg (c := (1 : Int32) = 0) (by decide), shp_r (k := 1) (by omega) hB.1 hB'.1 ⟨hVR.1.1, hVR.1.2.1, hVR.1.2.2.1⟩ ⟨r1.1, r1.2.1, r1.2.2.1⟩ (i3.trans z)]
          simp only [if_neg (show ¬ nI 1 = 0 by decide), if_pos (show nI 1 = 1 from rfl)]
          unfold f_X0_isShapedLike_9_20
          rw [hVC.1.1, hVC.1.2.1, hVC.1.2.2.1, hVC'.1.1, hVC'.1.2.1, hVC'.1.2.2.1]
          by_cases es : n' = n ∧ m' = m ∧ w' = w
          · obtain ⟨rfl, rfl, rfl⟩ := es
            have hVK : VK M 1 n' m' w' O' C' K' := ⟨r1, r2, r3⟩
            simp only [true_and, if_true, if_neg (show ¬ (1 : Int32) = 0 by decide), if_neg (show ¬ nI 1 = 0 by decide)]
            rcases two01 h2 with ea | ea
            · subst ea
              simp only [if_true]
              obtain ⟨r, er, d1, d2, d3⟩ := sdf_r (by omega) hB hVR hB' hVK
              rw [sot_20 hB hVC hB' hVC', er]
              refine ⟨_, r.2, rfl, by rw [if_pos (c := am_dbin (nI 1) 2 = true) (by decide), Option.bind_some, d1], rel_chip hR (crel_cp hc (fun j _ => by rw [d2 9 (by decide) (by decide) (by decide) (by decide)]) (fun j _ => by rw [d2 (9 + 1) (by decide) (by decide) (by decide) (by decide)]) (fun j _ => by rw [d2 (9 + 2) (by decide) (by decide) (by decide) (by decide)]) (fun j _ => by rw [d2 (9 + 3) (by decide) (by decide) (by decide) (by decide)]) (fun j _ => by rw [d2 (9 + 4) (by decide) (by decide) (by decide) (by decide)]) (fun j hj => by simpa using d3 j hj)) ⟨fun x hx => d2 x (by omega) (by omega) (by omega) (by omega), ?_, ?_, ?_, ?_, ?_, ?_⟩⟩ <;> rw [d2 _ (by decide) (by decide) (by decide) (by decide)]
            · subst ea
              simp only [if_neg (show ¬ (1 : Int32) = 0 by decide)]
              rw [cot_20 hB hVC hB' hVC', cdf_r (by omega) hB hVR hB' hVK]
              exact ⟨_, M, rfl, rfl, hR⟩
          · have e0 : (if nI n = nI n' then (if nI m = nI m' then (if nI w = nI w' then (1 : Int32) else 0) else 0) else 0) = 0 := by
              by_cases c1 : nI n = nI n'
              · rw [if_pos c1]
                by_cases c2 : nI m = nI m'
                · rw [if_pos c2]
                  by_cases c3 : nI w = nI w'
                  · exfalso
                    have b' := hB'.1
                    exact es ⟨((nI_eq (by omega) (by omega)).mp c1).symm, ((nI_eq (by omega) (by omega)).mp c2).symm, ((nI_eq (by omega) (by omega)).mp c3).symm⟩
                  · rw [if_neg c3]
                · rw [if_neg c2]
              · rw [if_neg c1]
            rw [e0, if_pos (c := (0 : Int32) = 0) rfl, if_neg es]
            exact ⟨_, M, rfl, rfl, hR⟩
    · refine ⟨-1, M, ?_, ?_, hR⟩
      · by_cases c1 : a1 < 0
        · rw [if_pos c1]
        · rw [if_neg c1, if_neg (fun c2 => h2 ⟨Int32.not_lt.mp c1, c2⟩)]
      · rw [if_neg h2, if_pos (c := (0 : Int32) = 0) rfl]
  · refine ⟨-1, M, ?_, ?_, hR⟩
    · rw [e, if_pos (c := (0 : Int32) = 0) rfl]
    · rw [if_pos (in_n (b := 0) (c := 1) (by decide) (by decide) hno)]
