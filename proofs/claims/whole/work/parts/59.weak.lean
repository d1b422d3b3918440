/-! WEAK, DRAW -/
theorem rep_c {M : am_M} {n m w O C K} (hB : VB n m w O C K) (hV : VC M 9 n m w O C K) {c : Nat} (hc : c < n) : (f_X0_repeatsLower_9 (nI c) M = some 1 ∧ ∃ d, d < c ∧ K d = K c) ∨ (f_X0_repeatsLower_9 (nI c) M = some 0 ∧ ¬ ∃ d, d < c ∧ K d = K c) := by
  obtain ⟨⟨hn, hm, hw⟩, hO, hC2, hKw⟩ := hB
  obtain ⟨⟨p0, p1, p2, p3⟩, hC, hK⟩ := hV
  have h8w := pw8 hw
  have hkc := hKw c hc
  have hl := lp_inv (body := fun x2 => (if (nI c) ≤ x2 then (some (.inr (.inr x2))) else (if am_dbin x2 8 = true then (if am_dbin (nI c) 8 = true then (if (M 12 x2.toNatClampNeg) = (M 12 (nI c).toNatClampNeg) then (some (.inr (.inl 1))) else (some (.inl (x2 + 1)))) else none) else none)))
    (fun i s => s = nI i ∧ ¬ ∃ d, d < i ∧ K d = K c) (fun q : Int32 ⊕ Int32 => (q = .inl 1 ∧ ∃ d, d < c ∧ K d = K c) ∨ (q = .inr (nI c) ∧ ¬ ∃ d, d < c ∧ K d = K c)) (n := c) ?_ ?_ (s0 := (0 : Int32)) ⟨rfl, by rintro ⟨d, hd, -⟩; omega⟩ (F := lp_F) (lpF (by omega))
  · obtain ⟨q, h1, h2⟩ := hl
    rcases h2 with ⟨h2, h3⟩ | ⟨h2, h3⟩
    · left
      refine ⟨?_, h3⟩
      unfold f_X0_repeatsLower_9
      refine Option.bind_eq_some_iff.mpr ⟨q, h1, ?_⟩
      rw [h2]; rfl
    · right
      refine ⟨?_, h3⟩
      unfold f_X0_repeatsLower_9
      refine Option.bind_eq_some_iff.mpr ⟨q, h1, ?_⟩
      rw [h2]; rfl
  · rintro i s hi ⟨rfl, hs⟩
    have hki := hKw i (by omega)
    rw [if_neg (nle_n hi (by omega)), if_pos (db_ok (by omega) (by omega)), if_pos (db_ok (by omega) (by omega)), nI_clamp (by omega), nI_clamp (by omega), hK i (by omega), hK c hc, nI_s]
    by_cases e : K i = K c
    · rw [e, if_pos rfl]
      exact Or.inr ⟨_, rfl, Or.inl ⟨rfl, i, hi, e⟩⟩
    · rw [if_neg (nI_ne (by omega) (by omega) e)]
      refine Or.inl ⟨_, rfl, rfl, ?_⟩
      rintro ⟨d, hd, hr⟩
      by_cases ed : d = i
      · subst ed; exact e hr
      · exact hs ⟨d, by omega, hr⟩
  · rintro s ⟨rfl, hs⟩
    rw [if_pos (nle_y (by omega) (by omega))]
    exact ⟨_, rfl, Or.inr ⟨rfl, hs⟩⟩
theorem rep_r {M : am_M} {n m w O C K} (hB : VB n m w O C K) (hV : VR M n m w O C K) {c : Nat} (hc : c < n) : (f_X8_isWeak_43 (nI c) 2 M = some 1 ∧ ∃ d, d < c ∧ K d = K c) ∨ (f_X8_isWeak_43 (nI c) 2 M = some 0 ∧ ¬ ∃ d, d < c ∧ K d = K c) := by
  obtain ⟨⟨hn, hm, hw⟩, hO, hC2, hKw⟩ := hB
  obtain ⟨⟨p0, p1, p2, p3⟩, hC, hK⟩ := hV
  have h8w := pw8 hw
  have hkc := hKw c hc
  have hl := lp_inv (body := fun (s2 : Int32 × Int32) => match s2 with | (x3, x4) => (if nI c ≤ x4 then (some (.inr (x3, x4))) else (if x3 = 0 then (if am_dbin ((135 : Int32) + x4) 151 = true then (if am_dbin ((135 : Int32) + nI c) 151 = true then (if (M 44 ((135 : Int32) + x4).toNatClampNeg) = (M 44 ((135 : Int32) + nI c).toNatClampNeg) then (some (.inl (1, (x4 + 1)))) else (some (.inl (0, (x4 + 1))))) else none) else none) else (some (.inl (1, (x4 + 1)))))))
    (fun i s => (s = (0, nI i) ∧ ¬ ∃ d, d < i ∧ K d = K c) ∨ (s = (1, nI i) ∧ ∃ d, d < i ∧ K d = K c)) (fun q : Int32 × Int32 => (q = (0, nI c) ∧ ¬ ∃ d, d < c ∧ K d = K c) ∨ (q = (1, nI c) ∧ ∃ d, d < c ∧ K d = K c)) (n := c) ?_ ?_ (s0 := (0, 0)) (Or.inl ⟨rfl, by rintro ⟨d, hd, -⟩; omega⟩) (F := lp_F) (lpF (by omega))
  · obtain ⟨q, h1, h2⟩ := hl
    unfold f_X8_isWeak_43
    rw [if_pos (by decide)]
    rcases h2 with ⟨h2, h3⟩ | ⟨h2, h3⟩
    · exact Or.inr ⟨Option.bind_eq_some_iff.mpr ⟨q, h1, by rw [h2]; rfl⟩, h3⟩
    · exact Or.inl ⟨Option.bind_eq_some_iff.mpr ⟨q, h1, by rw [h2]; rfl⟩, h3⟩
  · rintro i s hi (⟨rfl, hs⟩ | ⟨rfl, hs⟩)
    · have hki := hKw i (by omega)
      dsimp only
      rw [if_neg (nle_n hi (by omega)), if_pos rfl, a_135, a_135, if_pos (db_ok (by omega) (by omega)), if_pos (db_ok (by omega) (by omega)), nI_clamp (by omega), nI_clamp (by omega), hK i (by omega), hK c hc, nI_s]
      by_cases e : K i = K c
      · rw [e, if_pos rfl]
        exact Or.inl ⟨_, rfl, Or.inr ⟨rfl, i, by omega, e⟩⟩
      · rw [if_neg (nI_ne (by omega) (by omega) e)]
        refine Or.inl ⟨_, rfl, Or.inl ⟨rfl, ?_⟩⟩
        rintro ⟨d, hd, hr⟩
        by_cases ed : d = i
        · subst ed; exact e hr
        · exact hs ⟨d, by omega, hr⟩
    · dsimp only
      rw [if_neg (nle_n hi (by omega)), if_neg (by decide), nI_s]
      obtain ⟨d, hd, hr⟩ := hs
      exact Or.inl ⟨_, rfl, Or.inr ⟨rfl, d, by omega, hr⟩⟩
  · rintro s (⟨rfl, hs⟩ | ⟨rfl, hs⟩)
    · dsimp only
      rw [if_pos (nle_y (by omega) (by omega))]
      exact ⟨_, rfl, Or.inl ⟨rfl, hs⟩⟩
    · dsimp only
      rw [if_pos (nle_y (by omega) (by omega))]
      exact ⟨_, rfl, Or.inr ⟨rfl, hs⟩⟩
theorem weak_cr {M : am_M} {n m w O C K} (hB : VB n m w O C K) (hV : VC M 9 n m w O C K) (hR : VR M n m w O C K) {c : Nat} (hc : c < n) {a : Int32} (ha : cv3 a) : ∃ v, v ≤ 1 ∧ f_X0_isWeak_9 (nI c) a M = some (nI v) ∧ f_X8_isWeak_43 (nI c) a M = some (nI v) := by
  have hB' := hB
  have hV' := hV
  have hR' := hR
  obtain ⟨⟨hn, hm, hw⟩, hO, hC2, hKw⟩ := hB
  obtain ⟨⟨p0, p1, p2, p3⟩, hC, hK⟩ := hV
  obtain ⟨⟨q0, q1, q2, q3⟩, rC, rK⟩ := hR
  have h8w := pw8 hw
  have hkc := hKw c hc
  rcases ha with e | e | e
  · subst e
    have w1 : f_X0_isWeak_9 (nI c) 0 M = if nI (K c) = 0 then some 1 else some 0 := by
      unfold f_X0_isWeak_9
      rw [if_pos rfl, if_pos (db_ok (by omega) (by omega)), nI_clamp (by omega), hK c hc]
    have w2 : f_X8_isWeak_43 (nI c) 0 M = if nI (K c) = 0 then some 1 else some 0 := by
      unfold f_X8_isWeak_43
      rw [if_neg (by decide), if_pos rfl, a_135, if_pos (db_ok (by omega) (by omega)), nI_clamp (by omega), rK c hc]
    rw [w1, w2]
    by_cases e : nI (K c) = 0
    · rw [if_pos e]
      exact ⟨1, by omega, rfl, rfl⟩
    · rw [if_neg e]
      exact ⟨0, by omega, rfl, rfl⟩
  · subst e
    have w1 : f_X0_isWeak_9 (nI c) 1 M = if nI (cntN (K c) 20) - nI (cntN (K c) 20) / 2 * 2 = 0 then some 1 else some 0 := by
      unfold f_X0_isWeak_9
      rw [if_neg (by decide), if_pos rfl, if_pos (db_ok (by omega) (by omega)), nI_clamp (by omega), hK c hc, bc_ok (by omega)]
    have w2 : f_X8_isWeak_43 (nI c) 1 M = if nI (cntN (K c) 20) - nI (cntN (K c) 20) / 2 * 2 = 0 then some 1 else some 0 := by
      unfold f_X8_isWeak_43
      rw [if_neg (by decide), if_neg (by decide), a_135, if_pos (db_ok (by omega) (by omega)), nI_clamp (by omega), rK c hc, bits_ok (by omega), Option.bind_some]
    rw [w1, w2]
    generalize nI (cntN (K c) 20) = y
    by_cases e : y - y / 2 * 2 = 0
    · rw [if_pos e]
      exact ⟨1, by omega, rfl, rfl⟩
    · rw [if_neg e]
      exact ⟨0, by omega, rfl, rfl⟩
  · subst e
    have h1 : f_X0_isWeak_9 (nI c) 2 M = (f_X0_repeatsLower_9 (nI c) M).bind (fun v5 => (if v5 = 0 ∨ v5 = 1 then (some v5) else none)) := by
      unfold f_X0_isWeak_9
      rw [if_neg (by decide), if_neg (by decide)]
    rw [h1]
    rcases rep_c hB' hV' hc with ⟨e1, h1⟩ | ⟨e1, h1⟩ <;> rcases rep_r hB' hR' hc with ⟨e2, h2⟩ | ⟨e2, h2⟩
    · rw [e1, e2]; exact ⟨1, by omega, rfl, rfl⟩
    · exact absurd h1 h2
    · exact absurd h2 h1
    · rw [e1, e2]; exact ⟨0, by omega, rfl, rfl⟩
theorem op_weak (a0 : Int32) {M : am_M} (h : Rel M) : ∃ v, f_X7_weak_0 a0 M = some v ∧ f_X8_weak_43 a0 M = some v ∧ Rel M := by
  obtain ⟨n, m, w, O, C, K, hB, hVC, hVR⟩ := rel_V h
  have hn := hB.1.1
  unfold f_X7_weak_0 f_X8_weak_43
  by_cases ha : cv3 a0
  · have hin := (v3 a0).mpr ha
    rw [if_neg (Int32.not_lt.mpr hin.1), if_pos hin.2, if_neg (in_y (b := 0) (c := 2) (by decide) (by decide) hin), clamp0, hVC.1.1, hVR.1.1]
    refine ⟨nI (sm (fun c => tn ((f_X8_isWeak_43 (nI c) a0 M).getD 0)) n), ?_, ?_, h⟩
    · refine Option.bind_eq_some_iff.mpr ⟨_, lp_sum (a := 0) (fun c => tn ((f_X8_isWeak_43 (nI c) a0 M).getD 0)) (n := n) (by omega) ?_ ?_, by simp only [Nat.zero_add]⟩
      · intro c x hc
        obtain ⟨v, hv, e1, e2⟩ := weak_cr hB hVC hVR hc ha
        dsimp only
        rw [if_neg (nle_n hc (by omega)), e1, e2, Option.bind_some, Option.getD_some, tn_nI (by omega), nI_s, nI_s]
        have h2 : v = 0 ∨ v = 1 := by omega
        rcases h2 with h2 | h2
        · rw [h2, if_pos (c := nI 0 = 0) rfl]; rfl
        · rw [h2, if_neg (c := nI 1 = 0) (by decide)]
      · intro x
        dsimp only
        rw [if_pos (nle_y (by omega) (by omega))]
    · refine Option.bind_eq_some_iff.mpr ⟨_, lp_sum (a := 0) (fun c => tn ((f_X8_isWeak_43 (nI c) a0 M).getD 0)) (n := n) (by omega) ?_ ?_, by simp only [Nat.zero_add]⟩
      · intro c x hc
        obtain ⟨v, hv, e1, e2⟩ := weak_cr hB hVC hVR hc ha
        dsimp only
        rw [if_neg (nle_n hc (by omega)), e2, Option.bind_some, Option.getD_some, tn_nI (by omega), nI_s, flag_w hv, nI_add]
      · intro x
        dsimp only
        rw [if_pos (nle_y (by omega) (by omega))]
  · refine ⟨-1, ?_, ?_, h⟩
    · by_cases h1 : a0 < 0
      · rw [if_pos h1]
      · rw [if_neg h1, if_neg (fun q => ha ((v3 a0).mp ⟨Int32.not_lt.mp h1, q⟩))]
    · rw [if_pos (in_n (b := 0) (c := 2) (by decide) (by decide) (fun q => ha ((v3 a0).mp q)))]
theorem tn_lt (x : Int32) : tn x < 2 ^ 32 := x.toBitVec.isLt
theorem sh16 (x : Int32) : (ushr x 16 &&& 32767) = nI (tn x / 65536 % 32768) ∧ ((x >>> ((16 : Int32) &&& 31)) &&& 32767) = nI (tn x / 65536 % 32768) := by
  constructor
  · have h1 : ushr x 16 = nI (tn x / 2 ^ 16) := by
      rw [tn_n x, n_ushr (tn_lt _) 16 16 (by decide), tn_nI (tn_lt _)]
    have hx := tn_lt x
    rw [h1, pk_andN (by omega) 15 (by decide)]
  · have h2 : (x >>> ((16 : Int32) &&& 31)) &&& 32767 = nI (tn (x >>> ((16 : Int32) &&& 31)) % 2 ^ 15) := by
      rw [tn_n (x >>> ((16 : Int32) &&& 31)), pk_andN (tn_lt _) 15 (by decide), tn_nI (tn_lt _)]
    have h3 : (x >>> ((16 : Int32) &&& 31)).toInt = x.toInt >>> 16 := pk_shr x _ 16 (by decide)
    rw [h2]
    generalize x >>> ((16 : Int32) &&& 31) = y at h3
    have ht : ∀ z : Int32, z.toInt = if 2 * tn z < 2 ^ 32 then (tn z : Int) else (tn z : Int) - (2 ^ 32 : Nat) := fun z => BitVec.toInt_eq_toNat_cond z.toBitVec
    rw [Int.shiftRight_eq_div_pow, ht y, ht x] at h3
    have hx := tn_lt x
    have hy := tn_lt y
    have : tn y % 2 ^ 15 = tn x / 65536 % 32768 := by
      split at h3 <;> split at h3 <;> omega
    rw [this]
def sq (a : Int32) : Nat → Int32
  | 0 => a
  | k + 1 => sq a k * 1103515245 + 12345
def dcv (x : Int32) : Int32 := f_X7_drawnCell (nI (tn x / 65536 % 32768))
theorem dcv_3 (x : Int32) : cv3 (dcv x) := by
  unfold dcv f_X7_drawnCell
  repeat' split
  · exact Or.inr (Or.inr rfl)
  · exact Or.inr (Or.inr rfl)
  · exact Or.inr (Or.inl rfl)
  · exact Or.inl rfl
theorem dcv_r (k : Nat) (hk : k < 2 ^ 31) : ∃ r, nI k - nI k / 5 * 5 = r ∧ (r = 4 ∧ f_X7_drawnCell (nI k) = 2 ∨ r ≠ 4 ∧ r = 3 ∧ f_X7_drawnCell (nI k) = 0 ∨ r ≠ 4 ∧ r ≠ 3 ∧ f_X7_drawnCell (nI k) = r) := by
  have h := pk_rem (a := k) (d := 5) hk (by decide) (by decide)
  unfold f_X7_drawnCell
  rw [show (5 : Int32) = nI 5 from rfl, h]
  have h5 : k % 5 = 0 ∨ k % 5 = 1 ∨ k % 5 = 2 ∨ k % 5 = 3 ∨ k % 5 = 4 := by omega
  refine ⟨nI (k % 5), rfl, ?_⟩
  rcases h5 with e | e | e | e | e <;> rw [e] <;> decide
