/-! HIDES -/
theorem sub_le {a b : Nat} (h : ∀ i, a.testBit i = true → b.testBit i = true) : a ≤ b := by
  have : a &&& b = a := by
    apply Nat.eq_of_testBit_eq
    intro i
    rw [Nat.testBit_and]
    by_cases e : a.testBit i = true
    · rw [e, h i e]; rfl
    · simp [e]
  rw [← this]
  exact Nat.and_le_right
/-- the least that both find -/
theorem hides_c {M : am_M} {n m w O C K} (hB : VB n m w O C K) (hV : VC M 9 n m w O C K) {x : Nat} (hx : x ≤ aN n O) (h0 : (nI x &&& (nI (aN n O) ^^^ (-1))) = 0) : ∃ v, f_X7_hides_0 (nI x) M = some v ∧ ((∃ e, 1 ≤ e ∧ e ≤ rN (aN n O) x ∧ (nI e &&& (nI (rN (aN n O) x) ^^^ (-1))) = 0 ∧ hN K n e x = 1 ∧ (∀ e', 1 ≤ e' → e' < e → (nI e' &&& (nI (rN (aN n O) x) ^^^ (-1))) = 0 → hN K n e' x = 0) ∧ v = nI e) ∨ ((∀ e', 1 ≤ e' → e' ≤ rN (aN n O) x → (nI e' &&& (nI (rN (aN n O) x) ^^^ (-1))) = 0 → hN K n e' x = 0) ∧ v = -4)) := by
  have hA := aN_lt (O := O) hB.1.1
  have h8 := pw8 hB.1.1
  have hr := rN_le (A := aN n O) (x := x) (by omega)
  unfold f_X7_hides_0
  have hrr : nI (aN n O) &&& (nI x ^^^ (-1)) = nI (rN (aN n O) x) := tn_n _
  rw [ins_c hB hV, if_pos h0, cov_c hB hV (by omega), Option.bind_some, hrr]
  generalize rN (aN n O) x = R at hr
  refine lp_bnd (fun v => v) (fun i s => s = nI (i + 1) ∧ ∀ e', 1 ≤ e' → e' < i + 1 → (nI e' &&& (nI R ^^^ (-1))) = 0 → hN K n e' x = 0) (fun q => (∃ e, 1 ≤ e ∧ e ≤ R ∧ (nI e &&& (nI R ^^^ (-1))) = 0 ∧ hN K n e x = 1 ∧ (∀ e', 1 ≤ e' → e' < e → (nI e' &&& (nI R ^^^ (-1))) = 0 → hN K n e' x = 0) ∧ q = .inl (nI e)) ∨ (∃ y, (∀ e', 1 ≤ e' → e' ≤ R → (nI e' &&& (nI R ^^^ (-1))) = 0 → hN K n e' x = 0) ∧ q = .inr y)) (n := R) (lpF (by omega)) ⟨rfl, fun e' h1 h2 => by omega⟩ ?_ ?_ ?_
  · rintro i s hi ⟨rfl, hs⟩
    rw [if_neg (fun q => by
      have := (ni_lt (by omega) (by omega)).mp q
      omega), sum_c hB hV (by omega), nI_s]
    have hh : hN K n (i + 1) x = if (nI (xN K (i + 1) n) &&& (nI (jN K x n) ^^^ (-1))) = 0 then 1 else 0 := rfl
    have next : (nI (i + 1) &&& (nI R ^^^ (-1))) ≠ 0 ∨ hN K n (i + 1) x = 0 → ∀ e', 1 ≤ e' → e' < i + 1 + 1 → (nI e' &&& (nI R ^^^ (-1))) = 0 → hN K n e' x = 0 := by
      intro hor e' h1 h2 h3
      by_cases ee : e' = i + 1
      · subst ee
        rcases hor with hor | hor
        · exact absurd h3 hor
        · exact hor
      · exact hs e' h1 (by omega) h3
    by_cases e1 : (nI (i + 1) &&& (nI R ^^^ (-1))) = 0
    · rw [if_pos e1, Option.bind_some]
      by_cases e2 : (nI (xN K (i + 1) n) &&& (nI (jN K x n) ^^^ (-1))) = 0
      · rw [if_pos e2] at hh
        rw [if_pos e2]
        exact Or.inr ⟨_, rfl, Or.inl ⟨i + 1, by omega, by omega, e1, hh, hs, rfl⟩⟩
      · rw [if_neg e2] at hh
        rw [if_neg e2]
        exact Or.inl ⟨_, rfl, rfl, next (Or.inr hh)⟩
    · rw [if_neg e1]
      exact Or.inl ⟨_, rfl, rfl, next (Or.inl e1)⟩
  · rintro s ⟨rfl, hs⟩
    rw [if_pos ((ni_lt (by omega) (by omega)).mpr (by omega))]
    exact ⟨_, rfl, Or.inr ⟨_, fun e' h1 h2 h3 => hs e' h1 (by omega) h3, rfl⟩⟩
  · rintro q (⟨e, h1, h2, h3, h4, h5, rfl⟩ | ⟨y, h1, rfl⟩)
    · exact ⟨_, rfl, Or.inl ⟨e, h1, h2, h3, h4, h5, rfl⟩⟩
    · exact ⟨_, rfl, Or.inr ⟨h1, rfl⟩⟩
theorem hides_r {M : am_M} {n m w O C K} (hB : VB n m w O C K) (hV : VR M n m w O C K) {x : Nat} (hx : x ≤ aN n O) (h0 : (nI x &&& (nI (aN n O) ^^^ (-1))) = 0) : ∃ v, f_X8_hides_43 (nI x) M = some v ∧ ((∃ e, 1 ≤ e ∧ e ≤ aN n O ∧ (nI e &&& (nI (rN (aN n O) x) ^^^ (-1))) = 0 ∧ hN K n e x = 1 ∧ (∀ e', 1 ≤ e' → e' < e → (nI e' &&& (nI (rN (aN n O) x) ^^^ (-1))) = 0 → hN K n e' x = 0) ∧ v = nI e) ∨ ((∀ e', 1 ≤ e' → e' ≤ aN n O → (nI e' &&& (nI (rN (aN n O) x) ^^^ (-1))) = 0 → hN K n e' x = 0) ∧ v = -4)) := by
  have hA := aN_lt (O := O) hB.1.1
  have h8 := pw8 hB.1.1
  have hr := rN_le (A := aN n O) (x := x) (by omega)
  unfold f_X8_hides_43
  have hrr : nI (aN n O) &&& (nI x ^^^ (-1)) = nI (rN (aN n O) x) := tn_n _
  rw [if_neg (nI_pos (by omega)), ins_r hB hV, if_pos h0, hrr]
  generalize rN (aN n O) x = R at hr
  generalize aN n O = A at hx h0 hA hr
  refine lp_bnd (fun v => v) (fun i s => s = nI (i + 1) ∧ ∀ e', 1 ≤ e' → e' < i + 1 → (nI e' &&& (nI R ^^^ (-1))) = 0 → hN K n e' x = 0) (fun q => (∃ e, 1 ≤ e ∧ e ≤ A ∧ (nI e &&& (nI R ^^^ (-1))) = 0 ∧ hN K n e x = 1 ∧ (∀ e', 1 ≤ e' → e' < e → (nI e' &&& (nI R ^^^ (-1))) = 0 → hN K n e' x = 0) ∧ q = .inl (nI e)) ∨ (∃ y, (∀ e', 1 ≤ e' → e' ≤ A → (nI e' &&& (nI R ^^^ (-1))) = 0 → hN K n e' x = 0) ∧ q = .inr y)) (n := A) (lpF (by omega)) ⟨rfl, fun e' h1 h2 => by omega⟩ ?_ ?_ ?_
  · rintro i s hi ⟨rfl, hs⟩
    rw [if_neg (fun q => by
      have := (ni_lt (by omega) (by omega)).mp q
      omega), hid_r hB hV (by omega) (by omega), nI_s]
    have next : (nI (i + 1) &&& (nI R ^^^ (-1))) ≠ 0 ∨ hN K n (i + 1) x = 0 → ∀ e', 1 ≤ e' → e' < i + 1 + 1 → (nI e' &&& (nI R ^^^ (-1))) = 0 → hN K n e' x = 0 := by
      intro hor e' h1 h2 h3
      by_cases ee : e' = i + 1
      · subst ee
        rcases hor with hor | hor
        · exact absurd h3 hor
        · exact hor
      · exact hs e' h1 (by omega) h3
    by_cases e1 : (nI (i + 1) &&& (nI R ^^^ (-1))) = 0
    · rw [if_pos e1, Option.bind_some]
      have h1 := hN_1 (K := K) (n := n) (x := i + 1) (u := x)
      have h2 : hN K n (i + 1) x = 0 ∨ hN K n (i + 1) x = 1 := by omega
      rcases h2 with hh | hh
      · rw [hh, if_pos (c := nI 0 = 0) rfl]
        exact Or.inl ⟨_, rfl, rfl, next (Or.inr hh)⟩
      · rw [hh, if_neg (c := nI 1 = 0) (by decide)]
        exact Or.inr ⟨_, rfl, Or.inl ⟨i + 1, by omega, by omega, e1, hh, hs, rfl⟩⟩
    · rw [if_neg e1]
      exact Or.inl ⟨_, rfl, rfl, next (Or.inl e1)⟩
  · rintro s ⟨rfl, hs⟩
    rw [if_pos ((ni_lt (by omega) (by omega)).mpr (by omega))]
    exact ⟨_, rfl, Or.inr ⟨_, fun e' h1 h2 h3 => hs e' h1 (by omega) h3, rfl⟩⟩
  · rintro q (⟨e, h1, h2, h3, h4, h5, rfl⟩ | ⟨y, h1, rfl⟩)
    · exact ⟨_, rfl, Or.inl ⟨e, h1, h2, h3, h4, h5, rfl⟩⟩
    · exact ⟨_, rfl, Or.inr ⟨h1, rfl⟩⟩
theorem op_hides (a0 : Int32) {M : am_M} (h : Rel M) : ∃ v, f_X7_hides_0 a0 M = some v ∧ f_X8_hides_43 a0 M = some v ∧ Rel M := by
  obtain ⟨n, m, w, O, C, K, hB, hVC, hVR⟩ := rel_V h
  have hA := aN_lt (O := O) hB.1.1
  have h8 := pw8 hB.1.1
  by_cases h0 : (a0 &&& (nI (aN n O) ^^^ (-1))) = 0
  · have hsub := (n_andn (a := tn a0) (b := aN n O) (tn_lt a0) (by omega)).mp (by rw [← tn_n]; exact h0)
    have hle := sub_le hsub
    have ha : a0 = nI (tn a0) := tn_n a0
    generalize tn a0 = x at hsub hle ha
    subst ha
    have hr := rN_le (A := aN n O) (x := x) (by omega)
    obtain ⟨v, e1, h1⟩ := hides_c hB hVC hle h0
    obtain ⟨v', e2, h2⟩ := hides_r hB hVR hle h0
    refine ⟨v, e1, ?_, h⟩
    rw [e2]
    have hin : ∀ e, e ≤ aN n O → (nI e &&& (nI (rN (aN n O) x) ^^^ (-1))) = 0 → e ≤ rN (aN n O) x := fun e he hz => sub_le ((n_andn (by omega) (by omega)).mp hz)
    have : v' = v := by
      rcases h1 with ⟨e, a1, a2, a3, a4, a5, rfl⟩ | ⟨a1, rfl⟩ <;> rcases h2 with ⟨e', b1, b2, b3, b4, b5, rfl⟩ | ⟨b1, rfl⟩
      · have : e = e' := by
          apply Decidable.byContradiction
          intro hne
          have hlt : e < e' ∨ e' < e := by omega
          rcases hlt with hl | hl
          · have := b5 e a1 hl a3
            omega
          · have := a5 e' b1 hl b3
            omega
        rw [this]
      · have := b1 e a1 (by omega) a3
        omega
      · have := a1 e' b1 (hin e' b2 b3) b3
        omega
      · rfl
    rw [this]
  · refine ⟨-1, ?_, ?_, h⟩
    · unfold f_X7_hides_0
      rw [ins_c hB hVC, if_neg h0]
    · unfold f_X8_hides_43
      rw [ins_r hB hVR, if_neg h0]
      split <;> rfl
