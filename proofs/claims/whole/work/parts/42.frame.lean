/-! WHAT THE RELATION LOOKS AT -/
theorem crel_fr {M M' : am_M} {p q o : Nat} (h : ∀ x, x = p ∨ x = p + 1 ∨ x = p + 2 ∨ x = p + 3 ∨ x = p + 4 ∨ x = q → M' x = M x) (hc : crel M p q o) : crel M' p q o := by
  obtain ⟨n, m, w, hc⟩ := hc
  refine ⟨n, m, w, ?_⟩
  have h0 := h p (by omega)
  have h1 := h (p + 1) (by omega)
  have h2 := h (p + 2) (by omega)
  have h3 := h (p + 3) (by omega)
  have h4 := h (p + 4) (by omega)
  have h5 := h q (by omega)
  unfold cr at hc ⊢
  rw [h0, h1, h2, h3, h4, h5]
  exact hc
theorem srel_fr {M M' : am_M} {p k : Nat} (h : ∀ x, x = p ∨ x = p + 1 ∨ x = 54 ∨ x = 55 ∨ x = 56 → M' x = M x) (hc : srel M p k) : srel M' p k := by
  have h0 := h p (by omega)
  have h1 := h (p + 1) (by omega)
  have h2 := h 54 (by omega)
  have h3 := h 55 (by omega)
  have h4 := h 56 (by omega)
  unfold srel at hc ⊢
  rw [h0, h1, h2, h3, h4]
  exact hc
theorem trel_fr {M M' : am_M} (h3 : M' 3 = M 3) (h48 : M' 48 = M 48) (h2 : M' 2 1 = M 2 1) (h43 : M' 43 12 = M 43 12) (hc : trel M) : trel M' := by
  unfold trel at hc ⊢
  rw [h3, h48, h2, h43]
  exact hc
/-- all that isn't the chip -/
def oth (M M' : am_M) : Prop := (∀ x, (15 ≤ x ∧ x ≤ 25) ∨ (35 ≤ x ∧ x ≤ 42) ∨ (45 ≤ x ∧ x ≤ 46) ∨ (54 ≤ x ∧ x ≤ 56) ∨ x = 3 ∨ x = 48 → M' x = M x) ∧ M' 0 1 = M 0 1 ∧ M' 0 8 = M 0 8 ∧ M' 2 1 = M 2 1 ∧ M' 43 12 = M 43 12 ∧ M' 43 17 = M 43 17 ∧ M' 43 30 = M 43 30
theorem oth_t {M M' M'' : am_M} (h : oth M M') (h' : oth M' M'') : oth M M'' := ⟨fun x hx => (h'.1 x hx).trans (h.1 x hx), h'.2.1.trans h.2.1, h'.2.2.1.trans h.2.2.1, h'.2.2.2.1.trans h.2.2.2.1, h'.2.2.2.2.1.trans h.2.2.2.2.1, h'.2.2.2.2.2.1.trans h.2.2.2.2.2.1, h'.2.2.2.2.2.2.trans h.2.2.2.2.2.2⟩
theorem oth_r {M : am_M} : oth M M := ⟨fun _ _ => rfl, rfl, rfl, rfl, rfl, rfl, rfl⟩
theorem rel_chip {M M' : am_M} (hR : Rel M) (hc : crel M' 9 44 0) (ho : oth M M') : Rel M' := by
  obtain ⟨-, ⟨i1, i2⟩, ⟨i3, i4⟩, ht, ⟨f1, f2⟩, s1, s2, s3, s4⟩ := hR
  obtain ⟨hp, o1, o2, o3, o4, o5, o6⟩ := ho
  have h25 := hp 25 (by omega)
  have h46 := hp 46 (by omega)
  refine ⟨hc, ⟨by rw [h25, h46]; exact i1, ?_⟩, ⟨by rw [h25, h46]; exact i3, ?_⟩, trel_fr (hp 3 (by omega)) (hp 48 (by omega)) o3 o4 ht, ⟨by rw [o5, o1]; exact f1, by rw [o6, o2]; exact f2⟩, srel_fr (fun x hx => hp x (by omega)) s1, srel_fr (fun x hx => hp x (by omega)) s2, srel_fr (fun x hx => hp x (by omega)) s3, srel_fr (fun x hx => hp x (by omega)) s4⟩
  · rw [h25]
    exact i2.imp id (fun h => ⟨h.1, crel_fr (fun x hx => hp x (by omega)) h.2⟩)
  · rw [h25]
    exact i4.imp id (fun h => ⟨h.1, crel_fr (fun x hx => hp x (by omega)) h.2⟩)
/-- nothing that matters has changed -/
theorem rel_same {M M' : am_M} (hR : Rel M) (hc : ∀ x, (9 ≤ x ∧ x ≤ 13) ∨ x = 44 → M' x = M x) (ho : oth M M') : Rel M' := rel_chip hR (crel_fr (fun x hx => hc x (by omega)) hR.1) ho
theorem oth_up {M : am_M} {p k : Nat} {v : Int32} (h : (4 ≤ p ∧ p ≤ 14) ∨ (26 ≤ p ∧ p ≤ 34) ∨ p = 44 ∨ p = 47 ∨ (49 ≤ p ∧ p ≤ 53) ∨ p = 1 ∨ (p = 43 ∧ k ≠ 12 ∧ k ≠ 17 ∧ k ≠ 30) ∨ (p = 2 ∧ k ≠ 1)) : oth M (am_up M p k v) := by
  refine ⟨fun x hx => am_up_ne (by omega), ?_, ?_, ?_, ?_, ?_, ?_⟩
  · exact up_p (by omega)
  · exact up_p (by omega)
  · by_cases hp : (2 : Nat) = p
    · exact up_k (by omega)
    · exact up_p hp
  · by_cases hp : (43 : Nat) = p
    · exact up_k (by omega)
    · exact up_p hp
  · by_cases hp : (43 : Nat) = p
    · exact up_k (by omega)
    · exact up_p hp
  · by_cases hp : (43 : Nat) = p
    · exact up_k (by omega)
    · exact up_p hp
