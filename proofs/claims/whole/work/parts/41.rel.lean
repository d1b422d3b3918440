/-! THE RELATION: the class's chip at place p (arrays behind it) and the reference's row at place q from o on -/
def bit (x : Int32) (k : Nat) : Prop := ∃ a : Nat, a < 2 ^ k ∧ x = nI a
def cr (M : am_M) (p q o n m w : Nat) : Prop :=
  (n ≤ 8 ∧ m ≤ 8 ∧ w ≤ 8) ∧ (M p 0 = nI n ∧ M p 1 = nI m ∧ M p 2 = nI w) ∧ (M q o = nI n ∧ M q (o + 1) = nI m ∧ M q (o + 2) = nI w) ∧
  (M q (o + 3) = M p 3 ∧ M q (o + 4) = M p 4 ∧ M q (o + 5) = M p 5 ∧ M q (o + 6) = M p 6) ∧
  (bit (M p 3) n ∧ (∃ b : Nat, 1 ≤ b ∧ b ≤ 12 ∧ M p 4 = nI b ∧ bit (M p 5) b) ∧ bit (M p 6) 8) ∧
  (∀ c t, c < n → t < m → M q (o + (7 + 8 * c + t)) = M (p + 1) (8 * c + t) ∧ (M (p + 1) (8 * c + t) = 0 ∨ M (p + 1) (8 * c + t) = 1 ∨ M (p + 1) (8 * c + t) = 2)) ∧
  (∀ c t, c < n → t < m → M q (o + (71 + 8 * c + t)) = M (p + 2) (8 * c + t) ∧ (M (p + 2) (8 * c + t) = 0 ∨ M (p + 2) (8 * c + t) = 1 ∨ M (p + 2) (8 * c + t) = 2)) ∧
  (∀ c, c < n → M q (o + (135 + c)) = M (p + 3) c ∧ bit (M (p + 3) c) w) ∧
  (∀ c, c < n → M q (o + (143 + c)) = M (p + 4) c ∧ bit (M (p + 4) c) 17)
def crel (M : am_M) (p q o : Nat) : Prop := ∃ n m w, cr M p q o n m w
/-- a sheet k: class at p, p + 1 -/
def srel (M : am_M) (p k : Nat) : Prop := (M p 0 = -1 ∧ M 54 k = -4) ∨ ∃ ln sz : Nat, ln < 3 ∧ sz ≤ 40 ∧ M p 0 = nI ln ∧ M 54 k = nI ln ∧ M p 1 = nI sz ∧ M 55 k = nI sz ∧ ∀ i, i < 40 → M 56 (40 * k + i) = M (p + 1) i
/-- the tape -/
def trel (M : am_M) : Prop := ∃ l : Nat, l ≤ 160 ∧ M 2 1 = nI l ∧ M 43 12 = nI l ∧ ∀ i, i < l → M 48 i = M 3 i ∧ bit (M 3 i) 7
def Rel (M : am_M) : Prop := crel M 9 44 0 ∧ (M 46 0 = M 25 0 ∧ (M 25 0 = 0 ∨ (M 25 0 = 1 ∧ crel M 15 45 0))) ∧ (M 46 1 = M 25 1 ∧ (M 25 1 = 0 ∨ (M 25 1 = 1 ∧ crel M 20 45 151))) ∧ trel M ∧ (M 43 17 = M 0 1 ∧ M 43 30 = M 0 8) ∧ (srel M 35 0 ∧ srel M 37 1 ∧ srel M 39 2 ∧ srel M 41 3)
theorem rel_0 {M : am_M} (hM : ∀ q ∈ am_pl0, M q.1 q.2 = am_m0 q.1 q.2) : Rel M := by
  have e : ∀ (i p k : Nat), am_pl0[i]? = some (p, k) → M p k = am_m0 p k := fun i p k h => hM (p, k) (List.mem_of_getElem? h)
  refine ⟨⟨0, 0, 0, by omega, ⟨e 0 _ _ rfl, e 1 _ _ rfl, e 2 _ _ rfl⟩, ⟨e 7 _ _ rfl, e 8 _ _ rfl, e 9 _ _ rfl⟩, ⟨?_, ?_, ?_, ?_⟩, ⟨⟨0, by omega, e 3 _ _ rfl⟩, ⟨4, by omega, by omega, e 4 _ _ rfl, ⟨1, by omega, e 5 _ _ rfl⟩⟩, ⟨1, by omega, e 6 _ _ rfl⟩⟩, fun c t hc => absurd hc (Nat.not_lt_zero c), fun c t hc => absurd hc (Nat.not_lt_zero c), fun c hc => absurd hc (Nat.not_lt_zero c), fun c hc => absurd hc (Nat.not_lt_zero c)⟩, ⟨?_, Or.inl (e 17 _ _ rfl)⟩, ⟨?_, Or.inl (e 18 _ _ rfl)⟩, ⟨0, by omega, e 16 _ _ rfl, e 23 _ _ rfl, fun i hi => absurd hi (Nat.not_lt_zero i)⟩, ⟨?_, ?_⟩, Or.inl ⟨e 19 _ _ rfl, e 28 _ _ rfl⟩, Or.inl ⟨e 20 _ _ rfl, e 29 _ _ rfl⟩, Or.inl ⟨e 21 _ _ rfl, e 30 _ _ rfl⟩, Or.inl ⟨e 22 _ _ rfl, e 31 _ _ rfl⟩⟩
  · rw [e 10 _ _ rfl, e 3 _ _ rfl]; rfl
  · rw [e 11 _ _ rfl, e 4 _ _ rfl]; rfl
  · rw [e 12 _ _ rfl, e 5 _ _ rfl]; rfl
  · rw [e 13 _ _ rfl, e 6 _ _ rfl]; rfl
  · rw [e 26 _ _ rfl, e 17 _ _ rfl]; rfl
  · rw [e 27 _ _ rfl, e 18 _ _ rfl]; rfl
  · rw [e 24 _ _ rfl, e 14 _ _ rfl]; rfl
  · rw [e 25 _ _ rfl, e 15 _ _ rfl]; rfl
