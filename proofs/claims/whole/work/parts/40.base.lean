/-! PURE: numbers, loops, memory -/
theorem db_ok {i n : Nat} (h : i < n) (hn : n < 2 ^ 31) : am_dbin (nI i) n = true := by
  have h1 := nI_in h hn
  unfold am_dbin
  simpa using h1
theorem lp_run {σ ρ : Type} {body : σ → Option (σ ⊕ ρ)} (S : Nat → σ) {n : Nat} {q : ρ} (hs : ∀ i, i < n → body (S i) = some (.inl (S (i + 1)))) (hx : body (S n) = some (.inr q)) : ∀ {F : Nat}, n < F → lp body F (S 0) = some q := by
  have key : ∀ k i F, i + k = n → k < F → lp body F (S i) = some q := by
    intro k
    induction k with
    | zero =>
      intro i F hi hF
      obtain ⟨F', rfl⟩ : ∃ F', F = F' + 1 := ⟨F - 1, by omega⟩
      have : i = n := by omega
      subst this
      rw [lp_s, hx]
    | succ k ih =>
      intro i F hi hF
      obtain ⟨F', rfl⟩ : ∃ F', F = F' + 1 := ⟨F - 1, by omega⟩
      rw [lp_s, hs i (by omega)]
      exact ih (i + 1) F' (by omega) (by omega)
  intro F hF
  exact key n 0 F (by omega) hF
theorem lp_inv {σ ρ : Type} {body : σ → Option (σ ⊕ ρ)} (I : Nat → σ → Prop) (G : ρ → Prop) {n : Nat} (hs : ∀ i s, i < n → I i s → (∃ s', body s = some (.inl s') ∧ I (i + 1) s') ∨ (∃ q, body s = some (.inr q) ∧ G q)) (hx : ∀ s, I n s → ∃ q, body s = some (.inr q) ∧ G q) {s0 : σ} (h0 : I 0 s0) {F : Nat} (hF : n < F) : ∃ q, lp body F s0 = some q ∧ G q := by
  have key : ∀ k i s F, i + k = n → k < F → I i s → ∃ q, lp body F s = some q ∧ G q := by
    intro k
    induction k with
    | zero =>
      intro i s F hi hF h
      obtain ⟨F', rfl⟩ : ∃ F', F = F' + 1 := ⟨F - 1, by omega⟩
      have : i = n := by omega
      subst this
      obtain ⟨q, hq, hG⟩ := hx s h
      exact ⟨q, by rw [lp_s, hq], hG⟩
    | succ k ih =>
      intro i s F hi hF h
      obtain ⟨F', rfl⟩ : ∃ F', F = F' + 1 := ⟨F - 1, by omega⟩
      rcases hs i s (by omega) h with ⟨s', h1, h2⟩ | ⟨q, hq, hG⟩
      · obtain ⟨q, h3, h4⟩ := ih (i + 1) s' F' (by omega) (by omega) h2
        exact ⟨q, by rw [lp_s, h1]; exact h3, h4⟩
      · exact ⟨q, by rw [lp_s, hq], hG⟩
  exact key n 0 s0 F (by omega) hF h0
theorem lpF {n : Nat} (h : n < 4999) : n < lp_F := Nat.lt_trans h (by decide)
/-- n turns of a step that knows its number -/
def itr {α : Type} (g : Nat → α → α) (a : α) : Nat → α
  | 0 => a
  | n + 1 => g n (itr g a n)
theorem itr_cong {α : Type} {g h : Nat → α → α} {a : α} : ∀ {n : Nat}, (∀ i x, i < n → g i x = h i x) → itr g a n = itr h a n
  | 0, _ => rfl
  | n + 1, e => by
    show g n (itr g a n) = h n (itr h a n)
    rw [itr_cong (n := n) (fun i x hi => e i x (Nat.lt_succ_of_lt hi)), e n _ (Nat.lt_succ_self n)]
theorem up_s {M : am_M} {p k : Nat} {v : Int32} : am_up M p k v p k = v := by
  rw [am_up_eq]; exact pk_us
theorem up_p {M : am_M} {p k q j : Nat} {v : Int32} (h : q ≠ p) : am_up M p k v q j = M q j := by
  rw [am_up_ne h]
theorem up_k {M : am_M} {p k q j : Nat} {v : Int32} (h : j ≠ k) : am_up M p k v q j = M q j := by
  by_cases hq : q = p
  · subst hq; rw [am_up_eq]; exact pk_un h
  · rw [am_up_ne hq]
theorem up_i {M : am_M} {p k q j : Nat} {v : Int32} : am_up M p k v q j = if q = p ∧ j = k then v else M q j := by
  by_cases hq : q = p
  · by_cases hj : j = k
    · subst hq; subst hj; rw [if_pos ⟨rfl, rfl⟩, up_s]
    · rw [if_neg (fun h => hj h.2), up_k hj]
  · rw [if_neg (fun h => hq h.1), up_p hq]
/-- numbers that fit -/
theorem ni_le {a b : Nat} (ha : a < 2 ^ 31) (hb : b < 2 ^ 31) : nI a ≤ nI b ↔ a ≤ b := nI_leI ha hb
theorem ni_lt {a b : Nat} (ha : a < 2 ^ 31) (hb : b < 2 ^ 31) : nI a < nI b ↔ a < b := nI_ltI ha hb
theorem ni_lit (n : Nat) : (OfNat.ofNat n : Int32) = nI n := rfl
theorem i64_lt (a b : Int32) : a.toInt64 < b.toInt64 ↔ a < b := by
  rw [Int64.lt_iff_toInt_lt, Int32.lt_iff_toInt_lt, Int32.toInt_toInt64, Int32.toInt_toInt64]
theorem i64_le (a b : Int32) : a.toInt64 ≤ b.toInt64 ↔ a ≤ b := by
  rw [Int64.le_iff_toInt_le, Int32.le_iff_toInt_le, Int32.toInt_toInt64, Int32.toInt_toInt64]
theorem in_i (a b c : Int64) : f_X8_in a b c = if b ≤ a ∧ a ≤ c then 1 else 0 := by
  unfold f_X8_in
  have h1 : (lg_cmp a b < 0) ↔ a < b := by
    unfold lg_cmp
    simp only [gt_iff_lt, Int64.lt_iff_toInt_lt, ← Int64.toInt_inj]
    repeat' split
    all_goals (constructor <;> intro hh <;> first | omega | (exact absurd hh (by decide)) | decide)
  have h2 : (0 < lg_cmp a c) ↔ c < a := by
    unfold lg_cmp
    simp only [gt_iff_lt, Int64.lt_iff_toInt_lt, ← Int64.toInt_inj]
    repeat' split
    all_goals (constructor <;> intro hh <;> first | omega | (exact absurd hh (by decide)) | decide)
  have e1 : ¬ a < b ↔ b ≤ a := by rw [Int64.lt_iff_toInt_lt, Int64.le_iff_toInt_le]; omega
  have e2 : ¬ c < a ↔ a ≤ c := by rw [Int64.lt_iff_toInt_lt, Int64.le_iff_toInt_le]; omega
  by_cases c1 : a < b
  · rw [if_pos (h1.mpr c1), if_neg (fun h => absurd c1 (e1.mpr h.1))]
  · rw [if_neg (fun h => c1 (h1.mp h))]
    by_cases c2 : c < a
    · rw [if_pos (h2.mpr c2), if_neg (fun h => absurd c2 (e2.mpr h.2))]
    · rw [if_neg (fun h => c2 (h2.mp h)), if_pos ⟨e1.mp c1, e2.mp c2⟩]
/-- in, over ints -/
theorem in_32 (a b c : Int32) : f_X8_in a.toInt64 b.toInt64 c.toInt64 = if b ≤ a ∧ a ≤ c then 1 else 0 := by
  simp only [in_i, i64_le]
theorem in_l (a : Int32) {b c : Int32} {B C : Int64} (hB : B = b.toInt64) (hC : C = c.toInt64) : f_X8_in a.toInt64 B C = if b ≤ a ∧ a ≤ c then 1 else 0 := by
  subst hB; subst hC; exact in_32 a b c
theorem in_y {a b c : Int32} {B C : Int64} (hB : B = b.toInt64) (hC : C = c.toInt64) (h : b ≤ a ∧ a ≤ c) : ¬ f_X8_in a.toInt64 B C = 0 := by
  rw [in_l a hB hC, if_pos h]; decide
theorem in_n {a b c : Int32} {B C : Int64} (hB : B = b.toInt64) (hC : C = c.toInt64) (h : ¬ (b ≤ a ∧ a ≤ c)) : f_X8_in a.toInt64 B C = 0 := by
  rw [in_l a hB hC, if_neg h]
