/-! READ -/
/-- a sheet: nothing, or a lane and a length -/
def shD (M : am_M) (p k : Nat) : Option (Nat × Nat) → Prop
  | none => M p 0 = -1 ∧ M 54 k = -4
  | some (ln, sz) => (ln < 3 ∧ sz ≤ 40) ∧ (M p 0 = nI ln ∧ M p 1 = nI sz) ∧ (M 54 k = nI ln ∧ M 55 k = nI sz) ∧ ∀ i, i < 40 → M 56 (40 * k + i) = M (p + 1) i
theorem shD_of {M : am_M} {p k : Nat} (h : srel M p k) : ∃ D, shD M p k D := by
  rcases h with ⟨a, b⟩ | ⟨ln, sz, h5, h6, a, b, c, d, e⟩
  · exact ⟨none, a, b⟩
  · exact ⟨some (ln, sz), ⟨h5, h6⟩, ⟨a, c⟩, ⟨b, d⟩, e⟩
def fd : Option (Nat × Nat) → Nat → Int32 → Nat → Int32
  | none, _, _, _ => 1
  | some (ln, sz), l, a2, i => if ln = l then (if 0 ≤ a2.toInt + 3 * (i : Int) ∧ a2.toInt + 3 * (i : Int) + 3 ≤ (sz : Int) then 0 else 2) else 3
theorem a_3 (x : Int32) (i : Nat) : x + (3 : Int32) * nI i = x + nI (3 * i) := by
  rw [show (3 : Int32) = nI 3 from rfl, pk_mul]
theorem ti {a : Nat} (h : a < 2 ^ 31) : (nI a).toInt = (a : Int) := nI_toInt h
/-- where a triple is there -/
theorem fd_0 {D : Option (Nat × Nat)} {l : Nat} {a2 : Int32} {i : Nat} (h : fd D l a2 i = 0) (ha : i = 0 ∨ ∃ a, a ≤ 40 ∧ a2 = nI a) : ∃ a sz, D = some (l, sz) ∧ a2 = nI a ∧ a + 3 * i + 3 ≤ sz := by
  cases D with
  | none => exact absurd h (show ¬ (1 : Int32) = 0 by decide)
  | some d =>
    obtain ⟨ln, sz⟩ := d
    unfold fd at h
    dsimp only at h
    by_cases e1 : ln = l
    · rw [if_pos e1] at h
      by_cases e2 : 0 ≤ a2.toInt + 3 * (i : Int) ∧ a2.toInt + 3 * (i : Int) + 3 ≤ (sz : Int)
      · subst e1
        rcases ha with e | ⟨a, ha, rfl⟩
        · subst e
          have h0 : ¬ a2 < 0 := by
            rw [Int32.lt_iff_toInt_lt, show (0 : Int32).toInt = 0 by decide]
            omega
          obtain ⟨a, ha, rfl⟩ := nI_of h0
          rw [ti ha] at e2
          exact ⟨a, sz, rfl, rfl, by omega⟩
        · rw [ti (by omega)] at e2
          exact ⟨a, sz, rfl, rfl, by omega⟩
      · rw [if_neg e2] at h
        exact absurd h (by decide)
    · rw [if_neg e1] at h
      exact absurd h (by decide)
theorem fa_35 {M : am_M} {D : Option (Nat × Nat)} (hD : shD M 35 0 D) {l : Nat} (hl : l < 3) {a2 : Int32} {i : Nat} (hi : i ≤ 13) (ha : i = 0 ∨ ∃ a, a ≤ 40 ∧ a2 = nI a) : f_X3_faultAt_35 (nI l) (a2 + nI (3 * i)) 3 M = fd D l a2 i := by
  unfold f_X3_faultAt_35 f_X3_isNothing_35
  cases D with
  | none =>
    rw [hD.1]
    rfl
  | some d =>
    obtain ⟨ln, sz⟩ := d
    obtain ⟨⟨h1, h2⟩, ⟨h3, h4⟩, -⟩ := hD
    rw [h3, h4, if_neg (nI_m1 (by omega)), if_pos (c := (0 : Int32) = 0) rfl]
    unfold fd
    dsimp only
    by_cases e1 : ln = l
    · subst e1
      rw [if_pos rfl, if_pos rfl]
      have hx : (a2 + nI (3 * i)).toInt = a2.toInt + 3 * (i : Int) := by
        rcases ha with e | ⟨a, ha, rfl⟩
        · subst e
          rw [show a2 + nI (3 * 0) = a2 from by rw [show nI (3 * 0) = (0 : Int32) from rfl]; simp]
          omega
        · rw [nI_add, ti (by omega), ti (by omega)]
          omega
      have hz : (nI sz - 3).toInt = (sz : Int) - 3 := by
        rw [show (3 : Int32) = nI 3 from rfl, pk_sub_toInt (by omega) (by omega)]
        omega
      by_cases c1 : a2 + nI (3 * i) < 0
      · have c1' := c1
        rw [Int32.lt_iff_toInt_lt, hx, show (0 : Int32).toInt = 0 by decide] at c1'
        rw [if_pos c1, if_neg (by omega)]
      · have c1' := c1
        rw [Int32.lt_iff_toInt_lt, hx, show (0 : Int32).toInt = 0 by decide] at c1'
        rw [if_neg c1]
        by_cases c2 : a2 + nI (3 * i) ≤ nI sz - 3
        · have c2' := c2
          rw [Int32.le_iff_toInt_le, hx, hz] at c2'
          rw [if_pos c2, if_pos (by omega)]
        · have c2' := c2
          rw [Int32.le_iff_toInt_le, hx, hz] at c2'
          rw [if_neg c2, if_neg (by omega)]
    · rw [if_neg e1, if_neg (c := nI l = nI ln) (fun e => e1 ((nI_eq (by omega) (by omega)).mp e).symm)]
theorem fa_37 {M : am_M} {D : Option (Nat × Nat)} (hD : shD M 37 1 D) {l : Nat} (hl : l < 3) {a2 : Int32} {i : Nat} (hi : i ≤ 13) (ha : i = 0 ∨ ∃ a, a ≤ 40 ∧ a2 = nI a) : f_X3_faultAt_37 (nI l) (a2 + nI (3 * i)) 3 M = fd D l a2 i := by
  unfold f_X3_faultAt_37 f_X3_isNothing_37
  cases D with
  | none =>
    rw [hD.1]
    rfl
  | some d =>
    obtain ⟨ln, sz⟩ := d
    obtain ⟨⟨h1, h2⟩, ⟨h3, h4⟩, -⟩ := hD
    rw [h3, h4, if_neg (nI_m1 (by omega)), if_pos (c := (0 : Int32) = 0) rfl]
    unfold fd
    dsimp only
    by_cases e1 : ln = l
    · subst e1
      rw [if_pos rfl, if_pos rfl]
      have hx : (a2 + nI (3 * i)).toInt = a2.toInt + 3 * (i : Int) := by
        rcases ha with e | ⟨a, ha, rfl⟩
        · subst e
          rw [show a2 + nI (3 * 0) = a2 from by rw [show nI (3 * 0) = (0 : Int32) from rfl]; simp]
          omega
        · rw [nI_add, ti (by omega), ti (by omega)]
          omega
      have hz : (nI sz - 3).toInt = (sz : Int) - 3 := by
        rw [show (3 : Int32) = nI 3 from rfl, pk_sub_toInt (by omega) (by omega)]
        omega
      by_cases c1 : a2 + nI (3 * i) < 0
      · have c1' := c1
        rw [Int32.lt_iff_toInt_lt, hx, show (0 : Int32).toInt = 0 by decide] at c1'
        rw [if_pos c1, if_neg (by omega)]
      · have c1' := c1
        rw [Int32.lt_iff_toInt_lt, hx, show (0 : Int32).toInt = 0 by decide] at c1'
        rw [if_neg c1]
        by_cases c2 : a2 + nI (3 * i) ≤ nI sz - 3
        · have c2' := c2
          rw [Int32.le_iff_toInt_le, hx, hz] at c2'
          rw [if_pos c2, if_pos (by omega)]
        · have c2' := c2
          rw [Int32.le_iff_toInt_le, hx, hz] at c2'
          rw [if_neg c2, if_neg (by omega)]
    · rw [if_neg e1, if_neg (c := nI l = nI ln) (fun e => e1 ((nI_eq (by omega) (by omega)).mp e).symm)]
theorem fa_39 {M : am_M} {D : Option (Nat × Nat)} (hD : shD M 39 2 D) {l : Nat} (hl : l < 3) {a2 : Int32} {i : Nat} (hi : i ≤ 13) (ha : i = 0 ∨ ∃ a, a ≤ 40 ∧ a2 = nI a) : f_X3_faultAt_39 (nI l) (a2 + nI (3 * i)) 3 M = fd D l a2 i := by
  unfold f_X3_faultAt_39 f_X3_isNothing_39
  cases D with
  | none =>
    rw [hD.1]
    rfl
  | some d =>
    obtain ⟨ln, sz⟩ := d
    obtain ⟨⟨h1, h2⟩, ⟨h3, h4⟩, -⟩ := hD
    rw [h3, h4, if_neg (nI_m1 (by omega)), if_pos (c := (0 : Int32) = 0) rfl]
    unfold fd
    dsimp only
    by_cases e1 : ln = l
    · subst e1
      rw [if_pos rfl, if_pos rfl]
      have hx : (a2 + nI (3 * i)).toInt = a2.toInt + 3 * (i : Int) := by
        rcases ha with e | ⟨a, ha, rfl⟩
        · subst e
          rw [show a2 + nI (3 * 0) = a2 from by rw [show nI (3 * 0) = (0 : Int32) from rfl]; simp]
          omega
        · rw [nI_add, ti (by omega), ti (by omega)]
          omega
      have hz : (nI sz - 3).toInt = (sz : Int) - 3 := by
        rw [show (3 : Int32) = nI 3 from rfl, pk_sub_toInt (by omega) (by omega)]
        omega
      by_cases c1 : a2 + nI (3 * i) < 0
      · have c1' := c1
        rw [Int32.lt_iff_toInt_lt, hx, show (0 : Int32).toInt = 0 by decide] at c1'
        rw [if_pos c1, if_neg (by omega)]
      · have c1' := c1
        rw [Int32.lt_iff_toInt_lt, hx, show (0 : Int32).toInt = 0 by decide] at c1'
        rw [if_neg c1]
        by_cases c2 : a2 + nI (3 * i) ≤ nI sz - 3
        · have c2' := c2
          rw [Int32.le_iff_toInt_le, hx, hz] at c2'
          rw [if_pos c2, if_pos (by omega)]
        · have c2' := c2
          rw [Int32.le_iff_toInt_le, hx, hz] at c2'
          rw [if_neg c2, if_neg (by omega)]
    · rw [if_neg e1, if_neg (c := nI l = nI ln) (fun e => e1 ((nI_eq (by omega) (by omega)).mp e).symm)]
theorem fa_41 {M : am_M} {D : Option (Nat × Nat)} (hD : shD M 41 3 D) {l : Nat} (hl : l < 3) {a2 : Int32} {i : Nat} (hi : i ≤ 13) (ha : i = 0 ∨ ∃ a, a ≤ 40 ∧ a2 = nI a) : f_X3_faultAt_41 (nI l) (a2 + nI (3 * i)) 3 M = fd D l a2 i := by
  unfold f_X3_faultAt_41 f_X3_isNothing_41
  cases D with
  | none =>
    rw [hD.1]
    rfl
  | some d =>
    obtain ⟨ln, sz⟩ := d
    obtain ⟨⟨h1, h2⟩, ⟨h3, h4⟩, -⟩ := hD
    rw [h3, h4, if_neg (nI_m1 (by omega)), if_pos (c := (0 : Int32) = 0) rfl]
    unfold fd
    dsimp only
    by_cases e1 : ln = l
    · subst e1
      rw [if_pos rfl, if_pos rfl]
      have hx : (a2 + nI (3 * i)).toInt = a2.toInt + 3 * (i : Int) := by
        rcases ha with e | ⟨a, ha, rfl⟩
        · subst e
          rw [show a2 + nI (3 * 0) = a2 from by rw [show nI (3 * 0) = (0 : Int32) from rfl]; simp]
          omega
        · rw [nI_add, ti (by omega), ti (by omega)]
          omega
      have hz : (nI sz - 3).toInt = (sz : Int) - 3 := by
        rw [show (3 : Int32) = nI 3 from rfl, pk_sub_toInt (by omega) (by omega)]
        omega
      by_cases c1 : a2 + nI (3 * i) < 0
      · have c1' := c1
        rw [Int32.lt_iff_toInt_lt, hx, show (0 : Int32).toInt = 0 by decide] at c1'
        rw [if_pos c1, if_neg (by omega)]
      · have c1' := c1
        rw [Int32.lt_iff_toInt_lt, hx, show (0 : Int32).toInt = 0 by decide] at c1'
        rw [if_neg c1]
        by_cases c2 : a2 + nI (3 * i) ≤ nI sz - 3
        · have c2' := c2
          rw [Int32.le_iff_toInt_le, hx, hz] at c2'
          rw [if_pos c2, if_pos (by omega)]
        · have c2' := c2
          rw [Int32.le_iff_toInt_le, hx, hz] at c2'
          rw [if_neg c2, if_neg (by omega)]
    · rw [if_neg e1, if_neg (c := nI l = nI ln) (fun e => e1 ((nI_eq (by omega) (by omega)).mp e).symm)]
/-- a triple is one of a cell -/
def tpl (n m : Nat) (S : Nat → Int32) (a i : Nat) : Prop := (∃ c t, c < n ∧ t < m ∧ S (a + 3 * i) = nI c ∧ S (a + 3 * i + 1) = nI t) ∧ cv3 (S (a + 3 * i + 2))
def wra (A : Nat → Int32) (k : Nat) (v : Int32) : Nat → Int32 := fun j => if j = k then v else A j
def ya (S : Nat → Int32) (a off : Nat) (A : Nat → Int32) (p : Nat) : Nat → Int32 := itr (fun i B => wra B (off + 8 * tn (S (a + 3 * i)) + tn (S (a + 3 * i + 1))) (S (a + 3 * i + 2))) A p
theorem ya_s (S : Nat → Int32) (a off : Nat) (A : Nat → Int32) (p : Nat) : ya S a off A (p + 1) = wra (ya S a off A p) (off + 8 * tn (S (a + 3 * p)) + tn (S (a + 3 * p + 1))) (S (a + 3 * p + 2)) := rfl
theorem up_w {M : am_M} {P k : Nat} {v : Int32} {A : Nat → Int32} (h : ∀ j, M P j = A j) : ∀ j, am_up M P k v P j = wra A k v j := by
  intro j
  unfold wra
  by_cases e : j = k
  · subst e; rw [up_s, if_pos rfl]
  · rw [up_k e, if_neg e, h]
/-- all that's taken goes on keeping the relation -/
theorem ya_rel {M : am_M} (hR : Rel M) {n m w b : Nat} (hc : chp M n m w b) {S : Nat → Int32} {a : Nat} : ∀ p, (∀ i, i < p → tpl n m S a i) → ∃ N, Rel N ∧ chp N n m w b ∧ (∀ x, x ≠ 10 → x ≠ 44 → N x = M x) ∧ (∀ j, N 10 j = ya S a 0 (M 10) p j) ∧ ∀ j, N 44 j = ya S a 7 (M 44) p j
  | 0, _ => ⟨M, hR, hc, fun x _ _ => rfl, fun j => rfl, fun j => rfl⟩
  | p + 1, h => by
    obtain ⟨N, h1, h2, h3, h4, h5⟩ := ya_rel hR hc p (fun i hi => h i (by omega))
    obtain ⟨⟨c, t, hc', ht, e1, e2⟩, hv⟩ := h p (by omega)
    have b1 := h2.1
    refine ⟨am_up (am_up N 10 (8 * c + t) (S (a + 3 * p + 2))) 44 (7 + 8 * c + t) (S (a + 3 * p + 2)), rel_upd (by omega) h1 ⟨n, m, w, b, chp_cell hc' ht hv h2⟩, chp_cell hc' ht hv h2, fun x hx hx' => by rw [am_up_ne hx', am_up_ne hx, h3 x hx hx'], ?_, ?_⟩
    · intro j
      rw [up_p (by decide), ya_s, e1, e2, tn_nI (by omega), tn_nI (by omega), Nat.zero_add]
      exact up_w h4 j
    · rw [ya_s, e1, e2, tn_nI (by omega), tn_nI (by omega)]
      exact up_w (fun j => by rw [up_p (by decide), h5])
/-- the first that fails -/
theorem first_no (G : Nat → Prop) : ∀ n, ∃ p, p ≤ n ∧ (∀ i, i < p → G i) ∧ (p = n ∨ ¬ G p)
  | 0 => ⟨0, Nat.le_refl 0, fun i hi => absurd hi (Nat.not_lt_zero i), Or.inl rfl⟩
  | n + 1 => by
    obtain ⟨p, h1, h2, h3⟩ := first_no G n
    by_cases e : p = n
    · subst e
      by_cases g : G p
      · refine ⟨p + 1, by omega, fun i hi => ?_, Or.inl rfl⟩
        by_cases ei : i = p
        · subst ei; exact g
        · exact h2 i (by omega)
      · exact ⟨p, by omega, h2, Or.inr g⟩
    · exact ⟨p, by omega, h2, h3.elim (fun h => absurd h e) Or.inr⟩
/-- how a reading ends: p taken, then all, a fault, or refused -/
def rdE (D : Option (Nat × Nat)) (n m l : Nat) (a2 : Int32) (S : Nat → Int32) (n3 p : Nat) (f : Int32) (rf : Bool) : Prop :=
  (∀ i, i < p → fd D l a2 i = 0 ∧ tpl n m S (tn a2) i) ∧ ((p = n3 ∧ f = 0 ∧ rf = false) ∨ (p < n3 ∧ fd D l a2 p = f ∧ f ≠ 0 ∧ rf = false) ∨ (p < n3 ∧ fd D l a2 p = 0 ∧ ¬ tpl n m S (tn a2) p ∧ rf = true))
def rdR (M : am_M) (S : Nat → Int32) (a2 : Int32) (p : Nat) (f : Int32) (rf : Bool) (r : Int32 × am_M) : Prop := (rf = true ∧ r = (-20 - nI p, M)) ∨ (rf = false ∧ r.1 = nI p ∧ (∀ x, x ≠ 10 → x ≠ 0 → r.2 x = M x) ∧ (∀ j, j ≠ 8 → r.2 0 j = M 0 j) ∧ r.2 0 8 = f ∧ ∀ j, r.2 10 j = ya S (tn a2) 0 (M 10) p j)
theorem rd_ex (D : Option (Nat × Nat)) (n m l : Nat) (a2 : Int32) (S : Nat → Int32) (n3 : Nat) : ∃ p f rf, p ≤ n3 ∧ rdE D n m l a2 S n3 p f rf := by
  obtain ⟨p, h1, h2, h3⟩ := first_no (fun i => fd D l a2 i = 0 ∧ tpl n m S (tn a2) i) n3
  by_cases e : p = n3
  · exact ⟨p, 0, false, h1, h2, Or.inl ⟨e, rfl, rfl⟩⟩
  · have h3' := h3.resolve_left e
    by_cases e2 : fd D l a2 p = 0
    · exact ⟨p, 0, true, h1, h2, Or.inr (Or.inr ⟨by omega, e2, fun h => h3' ⟨e2, h⟩, rfl⟩)⟩
    · exact ⟨p, fd D l a2 p, false, h1, h2, Or.inr (Or.inl ⟨by omega, rfl, e2, rfl⟩)⟩
theorem rd_a {D : Option (Nat × Nat)} {n m l : Nat} {a2 : Int32} {S : Nat → Int32} {i : Nat} (hD : ∀ ln sz, D = some (ln, sz) → sz ≤ 40) (h : ∀ j, j < i → fd D l a2 j = 0 ∧ tpl n m S (tn a2) j) : i = 0 ∨ ∃ a, a ≤ 40 ∧ a2 = nI a := by
  by_cases e : i = 0
  · exact Or.inl e
  · obtain ⟨a, sz, h1, h2, h3⟩ := fd_0 (h 0 (by omega)).1 (Or.inl rfl)
    have := hD _ _ h1
    exact Or.inr ⟨a, by omega, h2⟩
theorem rd_p {D : Option (Nat × Nat)} {n m l : Nat} {a2 : Int32} {S : Nat → Int32} {i : Nat} (hD : ∀ ln sz, D = some (ln, sz) → sz ≤ 40) (h : ∀ j, j < i → fd D l a2 j = 0 ∧ tpl n m S (tn a2) j) (h0 : fd D l a2 i = 0) : ∃ sz, D = some (l, sz) ∧ sz ≤ 40 ∧ a2 = nI (tn a2) ∧ tn a2 + 3 * i + 3 ≤ sz := by
  obtain ⟨a, sz, h1, h2, h3⟩ := fd_0 h0 (rd_a hD h)
  have := hD _ _ h1
  subst h2
  rw [tn_nI (by omega)]
  exact ⟨sz, h1, this, rfl, h3⟩
theorem rdc_35 {M : am_M} {D : Option (Nat × Nat)} (hD : shD M 35 0 D) {n m : Nat} (hn : n ≤ 8) (hm : m ≤ 8) (q0 : M 9 0 = nI n) (q1 : M 9 1 = nI m) {l : Nat} (hl : l < 3) {a2 : Int32} {n3 p : Nat} (hn3 : n3 ≤ 13) (hp : p ≤ n3) {f : Int32} {rf : Bool} (hE : rdE D n m l a2 (M 36) n3 p f rf) : ∃ r, f_X7_read_0 (nI 0) (nI l) a2 (nI n3) M = some r ∧ rdR M (M 36) a2 p f rf r := by
  have hD40 : ∀ ln sz, D = some (ln, sz) → sz ≤ 40 := by
    rintro ln sz rfl
    exact hD.1.2
  obtain ⟨hG, hend⟩ := hE
  unfold f_X7_read_0
  have hsh : f_X7_isSheet (nI 0) = 1 := by decide
  have hla : f_X7_isLane (nI l) = 1 := by
    rcases lane_c (nI l) with ⟨e, -⟩ | ⟨e, hno⟩
    · exact e
    · exact absurd (in_nat (N := 2) (by omega) (show l ≤ 2 by omega)) hno
  rw [hsh, hla, if_neg (c := (1 : Int32) = 0) (by decide), if_neg (c := (1 : Int32) = 0) (by decide), if_neg (c := nI n3 < 0) (nI_pos (by omega)), if_pos (c := nI n3 ≤ 13) (in_nat (N := 13) (by omega) hn3).2, if_pos (c := nI 0 = 0) rfl]
  refine lp_bnd (fun r => r) (fun i s => (i ≤ p ∧ s = (nI i, 0, nI i)) ∨ (i = p + 1 ∧ rf = false ∧ f ≠ 0 ∧ s = (nI p, f, nI i))) (fun q => (rf = true ∧ q = .inl (-20 - nI p, M)) ∨ (rf = false ∧ ∃ y, q = .inr (nI p, f, y))) (n := p + 1) (lpF (by omega)) (Or.inl ⟨Nat.zero_le p, rfl⟩) ?_ ?_ ?_
  · rintro i s hi (⟨hip, rfl⟩ | ⟨hip, -⟩)
    · have hd : ∀ x, x < 40 → am_dbin (nI x) 40 = true := fun x hx => db_ok hx (by omega)
      have ha := rd_a (i := i) hD40 (fun j hj => hG j (by omega))
      have hfa := fa_35 hD hl (i := i) (by omega) ha
      dsimp only
      by_cases e : i = p
      · subst e
        rcases hend with ⟨e1, rfl, rfl⟩ | ⟨e1, e2, e3, rfl⟩ | ⟨e1, e2, e3, rfl⟩
        · rw [if_pos (nle_y (by omega) (by omega))]
          exact Or.inr ⟨_, rfl, Or.inr ⟨rfl, _, rfl⟩⟩
        · rw [if_neg (nle_n e1 (by omega)), if_pos (c := (0 : Int32) = 0) rfl, a_3, hfa, e2, if_neg e3, nI_s]
          exact Or.inl ⟨_, rfl, Or.inr ⟨rfl, rfl, e3, rfl⟩⟩
        · obtain ⟨sz, d1, d2, d3, d4⟩ := rd_p hD40 hG e2
          rw [if_neg (nle_n e1 (by omega)), if_pos (c := (0 : Int32) = 0) rfl, a_3, hfa, e2, if_pos (c := (0 : Int32) = 0) rfl, d3, nI_add, show nI (tn a2 + 3 * i) + 1 = nI (tn a2 + 3 * i + 1) from nI_add _ 1, show nI (tn a2 + 3 * i) + 2 = nI (tn a2 + 3 * i + 2) from nI_add _ 2, if_pos (hd _ (by omega)), if_pos (hd _ (by omega)), if_pos (hd _ (by omega)), nI_clamp (by omega), nI_clamp (by omega), nI_clamp (by omega)]
          rcases takes_c hn hm q0 q1 (M 36 (tn a2 + 3 * i)) (M 36 (tn a2 + 3 * i + 1)) (M 36 (tn a2 + 3 * i + 2)) with ⟨t1, t2, t3⟩ | ⟨t1, t2⟩
          · exact absurd ⟨t2, t3⟩ e3
          · rw [t1, if_pos (c := (0 : Int32) = 0) rfl]
            exact Or.inr ⟨_, rfl, Or.inl ⟨rfl, rfl⟩⟩
      · obtain ⟨g1, g2⟩ := hG i (by omega)
        obtain ⟨sz, d1, d2, d3, d4⟩ := rd_p hD40 (fun j hj => hG j (by omega)) g1
        rw [if_neg (nle_n (by omega) (by omega)), if_pos (c := (0 : Int32) = 0) rfl, a_3, hfa, g1, if_pos (c := (0 : Int32) = 0) rfl, d3, nI_add, show nI (tn a2 + 3 * i) + 1 = nI (tn a2 + 3 * i + 1) from nI_add _ 1, show nI (tn a2 + 3 * i) + 2 = nI (tn a2 + 3 * i + 2) from nI_add _ 2, if_pos (hd _ (by omega)), if_pos (hd _ (by omega)), if_pos (hd _ (by omega)), nI_clamp (by omega), nI_clamp (by omega), nI_clamp (by omega)]
        rcases takes_c hn hm q0 q1 (M 36 (tn a2 + 3 * i)) (M 36 (tn a2 + 3 * i + 1)) (M 36 (tn a2 + 3 * i + 2)) with ⟨t1, t2, t3⟩ | ⟨t1, t2⟩
        · rw [t1, if_neg (c := (1 : Int32) = 0) (by decide), nI_s]
          exact Or.inl ⟨_, rfl, Or.inl ⟨by omega, rfl⟩⟩
        · exact absurd ⟨g2.1, g2.2⟩ t2
    · omega
  · rintro s (⟨hip, -⟩ | ⟨-, e1, e2, rfl⟩)
    · omega
    · dsimp only
      by_cases e3 : nI n3 ≤ nI (p + 1)
      · rw [if_pos e3]
        exact ⟨_, rfl, Or.inr ⟨e1, _, rfl⟩⟩
      · rw [if_neg e3, if_neg e2]
        exact ⟨_, rfl, Or.inr ⟨e1, _, rfl⟩⟩
  · rintro q (h1 | ⟨h1, y, h2⟩)
    · rw [h1.2]
      exact ⟨_, rfl, Or.inl ⟨h1.1, rfl⟩⟩
    rw [h2]
    dsimp only [Sum.elim_inr]
    have k2 : ∃ r, f_X7_takeTriples_0_35 a2 (nI p) M = some r ∧ ((∀ x, x ≠ 10 → r x = M x) ∧ ∀ j, r 10 j = ya (M 36) (tn a2) 0 (M 10) p j) := by
      unfold f_X7_takeTriples_0_35
      refine lp_bnd (fun r => r) (fun i s => ∃ M', s = (nI i, M') ∧ (∀ x, x ≠ 10 → M' x = M x) ∧ ∀ j, M' 10 j = ya (M 36) (tn a2) 0 (M 10) i j) (fun q => ∃ y M', q = (y, M') ∧ (∀ x, x ≠ 10 → M' x = M x) ∧ ∀ j, M' 10 j = ya (M 36) (tn a2) 0 (M 10) p j) (n := p) (lpF (by omega)) ⟨M, rfl, fun x _ => rfl, fun j => rfl⟩ ?_ ?_ ?_
      · rintro i s hi ⟨M', rfl, h1, h2⟩
        have hd : ∀ x, x < 40 → am_dbin (nI x) 40 = true := fun x hx => db_ok hx (by omega)
        obtain ⟨g1, ⟨c, t, hc, ht, t1, t2⟩, g3⟩ := hG i (by omega)
        obtain ⟨sz, d1, d2, d3, d4⟩ := rd_p hD40 (fun j hj => hG j (by omega)) g1
        have hys := ya_s (M 36) (tn a2) 0 (M 10) i
        rw [t1, t2, tn_nI (by omega), tn_nI (by omega), Nat.zero_add] at hys
        dsimp only
        rw [if_neg (nle_n hi (by omega)), a_3, show a2 + nI (3 * i) = nI (tn a2 + 3 * i) from by rw [← nI_add, ← d3], show nI (tn a2 + 3 * i) + 1 = nI (tn a2 + 3 * i + 1) from nI_add _ 1, show nI (tn a2 + 3 * i) + 2 = nI (tn a2 + 3 * i + 2) from nI_add _ 2, if_pos (hd _ (by omega)), if_pos (hd _ (by omega)), if_pos (hd _ (by omega)), nI_clamp (by omega), nI_clamp (by omega), nI_clamp (by omega), if_pos (show am_dbin (f_X0_at (M' 36 (tn a2 + 3 * i)) (M' 36 (tn a2 + 3 * i + 1))) 64 = true by rw [h1 36 (by decide), t1, t2, a_at]; exact db_ok (by omega) (by omega)), h1 36 (by decide), t1, t2, a_at, nI_clamp (by omega), bl_s, nI_s]
        refine Or.inl ⟨_, rfl, _, rfl, fun x hx => by rw [am_up_ne hx, h1 x hx], fun j => ?_⟩
        rw [hys]
        exact up_w h2 j
      · rintro s ⟨M', rfl, h⟩
        dsimp only
        rw [if_pos (nle_y (by omega) (by omega))]
        exact ⟨_, rfl, _, M', rfl, h⟩
      · rintro q ⟨y, M', rfl, h⟩
        exact ⟨_, rfl, h⟩
    obtain ⟨r, er, r1, r2⟩ := k2
    rw [er, Option.bind_some, bl_s]
    exact ⟨(nI p, am_up r 0 8 f), rfl, Or.inr ⟨h1, rfl, fun x hx hx' => (am_up_ne hx').trans (r1 x hx), fun j hj => by show am_up r 0 8 f 0 j = M 0 j; rw [up_k hj, r1 0 (by decide)], (show am_up r 0 8 f 0 8 = f from up_s), fun j => by show am_up r 0 8 f 10 j = _; rw [up_p (by decide), r2 j]⟩⟩
theorem rdc_37 {M : am_M} {D : Option (Nat × Nat)} (hD : shD M 37 1 D) {n m : Nat} (hn : n ≤ 8) (hm : m ≤ 8) (q0 : M 9 0 = nI n) (q1 : M 9 1 = nI m) {l : Nat} (hl : l < 3) {a2 : Int32} {n3 p : Nat} (hn3 : n3 ≤ 13) (hp : p ≤ n3) {f : Int32} {rf : Bool} (hE : rdE D n m l a2 (M 38) n3 p f rf) : ∃ r, f_X7_read_0 (nI 1) (nI l) a2 (nI n3) M = some r ∧ rdR M (M 38) a2 p f rf r := by
  have hD40 : ∀ ln sz, D = some (ln, sz) → sz ≤ 40 := by
    rintro ln sz rfl
    exact hD.1.2
  obtain ⟨hG, hend⟩ := hE
  unfold f_X7_read_0
  have hsh : f_X7_isSheet (nI 1) = 1 := by decide
  have hla : f_X7_isLane (nI l) = 1 := by
    rcases lane_c (nI l) with ⟨e, -⟩ | ⟨e, hno⟩
    · exact e
    · exact absurd (in_nat (N := 2) (by omega) (show l ≤ 2 by omega)) hno
  rw [hsh, hla, if_neg (c := (1 : Int32) = 0) (by decide), if_neg (c := (1 : Int32) = 0) (by decide), if_neg (c := nI n3 < 0) (nI_pos (by omega)), if_pos (c := nI n3 ≤ 13) (in_nat (N := 13) (by omega) hn3).2, if_neg (c := nI 1 = 0) (by decide), if_pos (c := nI 1 = 1) rfl]
  refine lp_bnd (fun r => r) (fun i s => (i ≤ p ∧ s = (nI i, 0, nI i)) ∨ (i = p + 1 ∧ rf = false ∧ f ≠ 0 ∧ s = (nI p, f, nI i))) (fun q => (rf = true ∧ q = .inl (-20 - nI p, M)) ∨ (rf = false ∧ ∃ y, q = .inr (nI p, f, y))) (n := p + 1) (lpF (by omega)) (Or.inl ⟨Nat.zero_le p, rfl⟩) ?_ ?_ ?_
  · rintro i s hi (⟨hip, rfl⟩ | ⟨hip, -⟩)
    · have hd : ∀ x, x < 40 → am_dbin (nI x) 40 = true := fun x hx => db_ok hx (by omega)
      have ha := rd_a (i := i) hD40 (fun j hj => hG j (by omega))
      have hfa := fa_37 hD hl (i := i) (by omega) ha
      dsimp only
      by_cases e : i = p
      · subst e
        rcases hend with ⟨e1, rfl, rfl⟩ | ⟨e1, e2, e3, rfl⟩ | ⟨e1, e2, e3, rfl⟩
        · rw [if_pos (nle_y (by omega) (by omega))]
          exact Or.inr ⟨_, rfl, Or.inr ⟨rfl, _, rfl⟩⟩
        · rw [if_neg (nle_n e1 (by omega)), if_pos (c := (0 : Int32) = 0) rfl, a_3, hfa, e2, if_neg e3, nI_s]
          exact Or.inl ⟨_, rfl, Or.inr ⟨rfl, rfl, e3, rfl⟩⟩
        · obtain ⟨sz, d1, d2, d3, d4⟩ := rd_p hD40 hG e2
          rw [if_neg (nle_n e1 (by omega)), if_pos (c := (0 : Int32) = 0) rfl, a_3, hfa, e2, if_pos (c := (0 : Int32) = 0) rfl, d3, nI_add, show nI (tn a2 + 3 * i) + 1 = nI (tn a2 + 3 * i + 1) from nI_add _ 1, show nI (tn a2 + 3 * i) + 2 = nI (tn a2 + 3 * i + 2) from nI_add _ 2, if_pos (hd _ (by omega)), if_pos (hd _ (by omega)), if_pos (hd _ (by omega)), nI_clamp (by omega), nI_clamp (by omega), nI_clamp (by omega)]
          rcases takes_c hn hm q0 q1 (M 38 (tn a2 + 3 * i)) (M 38 (tn a2 + 3 * i + 1)) (M 38 (tn a2 + 3 * i + 2)) with ⟨t1, t2, t3⟩ | ⟨t1, t2⟩
          · exact absurd ⟨t2, t3⟩ e3
          · rw [t1, if_pos (c := (0 : Int32) = 0) rfl]
            exact Or.inr ⟨_, rfl, Or.inl ⟨rfl, rfl⟩⟩
      · obtain ⟨g1, g2⟩ := hG i (by omega)
        obtain ⟨sz, d1, d2, d3, d4⟩ := rd_p hD40 (fun j hj => hG j (by omega)) g1
        rw [if_neg (nle_n (by omega) (by omega)), if_pos (c := (0 : Int32) = 0) rfl, a_3, hfa, g1, if_pos (c := (0 : Int32) = 0) rfl, d3, nI_add, show nI (tn a2 + 3 * i) + 1 = nI (tn a2 + 3 * i + 1) from nI_add _ 1, show nI (tn a2 + 3 * i) + 2 = nI (tn a2 + 3 * i + 2) from nI_add _ 2, if_pos (hd _ (by omega)), if_pos (hd _ (by omega)), if_pos (hd _ (by omega)), nI_clamp (by omega), nI_clamp (by omega), nI_clamp (by omega)]
        rcases takes_c hn hm q0 q1 (M 38 (tn a2 + 3 * i)) (M 38 (tn a2 + 3 * i + 1)) (M 38 (tn a2 + 3 * i + 2)) with ⟨t1, t2, t3⟩ | ⟨t1, t2⟩
        · rw [t1, if_neg (c := (1 : Int32) = 0) (by decide), nI_s]
          exact Or.inl ⟨_, rfl, Or.inl ⟨by omega, rfl⟩⟩
        · exact absurd ⟨g2.1, g2.2⟩ t2
    · omega
  · rintro s (⟨hip, -⟩ | ⟨-, e1, e2, rfl⟩)
    · omega
    · dsimp only
      by_cases e3 : nI n3 ≤ nI (p + 1)
      · rw [if_pos e3]
        exact ⟨_, rfl, Or.inr ⟨e1, _, rfl⟩⟩
      · rw [if_neg e3, if_neg e2]
        exact ⟨_, rfl, Or.inr ⟨e1, _, rfl⟩⟩
  · rintro q (h1 | ⟨h1, y, h2⟩)
    · rw [h1.2]
      exact ⟨_, rfl, Or.inl ⟨h1.1, rfl⟩⟩
    rw [h2]
    dsimp only [Sum.elim_inr]
    have k2 : ∃ r, f_X7_takeTriples_0_37 a2 (nI p) M = some r ∧ ((∀ x, x ≠ 10 → r x = M x) ∧ ∀ j, r 10 j = ya (M 38) (tn a2) 0 (M 10) p j) := by
      unfold f_X7_takeTriples_0_37
      refine lp_bnd (fun r => r) (fun i s => ∃ M', s = (nI i, M') ∧ (∀ x, x ≠ 10 → M' x = M x) ∧ ∀ j, M' 10 j = ya (M 38) (tn a2) 0 (M 10) i j) (fun q => ∃ y M', q = (y, M') ∧ (∀ x, x ≠ 10 → M' x = M x) ∧ ∀ j, M' 10 j = ya (M 38) (tn a2) 0 (M 10) p j) (n := p) (lpF (by omega)) ⟨M, rfl, fun x _ => rfl, fun j => rfl⟩ ?_ ?_ ?_
      · rintro i s hi ⟨M', rfl, h1, h2⟩
        have hd : ∀ x, x < 40 → am_dbin (nI x) 40 = true := fun x hx => db_ok hx (by omega)
        obtain ⟨g1, ⟨c, t, hc, ht, t1, t2⟩, g3⟩ := hG i (by omega)
        obtain ⟨sz, d1, d2, d3, d4⟩ := rd_p hD40 (fun j hj => hG j (by omega)) g1
        have hys := ya_s (M 38) (tn a2) 0 (M 10) i
        rw [t1, t2, tn_nI (by omega), tn_nI (by omega), Nat.zero_add] at hys
        dsimp only
        rw [if_neg (nle_n hi (by omega)), a_3, show a2 + nI (3 * i) = nI (tn a2 + 3 * i) from by rw [← nI_add, ← d3], show nI (tn a2 + 3 * i) + 1 = nI (tn a2 + 3 * i + 1) from nI_add _ 1, show nI (tn a2 + 3 * i) + 2 = nI (tn a2 + 3 * i + 2) from nI_add _ 2, if_pos (hd _ (by omega)), if_pos (hd _ (by omega)), if_pos (hd _ (by omega)), nI_clamp (by omega), nI_clamp (by omega), nI_clamp (by omega), if_pos (show am_dbin (f_X0_at (M' 38 (tn a2 + 3 * i)) (M' 38 (tn a2 + 3 * i + 1))) 64 = true by rw [h1 38 (by decide), t1, t2, a_at]; exact db_ok (by omega) (by omega)), h1 38 (by decide), t1, t2, a_at, nI_clamp (by omega), bl_s, nI_s]
        refine Or.inl ⟨_, rfl, _, rfl, fun x hx => by rw [am_up_ne hx, h1 x hx], fun j => ?_⟩
        rw [hys]
        exact up_w h2 j
      · rintro s ⟨M', rfl, h⟩
        dsimp only
        rw [if_pos (nle_y (by omega) (by omega))]
        exact ⟨_, rfl, _, M', rfl, h⟩
      · rintro q ⟨y, M', rfl, h⟩
        exact ⟨_, rfl, h⟩
    obtain ⟨r, er, r1, r2⟩ := k2
    rw [er, Option.bind_some, bl_s]
    exact ⟨(nI p, am_up r 0 8 f), rfl, Or.inr ⟨h1, rfl, fun x hx hx' => (am_up_ne hx').trans (r1 x hx), fun j hj => by show am_up r 0 8 f 0 j = M 0 j; rw [up_k hj, r1 0 (by decide)], (show am_up r 0 8 f 0 8 = f from up_s), fun j => by show am_up r 0 8 f 10 j = _; rw [up_p (by decide), r2 j]⟩⟩
theorem rdc_39 {M : am_M} {D : Option (Nat × Nat)} (hD : shD M 39 2 D) {n m : Nat} (hn : n ≤ 8) (hm : m ≤ 8) (q0 : M 9 0 = nI n) (q1 : M 9 1 = nI m) {l : Nat} (hl : l < 3) {a2 : Int32} {n3 p : Nat} (hn3 : n3 ≤ 13) (hp : p ≤ n3) {f : Int32} {rf : Bool} (hE : rdE D n m l a2 (M 40) n3 p f rf) : ∃ r, f_X7_read_0 (nI 2) (nI l) a2 (nI n3) M = some r ∧ rdR M (M 40) a2 p f rf r := by
  have hD40 : ∀ ln sz, D = some (ln, sz) → sz ≤ 40 := by
    rintro ln sz rfl
    exact hD.1.2
  obtain ⟨hG, hend⟩ := hE
  unfold f_X7_read_0
  have hsh : f_X7_isSheet (nI 2) = 1 := by decide
  have hla : f_X7_isLane (nI l) = 1 := by
    rcases lane_c (nI l) with ⟨e, -⟩ | ⟨e, hno⟩
    · exact e
    · exact absurd (in_nat (N := 2) (by omega) (show l ≤ 2 by omega)) hno
  rw [hsh, hla, if_neg (c := (1 : Int32) = 0) (by decide), if_neg (c := (1 : Int32) = 0) (by decide), if_neg (c := nI n3 < 0) (nI_pos (by omega)), if_pos (c := nI n3 ≤ 13) (in_nat (N := 13) (by omega) hn3).2, if_neg (c := nI 2 = 0) (by decide), if_neg (c := nI 2 = 1) (by decide), if_pos (c := nI 2 = 2) rfl]
  refine lp_bnd (fun r => r) (fun i s => (i ≤ p ∧ s = (nI i, 0, nI i)) ∨ (i = p + 1 ∧ rf = false ∧ f ≠ 0 ∧ s = (nI p, f, nI i))) (fun q => (rf = true ∧ q = .inl (-20 - nI p, M)) ∨ (rf = false ∧ ∃ y, q = .inr (nI p, f, y))) (n := p + 1) (lpF (by omega)) (Or.inl ⟨Nat.zero_le p, rfl⟩) ?_ ?_ ?_
  · rintro i s hi (⟨hip, rfl⟩ | ⟨hip, -⟩)
    · have hd : ∀ x, x < 40 → am_dbin (nI x) 40 = true := fun x hx => db_ok hx (by omega)
      have ha := rd_a (i := i) hD40 (fun j hj => hG j (by omega))
      have hfa := fa_39 hD hl (i := i) (by omega) ha
      dsimp only
      by_cases e : i = p
      · subst e
        rcases hend with ⟨e1, rfl, rfl⟩ | ⟨e1, e2, e3, rfl⟩ | ⟨e1, e2, e3, rfl⟩
        · rw [if_pos (nle_y (by omega) (by omega))]
          exact Or.inr ⟨_, rfl, Or.inr ⟨rfl, _, rfl⟩⟩
        · rw [if_neg (nle_n e1 (by omega)), if_pos (c := (0 : Int32) = 0) rfl, a_3, hfa, e2, if_neg e3, nI_s]
          exact Or.inl ⟨_, rfl, Or.inr ⟨rfl, rfl, e3, rfl⟩⟩
        · obtain ⟨sz, d1, d2, d3, d4⟩ := rd_p hD40 hG e2
          rw [if_neg (nle_n e1 (by omega)), if_pos (c := (0 : Int32) = 0) rfl, a_3, hfa, e2, if_pos (c := (0 : Int32) = 0) rfl, d3, nI_add, show nI (tn a2 + 3 * i) + 1 = nI (tn a2 + 3 * i + 1) from nI_add _ 1, show nI (tn a2 + 3 * i) + 2 = nI (tn a2 + 3 * i + 2) from nI_add _ 2, if_pos (hd _ (by omega)), if_pos (hd _ (by omega)), if_pos (hd _ (by omega)), nI_clamp (by omega), nI_clamp (by omega), nI_clamp (by omega)]
          rcases takes_c hn hm q0 q1 (M 40 (tn a2 + 3 * i)) (M 40 (tn a2 + 3 * i + 1)) (M 40 (tn a2 + 3 * i + 2)) with ⟨t1, t2, t3⟩ | ⟨t1, t2⟩
          · exact absurd ⟨t2, t3⟩ e3
          · rw [t1, if_pos (c := (0 : Int32) = 0) rfl]
            exact Or.inr ⟨_, rfl, Or.inl ⟨rfl, rfl⟩⟩
      · obtain ⟨g1, g2⟩ := hG i (by omega)
        obtain ⟨sz, d1, d2, d3, d4⟩ := rd_p hD40 (fun j hj => hG j (by omega)) g1
        rw [if_neg (nle_n (by omega) (by omega)), if_pos (c := (0 : Int32) = 0) rfl, a_3, hfa, g1, if_pos (c := (0 : Int32) = 0) rfl, d3, nI_add, show nI (tn a2 + 3 * i) + 1 = nI (tn a2 + 3 * i + 1) from nI_add _ 1, show nI (tn a2 + 3 * i) + 2 = nI (tn a2 + 3 * i + 2) from nI_add _ 2, if_pos (hd _ (by omega)), if_pos (hd _ (by omega)), if_pos (hd _ (by omega)), nI_clamp (by omega), nI_clamp (by omega), nI_clamp (by omega)]
        rcases takes_c hn hm q0 q1 (M 40 (tn a2 + 3 * i)) (M 40 (tn a2 + 3 * i + 1)) (M 40 (tn a2 + 3 * i + 2)) with ⟨t1, t2, t3⟩ | ⟨t1, t2⟩
        · rw [t1, if_neg (c := (1 : Int32) = 0) (by decide), nI_s]
          exact Or.inl ⟨_, rfl, Or.inl ⟨by omega, rfl⟩⟩
        · exact absurd ⟨g2.1, g2.2⟩ t2
    · omega
  · rintro s (⟨hip, -⟩ | ⟨-, e1, e2, rfl⟩)
    · omega
    · dsimp only
      by_cases e3 : nI n3 ≤ nI (p + 1)
      · rw [if_pos e3]
        exact ⟨_, rfl, Or.inr ⟨e1, _, rfl⟩⟩
      · rw [if_neg e3, if_neg e2]
        exact ⟨_, rfl, Or.inr ⟨e1, _, rfl⟩⟩
  · rintro q (h1 | ⟨h1, y, h2⟩)
    · rw [h1.2]
      exact ⟨_, rfl, Or.inl ⟨h1.1, rfl⟩⟩
    rw [h2]
    dsimp only [Sum.elim_inr]
    have k2 : ∃ r, f_X7_takeTriples_0_39 a2 (nI p) M = some r ∧ ((∀ x, x ≠ 10 → r x = M x) ∧ ∀ j, r 10 j = ya (M 40) (tn a2) 0 (M 10) p j) := by
      unfold f_X7_takeTriples_0_39
      refine lp_bnd (fun r => r) (fun i s => ∃ M', s = (nI i, M') ∧ (∀ x, x ≠ 10 → M' x = M x) ∧ ∀ j, M' 10 j = ya (M 40) (tn a2) 0 (M 10) i j) (fun q => ∃ y M', q = (y, M') ∧ (∀ x, x ≠ 10 → M' x = M x) ∧ ∀ j, M' 10 j = ya (M 40) (tn a2) 0 (M 10) p j) (n := p) (lpF (by omega)) ⟨M, rfl, fun x _ => rfl, fun j => rfl⟩ ?_ ?_ ?_
      · rintro i s hi ⟨M', rfl, h1, h2⟩
        have hd : ∀ x, x < 40 → am_dbin (nI x) 40 = true := fun x hx => db_ok hx (by omega)
        obtain ⟨g1, ⟨c, t, hc, ht, t1, t2⟩, g3⟩ := hG i (by omega)
        obtain ⟨sz, d1, d2, d3, d4⟩ := rd_p hD40 (fun j hj => hG j (by omega)) g1
        have hys := ya_s (M 40) (tn a2) 0 (M 10) i
        rw [t1, t2, tn_nI (by omega), tn_nI (by omega), Nat.zero_add] at hys
        dsimp only
        rw [if_neg (nle_n hi (by omega)), a_3, show a2 + nI (3 * i) = nI (tn a2 + 3 * i) from by rw [← nI_add, ← d3], show nI (tn a2 + 3 * i) + 1 = nI (tn a2 + 3 * i + 1) from nI_add _ 1, show nI (tn a2 + 3 * i) + 2 = nI (tn a2 + 3 * i + 2) from nI_add _ 2, if_pos (hd _ (by omega)), if_pos (hd _ (by omega)), if_pos (hd _ (by omega)), nI_clamp (by omega), nI_clamp (by omega), nI_clamp (by omega), if_pos (show am_dbin (f_X0_at (M' 40 (tn a2 + 3 * i)) (M' 40 (tn a2 + 3 * i + 1))) 64 = true by rw [h1 40 (by decide), t1, t2, a_at]; exact db_ok (by omega) (by omega)), h1 40 (by decide), t1, t2, a_at, nI_clamp (by omega), bl_s, nI_s]
        refine Or.inl ⟨_, rfl, _, rfl, fun x hx => by rw [am_up_ne hx, h1 x hx], fun j => ?_⟩
        rw [hys]
        exact up_w h2 j
      · rintro s ⟨M', rfl, h⟩
        dsimp only
        rw [if_pos (nle_y (by omega) (by omega))]
        exact ⟨_, rfl, _, M', rfl, h⟩
      · rintro q ⟨y, M', rfl, h⟩
        exact ⟨_, rfl, h⟩
    obtain ⟨r, er, r1, r2⟩ := k2
    rw [er, Option.bind_some, bl_s]
    exact ⟨(nI p, am_up r 0 8 f), rfl, Or.inr ⟨h1, rfl, fun x hx hx' => (am_up_ne hx').trans (r1 x hx), fun j hj => by show am_up r 0 8 f 0 j = M 0 j; rw [up_k hj, r1 0 (by decide)], (show am_up r 0 8 f 0 8 = f from up_s), fun j => by show am_up r 0 8 f 10 j = _; rw [up_p (by decide), r2 j]⟩⟩
theorem rdc_41 {M : am_M} {D : Option (Nat × Nat)} (hD : shD M 41 3 D) {n m : Nat} (hn : n ≤ 8) (hm : m ≤ 8) (q0 : M 9 0 = nI n) (q1 : M 9 1 = nI m) {l : Nat} (hl : l < 3) {a2 : Int32} {n3 p : Nat} (hn3 : n3 ≤ 13) (hp : p ≤ n3) {f : Int32} {rf : Bool} (hE : rdE D n m l a2 (M 42) n3 p f rf) : ∃ r, f_X7_read_0 (nI 3) (nI l) a2 (nI n3) M = some r ∧ rdR M (M 42) a2 p f rf r := by
  have hD40 : ∀ ln sz, D = some (ln, sz) → sz ≤ 40 := by
    rintro ln sz rfl
    exact hD.1.2
  obtain ⟨hG, hend⟩ := hE
  unfold f_X7_read_0
  have hsh : f_X7_isSheet (nI 3) = 1 := by decide
  have hla : f_X7_isLane (nI l) = 1 := by
    rcases lane_c (nI l) with ⟨e, -⟩ | ⟨e, hno⟩
    · exact e
    · exact absurd (in_nat (N := 2) (by omega) (show l ≤ 2 by omega)) hno
  rw [hsh, hla, if_neg (c := (1 : Int32) = 0) (by decide), if_neg (c := (1 : Int32) = 0) (by decide), if_neg (c := nI n3 < 0) (nI_pos (by omega)), if_pos (c := nI n3 ≤ 13) (in_nat (N := 13) (by omega) hn3).2, if_neg (c := nI 3 = 0) (by decide), if_neg (c := nI 3 = 1) (by decide), if_neg (c := nI 3 = 2) (by decide), if_pos (c := nI 3 = 3) rfl]
  refine lp_bnd (fun r => r) (fun i s => (i ≤ p ∧ s = (nI i, 0, nI i)) ∨ (i = p + 1 ∧ rf = false ∧ f ≠ 0 ∧ s = (nI p, f, nI i))) (fun q => (rf = true ∧ q = .inl (-20 - nI p, M)) ∨ (rf = false ∧ ∃ y, q = .inr (nI p, f, y))) (n := p + 1) (lpF (by omega)) (Or.inl ⟨Nat.zero_le p, rfl⟩) ?_ ?_ ?_
  · rintro i s hi (⟨hip, rfl⟩ | ⟨hip, -⟩)
    · have hd : ∀ x, x < 40 → am_dbin (nI x) 40 = true := fun x hx => db_ok hx (by omega)
      have ha := rd_a (i := i) hD40 (fun j hj => hG j (by omega))
      have hfa := fa_41 hD hl (i := i) (by omega) ha
      dsimp only
      by_cases e : i = p
      · subst e
        rcases hend with ⟨e1, rfl, rfl⟩ | ⟨e1, e2, e3, rfl⟩ | ⟨e1, e2, e3, rfl⟩
        · rw [if_pos (nle_y (by omega) (by omega))]
          exact Or.inr ⟨_, rfl, Or.inr ⟨rfl, _, rfl⟩⟩
        · rw [if_neg (nle_n e1 (by omega)), if_pos (c := (0 : Int32) = 0) rfl, a_3, hfa, e2, if_neg e3, nI_s]
          exact Or.inl ⟨_, rfl, Or.inr ⟨rfl, rfl, e3, rfl⟩⟩
        · obtain ⟨sz, d1, d2, d3, d4⟩ := rd_p hD40 hG e2
          rw [if_neg (nle_n e1 (by omega)), if_pos (c := (0 : Int32) = 0) rfl, a_3, hfa, e2, if_pos (c := (0 : Int32) = 0) rfl, d3, nI_add, show nI (tn a2 + 3 * i) + 1 = nI (tn a2 + 3 * i + 1) from nI_add _ 1, show nI (tn a2 + 3 * i) + 2 = nI (tn a2 + 3 * i + 2) from nI_add _ 2, if_pos (hd _ (by omega)), if_pos (hd _ (by omega)), if_pos (hd _ (by omega)), nI_clamp (by omega), nI_clamp (by omega), nI_clamp (by omega)]
          rcases takes_c hn hm q0 q1 (M 42 (tn a2 + 3 * i)) (M 42 (tn a2 + 3 * i + 1)) (M 42 (tn a2 + 3 * i + 2)) with ⟨t1, t2, t3⟩ | ⟨t1, t2⟩
          · exact absurd ⟨t2, t3⟩ e3
          · rw [t1, if_pos (c := (0 : Int32) = 0) rfl]
            exact Or.inr ⟨_, rfl, Or.inl ⟨rfl, rfl⟩⟩
      · obtain ⟨g1, g2⟩ := hG i (by omega)
        obtain ⟨sz, d1, d2, d3, d4⟩ := rd_p hD40 (fun j hj => hG j (by omega)) g1
        rw [if_neg (nle_n (by omega) (by omega)), if_pos (c := (0 : Int32) = 0) rfl, a_3, hfa, g1, if_pos (c := (0 : Int32) = 0) rfl, d3, nI_add, show nI (tn a2 + 3 * i) + 1 = nI (tn a2 + 3 * i + 1) from nI_add _ 1, show nI (tn a2 + 3 * i) + 2 = nI (tn a2 + 3 * i + 2) from nI_add _ 2, if_pos (hd _ (by omega)), if_pos (hd _ (by omega)), if_pos (hd _ (by omega)), nI_clamp (by omega), nI_clamp (by omega), nI_clamp (by omega)]
        rcases takes_c hn hm q0 q1 (M 42 (tn a2 + 3 * i)) (M 42 (tn a2 + 3 * i + 1)) (M 42 (tn a2 + 3 * i + 2)) with ⟨t1, t2, t3⟩ | ⟨t1, t2⟩
        · rw [t1, if_neg (c := (1 : Int32) = 0) (by decide), nI_s]
          exact Or.inl ⟨_, rfl, Or.inl ⟨by omega, rfl⟩⟩
        · exact absurd ⟨g2.1, g2.2⟩ t2
    · omega
  · rintro s (⟨hip, -⟩ | ⟨-, e1, e2, rfl⟩)
    · omega
    · dsimp only
      by_cases e3 : nI n3 ≤ nI (p + 1)
      · rw [if_pos e3]
        exact ⟨_, rfl, Or.inr ⟨e1, _, rfl⟩⟩
      · rw [if_neg e3, if_neg e2]
        exact ⟨_, rfl, Or.inr ⟨e1, _, rfl⟩⟩
  · rintro q (h1 | ⟨h1, y, h2⟩)
    · rw [h1.2]
      exact ⟨_, rfl, Or.inl ⟨h1.1, rfl⟩⟩
    rw [h2]
    dsimp only [Sum.elim_inr]
    have k2 : ∃ r, f_X7_takeTriples_0_41 a2 (nI p) M = some r ∧ ((∀ x, x ≠ 10 → r x = M x) ∧ ∀ j, r 10 j = ya (M 42) (tn a2) 0 (M 10) p j) := by
      unfold f_X7_takeTriples_0_41
      refine lp_bnd (fun r => r) (fun i s => ∃ M', s = (nI i, M') ∧ (∀ x, x ≠ 10 → M' x = M x) ∧ ∀ j, M' 10 j = ya (M 42) (tn a2) 0 (M 10) i j) (fun q => ∃ y M', q = (y, M') ∧ (∀ x, x ≠ 10 → M' x = M x) ∧ ∀ j, M' 10 j = ya (M 42) (tn a2) 0 (M 10) p j) (n := p) (lpF (by omega)) ⟨M, rfl, fun x _ => rfl, fun j => rfl⟩ ?_ ?_ ?_
      · rintro i s hi ⟨M', rfl, h1, h2⟩
        have hd : ∀ x, x < 40 → am_dbin (nI x) 40 = true := fun x hx => db_ok hx (by omega)
        obtain ⟨g1, ⟨c, t, hc, ht, t1, t2⟩, g3⟩ := hG i (by omega)
        obtain ⟨sz, d1, d2, d3, d4⟩ := rd_p hD40 (fun j hj => hG j (by omega)) g1
        have hys := ya_s (M 42) (tn a2) 0 (M 10) i
        rw [t1, t2, tn_nI (by omega), tn_nI (by omega), Nat.zero_add] at hys
        dsimp only
        rw [if_neg (nle_n hi (by omega)), a_3, show a2 + nI (3 * i) = nI (tn a2 + 3 * i) from by rw [← nI_add, ← d3], show nI (tn a2 + 3 * i) + 1 = nI (tn a2 + 3 * i + 1) from nI_add _ 1, show nI (tn a2 + 3 * i) + 2 = nI (tn a2 + 3 * i + 2) from nI_add _ 2, if_pos (hd _ (by omega)), if_pos (hd _ (by omega)), if_pos (hd _ (by omega)), nI_clamp (by omega), nI_clamp (by omega), nI_clamp (by omega), if_pos (show am_dbin (f_X0_at (M' 42 (tn a2 + 3 * i)) (M' 42 (tn a2 + 3 * i + 1))) 64 = true by rw [h1 42 (by decide), t1, t2, a_at]; exact db_ok (by omega) (by omega)), h1 42 (by decide), t1, t2, a_at, nI_clamp (by omega), bl_s, nI_s]
        refine Or.inl ⟨_, rfl, _, rfl, fun x hx => by rw [am_up_ne hx, h1 x hx], fun j => ?_⟩
        rw [hys]
        exact up_w h2 j
      · rintro s ⟨M', rfl, h⟩
        dsimp only
        rw [if_pos (nle_y (by omega) (by omega))]
        exact ⟨_, rfl, _, M', rfl, h⟩
      · rintro q ⟨y, M', rfl, h⟩
        exact ⟨_, rfl, h⟩
    obtain ⟨r, er, r1, r2⟩ := k2
    rw [er, Option.bind_some, bl_s]
    exact ⟨(nI p, am_up r 0 8 f), rfl, Or.inr ⟨h1, rfl, fun x hx hx' => (am_up_ne hx').trans (r1 x hx), fun j hj => by show am_up r 0 8 f 0 j = M 0 j; rw [up_k hj, r1 0 (by decide)], (show am_up r 0 8 f 0 8 = f from up_s), fun j => by show am_up r 0 8 f 10 j = _; rw [up_p (by decide), r2 j]⟩⟩
/-- the reference's loop over a triple -/
theorem lg_lt (a b : Int64) : lg_cmp a b < 0 ↔ a < b := by
  unfold lg_cmp
  simp only [gt_iff_lt, Int64.lt_iff_toInt_lt, ← Int64.toInt_inj]
  repeat' split
  all_goals (constructor <;> intro hh <;> first | omega | (exact absurd hh (by decide)) | decide)
theorem pos_64 (a2 : Int32) {i j : Nat} (hi : i ≤ 13) (hj : j ≤ 3) : ((a2.toInt64 + (((3 : Int32) * nI i).toInt64)) + (nI j).toInt64).toInt = a2.toInt + 3 * (i : Int) + (j : Int) := by
  have h1 : (nI j).toInt64.toInt = (j : Int) := by rw [Int32.toInt_toInt64, ti (by omega)]
  have h2 : ((3 : Int32) * nI i).toInt64.toInt = 3 * (i : Int) := by
    rw [show (3 : Int32) = nI 3 from rfl, pk_mul, Int32.toInt_toInt64, ti (by omega)]
    omega
  have h3 : a2.toInt64.toInt = a2.toInt := Int32.toInt_toInt64 a2
  have h4 := Int32.toInt_lt a2
  have h5 := Int32.le_toInt a2
  rw [Int64.toInt_add, Int64.toInt_add, h1, h2, h3]
  have e1 : (a2.toInt + 3 * (i : Int)).bmod (2 ^ 64) = a2.toInt + 3 * (i : Int) := Int.bmod_eq_of_le (by omega) (by omega)
  rw [e1]
  exact Int.bmod_eq_of_le (by omega) (by omega)
theorem tri_r {X : am_M} {P k : Nat} (hk : k < 4) {D : Option (Nat × Nat)} (hD : shD X P k D) {l : Nat} (hl : l < 3) {a2 : Int32} {i : Nat} (hi : i ≤ 13) : ∃ y, lp (σ := Int32 × Int32) (ρ := Int32 × Int32) (fun (s23 : Int32 × Int32) => match s23 with | (x24, x25) => (if 3 ≤ x25 then (some (.inr (x24, x25))) else (if x24 = 0 then (if am_dbin (nI k) 4 = true then (if (X 54 k) = (-4) then (some (.inl (1, (x25 + 1)))) else (if am_dbin (nI k) 4 = true then (if (X 54 k) = nI l then (if (lg_cmp ((a2.toInt64 + (((3 : Int32) * nI i).toInt64)) + x25.toInt64) 0) < 0 then (some (.inl (2, (x25 + 1)))) else (if am_dbin (nI k) 4 = true then (if (lg_cmp ((a2.toInt64 + (((3 : Int32) * nI i).toInt64)) + x25.toInt64) ((X 55 k).toInt64)) < 0 then (some (.inl (0, (x25 + 1)))) else (some (.inl (2, (x25 + 1))))) else none)) else (some (.inl (3, (x25 + 1))))) else none)) else none) else (some (.inr (x24, x25)))))) lp_F (0, 0) = some (fd D l a2 i, y) := by
  have key := lp_inv (body := (fun (s23 : Int32 × Int32) => match s23 with | (x24, x25) => (if 3 ≤ x25 then (some (.inr (x24, x25))) else (if x24 = 0 then (if am_dbin (nI k) 4 = true then (if (X 54 k) = (-4) then (some (.inl (1, (x25 + 1)))) else (if am_dbin (nI k) 4 = true then (if (X 54 k) = nI l then (if (lg_cmp ((a2.toInt64 + (((3 : Int32) * nI i).toInt64)) + x25.toInt64) 0) < 0 then (some (.inl (2, (x25 + 1)))) else (if am_dbin (nI k) 4 = true then (if (lg_cmp ((a2.toInt64 + (((3 : Int32) * nI i).toInt64)) + x25.toInt64) ((X 55 k).toInt64)) < 0 then (some (.inl (0, (x25 + 1)))) else (some (.inl (2, (x25 + 1))))) else none)) else (some (.inl (3, (x25 + 1))))) else none)) else none) else (some (.inr (x24, x25)))))))
    (fun j s => (s = (0, nI j) ∧ (0 < j → ∃ sz, D = some (l, sz) ∧ 0 ≤ a2.toInt + 3 * (i : Int) ∧ a2.toInt + 3 * (i : Int) + (j : Int) ≤ (sz : Int))) ∨ (fd D l a2 i ≠ 0 ∧ s = (fd D l a2 i, nI j))) (fun q => ∃ y, q = (fd D l a2 i, y)) (n := 3) ?_ ?_ (s0 := (0, 0)) (Or.inl ⟨rfl, fun h => absurd h (by omega)⟩) (F := lp_F) (lpF (by omega))
  · obtain ⟨q, h1, y, rfl⟩ := key
    exact ⟨y, h1⟩
  · rintro j s hj (⟨rfl, h⟩ | ⟨hf, rfl⟩)
    · dsimp only
      rw [if_neg (c := 3 ≤ nI j) (nle_n (n := 3) hj (by omega)), if_pos (c := (0 : Int32) = 0) rfl, if_pos (db_ok hk (by omega)), nI_s]
      cases D with
      | none =>
        rw [hD.2, if_pos rfl]
        exact Or.inl ⟨_, rfl, Or.inr ⟨show ¬ (1 : Int32) = 0 by decide, rfl⟩⟩
      | some d =>
        obtain ⟨ln, sz⟩ := d
        obtain ⟨⟨b1, b2⟩, -, ⟨b3, b4⟩, -⟩ := hD
        rw [b3, b4, if_neg (nI_m4 (by omega)), if_pos (db_ok hk (by omega))]
        by_cases e1 : ln = l
        · subst e1
          rw [if_pos rfl, if_pos (db_ok hk (by omega))]
          have hp := pos_64 a2 (i := i) (j := j) hi (by omega)
          have hz : (nI sz).toInt64.toInt = (sz : Int) := by rw [Int32.toInt_toInt64, ti (by omega)]
          have hfd : fd (some (ln, sz)) ln a2 i = if 0 ≤ a2.toInt + 3 * (i : Int) ∧ a2.toInt + 3 * (i : Int) + 3 ≤ (sz : Int) then 0 else 2 := by
            show (if ln = ln then _ else _) = _
            rw [if_pos rfl]
          by_cases c1 : a2.toInt + 3 * (i : Int) + (j : Int) < 0
          · rw [if_pos ((lg_lt _ _).mpr (by rw [Int64.lt_iff_toInt_lt, hp]; exact c1))]
            have e2 : fd (some (ln, sz)) ln a2 i = 2 := by
              rw [hfd, if_neg (by omega)]
            rw [e2]
            exact Or.inl ⟨_, rfl, Or.inr ⟨by decide, rfl⟩⟩
          · rw [if_neg (fun q => c1 (by
              have := (lg_lt _ _).mp q
              rw [Int64.lt_iff_toInt_lt, hp] at this
              exact this))]
            by_cases c2 : a2.toInt + 3 * (i : Int) + (j : Int) < (sz : Int)
            · rw [if_pos ((lg_lt _ _).mpr (by rw [Int64.lt_iff_toInt_lt, hp, hz]; exact c2))]
              refine Or.inl ⟨_, rfl, Or.inl ⟨rfl, fun _ => ⟨sz, rfl, ?_, by omega⟩⟩⟩
              by_cases ej : j = 0
              · subst ej; omega
              · obtain ⟨sz', -, h2, -⟩ := h (by omega)
                exact h2
            · rw [if_neg (fun q => c2 (by
                have := (lg_lt _ _).mp q
                rw [Int64.lt_iff_toInt_lt, hp, hz] at this
                exact this))]
              have e2 : fd (some (ln, sz)) ln a2 i = 2 := by
                rw [hfd, if_neg (by omega)]
              rw [e2]
              exact Or.inl ⟨_, rfl, Or.inr ⟨by decide, rfl⟩⟩
        · rw [if_neg (c := nI ln = nI l) (fun e => e1 ((nI_eq (by omega) (by omega)).mp e))]
          have e2 : fd (some (ln, sz)) l a2 i = 3 := by
            show (if ln = l then _ else _) = _
            rw [if_neg e1]
          rw [e2]
          exact Or.inl ⟨_, rfl, Or.inr ⟨by decide, rfl⟩⟩
    · dsimp only
      rw [if_neg (c := 3 ≤ nI j) (nle_n (n := 3) hj (by omega)), if_neg hf]
      exact Or.inr ⟨_, rfl, _, rfl⟩
  · rintro s (⟨rfl, h⟩ | ⟨hf, rfl⟩)
    · dsimp only
      rw [if_pos (c := 3 ≤ nI 3) (by decide)]
      obtain ⟨sz, rfl, h2, h3⟩ := h (by omega)
      refine ⟨_, rfl, nI 3, ?_⟩
      have : fd (some (l, sz)) l a2 i = 0 := by
        show (if l = l then _ else _) = _
        rw [if_pos rfl, if_pos ⟨h2, by omega⟩]
      rw [this]
    · dsimp only
      rw [if_pos (c := 3 ≤ nI 3) (by decide)]
      exact ⟨_, rfl, _, rfl⟩
theorem rdr {X : am_M} {P k : Nat} (hk : k < 4) (hP : P + 1 < 43) {D : Option (Nat × Nat)} (hD : shD X P k D) {n m : Nat} (hn : n ≤ 8) (hm : m ≤ 8) (q0 : X 44 0 = nI n) (q1 : X 44 1 = nI m) {l : Nat} (hl : l < 3) {a2 : Int32} {n3 p : Nat} (hn3 : n3 ≤ 13) (hp : p ≤ n3) {f : Int32} {rf : Bool} (hE : rdE D n m l a2 (X (P + 1)) n3 p f rf) (hch : ∀ (M' : am_M), ∀ i, i ≤ p → (∀ j, M' 44 j = ya (X (P + 1)) (tn a2) 7 (X 44) i j) → ∀ c t, c < n → t < m → cv3 (M' 44 (7 + 8 * c + t))) : ∃ r : Int32 × am_M, f_X8_read_43 (nI k) (nI l) a2 (nI n3) X = some r ∧ ((rf = true ∧ r.1 = -20 - nI p ∧ (∀ x, x ≠ 44 → x ≠ 51 → r.2 x = X x) ∧ ∀ j, j < 151 → r.2 44 j = X 44 j) ∨ (rf = false ∧ r.1 = nI p ∧ (∀ x, x ≠ 44 → x ≠ 51 → x ≠ 43 → r.2 x = X x) ∧ (∀ j, j ≠ 30 → r.2 43 j = X 43 j) ∧ r.2 43 30 = f ∧ ∀ j, r.2 44 j = ya (X (P + 1)) (tn a2) 7 (X 44) p j)) := by
  have hD40 : ∀ ln sz, D = some (ln, sz) → sz ≤ 40 := by
    rintro ln sz rfl
    exact hD.1.2
  obtain ⟨hG, hend⟩ := hE
  unfold f_X8_read_43
  rw [if_neg (sheet_y hk hl), if_neg (in_y (b := 0) (c := 13) (by decide) (by decide) (in_nat (N := 13) (by omega) hn3))]
  refine lp_bnd (fun r => r) (fun i s => ∃ M', s = (nI i, M') ∧ (∀ x, x ≠ 51 → M' x = X x) ∧ ∀ j, j < i → M' 51 j = X 44 j) (fun q => ∃ y M', q = (y, M') ∧ (∀ x, x ≠ 51 → M' x = X x) ∧ ∀ j, j < 151 → M' 51 j = X 44 j) (n := 151) (lpF (by omega)) ⟨X, rfl, fun x _ => rfl, fun j hj => by omega⟩ ?_ ?_ ?_
  · rintro i s hi ⟨M', rfl, h1, h2⟩
    dsimp only
    rw [if_neg (c := 151 ≤ nI i) (nle_n (n := 151) hi (by omega)), if_pos (db_ok hi (by omega)), if_pos (db_ok hi (by omega)), nI_clamp (by omega), bl_s, nI_s]
    refine Or.inl ⟨_, rfl, _, rfl, fun x hx => by rw [am_up_ne hx, h1 x hx], fun j hj => ?_⟩
    by_cases e : j = i
    · subst e; rw [up_s, h1 44 (by decide)]
    · rw [up_k (by omega), h2 j (by omega)]
  · rintro s ⟨M', rfl, h⟩
    dsimp only
    rw [if_pos (c := 151 ≤ nI 151) (by decide)]
    exact ⟨_, rfl, _, M', rfl, h⟩
  · rintro q ⟨y, Y, rfl, y1, y2⟩
    dsimp only
    refine lp_bnd (fun r => r) (fun i s => (i ≤ p ∧ ∃ M', s = (0, nI i, nI i, M') ∧ (∀ x, x ≠ 44 → M' x = Y x) ∧ (∀ j, j < 7 → M' 44 j = X 44 j) ∧ ∀ j, M' 44 j = ya (X (P + 1)) (tn a2) 7 (X 44) i j) ∨ (i = p + 1 ∧ rf = false ∧ f ≠ 0 ∧ ∃ M', s = (f, nI p, nI i, M') ∧ (∀ x, x ≠ 44 → M' x = Y x) ∧ ∀ j, M' 44 j = ya (X (P + 1)) (tn a2) 7 (X 44) p j))
      (fun q => (rf = true ∧ ∃ r : Int32 × am_M, q = .inl r ∧ r.1 = -20 - nI p ∧ (∀ x, x ≠ 44 → r.2 x = Y x) ∧ ∀ j, j < 151 → r.2 44 j = X 44 j) ∨ (rf = false ∧ ∃ y M', q = .inr (f, nI p, y, M') ∧ (∀ x, x ≠ 44 → M' x = Y x) ∧ ∀ j, M' 44 j = ya (X (P + 1)) (tn a2) 7 (X 44) p j)) (n := p + 1) (lpF (by omega)) (Or.inl ⟨Nat.zero_le p, Y, rfl, fun x _ => rfl, fun j _ => by rw [y1 44 (by decide)], fun j => by rw [y1 44 (by decide)]; rfl⟩) ?_ ?_ ?_
    · rintro i s hi (⟨hip, M', rfl, h1, h3, h2⟩ | ⟨hip, -⟩)
      · have hx : ∀ x, x ≠ 44 → x ≠ 51 → M' x = X x := fun x a b => by rw [h1 x a, y1 x b]
        have ha := rd_a (i := i) hD40 (fun j hj => hG j (by omega))
        dsimp only
        by_cases ee : i = n3
        · have ei : i = p := by omega
          subst ei
          rcases hend with ⟨e1, rfl, rfl⟩ | ⟨e1, e2, e3, rfl⟩ | ⟨e1, e2, e3, rfl⟩
          · rw [if_pos (nle_y (by omega) (by omega))]
            exact Or.inr ⟨_, rfl, Or.inr ⟨rfl, _, _, rfl, h1, h2⟩⟩
          · omega
          · omega
        · have hD' : shD M' P k D := by
            cases D with
            | none => exact ⟨by rw [hx P (by omega) (by omega)]; exact hD.1, by rw [hx 54 (by omega) (by omega)]; exact hD.2⟩
            | some d =>
              unfold shD
              rw [hx P (by omega) (by omega), hx 54 (by omega) (by omega), hx 55 (by omega) (by omega), hx 56 (by omega) (by omega), hx (P + 1) (by omega) (by omega)]
              exact hD
          obtain ⟨y, hy⟩ := tri_r (a2 := a2) (l := l) hk hD' hl (i := i) (by omega)
          rw [if_neg (nle_n (by omega) (by omega)), if_pos (c := (0 : Int32) = 0) rfl, nI_clamp (by omega), hy, Option.bind_some]
          dsimp only
          have hd : ∀ x, x < 160 → am_dbin (nI x) 160 = true := fun x hx => db_ok hx (by omega)
          by_cases hf : fd D l a2 i = 0
          · obtain ⟨sz, d1, d2, d3, d4⟩ := rd_p hD40 (fun j hj => hG j (by omega)) hf
            have h56 : ∀ j, j < 40 → M' 56 (40 * k + j) = X (P + 1) j := by
              subst d1
              rw [hx 56 (by decide) (by decide)]
              exact hD.2.2.2
            rw [hf, if_pos (c := (0 : Int32) = 0) rfl, d3, a_40, a_3, nI_add, nI_s, nI_s, show nI (40 * k + tn a2 + 3 * i) + 2 = nI (40 * k + tn a2 + 3 * i + 2) from nI_add _ 2, if_pos (hd _ (by omega)), if_pos (hd _ (by omega)), if_pos (hd _ (by omega)), nI_clamp (by omega), nI_clamp (by omega), nI_clamp (by omega), show 40 * k + tn a2 + 3 * i + 1 = 40 * k + (tn a2 + 3 * i + 1) by omega, show 40 * k + tn a2 + 3 * i + 2 = 40 * k + (tn a2 + 3 * i + 2) by omega, show 40 * k + tn a2 + 3 * i = 40 * k + (tn a2 + 3 * i) by omega, h56 _ (by omega), h56 _ (by omega), h56 _ (by omega)]
            unfold f_X8_set_43
            by_cases hT : tpl n m (X (P + 1)) (tn a2) i
            · obtain ⟨⟨c, t, hc, ht, t1, t2⟩, hv⟩ := hT
              have ei : i < p := by
                apply Decidable.byContradiction
                intro hn
                have : i = p := by omega
                subst this
                rcases hend with ⟨e1, -⟩ | ⟨e1, e2, e3, -⟩ | ⟨e1, e2, e3, -⟩
                · omega
                · exact e3 (e2.symm.trans hf)
                · exact e3 ⟨⟨c, t, hc, ht, t1, t2⟩, hv⟩
              have hys := ya_s (X (P + 1)) (tn a2) 7 (X 44) i
              rw [t1, t2, tn_nI (by omega), tn_nI (by omega)] at hys
              rw [t1, t2, (cell_r hn hm (by rw [h3 0 (by omega), q0]) (by rw [h3 1 (by omega), q1]) _ _).1 ⟨c, t, hc, ht, rfl, rfl⟩, Option.bind_some, if_neg (c := (1 : Int32) = 0) (by decide), if_neg (in_y (b := 0) (c := 2) (by decide) (by decide) ((v3 _).mpr hv)), a_7]
              unfold f_X8_becomes_43
              rw [if_pos (db_ok (by omega) (by omega)), if_pos (db_ok (by omega) (by omega)), nI_clamp (by omega), bl_s, Option.bind_some, Option.bind_some]
              dsimp only
              have hv2 : 0 ≤ M' 44 (7 + 8 * c + t) := by
                have := hch M' i hip h2 c t hc ht
                rcases this with e | e | e <;> rw [e] <;> decide
              rw [if_pos hv2]
              refine Or.inl ⟨_, rfl, Or.inl ⟨by omega, _, rfl, fun x hx => by rw [am_up_ne hx, h1 x hx], fun j hj => by rw [up_k (by omega), h3 j hj], fun j => ?_⟩⟩
              rw [← d3, hys]
              exact up_w h2 j
            · have ei : i = p := by
                apply Decidable.byContradiction
                intro hn
                exact hT (hG i (by omega)).2
              subst ei
              have hrf : rf = true := by
                rcases hend with ⟨e1, -⟩ | ⟨e1, e2, e3, -⟩ | ⟨e1, e2, e3, e4⟩
                · omega
                · exact absurd (e2.symm.trans hf) e3
                · exact e4
              have hset : (((f_X8_isCell_43 (X (P + 1) (tn a2 + 3 * i)) (X (P + 1) (tn a2 + 3 * i + 1)) M').bind (fun v1 => (if v1 = 0 then (some ((-1), M')) else (if (f_X8_in (X (P + 1) (tn a2 + 3 * i + 2)).toInt64 0 2) = 0 then (some ((-1), M')) else ((f_X8_becomes_43 (((7 : Int32) + ((8 : Int32) * (X (P + 1) (tn a2 + 3 * i)))) + (X (P + 1) (tn a2 + 3 * i + 1))) (X (P + 1) (tn a2 + 3 * i + 2)) M').bind (fun q4 => (some (q4.1, q4.2)))))))) : Option (Int32 × am_M)) = some (-1, M') := by
                by_cases hcell : ∃ c t, c < n ∧ t < m ∧ X (P + 1) (tn a2 + 3 * i) = nI c ∧ X (P + 1) (tn a2 + 3 * i + 1) = nI t
                · rw [(cell_r hn hm (by rw [h3 0 (by omega), q0]) (by rw [h3 1 (by omega), q1]) _ _).1 hcell, Option.bind_some, if_neg (c := (1 : Int32) = 0) (by decide), if_pos (in_n (b := 0) (c := 2) (by decide) (by decide) (fun h => hT ⟨hcell, (v3 _).mp h⟩))]
                · rw [(cell_r hn hm (by rw [h3 0 (by omega), q0]) (by rw [h3 1 (by omega), q1]) _ _).2 hcell, Option.bind_some, if_pos (c := (0 : Int32) = 0) rfl]
              rw [hset, Option.bind_some]
              dsimp only
              rw [if_neg (c := 0 ≤ (-1 : Int32)) (by decide)]
              refine Or.inr (lp_bnd Sum.inr (fun i s => ∃ M2, s = (nI i, M2) ∧ (∀ x, x ≠ 44 → M2 x = Y x) ∧ ∀ j, j < i → M2 44 j = X 44 j) (fun q => ∃ y M2, q = (y, M2) ∧ (∀ x, x ≠ 44 → M2 x = Y x) ∧ ∀ j, j < 151 → M2 44 j = X 44 j) (n := 151) (lpF (by omega)) ⟨M', rfl, h1, fun j hj => by omega⟩ ?_ ?_ ?_)
              · rintro i s hi ⟨M2, rfl, g1, g2⟩
                dsimp only
                rw [if_neg (c := 151 ≤ nI i) (nle_n (n := 151) hi (by omega)), if_pos (db_ok hi (by omega)), if_pos (db_ok hi (by omega)), nI_clamp (by omega), bl_s, nI_s]
                refine Or.inl ⟨_, rfl, _, rfl, fun x hx => by rw [am_up_ne hx, g1 x hx], fun j hj => ?_⟩
                by_cases e : j = i
                · subst e; rw [up_s, g1 51 (by decide), y2 j hi]
                · rw [up_k (by omega), g2 j (by omega)]
              · rintro s ⟨M2, rfl, h⟩
                dsimp only
                rw [if_pos (c := 151 ≤ nI 151) (by decide)]
                exact ⟨_, rfl, _, M2, rfl, h⟩
              · rintro q ⟨y, M2, rfl, h⟩
                exact ⟨_, rfl, Or.inl ⟨hrf, _, rfl, rfl, h⟩⟩
          · have ei : i = p := by
              apply Decidable.byContradiction
              intro hn
              exact hf (hG i (by omega)).1
            subst ei
            rw [if_neg hf, nI_s]
            rcases hend with ⟨e1, -⟩ | ⟨e1, e2, e3, e4⟩ | ⟨e1, e2, -⟩
            · omega
            · exact Or.inl ⟨_, rfl, Or.inr ⟨rfl, e4, e3, M', by rw [e2], h1, h2⟩⟩
            · exact absurd e2 hf
      · omega
    · rintro s (⟨hip, -⟩ | ⟨-, e1, e2, M', rfl, h1, h2⟩)
      · omega
      · dsimp only
        by_cases e3 : nI n3 ≤ nI (p + 1)
        · rw [if_pos e3]
          exact ⟨_, rfl, Or.inr ⟨e1, _, _, rfl, h1, h2⟩⟩
        · rw [if_neg e3, if_neg e2]
          exact ⟨_, rfl, Or.inr ⟨e1, _, _, rfl, h1, h2⟩⟩
    · rintro q (⟨h1, r, rfl, h2, h3, h4⟩ | ⟨h1, y, M', rfl, h2, h3⟩)
      · exact ⟨r, rfl, Or.inl ⟨h1, h2, fun x a b => by rw [h3 x a, y1 x b], h4⟩⟩
      · dsimp only [Sum.elim_inr]
        rw [bl_s]
        exact ⟨(nI p, am_up M' 43 30 f), rfl, Or.inr ⟨h1, rfl, fun x a b c => by show am_up M' 43 30 f x = X x; rw [am_up_ne c, h2 x a, y1 x b], fun j hj => by show am_up M' 43 30 f 43 j = X 43 j; rw [up_k hj, h2 43 (by decide), y1 43 (by decide)], (show am_up M' 43 30 f 43 30 = f from up_s), fun j => by show am_up M' 43 30 f 44 j = _; rw [up_p (by decide), h3 j]⟩⟩
theorem rel_torn {M M' : am_M} (hR : Rel M) (hx : ∀ x, x ≠ 0 → x ≠ 43 → x ≠ 51 → M' x = M x) (h1 : M' 0 1 = M 0 1) (h12 : M' 43 12 = M 43 12) (h17 : M' 43 17 = M 43 17) (h30 : M' 43 30 = M' 0 8) : Rel M' := by
  obtain ⟨hc, ⟨i1, i2⟩, ⟨i3, i4⟩, ht, ⟨f1, f2⟩, s1, s2, s3, s4⟩ := hR
  have e : ∀ x, x ≠ 0 ∧ x ≠ 43 ∧ x ≠ 51 → M' x = M x := fun x h => hx x h.1 h.2.1 h.2.2
  refine ⟨crel_fr (fun x h => e x (by omega)) hc, ⟨by rw [e 46 (by omega), e 25 (by omega)]; exact i1, ?_⟩, ⟨by rw [e 46 (by omega), e 25 (by omega)]; exact i3, ?_⟩, trel_fr (e 3 (by omega)) (e 48 (by omega)) (by rw [e 2 (by omega)]) h12 ht, ⟨by rw [h17, h1]; exact f1, h30⟩, srel_fr (fun x h => e x (by omega)) s1, srel_fr (fun x h => e x (by omega)) s2, srel_fr (fun x h => e x (by omega)) s3, srel_fr (fun x h => e x (by omega)) s4⟩
  · rw [e 25 (by omega)]
    exact i2.imp id (fun h => ⟨h.1, crel_fr (fun x hx => e x (by omega)) h.2⟩)
  · rw [e 25 (by omega)]
    exact i4.imp id (fun h => ⟨h.1, crel_fr (fun x hx => e x (by omega)) h.2⟩)
theorem read_end {M : am_M} (hR : Rel M) {n m w b : Nat} (hc : chp M n m w b) {P k : Nat} (hk : k < 4) (hP : 35 ≤ P ∧ P ≤ 41) {D : Option (Nat × Nat)} (hD : shD M P k D) {l : Nat} (hl : l < 3) {a2 : Int32} {n3 p : Nat} (hn3 : n3 ≤ 13) (hp : p ≤ n3) {f : Int32} {rf : Bool} (hE : rdE D n m l a2 (M (P + 1)) n3 p f rf) {r : Int32 × am_M} (hr : rdR M (M (P + 1)) a2 p f rf r) : ∃ M2, f_X8_read_43 (nI k) (nI l) a2 (nI n3) r.2 = some (r.1, M2) ∧ Rel M2 := by
  have hn : n ≤ 8 := hc.1.1
  have hm : m ≤ 8 := hc.1.2.1
  have hfr : ∀ x, x ≠ 10 → x ≠ 0 → r.2 x = M x := by
    rcases hr with ⟨-, h⟩ | ⟨-, -, h, -⟩
    · rw [h]; exact fun x _ _ => rfl
    · exact h
  have hD' : shD r.2 P k D := by
    cases D with
    | none => exact ⟨by rw [hfr P (by omega) (by omega)]; exact hD.1, by rw [hfr 54 (by omega) (by omega)]; exact hD.2⟩
    | some d =>
      unfold shD
      rw [hfr P (by omega) (by omega), hfr 54 (by omega) (by omega), hfr 55 (by omega) (by omega), hfr 56 (by omega) (by omega), hfr (P + 1) (by omega) (by omega)]
      exact hD
  have hE' : rdE D n m l a2 (r.2 (P + 1)) n3 p f rf := by
    rw [hfr (P + 1) (by omega) (by omega)]
    exact hE
  have hsub : ∀ i, i ≤ p → ∀ j, j < i → tpl n m (M (P + 1)) (tn a2) j := fun i hi j hj => (hE.1 j (by omega)).2
  obtain ⟨r2, e2, h2⟩ := rdr (P := P) hk (by omega) hD' hn hm (by rw [hfr 44 (by omega) (by omega)]; exact hc.2.2.1.1) (by rw [hfr 44 (by omega) (by omega)]; exact hc.2.2.1.2.1) hl hn3 hp hE' (by
    intro M' i hi hM c t hc' ht
    obtain ⟨N, -, n2, -, n4, n5⟩ := ya_rel hR hc i (hsub i hi)
    rw [hM, hfr (P + 1) (by omega) (by omega), hfr 44 (by omega) (by omega), ← n5]
    have := n2.2.2.2.2.1 c t hc' ht
    rw [this.1]
    exact this.2)
  rcases h2 with ⟨h0, h1, h3, h4⟩ | ⟨h0, h1, h3, h4, h5, h6⟩
  · rcases hr with ⟨-, h⟩ | ⟨h, -⟩
    · subst h
      refine ⟨r2.2, by rw [e2, ← h1], rel_chip hR (crel_cp hR.1 (fun j _ => by rw [h3 9 (by decide) (by decide)]) (fun j _ => by rw [h3 (9 + 1) (by decide) (by decide)]) (fun j _ => by rw [h3 (9 + 2) (by decide) (by decide)]) (fun j _ => by rw [h3 (9 + 3) (by decide) (by decide)]) (fun j _ => by rw [h3 (9 + 4) (by decide) (by decide)]) (fun j hj => by simpa using h4 j hj)) ⟨fun x hx => h3 x (by omega) (by omega), ?_, ?_, ?_, ?_, ?_, ?_⟩⟩ <;> rw [h3 _ (by decide) (by decide)]
    · rw [h] at h0; exact absurd h0 (by decide)
  · rcases hr with ⟨h, -⟩ | ⟨-, g1, g2, g3, g4, g5⟩
    · rw [h] at h0; exact absurd h0 (by decide)
    · obtain ⟨N, n1, n2, n3', n4, n5⟩ := ya_rel hR hc p (hsub p (Nat.le_refl p))
      refine ⟨r2.2, by rw [e2, g1, ← h1], rel_torn n1 (fun x a b c => ?_) ?_ ?_ ?_ ?_⟩
      · by_cases e44 : x = 44
        · subst e44
          funext j
          rw [h6, hfr (P + 1) (by omega) (by omega), hfr 44 (by omega) (by omega), n5]
        · rw [h3 x e44 c b]
          by_cases e10 : x = 10
          · subst e10
            funext j
            rw [g5, n4]
          · rw [hfr x e10 a, n3' x e10 e44]
      · rw [h3 0 (by decide) (by decide) (by decide), g3 1 (by decide), n3' 0 (by decide) (by decide)]
      · rw [h4 12 (by decide), hfr 43 (by decide) (by decide), n3' 43 (by decide) (by decide)]
      · rw [h4 17 (by decide), hfr 43 (by decide) (by decide), n3' 43 (by decide) (by decide)]
      · rw [h5, h3 0 (by decide) (by decide) (by decide), g4]
theorem op_read (a0 a1 a2 a3 : Int32) {M : am_M} (h : Rel M) : ∃ v M1 M2, f_X7_read_0 a0 a1 a2 a3 M = some (v, M1) ∧ f_X8_read_43 a0 a1 a2 a3 M1 = some (v, M2) ∧ Rel M2 := by
  obtain ⟨n, m, w, b, hc⟩ := chp_iff.mp h.1
  obtain ⟨-, -, -, -, -, s1, s2, s3, s4⟩ := id h
  rcases sheet_c a0 with ⟨e, k, hk, rfl⟩ | ⟨e, hno⟩
  · rcases lane_c a1 with ⟨e1, l, hl, rfl⟩ | ⟨e1, hno⟩
    · by_cases h3 : 0 ≤ a3 ∧ a3 ≤ 13
      · obtain ⟨n3, hn3, rfl⟩ := nat_in (N := 13) (by omega) h3
        have h4 : k = 0 ∨ k = 1 ∨ k = 2 ∨ k = 3 := by omega
        rcases h4 with rfl | rfl | rfl | rfl
        · obtain ⟨D, hD⟩ := shD_of s1
          obtain ⟨p, f, rf, hp, hE⟩ := rd_ex D n m l a2 (M 36) n3
          obtain ⟨r, er, hr⟩ := rdc_35 hD hc.1.1 hc.1.2.1 hc.2.1.1 hc.2.1.2.1 hl hn3 hp hE
          obtain ⟨M2, e2, h2⟩ := read_end h hc (P := 35) hk (by omega) hD hl hn3 hp hE hr
          exact ⟨r.1, r.2, M2, er, e2, h2⟩
        · obtain ⟨D, hD⟩ := shD_of s2
          obtain ⟨p, f, rf, hp, hE⟩ := rd_ex D n m l a2 (M 38) n3
          obtain ⟨r, er, hr⟩ := rdc_37 hD hc.1.1 hc.1.2.1 hc.2.1.1 hc.2.1.2.1 hl hn3 hp hE
          obtain ⟨M2, e2, h2⟩ := read_end h hc (P := 37) hk (by omega) hD hl hn3 hp hE hr
          exact ⟨r.1, r.2, M2, er, e2, h2⟩
        · obtain ⟨D, hD⟩ := shD_of s3
          obtain ⟨p, f, rf, hp, hE⟩ := rd_ex D n m l a2 (M 40) n3
          obtain ⟨r, er, hr⟩ := rdc_39 hD hc.1.1 hc.1.2.1 hc.2.1.1 hc.2.1.2.1 hl hn3 hp hE
          obtain ⟨M2, e2, h2⟩ := read_end h hc (P := 39) hk (by omega) hD hl hn3 hp hE hr
          exact ⟨r.1, r.2, M2, er, e2, h2⟩
        · obtain ⟨D, hD⟩ := shD_of s4
          obtain ⟨p, f, rf, hp, hE⟩ := rd_ex D n m l a2 (M 42) n3
          obtain ⟨r, er, hr⟩ := rdc_41 hD hc.1.1 hc.1.2.1 hc.2.1.1 hc.2.1.2.1 hl hn3 hp hE
          obtain ⟨M2, e2, h2⟩ := read_end h hc (P := 41) hk (by omega) hD hl hn3 hp hE hr
          exact ⟨r.1, r.2, M2, er, e2, h2⟩
      · refine ⟨-1, M, M, ?_, ?_, h⟩
        · unfold f_X7_read_0
          rw [e, e1, if_neg (c := (1 : Int32) = 0) (by decide), if_neg (c := (1 : Int32) = 0) (by decide)]
          by_cases c1 : a3 < 0
          · rw [if_pos c1]
          · rw [if_neg c1, if_neg (fun c2 => h3 ⟨Int32.not_lt.mp c1, c2⟩)]
        · unfold f_X8_read_43
          rw [if_neg (sheet_y hk hl), if_pos (in_n (b := 0) (c := 13) (by decide) (by decide) h3)]
    · refine ⟨-1, M, M, ?_, ?_, h⟩
      · unfold f_X7_read_0
        rw [e, e1, if_neg (c := (1 : Int32) = 0) (by decide), if_pos (c := (0 : Int32) = 0) rfl]
      · unfold f_X8_read_43
        rw [if_pos (sheet_n2 hno)]
  · refine ⟨-1, M, M, ?_, ?_, h⟩
    · unfold f_X7_read_0
      rw [e, if_pos (c := (0 : Int32) = 0) rfl]
    · unfold f_X8_read_43
      rw [if_pos (sheet_n1 hno)]
