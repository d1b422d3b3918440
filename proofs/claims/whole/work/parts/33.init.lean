/-! THE BEGINNING: both objects are made -/
def am_sc (x : Instr) (st : List Value) : Bool := match x with
  | .iaload => (match st with
    | .int _ :: .ref p :: _ => p == 1000
    | _ => false)
  | .arraylength => (match st with
    | .ref p :: _ => p == 1000
    | _ => false)
  | _ => false
theorem am_nx_sc {X : am_X} {x : Instr} {len r1 r2 : Nat} {rv : Value} {pc : Nat} {L : am_L} {st : List Value} {sh : List am_S} {M : am_M} (h : am_sc x st = false) (LN LN' : Nat) (xs xs' : Nat → Int32) : am_nx X LN xs x len r1 r2 rv pc L st sh M = am_nx X LN' xs' x len r1 r2 rv pc L st sh M := by
  by_cases h1 : x = .iaload
  · subst h1
    unfold am_nx
    dsimp only
    split
    · next i p r =>
      have hp : ¬ p = 1000 := by
        intro e
        subst e
        simp [am_sc] at h
      unfold am_ial
      rw [if_neg hp, if_neg hp]
    · rfl
  by_cases h2 : x = .arraylength
  · subst h2
    unfold am_nx
    dsimp only
    split
    · next p r =>
      have hp : ¬ p = 1000 := by
        intro e
        subst e
        simp [am_sc] at h
      unfold am_len
      rw [if_neg hp, if_neg hp]
    · rfl
  cases x <;> first | rfl | exact absurd rfl h1 | exact absurd rfl h2
def am_clN (X : am_X) (j : Nat) (c : am_C) : Option am_T := match am_cd X j c.1 with
  | some q => if am_sc q.1 c.2.2.1 = true then none else am_cl X 0 (fun _ => 0) j c
  | none => none
theorem am_clN_ok {X : am_X} {j : Nat} {c : am_C} {t : am_T} (h : am_clN X j c = some t) (LN : Nat) (xs : Nat → Int32) : am_cl X LN xs j c = some t := by
  unfold am_clN at h
  cases hq : am_cd X j c.1 with
  | none => rw [hq] at h; cases h
  | some q =>
    rw [hq] at h
    dsimp only at h
    split at h
    · cases h
    · next hsc =>
      have hsc : am_sc q.1 c.2.2.1 = false := by simpa using hsc
      rw [← h]
      unfold am_cl
      rw [hq]
      obtain ⟨x, len, r1, r2, rv⟩ := q
      cases X.1[j]? with
      | none => rfl
      | some d =>
        dsimp only at hsc ⊢
        rw [am_nx_sc hsc LN 0 xs (fun _ => 0)]
def am_runN (X : am_X) : Nat → Nat → am_C → Option (Option Value × List am_S × am_M)
  | 0, _, _ => none
  | n + 1, j, c => match am_clN X j c with
    | none => none
    | some (.inl c') => am_runN X n j c'
    | some (.inr (.inr v)) => some (v, c.2.2.2.1, c.2.2.2.2.1)
    | some (.inr (.inl (j', as, rest))) => match am_runN X n j' (0, am_en (am_mx X j') as, [], c.2.2.2.1, c.2.2.2.2.1, 0, 0) with
      | none => none
      | some (rv, sh, M) => am_runN X n j (am_bk X j' rest c rv sh M)
theorem am_runN_s (X : am_X) (n j : Nat) (c : am_C) : am_runN X (n + 1) j c = match am_clN X j c with
    | none => none
    | some (.inl c') => am_runN X n j c'
    | some (.inr (.inr v)) => some (v, c.2.2.2.1, c.2.2.2.2.1)
    | some (.inr (.inl (j', as, rest))) => match am_runN X n j' (0, am_en (am_mx X j') as, [], c.2.2.2.1, c.2.2.2.2.1, 0, 0) with
      | none => none
      | some (rv, sh, M) => am_runN X n j (am_bk X j' rest c rv sh M) := rfl
theorem am_runN_ok (X : am_X) (LN : Nat) (xs : Nat → Int32) : ∀ (n j : Nat) (c : am_C) (r : Option Value × List am_S × am_M), am_runN X n j c = some r → am_run X LN xs n j c = some r := by
  intro n
  induction n with
  | zero => intro j c r h; cases h
  | succ n ih =>
    intro j c r h
    rw [am_runN_s] at h
    rw [am_run_s]
    cases hc : am_clN X j c with
    | none => rw [hc] at h; cases h
    | some t =>
      rw [hc] at h
      rw [am_clN_ok hc LN xs]
      rcases t with c' | ⟨j', as, rest⟩ | v
      · exact ih _ _ _ h
      · dsimp only at h ⊢
        cases hr : am_runN X n j' (0, am_en (am_mx X j') as, [], c.2.2.2.1, c.2.2.2.2.1, 0, 0) with
        | none => rw [hr] at h; cases h
        | some q =>
          rw [hr] at h
          rw [ih _ _ _ hr]
          exact ih _ _ _ h
      · exact h
def am_pre (X : am_X) (n : Nat) : Nat → Nat → am_C → Option am_C
  | 0, _, c => some c
  | k + 1, j, c => match am_clN X j c with
    | none => none
    | some (.inl c') => am_pre X n k j c'
    | some (.inr (.inr _)) => none
    | some (.inr (.inl (j', as, rest))) => match am_runN X n j' (0, am_en (am_mx X j') as, [], c.2.2.2.1, c.2.2.2.2.1, 0, 0) with
      | none => none
      | some (rv, sh, M) => am_pre X n k j (am_bk X j' rest c rv sh M)
theorem am_pre_s (X : am_X) (n k j : Nat) (c : am_C) : am_pre X n (k + 1) j c = match am_clN X j c with
    | none => none
    | some (.inl c') => am_pre X n k j c'
    | some (.inr (.inr _)) => none
    | some (.inr (.inl (j', as, rest))) => match am_runN X n j' (0, am_en (am_mx X j') as, [], c.2.2.2.1, c.2.2.2.2.1, 0, 0) with
      | none => none
      | some (rv, sh, M) => am_pre X n k j (am_bk X j' rest c rv sh M) := rfl
theorem am_pre_ok (X : am_X) (LN : Nat) (xs : Nat → Int32) (n : Nat) : ∀ (k j : Nat) (c c' : am_C) (r : Option Value × List am_S × am_M), am_pre X n k j c = some c' → (∃ m, am_run X LN xs m j c' = some r) → ∃ m, am_run X LN xs m j c = some r := by
  intro k
  induction k with
  | zero => intro j c c' r h hm; cases h; exact hm
  | succ k ih =>
    intro j c c' r h hm
    rw [am_pre_s] at h
    cases hc : am_clN X j c with
    | none => rw [hc] at h; cases h
    | some t =>
      rw [hc] at h
      rcases t with c2 | ⟨j', as, rest⟩ | v
      · obtain ⟨m, h1⟩ := ih _ _ _ _ h hm
        refine ⟨m + 1, ?_⟩
        rw [am_run_s, am_clN_ok hc LN xs]
        exact h1
      · dsimp only at h
        cases hr : am_runN X n j' (0, am_en (am_mx X j') as, [], c.2.2.2.1, c.2.2.2.2.1, 0, 0) with
        | none => rw [hr] at h; cases h
        | some q =>
          rw [hr] at h
          obtain ⟨rv, sh, M⟩ := q
          obtain ⟨m, h1⟩ := ih _ _ _ _ h hm
          refine ⟨(n + m) + 1, ?_⟩
          rw [am_run_s, am_clN_ok hc LN xs]
          dsimp only
          rw [am_mono' X LN xs (am_runN_ok X LN xs _ _ _ _ hr) (Nat.le_add_right n m)]
          exact am_mono' X LN xs h1 (Nat.le_add_left m n)
      · cases h
/-- what every place holds at first: class by place, then by number -/
def am_m0 (p k : Nat) : Int32 := if p = 4 then (if 4 ≤ k ∧ k < 5 then 4 else if 5 ≤ k ∧ k < 7 then 1 else 0) else if p = 5 then (if 0 ≤ k ∧ k < 64 then 2 else 0) else if p = 6 then (if 0 ≤ k ∧ k < 64 then 2 else 0) else if p = 9 then (if 4 ≤ k ∧ k < 5 then 4 else if 5 ≤ k ∧ k < 7 then 1 else 0) else if p = 10 then (if 0 ≤ k ∧ k < 64 then 2 else 0) else if p = 11 then (if 0 ≤ k ∧ k < 64 then 2 else 0) else if p = 15 then (if 4 ≤ k ∧ k < 5 then 4 else if 5 ≤ k ∧ k < 7 then 1 else 0) else if p = 16 then (if 0 ≤ k ∧ k < 64 then 2 else 0) else if p = 17 then (if 0 ≤ k ∧ k < 64 then 2 else 0) else if p = 20 then (if 4 ≤ k ∧ k < 5 then 4 else if 5 ≤ k ∧ k < 7 then 1 else 0) else if p = 21 then (if 0 ≤ k ∧ k < 64 then 2 else 0) else if p = 22 then (if 0 ≤ k ∧ k < 64 then 2 else 0) else if p = 26 then (if 2 ≤ k ∧ k < 3 then 1 else 0) else if p = 35 then (if 0 ≤ k ∧ k < 1 then (-1) else 0) else if p = 37 then (if 0 ≤ k ∧ k < 1 then (-1) else 0) else if p = 39 then (if 0 ≤ k ∧ k < 1 then (-1) else 0) else if p = 41 then (if 0 ≤ k ∧ k < 1 then (-1) else 0) else if p = 43 then (if 7 ≤ k ∧ k < 10 then (-1) else 0) else if p = 44 then (if 4 ≤ k ∧ k < 5 then 4 else if 5 ≤ k ∧ k < 7 then 1 else if 7 ≤ k ∧ k < 135 then 2 else if 143 ≤ k ∧ k < 151 then 65536 else 0) else if p = 47 then (if 4 ≤ k ∧ k < 5 then 4 else if 5 ≤ k ∧ k < 7 then 1 else if 7 ≤ k ∧ k < 135 then 2 else if 143 ≤ k ∧ k < 151 then 65536 else 0) else if p = 54 then (if 0 ≤ k ∧ k < 4 then (-4) else 0) else 0
/-- the slots that matter at first (nothing else is read before it is written) -/
def am_pl0 : List (Nat × Nat) := [(9, 0), (9, 1), (9, 2), (9, 3), (9, 4), (9, 5), (9, 6), (44, 0), (44, 1), (44, 2), (44, 3), (44, 4), (44, 5), (44, 6), (0, 1), (0, 8), (2, 1), (25, 0), (25, 1), (35, 0), (37, 0), (39, 0), (41, 0), (43, 12), (43, 17), (43, 30), (46, 0), (46, 1), (54, 0), (54, 1), (54, 2), (54, 3)]
def am_eqM (M : am_M) : Bool := am_pl0.all (fun q => decide (M q.1 q.2 = am_m0 q.1 q.2))
def am_eqS (a b : am_S) : Bool := match a with
  | .inl x => (match b with
    | .inl y => decide (x = y)
    | .inr _ => false)
  | .inr x => (match b with
    | .inr y => decide (x = y)
    | .inl _ => false)
theorem am_eqS_i {a b : am_S} (h : am_eqS a b = true) : a = b := by
  rcases a with x | x <;> rcases b with y | y
  · rw [of_decide_eq_true (p := x = y) h]
  · cases h
  · cases h
  · rw [of_decide_eq_true (p := x = y) h]
def am_eqSL : List am_S → List am_S → Bool
  | [], [] => true
  | a :: l, b :: m => am_eqS a b && am_eqSL l m
  | _, _ => false
theorem am_eqSL_i : ∀ {l m : List am_S}, am_eqSL l m = true → l = m
  | [], [], _ => rfl
  | a :: l, b :: m, h => by
    have h2 : (am_eqS a b && am_eqSL l m) = true := h
    simp only [Bool.and_eq_true] at h2
    rw [am_eqS_i h2.1, am_eqSL_i h2.2]
def am_okB (c : am_C) : Bool := decide (c.1 = 18) && decide (c.2.1 = [some (.ref 1000), some (.ref 0), some (.ref 43), some (.int 0)]) && decide (c.2.2.1 = []) && am_eqSL c.2.2.2.1 am_sh && decide (c.2.2.2.2.2.1 = 57) && decide (c.2.2.2.2.2.2 = 2414) && am_eqM c.2.2.2.2.1
def am_okP (o : Option am_C) : Bool := match o with
  | some c => am_okB c
  | none => false
set_option maxRecDepth 100000 in
theorem am_first : am_okP (am_pre am_x 20000 10 0 (0, [some (.ref 1000), none, none, none], [], [], fun _ _ => 0, 0, 0)) = true := by decide +kernel
theorem am_eqM_i {M : am_M} (h : am_eqM M = true) : ∀ q ∈ am_pl0, M q.1 q.2 = am_m0 q.1 q.2 := by
  intro q hq
  exact of_decide_eq_true (List.all_eq_true.mp h q hq)
/-- the claim out of the law's function -/
theorem law_of {LN : Nat} {xs : Nat → Int32} (hf : ∀ M : am_M, (∀ q ∈ am_pl0, M q.1 q.2 = am_m0 q.1 q.2) → ∃ M', f_L_law_1000 LN xs 0 M = some (1, M')) : ∃ n sh M, am_run am_x LN xs n 0 (0, [some (.ref 1000), none, none, none], [], [], fun _ _ => 0, 0, 0) = some (some (.int 1), sh, M) := by
  have h0 := am_first
  cases hp : am_pre am_x 20000 10 0 (0, [some (.ref 1000), none, none, none], [], [], fun _ _ => 0, 0, 0) with
  | none => rw [hp] at h0; cases h0
  | some c =>
    rw [hp] at h0
    have h1 : am_okB c = true := h0
    obtain ⟨pc, L, st, sh, M, kc, ks⟩ := c
    unfold am_okB at h1
    simp only [Bool.and_eq_true, decide_eq_true_eq] at h1
    obtain ⟨⟨⟨⟨⟨⟨e1, e2⟩, e3⟩, e4⟩, e5⟩, e6⟩, e7⟩ := h1
    have e4 := am_eqSL_i e4
    subst e1; subst e2; subst e3; subst e4; subst e5; subst e6
    obtain ⟨M', hM⟩ := hf M (am_eqM_i e7)
    have ho := t_L_law_1000 (LN := LN) (xs := xs) (kc := 57) (ks := 2414) hM
    obtain ⟨m, hm⟩ := ho (fun d hd => by
      cases pj_0.symm.trans hd
      exact ⟨by decide, by decide⟩)
    obtain ⟨n, hn⟩ := am_pre_ok am_x LN xs 20000 10 0 _ _ _ hp ⟨m, hm⟩
    exact ⟨n, _, _, hn⟩
