/-! ROWS WITH A LOWEST BIT EACH -/
def sub (a K : Nat) : Prop := ∀ j, a.testBit j = true → K.testBit j = true
theorem sub_x {a b K : Nat} (h1 : sub a K) (h2 : sub b K) : sub (a ^^^ b) K := by
  intro j h
  rw [Nat.testBit_xor] at h
  by_cases e : a.testBit j = true
  · exact h1 j e
  · apply h2 j
    have e' : a.testBit j = false := by simpa using e
    rw [e'] at h
    simpa using h
def EC (R : Nat → Nat) : Prop := ∀ i, i < 12 → R i < 2 ^ 13 ∧ (R i = 0 ∨ ((R i).testBit i = true ∧ ∀ j, j < i → (R i).testBit j = false))
def rk (R : Nat → Nat) : Nat := sm (fun i => if R i = 0 then 0 else 1) 12
def Sol (R : Nat → Nat) (y : Nat) : Prop := ∀ i, i < 12 → pr (R i &&& y) = 0
theorem sm_upd {f g : Nat → Nat} {i : Nat} : ∀ {n : Nat}, i < n → (∀ j, j ≠ i → f j = g j) → f i = g i + 1 → sm f n = sm g n + 1
  | 0, h, _, _ => absurd h (Nat.not_lt_zero i)
  | n + 1, h, h1, h2 => by
    show sm f n + f n = sm g n + g n + 1
    by_cases e : i = n
    · subst e
      rw [sm_cong (f := f) (g := g) (fun j hj => h1 j (by omega)), h2]
      omega
    · rw [sm_upd (n := n) (by omega) h1 h2, h1 n (fun q => e q.symm)]
      omega
theorem rk_12 {R : Nat → Nat} : rk R ≤ 12 := by
  have : sm (fun i => if R i = 0 then 0 else 1) 12 ≤ 12 * 1 := sm_le (fun i _ => by split <;> omega)
  unfold rk
  omega
/-- the new row -/
def nr (R : Nat → Nat) (i v : Nat) : Nat → Nat := fun j => if j = i then v else R j
theorem nr_s {R : Nat → Nat} {i v : Nat} : nr R i v i = v := if_pos rfl
theorem nr_o {R : Nat → Nat} {i v j : Nat} (h : j ≠ i) : nr R i v j = R j := if_neg h
theorem nr_rk {R : Nat → Nat} {i v : Nat} (hi : i < 12) (h0 : R i = 0) (hv : v ≠ 0) : rk (nr R i v) = rk R + 1 := by
  unfold rk
  refine sm_upd hi (fun j hj => by rw [nr_o hj]) ?_
  rw [nr_s, if_neg hv, if_pos h0]
theorem nr_sol {R : Nat → Nat} {i v : Nat} (hi : i < 12) (h0 : R i = 0) (y : Nat) : Sol (nr R i v) y ↔ Sol R y ∧ pr (v &&& y) = 0 := by
  constructor
  · intro h
    refine ⟨fun j hj => ?_, ?_⟩
    · by_cases e : j = i
      · subst e; rw [h0, Nat.zero_and, pr_0]
      · have := h j hj
        rwa [nr_o e] at this
    · have := h i hi
      rwa [nr_s] at this
  · rintro ⟨h1, h2⟩ j hj
    by_cases e : j = i
    · subst e; rw [nr_s]; exact h2
    · rw [nr_o e]; exact h1 j hj
/-- what adding a row does -/
def ADD (M r : am_M) (S A x : Nat) (R : Nat → Nat) : Prop := ∃ R', EC R' ∧ (∀ i, i < 12 → r A i = nI (R' i)) ∧ r S 1 = nI (rk R') ∧ (∀ z, z ≠ S → z ≠ A → r z = M z) ∧ (∀ K, sub x K → (∀ i, i < 12 → sub (R i) K) → ∀ i, i < 12 → sub (R' i) K) ∧ ((r S 2 = M S 2 ∧ ∀ y, Sol R' y ↔ Sol R y ∧ pr (x &&& y) = 0) ∨ (r S 2 = 1 ∧ (∀ y, y.testBit 12 = true → Sol R y → pr (x &&& y) = 1) ∧ ∀ K, sub x K → (∀ i, i < 12 → sub (R i) K) → K.testBit 12 = true))
theorem tb0 {x : Nat} {L : Nat} (h : x < 2 ^ (L + 1)) (h0 : ∀ j, j < L → x.testBit j = false) (hx : x ≠ 0) : x = 2 ^ L := by
  apply Nat.eq_of_testBit_eq
  intro j
  rw [Nat.testBit_two_pow]
  by_cases e : L = j
  · subst e
    rw [decide_eq_true rfl]
    apply Decidable.byContradiction
    intro hn
    apply hx
    apply Nat.eq_of_testBit_eq
    intro k
    rw [Nat.zero_testBit]
    by_cases e1 : k < L
    · exact h0 k e1
    · by_cases e2 : k = L
      · subst e2; simpa using hn
      · exact Nat.testBit_lt_two_pow (Nat.lt_of_lt_of_le h (Nat.pow_le_pow_right (by omega) (by omega)))
  · rw [decide_eq_false e]
    by_cases e1 : j < L
    · exact h0 j e1
    · exact Nat.testBit_lt_two_pow (Nat.lt_of_lt_of_le h (Nat.pow_le_pow_right (by omega) (by omega)))
theorem add_28 {M : am_M} {R : Nat → Nat} {x : Nat} (hx : x < 2 ^ 13) (hE : EC R) (hA : ∀ i, i < 12 → M 29 i = nI (R i)) (h1 : M 28 1 = nI (rk R)) : ∃ r, f_X1_add_28 (nI x) M = some r ∧ ADD M r 28 29 x R := by
  unfold f_X1_add_28
  refine lp_bnd (fun r => r) (fun i s => ∃ v, s = (nI v, nI i) ∧ v < 2 ^ 13 ∧ (∀ j, j < i → v.testBit j = false) ∧ (∀ y, Sol R y → pr (v &&& y) = pr (x &&& y)) ∧ ∀ K, sub x K → (∀ i, i < 12 → sub (R i) K) → sub v K)
    (fun q => (∃ r, q = .inl r ∧ ADD M r 28 29 x R) ∨ (∃ v y, q = .inr (nI v, y) ∧ v < 2 ^ 13 ∧ (∀ j, j < 12 → v.testBit j = false) ∧ (∀ y, Sol R y → pr (v &&& y) = pr (x &&& y)) ∧ ∀ K, sub x K → (∀ i, i < 12 → sub (R i) K) → sub v K)) (n := 12) (lpF (by omega)) ⟨x, rfl, hx, fun j hj => by omega, fun y _ => rfl, fun K h _ => h⟩ ?_ ?_ ?_
  · rintro i s hi ⟨v, rfl, g1, g2, g3, g4⟩
    have hRi := hE i hi
    dsimp only
    rw [if_neg (c := 12 ≤ nI i) (nle_n (n := 12) hi (by omega)), bt (by omega) (by omega), tbN, if_pos (db_ok hi (by omega)), if_pos (db_ok hi (by omega)), if_pos (db_ok hi (by omega)), nI_clamp (by omega), hA i hi, nI_s, n_xor, bl_s, bl_s, up_p (q := 28) (by decide), h1, nI_s]
    by_cases e : v.testBit i = true
    · rw [if_pos e, if_pos (c := nI 1 = 1) rfl]
      by_cases e2 : R i = 0
      · rw [e2, if_pos (c := nI 0 = 0) rfl]
        refine Or.inr ⟨_, rfl, Or.inl ⟨_, rfl, nr R i v, ?_, ?_, ?_, ?_, ?_, ?_⟩⟩
        · intro j hj
          by_cases ej : j = i
          · subst ej; rw [nr_s]; exact ⟨g1, Or.inr ⟨e, g2⟩⟩
          · rw [nr_o ej]; exact hE j hj
        · intro j hj
          rw [up_p (by decide)]
          by_cases ej : j = i
          · subst ej; rw [up_s, nr_s]
          · rw [up_k ej, nr_o ej, hA j hj]
        · rw [up_s, nr_rk hi e2]
          intro h
          rw [h, Nat.zero_testBit] at e
          exact absurd e (by decide)
        · intro z z1 z2
          rw [am_up_ne z1, am_up_ne z2]
        · intro K k1 k2 j hj
          by_cases ej : j = i
          · subst ej; rw [nr_s]; exact g4 K k1 k2
          · rw [nr_o ej]; exact k2 j hj
        · refine Or.inl ⟨by rw [up_k (by decide), up_p (by decide)], fun y => (nr_sol hi e2 y).trans ?_⟩
          constructor
          · rintro ⟨a, b⟩
            exact ⟨a, by rw [← g3 y a]; exact b⟩
          · rintro ⟨a, b⟩
            exact ⟨a, by rw [g3 y a]; exact b⟩
      · rw [if_neg (c := nI (R i) = 0) (nI_ne (b := 0) (by omega) (by omega) e2)]
        obtain ⟨r1, r2⟩ := hRi.2.resolve_left e2
        refine Or.inl ⟨_, rfl, v ^^^ R i, rfl, Nat.xor_lt_two_pow g1 hRi.1, fun j hj => ?_, fun y hy => ?_, fun K k1 k2 => sub_x (g4 K k1 k2) (k2 i hi)⟩
        · rw [Nat.testBit_xor]
          by_cases ej : j = i
          · subst ej; rw [e, r1]; rfl
          · rw [g2 j (by omega), r2 j (by omega)]; rfl
        · rw [pr_l, hy i hi, g3 y hy]
          have := pr_1 (x &&& y)
          omega
    · rw [if_neg e, if_neg (c := nI 0 = 1) (by decide)]
      refine Or.inl ⟨_, rfl, v, rfl, g1, fun j hj => ?_, g3, g4⟩
      by_cases ej : j = i
      · subst ej; simpa using e
      · exact g2 j (by omega)
  · rintro s ⟨v, rfl, g⟩
    dsimp only
    rw [if_pos (c := 12 ≤ nI 12) (by decide)]
    exact ⟨_, rfl, Or.inr ⟨v, _, rfl, g⟩⟩
  · rintro q (⟨r, rfl, g⟩ | ⟨v, y, rfl, g1, g2, g3, g4⟩)
    · exact ⟨r, rfl, g⟩
    · dsimp only [Sum.elim_inr]
      by_cases e : v = 0
      · subst e
        rw [if_pos (c := nI 0 = 0) rfl]
        refine ⟨M, rfl, R, hE, hA, h1, fun z _ _ => rfl, fun K _ k => k, Or.inl ⟨rfl, fun y => ⟨fun h => ⟨h, ?_⟩, fun h => h.1⟩⟩⟩
        rw [← g3 y h, Nat.zero_and, pr_0]
      · rw [if_neg (c := nI v = 0) (nI_ne (b := 0) (by omega) (by omega) e), bl_s]
        have ev := tb0 g1 g2 e
        refine ⟨_, rfl, R, hE, fun i hi => by rw [up_p (by decide), hA i hi], by rw [up_k (by decide), h1], fun z z1 _ => by rw [am_up_ne z1], fun K _ k => k, Or.inr ⟨up_s, fun y hy hs => ?_, fun K k1 k2 => ?_⟩⟩
        · rw [← g3 y hs, ev, pr_2 (by omega), tbN, hy]; rfl
        · have := g4 K k1 k2 12
          rw [ev, Nat.testBit_two_pow] at this
          exact this (by decide)
theorem add_32 {M : am_M} {R : Nat → Nat} {x : Nat} (hx : x < 2 ^ 13) (hE : EC R) (hA : ∀ i, i < 12 → M 33 i = nI (R i)) (h1 : M 32 1 = nI (rk R)) : ∃ r, f_X1_add_32 (nI x) M = some r ∧ ADD M r 32 33 x R := by
  unfold f_X1_add_32
  refine lp_bnd (fun r => r) (fun i s => ∃ v, s = (nI v, nI i) ∧ v < 2 ^ 13 ∧ (∀ j, j < i → v.testBit j = false) ∧ (∀ y, Sol R y → pr (v &&& y) = pr (x &&& y)) ∧ ∀ K, sub x K → (∀ i, i < 12 → sub (R i) K) → sub v K)
    (fun q => (∃ r, q = .inl r ∧ ADD M r 32 33 x R) ∨ (∃ v y, q = .inr (nI v, y) ∧ v < 2 ^ 13 ∧ (∀ j, j < 12 → v.testBit j = false) ∧ (∀ y, Sol R y → pr (v &&& y) = pr (x &&& y)) ∧ ∀ K, sub x K → (∀ i, i < 12 → sub (R i) K) → sub v K)) (n := 12) (lpF (by omega)) ⟨x, rfl, hx, fun j hj => by omega, fun y _ => rfl, fun K h _ => h⟩ ?_ ?_ ?_
  · rintro i s hi ⟨v, rfl, g1, g2, g3, g4⟩
    have hRi := hE i hi
    dsimp only
    rw [if_neg (c := 12 ≤ nI i) (nle_n (n := 12) hi (by omega)), bt (by omega) (by omega), tbN, if_pos (db_ok hi (by omega)), if_pos (db_ok hi (by omega)), if_pos (db_ok hi (by omega)), nI_clamp (by omega), hA i hi, nI_s, n_xor, bl_s, bl_s, up_p (q := 32) (by decide), h1, nI_s]
    by_cases e : v.testBit i = true
    · rw [if_pos e, if_pos (c := nI 1 = 1) rfl]
      by_cases e2 : R i = 0
      · rw [e2, if_pos (c := nI 0 = 0) rfl]
        refine Or.inr ⟨_, rfl, Or.inl ⟨_, rfl, nr R i v, ?_, ?_, ?_, ?_, ?_, ?_⟩⟩
        · intro j hj
          by_cases ej : j = i
          · subst ej; rw [nr_s]; exact ⟨g1, Or.inr ⟨e, g2⟩⟩
          · rw [nr_o ej]; exact hE j hj
        · intro j hj
          rw [up_p (by decide)]
          by_cases ej : j = i
          · subst ej; rw [up_s, nr_s]
          · rw [up_k ej, nr_o ej, hA j hj]
        · rw [up_s, nr_rk hi e2]
          intro h
          rw [h, Nat.zero_testBit] at e
          exact absurd e (by decide)
        · intro z z1 z2
          rw [am_up_ne z1, am_up_ne z2]
        · intro K k1 k2 j hj
          by_cases ej : j = i
          · subst ej; rw [nr_s]; exact g4 K k1 k2
          · rw [nr_o ej]; exact k2 j hj
        · refine Or.inl ⟨by rw [up_k (by decide), up_p (by decide)], fun y => (nr_sol hi e2 y).trans ?_⟩
          constructor
          · rintro ⟨a, b⟩
            exact ⟨a, by rw [← g3 y a]; exact b⟩
          · rintro ⟨a, b⟩
            exact ⟨a, by rw [g3 y a]; exact b⟩
      · rw [if_neg (c := nI (R i) = 0) (nI_ne (b := 0) (by omega) (by omega) e2)]
        obtain ⟨r1, r2⟩ := hRi.2.resolve_left e2
        refine Or.inl ⟨_, rfl, v ^^^ R i, rfl, Nat.xor_lt_two_pow g1 hRi.1, fun j hj => ?_, fun y hy => ?_, fun K k1 k2 => sub_x (g4 K k1 k2) (k2 i hi)⟩
        · rw [Nat.testBit_xor]
          by_cases ej : j = i
          · subst ej; rw [e, r1]; rfl
          · rw [g2 j (by omega), r2 j (by omega)]; rfl
        · rw [pr_l, hy i hi, g3 y hy]
          have := pr_1 (x &&& y)
          omega
    · rw [if_neg e, if_neg (c := nI 0 = 1) (by decide)]
      refine Or.inl ⟨_, rfl, v, rfl, g1, fun j hj => ?_, g3, g4⟩
      by_cases ej : j = i
      · subst ej; simpa using e
      · exact g2 j (by omega)
  · rintro s ⟨v, rfl, g⟩
    dsimp only
    rw [if_pos (c := 12 ≤ nI 12) (by decide)]
    exact ⟨_, rfl, Or.inr ⟨v, _, rfl, g⟩⟩
  · rintro q (⟨r, rfl, g⟩ | ⟨v, y, rfl, g1, g2, g3, g4⟩)
    · exact ⟨r, rfl, g⟩
    · dsimp only [Sum.elim_inr]
      by_cases e : v = 0
      · subst e
        rw [if_pos (c := nI 0 = 0) rfl]
        refine ⟨M, rfl, R, hE, hA, h1, fun z _ _ => rfl, fun K _ k => k, Or.inl ⟨rfl, fun y => ⟨fun h => ⟨h, ?_⟩, fun h => h.1⟩⟩⟩
        rw [← g3 y h, Nat.zero_and, pr_0]
      · rw [if_neg (c := nI v = 0) (nI_ne (b := 0) (by omega) (by omega) e), bl_s]
        have ev := tb0 g1 g2 e
        refine ⟨_, rfl, R, hE, fun i hi => by rw [up_p (by decide), hA i hi], by rw [up_k (by decide), h1], fun z z1 _ => by rw [am_up_ne z1], fun K _ k => k, Or.inr ⟨up_s, fun y hy hs => ?_, fun K k1 k2 => ?_⟩⟩
        · rw [← g3 y hs, ev, pr_2 (by omega), tbN, hy]; rfl
        · have := g4 K k1 k2 12
          rw [ev, Nat.testBit_two_pow] at this
          exact this (by decide)
/-! COUNTING -/
theorem sm_2 {f : Nat → Nat} : ∀ {n : Nat}, sm f (2 * n) = sm (fun q => f (2 * q) + f (2 * q + 1)) n
  | 0 => rfl
  | n + 1 => by
    show sm f (2 * n + 1 + 1) = sm (fun q => f (2 * q) + f (2 * q + 1)) n + (f (2 * n) + f (2 * n + 1))
    rw [← sm_2 (n := n)]
    show sm f (2 * n) + f (2 * n) + f (2 * n + 1) = _
    omega
theorem sm_front {f : Nat → Nat} : ∀ {n : Nat}, sm f (n + 1) = f 0 + sm (fun i => f (i + 1)) n
  | 0 => by show 0 + f 0 = f 0 + 0; omega
  | n + 1 => by
    show sm f (n + 1) + f (n + 1) = f 0 + (sm (fun i => f (i + 1)) n + f (n + 1))
    rw [sm_front (n := n)]
    omega
theorem sm_rev {f : Nat → Nat} : ∀ {n : Nat}, sm f n = sm (fun i => f (n - 1 - i)) n
  | 0 => rfl
  | n + 1 => by
    rw [sm_front (f := fun i => f (n + 1 - 1 - i))]
    show sm f n + f n = f (n - 0) + sm (fun i => f (n + 1 - 1 - (i + 1))) n
    rw [sm_rev (n := n), Nat.sub_zero, sm_cong (f := fun i => f (n + 1 - 1 - (i + 1))) (g := fun i => f (n - 1 - i)) (fun i hi => by
      show f (n + 1 - 1 - (i + 1)) = f (n - 1 - i)
      rw [show n + 1 - 1 - (i + 1) = n - 1 - i by omega])]
    omega
theorem sm_mul {f : Nat → Nat} {k : Nat} : ∀ {n : Nat}, sm (fun i => f i * k) n = sm f n * k
  | 0 => by show 0 = 0 * k; omega
  | n + 1 => by
    show sm (fun i => f i * k) n + f n * k = (sm f n + f n) * k
    rw [sm_mul (n := n), Nat.add_mul]
/-- u and z satisfy the k rows at the top -/
def qT (R : Nat → Nat) (z b : Nat) : Nat → Nat → Bool
  | 0, _ => true
  | k + 1, u => qT R z b k u && (pr (R (b - 1 - k) &&& (u ||| z)) == 0)
theorem qT_iff {R : Nat → Nat} {z b u : Nat} : ∀ k, k ≤ b → (qT R z b k u = true ↔ ∀ i, b - k ≤ i → i < b → pr (R i &&& (u ||| z)) = 0)
  | 0, _ => ⟨fun _ i h1 h2 => by omega, fun _ => rfl⟩
  | k + 1, hk => by
    show (qT R z b k u && (pr (R (b - 1 - k) &&& (u ||| z)) == 0)) = true ↔ _
    rw [Bool.and_eq_true, beq_iff_eq, qT_iff k (by omega)]
    constructor
    · rintro ⟨h1, h2⟩ i hi hb
      by_cases e : i = b - 1 - k
      · rw [e]; exact h2
      · exact h1 i (by omega) hb
    · intro h
      exact ⟨fun i hi hb => h i (by omega) hb, h _ (by omega) (by omega)⟩
theorem or_xr {a j : Nat} (h : a.testBit j = false) : a ||| 2 ^ j = a ^^^ 2 ^ j := by
  apply Nat.eq_of_testBit_eq
  intro i
  rw [Nat.testBit_or, Nat.testBit_xor, Nat.testBit_two_pow]
  by_cases e : j = i
  · subst e; rw [h]; simp
  · rw [decide_eq_false e]; simp
theorem or_sw (a b c : Nat) : (a ||| b) ||| c = (a ||| c) ||| b := by
  rw [Nat.or_assoc, Nat.or_comm b c, ← Nat.or_assoc]
theorem bj0 (q j : Nat) : (q * 2 ^ (j + 1)).testBit j = false := by
  rw [Nat.testBit_eq_decide_div_mod_eq, show q * 2 ^ (j + 1) = (q * 2) * 2 ^ j by rw [Nat.pow_succ, Nat.mul_assoc, Nat.mul_comm 2], Nat.mul_div_cancel _ (Nat.pow_pos (by omega))]
  simp
theorem odd_j (q j : Nat) : (2 * q + 1) * 2 ^ j = q * 2 ^ (j + 1) ||| 2 ^ j := by
  have h := Nat.two_pow_add_eq_or_of_lt (i := j + 1) (b := 2 ^ j) (Nat.pow_lt_pow_right (by omega) (by omega)) q
  rw [Nat.mul_comm q, ← h, Nat.add_mul, Nat.one_mul, Nat.pow_succ, Nat.mul_comm 2 q, Nat.mul_assoc, Nat.mul_comm q, Nat.mul_comm 2]
theorem even_j (q j : Nat) : (2 * q) * 2 ^ j = q * 2 ^ (j + 1) := by
  rw [Nat.pow_succ, Nat.mul_comm 2 q, Nat.mul_assoc, Nat.mul_comm 2]
/-- bit j more, seen by row i -/
theorem pr_j {r A j : Nat} (hj : j < 20) (hA : A.testBit j = false) : pr (r &&& (A ||| 2 ^ j)) = (pr (r &&& A) + if r.testBit j = true then 1 else 0) % 2 := by
  rw [or_xr hA, pr_r, Nat.and_comm r (2 ^ j), pr_2 hj, tbN]
theorem qT_up {R : Nat → Nat} {z b : Nat} (hb : b ≤ 12) (hE : ∀ i, i < b → R i = 0 ∨ ((R i).testBit i = true ∧ ∀ j, j < i → (R i).testBit j = false)) (hz : ∀ j, j < b → z.testBit j = false) {k : Nat} (hk : k < b) (q : Nat) : qT R z b k (q * 2 ^ (b - k) ||| 2 ^ (b - 1 - k)) = qT R z b k (q * 2 ^ (b - k)) := by
  have hA : (q * 2 ^ (b - k) ||| z).testBit (b - 1 - k) = false := by
    have := bj0 q (b - 1 - k)
    rw [show b - 1 - k + 1 = b - k by omega] at this
    rw [Nat.testBit_or, this, hz _ (by omega)]
    rfl
  have key : ∀ i, b - k ≤ i → i < b → pr (R i &&& ((q * 2 ^ (b - k) ||| 2 ^ (b - 1 - k)) ||| z)) = pr (R i &&& (q * 2 ^ (b - k) ||| z)) := by
    intro i h1 h2
    rw [or_sw, pr_j (by omega) hA]
    have hp := pr_1 (R i &&& (q * 2 ^ (b - k) ||| z))
    rcases hE i h2 with e | ⟨e1, e2⟩
    · rw [e, Nat.zero_testBit, Nat.zero_and, pr_0]; rfl
    · rw [e2 _ (by omega)]
      simp
      omega
  rw [Bool.eq_iff_iff, qT_iff k (by omega), qT_iff k (by omega)]
  constructor
  · intro h i h1 h2
    rw [← key i h1 h2]; exact h i h1 h2
  · intro h i h1 h2
    rw [key i h1 h2]; exact h i h1 h2
/-- how many -/
def cT (R : Nat → Nat) (z b k : Nat) : Nat := sm (fun q => b01 (qT R z b k (q * 2 ^ (b - k)))) (2 ^ k)
theorem cT_s {R : Nat → Nat} {z b : Nat} (hb : b ≤ 12) (hE : ∀ i, i < b → R i = 0 ∨ ((R i).testBit i = true ∧ ∀ j, j < i → (R i).testBit j = false)) (hz : ∀ j, j < b → z.testBit j = false) {k : Nat} (hk : k < b) : cT R z b (k + 1) = cT R z b k * (if R (b - 1 - k) = 0 then 2 else 1) := by
  unfold cT
  rw [Nat.pow_succ, Nat.mul_comm (2 ^ k) 2, sm_2, ← sm_mul]
  refine sm_cong (fun q _ => ?_)
  have e1 : b - (k + 1) = b - 1 - k := by omega
  have e2 : b - 1 - k + 1 = b - k := by omega
  rw [e1, even_j, odd_j, e2]
  show b01 (qT R z b k (q * 2 ^ (b - k)) && (pr (R (b - 1 - k) &&& (q * 2 ^ (b - k) ||| z)) == 0)) + b01 (qT R z b k (q * 2 ^ (b - k) ||| 2 ^ (b - 1 - k)) && (pr (R (b - 1 - k) &&& ((q * 2 ^ (b - k) ||| 2 ^ (b - 1 - k)) ||| z)) == 0)) = _
  rw [qT_up hb hE hz hk]
  have hA : (q * 2 ^ (b - k) ||| z).testBit (b - 1 - k) = false := by
    have := bj0 q (b - 1 - k)
    rw [e2] at this
    rw [Nat.testBit_or, this, hz _ (by omega)]
    rfl
  rw [or_sw, pr_j (by omega) hA]
  have hp := pr_1 (R (b - 1 - k) &&& (q * 2 ^ (b - k) ||| z))
  cases qT R z b k (q * 2 ^ (b - k)) with
  | false => simp [b01]
  | true =>
    by_cases e : R (b - 1 - k) = 0
    · rw [e, Nat.zero_testBit, Nat.zero_and, pr_0]; rfl
    · obtain ⟨f1, -⟩ := (hE (b - 1 - k) (by omega)).resolve_left e
      rw [f1, if_neg e]
      have h2 : pr (R (b - 1 - k) &&& (q * 2 ^ (b - k) ||| z)) = 0 ∨ pr (R (b - 1 - k) &&& (q * 2 ^ (b - k) ||| z)) = 1 := by omega
      rcases h2 with h2 | h2 <;> rw [h2] <;> rfl
theorem cT_all {R : Nat → Nat} {z b : Nat} (hb : b ≤ 12) (hE : ∀ i, i < b → R i = 0 ∨ ((R i).testBit i = true ∧ ∀ j, j < i → (R i).testBit j = false)) (hz : ∀ j, j < b → z.testBit j = false) : ∀ k, k ≤ b → cT R z b k = 2 ^ sm (fun i => if R (b - 1 - i) = 0 then 1 else 0) k
  | 0, _ => rfl
  | k + 1, hk => by
    rw [cT_s hb hE hz (by omega), cT_all hb hE hz k (by omega)]
    show _ = 2 ^ (sm (fun i => if R (b - 1 - i) = 0 then 1 else 0) k + if R (b - 1 - k) = 0 then 1 else 0)
    by_cases e : R (b - 1 - k) = 0
    · rw [if_pos e, if_pos e, Nat.pow_succ]
    · rw [if_neg e, if_neg e, Nat.mul_one, Nat.add_zero]
theorem sm_tail0 {f : Nat → Nat} {b : Nat} : ∀ k, (∀ i, b ≤ i → f i = 0) → sm f (b + k) = sm f b
  | 0, _ => rfl
  | k + 1, h => by
    show sm f (b + k) + f (b + k) = sm f b
    rw [sm_tail0 k h, h _ (by omega)]
    omega
theorem cT_rk {R : Nat → Nat} {z b : Nat} (hb : b ≤ 12) (hE : EC R) (h0 : ∀ i, b ≤ i → i < 12 → R i = 0) (hz : ∀ j, j < b → z.testBit j = false) : rk R ≤ b ∧ cT R z b b = 2 ^ (b - rk R) := by
  have h1 := cT_all hb (fun i hi => (hE i (by omega)).2) hz b (Nat.le_refl b)
  rw [← sm_rev (f := fun i => if R i = 0 then 1 else 0)] at h1
  have h2 : sm (fun i => if R i = 0 then 1 else 0) b + rk R = b := by
    have h3 : rk R = sm (fun i => if R i = 0 then 0 else 1) b := by
      unfold rk
      have h4 : sm (fun i => if R i = 0 then 0 else 1) 12 = sm (fun i => if i < 12 then (if R i = 0 then 0 else 1) else 0) 12 := sm_cong (fun i hi => by rw [if_pos hi])
      have h5 : sm (fun i => if R i = 0 then 0 else 1) b = sm (fun i => if i < 12 then (if R i = 0 then 0 else 1) else 0) b := sm_cong (fun i hi => by rw [if_pos (c := i < 12) (by omega)])
      rw [h4, h5]
      have := sm_tail0 (f := fun i => if i < 12 then (if R i = 0 then 0 else 1) else 0) (b := b) (12 - b) (fun i hi => by
        by_cases e : i < 12
        · rw [if_pos e, if_pos (h0 i hi e)]
        · rw [if_neg e])
      rw [show b + (12 - b) = 12 by omega] at this
      exact this
    rw [h3, ← sm_add]
    have : sm (fun i => (if R i = 0 then 1 else 0) + (if R i = 0 then 0 else 1)) b = sm (fun _ => 1) b := sm_cong (fun i _ => by by_cases e : R i = 0 <;> simp [e])
    rw [this]
    have : ∀ n, sm (fun _ => 1) n = n := by
      intro n
      induction n with
      | zero => rfl
      | succ n ih => show sm (fun _ => 1) n + 1 = n + 1; rw [ih]
    exact this b
  refine ⟨by omega, ?_⟩
  rw [h1, show sm (fun i => if R i = 0 then 1 else 0) b = b - rk R by omega]
/-- the least -/
def lq (R : Nat → Nat) (z b : Nat) : Nat → Nat
  | 0 => 0
  | k + 1 => 2 * lq R z b k + pr (R (b - 1 - k) &&& (lq R z b k * 2 ^ (b - k) ||| z))
theorem lq_ok {R : Nat → Nat} {z b : Nat} (hb : b ≤ 12) (hE : ∀ i, i < b → R i = 0 ∨ ((R i).testBit i = true ∧ ∀ j, j < i → (R i).testBit j = false)) (hz : ∀ j, j < b → z.testBit j = false) : ∀ k, k ≤ b → qT R z b k (lq R z b k * 2 ^ (b - k)) = true ∧ lq R z b k < 2 ^ k ∧ ∀ q, qT R z b k (q * 2 ^ (b - k)) = true → lq R z b k ≤ q
  | 0, _ => ⟨rfl, by show 0 < 1; omega, fun q _ => Nat.zero_le q⟩
  | k + 1, hk => by
    obtain ⟨h1, h2, h3⟩ := lq_ok hb hE hz k (by omega)
    have e1 : b - (k + 1) = b - 1 - k := by omega
    have e2 : b - 1 - k + 1 = b - k := by omega
    have hAq : ∀ q, (q * 2 ^ (b - k) ||| z).testBit (b - 1 - k) = false := by
      intro q
      have := bj0 q (b - 1 - k)
      rw [e2] at this
      rw [Nat.testBit_or, this, hz _ (by omega)]
      rfl
    have hl : lq R z b (k + 1) = 2 * lq R z b k + pr (R (b - 1 - k) &&& (lq R z b k * 2 ^ (b - k) ||| z)) := rfl
    have hp := pr_1 (R (b - 1 - k) &&& (lq R z b k * 2 ^ (b - k) ||| z))
    have hq : ∀ u, qT R z b (k + 1) u = (qT R z b k u && (pr (R (b - 1 - k) &&& (u ||| z)) == 0)) := fun u => rfl
    refine ⟨?_, ?_, ?_⟩
    · rw [hl, e1, hq]
      have h2' : pr (R (b - 1 - k) &&& (lq R z b k * 2 ^ (b - k) ||| z)) = 0 ∨ pr (R (b - 1 - k) &&& (lq R z b k * 2 ^ (b - k) ||| z)) = 1 := by omega
      rcases h2' with h | h
      · rw [h, Nat.add_zero, even_j, e2, h1, h]; rfl
      · rw [h, odd_j, e2, qT_up hb hE hz (by omega), h1, or_sw, pr_j (by omega) (hAq _), h]
        have hne : ¬ R (b - 1 - k) = 0 := by
          intro h0
          rw [h0, Nat.zero_and, pr_0] at h
          exact absurd h (by decide)
        obtain ⟨f1, -⟩ := (hE (b - 1 - k) (by omega)).resolve_left hne
        rw [f1]; rfl
    · rw [hl, Nat.pow_succ]
      omega
    · intro q hqq
      rw [hl]
      rw [e1, hq, Bool.and_eq_true, beq_iff_eq] at hqq
      have hd : q = 2 * (q / 2) ∨ q = 2 * (q / 2) + 1 := by omega
      rcases hd with hd | hd
      · rw [hd, even_j, e2] at hqq
        have h4 := h3 (q / 2) hqq.1
        by_cases e : lq R z b k = q / 2
        · rw [e, hqq.2]
          omega
        · omega
      · rw [hd, odd_j, e2, qT_up hb hE hz (by omega)] at hqq
        have h4 := h3 (q / 2) hqq.1
        omega
