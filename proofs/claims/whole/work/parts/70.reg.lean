/-! PARITIES, THE REGISTER -/
def pr (x : Nat) : Nat := cntN x 20 % 2
theorem tbN (x k : Nat) : x / 2 ^ k % 2 = if x.testBit k = true then 1 else 0 := by
  rw [Nat.testBit_eq_decide_div_mod_eq]
  by_cases h : x / 2 ^ k % 2 = 1
  · simp [h]
  · have : x / 2 ^ k % 2 = 0 := by omega
    simp [this]
theorem d2_xor (a b k : Nat) : (a ^^^ b) / 2 ^ k % 2 = (a / 2 ^ k % 2 + b / 2 ^ k % 2) % 2 := by
  rw [tbN, tbN, tbN, Nat.testBit_xor]
  cases a.testBit k <;> cases b.testBit k <;> rfl
theorem cnt_xor (a b : Nat) : ∀ k, cntN (a ^^^ b) k % 2 = (cntN a k + cntN b k) % 2
  | 0 => rfl
  | k + 1 => by
    show (cntN (a ^^^ b) k + (a ^^^ b) / 2 ^ k % 2) % 2 = ((cntN a k + a / 2 ^ k % 2) + (cntN b k + b / 2 ^ k % 2)) % 2
    have h1 := cnt_xor a b k
    have h2 := d2_xor a b k
    omega
theorem pr_xor (a b : Nat) : pr (a ^^^ b) = (pr a + pr b) % 2 := by
  have := cnt_xor a b 20
  unfold pr
  omega
theorem and_xr (a b c : Nat) : (a ^^^ b) &&& c = (a &&& c) ^^^ (b &&& c) := by
  apply Nat.eq_of_testBit_eq
  intro i
  rw [Nat.testBit_and, Nat.testBit_xor, Nat.testBit_xor, Nat.testBit_and, Nat.testBit_and]
  cases a.testBit i <;> cases b.testBit i <;> cases c.testBit i <;> rfl
theorem pr_l (a b s : Nat) : pr ((a ^^^ b) &&& s) = (pr (a &&& s) + pr (b &&& s)) % 2 := by
  rw [and_xr, pr_xor]
theorem pr_r (s a b : Nat) : pr (s &&& (a ^^^ b)) = (pr (s &&& a) + pr (s &&& b)) % 2 := by
  rw [Nat.and_comm, pr_l, Nat.and_comm a, Nat.and_comm b]
theorem cnt_2 (i s : Nat) : ∀ k, cntN (2 ^ i &&& s) k = if i < k then s / 2 ^ i % 2 else 0
  | 0 => rfl
  | k + 1 => by
    show cntN (2 ^ i &&& s) k + (2 ^ i &&& s) / 2 ^ k % 2 = _
    rw [cnt_2 i s k, tbN, tbN, Nat.testBit_and, Nat.testBit_two_pow]
    by_cases e : i = k
    · subst e
      rw [if_neg (Nat.lt_irrefl i), if_pos (Nat.lt_succ_self i)]
      simp
    · by_cases h : i < k
      · rw [if_pos h, if_pos (c := i < k + 1) (by omega)]
        simp [e]
      · rw [if_neg h, if_neg (c := i < k + 1) (by omega)]
        simp [e]
theorem pr_2 {i : Nat} (hi : i < 20) (s : Nat) : pr (2 ^ i &&& s) = s / 2 ^ i % 2 := by
  unfold pr
  rw [cnt_2, if_pos hi]
  omega
theorem pr_1 (x : Nat) : pr x ≤ 1 := by
  unfold pr
  omega
theorem cnt_0 : ∀ k, cntN 0 k = 0
  | 0 => rfl
  | k + 1 => by
    show cntN 0 k + 0 / 2 ^ k % 2 = 0
    rw [cnt_0 k, Nat.zero_div]
theorem pr_0 : pr 0 = 0 := by
  unfold pr
  rw [cnt_0]
theorem cnt_top {x b : Nat} (h : x < 2 ^ b) : ∀ k, cntN x (b + k) = cntN x b
  | 0 => rfl
  | k + 1 => by
    show cntN x (b + k) + x / 2 ^ (b + k) % 2 = cntN x b
    rw [cnt_top h k, tbN, Nat.testBit_lt_two_pow (Nat.lt_of_lt_of_le h (Nat.pow_le_pow_right (by omega) (by omega)))]
    simp
def xa (T : Nat) (f : Nat → Nat) : Nat → Nat
  | 0 => 0
  | i + 1 => if T.testBit i = true then xa T f i ^^^ f i else xa T f i
def rF (T b : Nat) : Nat → Nat → Nat
  | 0, j => 2 ^ j
  | t + 1, j => if j + 1 < b then rF T b t (j + 1) else xa T (rF T b t) b
theorem xa_lt {T b : Nat} {f : Nat → Nat} : ∀ {k : Nat}, (∀ j, j < k → f j < 2 ^ b) → xa T f k < 2 ^ b
  | 0, _ => Nat.pow_pos (by omega)
  | k + 1, h => by
    have h1 := xa_lt (T := T) (k := k) (fun j hj => h j (by omega))
    show (if T.testBit k = true then xa T f k ^^^ f k else xa T f k) < 2 ^ b
    split
    · exact Nat.xor_lt_two_pow h1 (h k (by omega))
    · exact h1
theorem rF_lt {T b : Nat} : ∀ t j, j < b → rF T b t j < 2 ^ b
  | 0, j, hj => Nat.pow_lt_pow_right (by omega) hj
  | t + 1, j, hj => by
    show (if j + 1 < b then rF T b t (j + 1) else xa T (rF T b t) b) < 2 ^ b
    split
    · exact rF_lt t (j + 1) (by omega)
    · exact xa_lt (fun j hj => rF_lt t j hj)
theorem pr_xa {T s S b : Nat} {f : Nat → Nat} : ∀ {k : Nat}, k ≤ b → (∀ j, j < b → S / 2 ^ j % 2 = pr (f j &&& s)) → pr (xa T f k &&& s) = cntN (S &&& T) k % 2
  | 0, _, _ => by
    show pr (0 &&& s) = 0
    rw [Nat.zero_and, pr_0]
  | k + 1, hk, h => by
    have ih := pr_xa (T := T) (k := k) (by omega) h
    have hb := h k (by omega)
    show pr ((if T.testBit k = true then xa T f k ^^^ f k else xa T f k) &&& s) = (cntN (S &&& T) k + (S &&& T) / 2 ^ k % 2) % 2
    rw [tbN, Nat.testBit_and]
    rw [tbN] at hb
    by_cases e : T.testBit k = true
    · rw [if_pos e, pr_l, ih, e, Bool.and_true, ← hb]
      omega
    · rw [if_neg e, ih]
      simp [e]
/-- the register's next state -/
def nx (T b a : Nat) : Nat := a / 2 ||| (pr (a &&& T) * 2 ^ (b - 1))
theorem nx_lt {T b a : Nat} (hb : 1 ≤ b) (ha : a < 2 ^ b) : nx T b a < 2 ^ b := by
  unfold nx
  have h1 := pr_1 (a &&& T)
  have h2 : pr (a &&& T) * 2 ^ (b - 1) ≤ 1 * 2 ^ (b - 1) := Nat.mul_le_mul_right _ h1
  have h3 : 2 ^ b = 2 ^ (b - 1) + 2 ^ (b - 1) := by
    obtain ⟨c, rfl⟩ : ∃ c, b = c + 1 := ⟨b - 1, by omega⟩
    rw [Nat.add_sub_cancel, Nat.pow_succ]
    omega
  have h4 : 0 < 2 ^ (b - 1) := Nat.pow_pos (by omega)
  exact Nat.or_lt_two_pow (by omega) (by omega)
theorem nx_b {T b a j : Nat} (hj : j < b) (ha : a < 2 ^ b) : nx T b a / 2 ^ j % 2 = if j + 1 < b then a / 2 ^ (j + 1) % 2 else pr (a &&& T) := by
  unfold nx
  have hp : ∀ p, p ≤ 1 → (p * 2 ^ (b - 1)).testBit j = (decide (p = 1) && decide (b - 1 = j)) := by
    intro p hp
    have : p = 0 ∨ p = 1 := by omega
    rcases this with rfl | rfl
    · simp
    · rw [Nat.one_mul, Nat.testBit_two_pow]
      simp
  rw [tbN, Nat.testBit_or, hp _ (pr_1 _), ← Nat.testBit_succ]
  by_cases e : j + 1 < b
  · rw [if_pos e, tbN, decide_eq_false (show ¬ b - 1 = j by omega)]
    simp
  · rw [if_neg e, decide_eq_true (show b - 1 = j by omega), Nat.testBit_lt_two_pow (Nat.lt_of_lt_of_le ha (Nat.pow_le_pow_right (by omega) (by omega)))]
    have := pr_1 (a &&& T)
    have h2 : pr (a &&& T) = 0 ∨ pr (a &&& T) = 1 := by omega
    rcases h2 with h2 | h2 <;> rw [h2] <;> rfl
def sT (T b s : Nat) : Nat → Nat
  | 0 => s
  | t + 1 => nx T b (sT T b s t)
theorem sT_lt {T b s : Nat} (hb : 1 ≤ b) (hs : s < 2 ^ b) : ∀ t, sT T b s t < 2 ^ b
  | 0 => hs
  | t + 1 => nx_lt hb (sT_lt hb hs t)
theorem reg_main {T b s : Nat} (hb : 1 ≤ b) (hb2 : b ≤ 12) (hT : T < 2 ^ b) (hs : s < 2 ^ b) : ∀ t j, j < b → sT T b s t / 2 ^ j % 2 = pr (rF T b t j &&& s)
  | 0, j, hj => by
    show s / 2 ^ j % 2 = pr (2 ^ j &&& s)
    rw [pr_2 (by omega)]
  | t + 1, j, hj => by
    have ih := reg_main hb hb2 hT hs t
    show nx T b (sT T b s t) / 2 ^ j % 2 = pr ((if j + 1 < b then rF T b t (j + 1) else xa T (rF T b t) b) &&& s)
    rw [nx_b hj (sT_lt hb hs t)]
    by_cases e : j + 1 < b
    · rw [if_pos e, if_pos e, ih (j + 1) e]
    · rw [if_neg e, if_neg e, pr_xa (Nat.le_refl b) ih]
      unfold pr
      have h1 : (sT T b s t &&& T) < 2 ^ b := Nat.lt_of_le_of_lt Nat.and_le_right hT
      have := cnt_top h1 (20 - b)
      rw [show b + (20 - b) = 20 by omega] at this
      rw [this]
theorem par_c {a : Nat} (ha : a < 2 ^ 17) : f_X2_parity (nI a) = nI (pr a) := by
  unfold f_X2_parity
  rw [bc_17 ha]
  have : ∀ k, k < 21 → nI k &&& 1 = nI (k % 2) := by decide
  have h2 : ∀ x k, cntN x k ≤ k := by
    intro x k
    induction k with
    | zero => exact Nat.le_refl 0
    | succ k ih =>
      show cntN x k + x / 2 ^ k % 2 ≤ k + 1
      omega
  exact this _ (by have := h2 a 20; omega)
def RG (M : am_M) (T b t : Nat) : Prop := M 26 2 = nI b ∧ M 26 3 = nI T ∧ ∀ j, j < b → M 27 j = nI (rF T b t j)
theorem imm : ∀ b, b < 13 → 1 ≤ b → imax 1 (imin (nI b) 12) = nI b := by decide
theorem reg_begin {M : am_M} {T b : Nat} (hb : 1 ≤ b) (hb2 : b ≤ 12) (h4 : M 9 4 = nI b) (h5 : M 9 5 = nI T) : ∃ r, f_X2_begin_26_9 M = some r ∧ (RG r T b 0 ∧ ∀ x, x ≠ 26 → x ≠ 27 → r x = M x) := by
  unfold f_X2_begin_26_9
  rw [bl_s, bl_s, up_p (q := 9) (by decide), h4, h5, imm b (by omega) hb]
  refine lp_bnd (fun r => r) (fun i s => ∃ M', s = (nI i, M') ∧ (∀ x, x ≠ 27 → M' x = am_up (am_up M 26 2 (nI b)) 26 3 (nI T) x) ∧ ∀ j, j < i → j < b → M' 27 j = nI (2 ^ j)) (fun q => ∃ y M', q = (y, M') ∧ (∀ x, x ≠ 27 → M' x = am_up (am_up M 26 2 (nI b)) 26 3 (nI T) x) ∧ ∀ j, j < b → M' 27 j = nI (2 ^ j)) (n := 12) (lpF (by omega)) ⟨_, rfl, fun x _ => rfl, fun j hj => by omega⟩ ?_ ?_ ?_
  · rintro i s hi ⟨M', rfl, h1, h2⟩
    dsimp only
    have hsh : (1 : Int32) <<< (nI i &&& 31) = nI (1 * 2 ^ i) := shl_1 (v := 1) (by omega) (by omega)
    rw [Nat.one_mul] at hsh
    have e26 : M' 26 2 = nI b := by rw [h1 26 (by decide), up_k (by decide), up_s]
    rw [if_neg (c := 12 ≤ nI i) (nle_n (n := 12) hi (by omega)), if_pos (db_ok hi (by omega)), if_pos (db_ok hi (by omega)), nI_clamp (by omega), bl_s, bl_s, nI_s, hsh]
    by_cases e : b ≤ i
    · rw [if_pos (show M' 26 2 ≤ nI i by rw [e26]; exact nle_y e (by omega))]
      refine Or.inl ⟨_, rfl, _, rfl, fun x hx => by rw [am_up_ne hx, h1 x hx], fun j hj hjb => ?_⟩
      rw [up_k (by omega), h2 j (by omega) hjb]
    · rw [if_neg (show ¬ M' 26 2 ≤ nI i by rw [e26]; exact nle_n (by omega) (by omega))]
      refine Or.inl ⟨_, rfl, _, rfl, fun x hx => by rw [am_up_ne hx, h1 x hx], fun j hj hjb => ?_⟩
      by_cases ej : j = i
      · subst ej; rw [up_s]
      · rw [up_k ej, h2 j (by omega) hjb]
  · rintro s ⟨M', rfl, h1, h2⟩
    dsimp only
    rw [if_pos (c := 12 ≤ nI 12) (by decide)]
    exact ⟨_, rfl, _, M', rfl, h1, fun j hj => h2 j (by omega) hj⟩
  · rintro q ⟨y, M', rfl, h1, h2⟩
    refine ⟨M', rfl, ⟨by rw [h1 26 (by decide), up_k (by decide), up_s], by rw [h1 26 (by decide), up_s], h2⟩, fun x hx hx' => by rw [h1 x hx', am_up_ne hx, am_up_ne hx]⟩
theorem reg_move {M : am_M} {T b t : Nat} (hb : 1 ≤ b) (hb2 : b ≤ 12) (hT : T < 2 ^ b) (h : RG M T b t) : ∃ r, f_X2_move_26 M = some r ∧ (RG r T b (t + 1) ∧ ∀ x, x ≠ 27 → r x = M x) := by
  obtain ⟨h2, h3, hF⟩ := h
  have h12 : 2 ^ b ≤ 2 ^ 12 := Nat.pow_le_pow_right (by omega) hb2
  unfold f_X2_move_26
  have hx : ∃ q : Int32 × Int32, lp (σ := Int32 × Int32) (ρ := Int32 × Int32) (fun (s1 : Int32 × Int32) => match s1 with | (x2, x3) => (if (M 26 2) ≤ x3 then (some (.inr (x2, x3))) else (if (((M 26 3) >>> (x3 &&& 31)) &&& 1) = 1 then (if am_dbin x3 12 = true then (some (.inl ((x2 ^^^ (M 27 x3.toNatClampNeg)), (x3 + 1)))) else none) else (some (.inl (x2, (x3 + 1))))))) lp_F (0, 0) = some q ∧ q = (nI (xa T (rF T b t) b), nI b) := by
    refine ⟨_, lp_run (fun i => (nI (xa T (rF T b t) i), nI i)) (n := b) ?_ ?_ (lpF (by omega)), rfl⟩
    · intro i hi
      dsimp only
      rw [h2, h3, if_neg (nle_n hi (by omega)), bt (by omega) (by omega), tbN, if_pos (db_ok (by omega) (by omega)), nI_clamp (by omega), hF i hi, n_xor, nI_s]
      show _ = some (Sum.inl (nI (if T.testBit i = true then xa T (rF T b t) i ^^^ rF T b t i else xa T (rF T b t) i), nI (i + 1)))
      by_cases e : T.testBit i = true
      · rw [if_pos e, if_pos (c := nI 1 = 1) rfl, if_pos e]
      · rw [if_neg e, if_neg (c := nI 0 = 1) (by decide), if_neg e]
    · dsimp only
      rw [h2, if_pos (nle_y (by omega) (by omega))]
  obtain ⟨q, hq, rfl⟩ := hx
  rw [hq, Option.bind_some]
  dsimp only
  refine lp_bnd (fun r => r) (fun i s => ∃ M', s = (nI (i + 1), M') ∧ (∀ x, x ≠ 27 → M' x = M x) ∧ (∀ j, j < i → M' 27 j = nI (rF T b t (j + 1))) ∧ ∀ j, i ≤ j → M' 27 j = M 27 j) (fun q => ∃ y M', q = (y, M') ∧ (∀ x, x ≠ 27 → M' x = M x) ∧ (∀ j, j < b - 1 → M' 27 j = nI (rF T b t (j + 1)))) (n := b - 1) (lpF (by omega)) ⟨M, rfl, fun x _ => rfl, fun j hj => by omega, fun j _ => rfl⟩ ?_ ?_ ?_
  · rintro i s hi ⟨M', rfl, g1, g2, g3⟩
    dsimp only
    have e1 : nI (i + 1) - 1 = nI i := by
      have := pk_sub (a := i + 1) (b := 1) (by omega)
      exact this
    rw [if_neg (show ¬ M' 26 2 ≤ nI (i + 1) by rw [g1 26 (by decide), h2]; exact nle_n (by omega) (by omega)), e1, if_pos (db_ok (by omega) (by omega)), if_pos (db_ok (by omega) (by omega)), nI_clamp (by omega), nI_clamp (by omega), bl_s, nI_s]
    refine Or.inl ⟨_, rfl, _, rfl, fun x hx => by rw [am_up_ne hx, g1 x hx], fun j hj => ?_, fun j hj => by rw [up_k (by omega), g3 j (by omega)]⟩
    by_cases e : j = i
    · subst e; rw [up_s, g3 _ (by omega), hF _ (by omega)]
    · rw [up_k e, g2 j (by omega)]
  · rintro s ⟨M', rfl, g1, g2, g3⟩
    dsimp only
    rw [if_pos (show M' 26 2 ≤ nI (b - 1 + 1) by rw [g1 26 (by decide), h2]; exact nle_y (by omega) (by omega))]
    exact ⟨_, rfl, _, M', rfl, g1, g2⟩
  · rintro q ⟨y, M', rfl, g1, g2⟩
    dsimp only
    have e1 : M' 26 2 - 1 = nI (b - 1) := by
      rw [g1 26 (by decide), h2]
      exact pk_sub (a := b) (b := 1) (by omega)
    rw [e1, if_pos (db_ok (by omega) (by omega)), nI_clamp (by omega), bl_s]
    refine ⟨_, rfl, ⟨by rw [up_p (by decide), g1 26 (by decide), h2], by rw [up_p (by decide), g1 26 (by decide), h3], fun j hj => ?_⟩, fun x hx => by rw [am_up_ne hx, g1 x hx]⟩
    show _ = nI (if j + 1 < b then rF T b t (j + 1) else xa T (rF T b t) b)
    by_cases e : j + 1 < b
    · rw [if_pos e, up_k (by omega), g2 j (by omega)]
    · rw [if_neg e, show b - 1 = j by omega, up_s]
theorem mod3 : ∀ c, c < 8 → ∀ b, b < 13 → 1 ≤ b → ((3 : Int32) * nI c) - ((3 : Int32) * nI c) / nI b * nI b = nI (3 * c % b) := by decide
theorem form_c {M : am_M} {T b t c : Nat} (hb : 1 ≤ b) (hb2 : b ≤ 12) (hc : c < 8) (h : RG M T b t) : f_X2_formOf_26 (nI c) M = some (nI (rF T b t (3 * c % b))) := by
  obtain ⟨h2, h3, hF⟩ := h
  unfold f_X2_formOf_26
  have hm : 3 * c % b < b := Nat.mod_lt _ (by omega)
  rw [h2, if_neg (c := nI b = 0) (nI_ne (b := 0) (by omega) (by omega) (by omega)), mod3 c hc b (by omega) hb, if_pos (db_ok (by omega) (by omega)), nI_clamp (by omega), hF _ hm]
theorem next_r {M : am_M} {T b a : Nat} (hb : 1 ≤ b) (hb2 : b ≤ 12) (h4 : M 44 4 = nI b) (h5 : M 44 5 = nI T) (ha : a < 2 ^ b) : f_X8_nextOf_43 (nI a) M = some (nI (nx T b a)) := by
  have h12 : 2 ^ b ≤ 2 ^ 12 := Nat.pow_le_pow_right (by omega) hb2
  unfold f_X8_nextOf_43
  have hl : (a &&& T) ≤ a := Nat.and_le_left
  rw [clamp4, clamp5, h4, h5, n_and, bits_ok (by omega), Option.bind_some]
  have e1 : nI b - 1 = nI (b - 1) := pk_sub (a := b) (b := 1) (by omega)
  have h2 : ∀ x k, cntN x k ≤ k := by
    intro x k
    induction k with
    | zero => exact Nat.le_refl 0
    | succ k ih =>
      show cntN x k + x / 2 ^ k % 2 ≤ k + 1
      omega
  have h3 : ∀ k, k < 21 → nI k - nI k / 2 * 2 = nI (k % 2) := by decide
  have h6 : nI a >>> ((1 : Int32) &&& 31) = nI (a / 2 ^ 1) := n_shr (i := 1) (by omega) (by omega)
  rw [e1, h3 _ (by have := h2 (a &&& T) 20; omega), h6, shl_1 (by omega) (by omega), n_or]
  rfl
theorem by_r {M : am_M} {b a c : Nat} (hb : 1 ≤ b) (hb2 : b ≤ 12) (h4 : M 44 4 = nI b) (ha : a < 2 ^ b) (hc : c < 8) : f_X8_broughtBy_43 (nI a) (nI c) M = some (nI (a / 2 ^ (3 * c % b) % 2)) := by
  have h12 : 2 ^ b ≤ 2 ^ 12 := Nat.pow_le_pow_right (by omega) hb2
  have hm : 3 * c % b < b := Nat.mod_lt _ (by omega)
  unfold f_X8_broughtBy_43
  rw [clamp4, h4, if_neg (c := nI b = 0) (nI_ne (b := 0) (by omega) (by omega) (by omega)), mod3 c hc b (by omega) hb, bt (by omega) (by omega)]
theorem rel_26 {M M' : am_M} (h : Rel M) (hx : ∀ x, x ≠ 26 → x ≠ 27 → x ≠ 28 → x ≠ 29 → M' x = M x) : Rel M' := by
  refine rel_same h (fun x hx' => hx x (by omega) (by omega) (by omega) (by omega)) ⟨fun x hx' => hx x (by omega) (by omega) (by omega) (by omega), ?_, ?_, ?_, ?_, ?_, ?_⟩ <;> rw [hx _ (by decide) (by decide) (by decide) (by decide)]
theorem op_brought (a0 a1 a2 : Int32) {M : am_M} (h : Rel M) : ∃ v M1, f_X7_brought_0 a0 a1 a2 M = some (v, M1) ∧ f_X8_brought_43 a0 a1 a2 M1 = some v ∧ Rel M1 := by
  obtain ⟨n, m, w, b, hch⟩ := chp_iff.mp h.1
  obtain ⟨⟨hn, hm, hw, hb1, hb2⟩, ⟨p0, p1, p2, p4⟩, ⟨q0, q1, q2, q3, q4, q5, q6⟩, ⟨b3, ⟨T, hT, e5⟩, b6⟩, hcell, hwant, hcol, hsus⟩ := hch
  have h12 : 2 ^ b ≤ 2 ^ 12 := Nat.pow_le_pow_right (by omega) hb2
  have hp : 0 < 2 ^ b := Nat.pow_pos (by omega)
  have hsh : (1 : Int32) <<< (nI b &&& 31) = nI (1 * 2 ^ b) := shl_1 (v := 1) (by omega) (by omega)
  rw [Nat.one_mul] at hsh
  have hbi := bit_in (n := b) (by omega) a0
  have isd : ∀ M', M' 44 = M 44 → f_X8_isSeed_43 a0 M' = some (if 0 ≤ a0 ∧ a0 ≤ nI (2 ^ b - 1) then 1 else 0) := by
    intro M' e
    unfold f_X8_isSeed_43
    rw [clamp4, e, q4, all1 b (by omega), in_l (b := 0) (c := nI (2 ^ b - 1)) a0 (by decide) rfl]
    rw [if_pos]
    split
    · exact Or.inr rfl
    · exact Or.inl rfl
  unfold f_X7_brought_0 f_X8_brought_43
  rw [p4, hsh]
  by_cases hx : bit a0 b
  · have hi := hbi.mpr hx
    obtain ⟨s, hs, rfl⟩ := hx
    rw [if_neg (nI_pos (by omega)), if_neg (fun q => by
      have := (ni_le (by omega) (by omega)).mp q
      omega)]
    rcases cell_c hn hm p0 p1 a1 a2 with ⟨e, c, t, hc, ht, rfl, rfl⟩ | ⟨e, hno⟩
    · rw [e, if_neg (c := (1 : Int32) = 0) (by decide)]
      obtain ⟨r0, e0, g1, g2⟩ := reg_begin (M := M) (T := T) hb1 hb2 p4 e5
      rw [e0, Option.bind_some]
      have key : ∃ r, ((lp (σ := Int32 × am_M) (ρ := Int32 × am_M) (fun (s5 : Int32 × am_M) => match s5 with | (x6, M7) => (if nI t ≤ x6 then (some (.inr (x6, M7))) else ((f_X2_move_26 M7).bind (fun q9 => (some (.inl ((x6 + 1), q9))))))) lp_F (0, r0)).bind (fun (s10 : Int32 × am_M) => match s10 with | (x11, M12) => ((f_X2_formOf_26 (nI c) M12).bind (fun v13 => (some ((f_X2_parity (v13 &&& nI s)), M12)))))) = some (nI (pr (rF T b t (3 * c % b) &&& s)), r) ∧ (∀ x, x ≠ 26 → x ≠ 27 → r x = M x) := by
        refine lp_bnd (fun r => (nI (pr (rF T b t (3 * c % b) &&& s)), r)) (fun i s => ∃ M', s = (nI i, M') ∧ RG M' T b i ∧ ∀ x, x ≠ 26 → x ≠ 27 → M' x = M x) (fun q => ∃ y M', q = (y, M') ∧ RG M' T b t ∧ ∀ x, x ≠ 26 → x ≠ 27 → M' x = M x) (n := t) (lpF (by omega)) ⟨r0, rfl, g1, g2⟩ ?_ ?_ ?_
        · rintro i s' hi ⟨M', rfl, k1, k2⟩
          obtain ⟨r, er, k3, k4⟩ := reg_move hb1 hb2 hT k1
          dsimp only
          rw [if_neg (nle_n hi (by omega)), er, Option.bind_some, nI_s]
          exact Or.inl ⟨_, rfl, r, rfl, k3, fun x hx hx' => by rw [k4 x hx', k2 x hx hx']⟩
        · rintro s' ⟨M', rfl, k1, k2⟩
          dsimp only
          rw [if_pos (nle_y (by omega) (by omega))]
          exact ⟨_, rfl, _, M', rfl, k1, k2⟩
        · rintro q ⟨y, M', rfl, k1, k2⟩
          have hm : 3 * c % b < b := Nat.mod_lt _ (by omega)
          have hlt := rF_lt (T := T) (b := b) t _ hm
          have hl : (rF T b t (3 * c % b) &&& s) ≤ s := Nat.and_le_right
          dsimp only
          rw [form_c hb1 hb2 (by omega) k1, Option.bind_some, n_and, par_c (by omega)]
          exact ⟨M', rfl, k2⟩
      obtain ⟨r, er, g3⟩ := key
      have e44 := g3 44 (by decide) (by decide)
      refine ⟨_, r, er, ?_, rel_26 h (fun x a b _ _ => g3 x a b)⟩
      rw [isd r e44, if_pos hi, Option.bind_some, if_neg (c := (1 : Int32) = 0) (by decide), (cell_r hn hm (by rw [e44]; exact q0) (by rw [e44]; exact q1) _ _).1 ⟨c, t, hc, ht, rfl, rfl⟩, Option.bind_some, if_neg (c := (1 : Int32) = 0) (by decide)]
      refine Option.bind_eq_some_iff.mpr ⟨(nI (sT T b s t), nI t), lp_run (fun i => (nI (sT T b s i), nI i)) (n := t) ?_ ?_ (lpF (by omega)), ?_⟩
      · intro i hi
        dsimp only
        rw [if_neg (nle_n hi (by omega)), next_r (T := T) hb1 hb2 (by rw [e44]; exact q4) (by rw [e44, q5]; exact e5) (sT_lt hb1 hs i), Option.bind_some, nI_s]
        rfl
      · dsimp only
        rw [if_pos (nle_y (by omega) (by omega))]
      · dsimp only
        rw [by_r hb1 hb2 (by rw [e44]; exact q4) (sT_lt hb1 hs t) (by omega), Option.bind_some, reg_main hb1 hb2 hT hs t _ (Nat.mod_lt _ (by omega))]
    · rw [e, if_pos (c := (0 : Int32) = 0) rfl]
      refine ⟨_, M, rfl, ?_, h⟩
      rw [isd M rfl, if_pos hi, Option.bind_some, if_neg (c := (1 : Int32) = 0) (by decide), (cell_r hn hm q0 q1 _ _).2 hno, Option.bind_some, if_pos (c := (0 : Int32) = 0) rfl]
  · refine ⟨-1, M, ?_, ?_, h⟩
    · by_cases c1 : a0 < 0
      · rw [if_pos c1]
      · rw [if_neg c1, if_pos]
        obtain ⟨y, hy, rfl⟩ := nI_of c1
        apply Decidable.byContradiction
        intro c2
        exact hx ⟨y, by
          apply Decidable.byContradiction
          intro c3
          exact c2 ((ni_le (by omega) hy).mpr (by omega)), rfl⟩
    · rw [isd M rfl, if_neg (fun q => hx (hbi.mp q)), Option.bind_some, if_pos (c := (0 : Int32) = 0) rfl]
