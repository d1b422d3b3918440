/-! EFFECTS OF ERRORS -/
def efI (mv : Nat → Nat) (k : Nat) : Nat → Nat
  | 0 => k
  | i + 1 => mv (efI mv k i)
def qn (O : Nat) (c : Nat) : Nat := sm (fun c' => if O.testBit c' = true then 0 else 1) c
theorem qn_le (O : Nat) (c : Nat) : qn O c ≤ c := by
  have : qn O c ≤ c * 1 := sm_le (fun i _ => by split <;> omega)
  omega
theorem qn_s {O c : Nat} (h : O.testBit c = false) : qn O (c + 1) = qn O c + 1 := by
  show qn O c + (if O.testBit c = true then 0 else 1) = _
  rw [h]; rfl
theorem qn_o {O c : Nat} (h : O.testBit c = true) : qn O (c + 1) = qn O c := by
  show qn O c + (if O.testBit c = true then 0 else 1) = _
  rw [if_pos h]; rfl
theorem qn_lt {O c' : Nat} (h : O.testBit c' = false) : ∀ {c : Nat}, c' < c → qn O c' + 1 ≤ qn O c
  | 0, hc => by omega
  | c + 1, hc => by
    have hs : qn O c ≤ qn O (c + 1) := Nat.le_add_right _ _
    by_cases e : c' = c
    · subst e; rw [qn_s h]; omega
    · have := qn_lt h (c := c) (by omega)
      omega
theorem qn_ex {O : Nat} : ∀ {n : Nat} {q : Nat}, q < qn O n → ∃ c, c < n ∧ O.testBit c = false ∧ qn O c = q
  | 0, q, h => absurd h (Nat.not_lt_zero q)
  | n + 1, q, h => by
    by_cases e : O.testBit n = true
    · rw [qn_o e] at h
      obtain ⟨c, h1, h2⟩ := qn_ex h
      exact ⟨c, by omega, h2⟩
    · have e' : O.testBit n = false := by simpa using e
      rw [qn_s e'] at h
      by_cases eq : q = qn O n
      · exact ⟨n, by omega, e', eq.symm⟩
      · obtain ⟨c, h1, h2⟩ := qn_ex (O := O) (n := n) (q := q) (by omega)
        exact ⟨c, by omega, h2⟩
theorem idx_lt {m q q' i : Nat} (hi : i < m) (h : q + 1 ≤ q') : m * q + i < m * q' := by
  have h1 : m * (q + 1) ≤ m * q' := Nat.mul_le_mul_left m h
  rw [Nat.mul_succ] at h1
  omega
theorem idx_64 {m q i : Nat} (hm : m ≤ 8) (hq : q ≤ 7) (hi : i < m) : m * q + i < 64 := by
  have := Nat.mul_le_mul hm hq
  omega
theorem mv_9 {M M' : am_M} (h : M' 9 = M 9) (x : Int32) : f_X4_moved_9 x M' = f_X4_moved_9 x M := by
  unfold f_X4_moved_9 f_X0_allOutputs_9
  rw [h]
def mvN (M : am_M) (s : Nat) : Nat := tn (f_X4_moved_9 (nI s) M)
theorem ef_lt {M : am_M} {w k : Nat} (hw : w ≤ 8) (p2 : M 9 2 = nI w) (hk : k < 2 ^ w) : ∀ i, efI (mvN M) k i < 2 ^ w
  | 0 => hk
  | i + 1 => mv_lt hw p2 _
theorem dn1 : ∀ m, m < 9 → ∀ i, i < 9 → (nI m - nI (i + 1)) + (-1) = nI m - nI (i + 1 + 1) := by decide
theorem dn2 : ∀ m, m < 9 → nI m - nI (m + 1) < 0 := by decide
theorem chain_g {M X : am_M} {m w c base : Nat} {k : Nat} (hm : m ≤ 8) (hw : w ≤ 8) (hc : c < 8) (p1 : M 9 1 = nI m) (h9 : X 9 = M 9) (h12 : X 12 c = nI k) (hb : X 30 2 = nI base) (hbm : base + m ≤ 64) : ∃ r, f_X4_gatherChain_30_9 (nI c) X = some r ∧ ((∀ x, x ≠ 31 → x ≠ 30 → r x = X x) ∧ r 30 2 = nI (base + m) ∧ (∀ j, j < base → r 31 j = X 31 j) ∧ ∀ i, i < m → r 31 (base + i) = nI (efI (mvN M) k i)) := by
  unfold f_X4_gatherChain_30_9
  rw [if_pos (db_ok hc (by omega)), nI_clamp (by omega), h9, p1, h12]
  refine lp_bnd (fun r => r) (fun i s => ∃ M', s = (nI (efI (mvN M) k i), nI m - nI (i + 1), M') ∧ (∀ x, x ≠ 31 → x ≠ 30 → M' x = X x) ∧ M' 30 2 = nI (base + i) ∧ (∀ j, j < base → M' 31 j = X 31 j) ∧ ∀ i', i' < i → M' 31 (base + i') = nI (efI (mvN M) k i')) (fun q => ∃ x y M', q = (x, y, M') ∧ (∀ x, x ≠ 31 → x ≠ 30 → M' x = X x) ∧ M' 30 2 = nI (base + m) ∧ (∀ j, j < base → M' 31 j = X 31 j) ∧ ∀ i', i' < m → M' 31 (base + i') = nI (efI (mvN M) k i')) (n := m) (lpF (by omega)) ⟨X, rfl, fun x _ _ => rfl, hb, fun j _ => rfl, fun i hi => by omega⟩ ?_ ?_ ?_
  · rintro i s hi ⟨M', rfl, g1, g2, g3, g4⟩
    have e1 : ¬ (nI m - nI (i + 1) < 0) := by
      rw [pk_sub (by omega)]
      exact nI_pos (by omega)
    dsimp only
    rw [if_neg e1, if_pos (show am_dbin (M' 30 2) 64 = true by rw [g2]; exact db_ok (by omega) (by omega)), g2, nI_clamp (by omega), bl_s, up_p (q := 30) (by decide), g2, nI_s, bl_s, dn1 m (by omega) i (by omega), mv_9 (M := M) (by rw [am_up_ne (by decide), am_up_ne (by decide), g1 9 (by decide) (by decide), h9]), tn_n (f_X4_moved_9 _ M)]
    refine Or.inl ⟨_, rfl, _, rfl, fun x a b => by rw [am_up_ne b, am_up_ne a, g1 x a b], by rw [up_s]; rfl, fun j hj => by rw [up_p (by decide), up_k (by omega), g3 j hj], fun j hj => ?_⟩
    rw [up_p (by decide)]
    by_cases e : j = i
    · subst e; rw [up_s]
    · rw [up_k (by omega), g4 j (by omega)]
  · rintro s ⟨M', rfl, g⟩
    dsimp only
    rw [if_pos (dn2 m (by omega))]
    exact ⟨_, rfl, _, _, M', rfl, g⟩
  · rintro q ⟨x, y, M', rfl, g⟩
    exact ⟨_, rfl, g⟩
theorem gather_c {M : am_M} {n m w O C K} (hB : VB n m w O C K) (hV : VC M 9 n m w O C K) : ∃ r, f_X4_gather_30_9 M = some r ∧ ((∀ x, x ≠ 31 → x ≠ 30 → r x = M x) ∧ r 30 2 = nI (m * qn O n) ∧ ∀ c, c < n → O.testBit c = false → ∀ i, i < m → r 31 (m * qn O c + i) = nI (efI (mvN M) (K c) i)) := by
  obtain ⟨⟨hn, hm, hw⟩, hO, hC2, hKw⟩ := hB
  obtain ⟨⟨p0, p1, p2, p3⟩, hC, hK⟩ := hV
  have h8 := pw8 hn
  unfold f_X4_gather_30_9
  rw [bl_s]
  refine lp_bnd (fun r => r) (fun c s => ∃ M', s = (nI c, M') ∧ (∀ x, x ≠ 31 → x ≠ 30 → M' x = M x) ∧ M' 30 2 = nI (m * qn O c) ∧ ∀ c', c' < c → O.testBit c' = false → ∀ i, i < m → M' 31 (m * qn O c' + i) = nI (efI (mvN M) (K c') i)) (fun q => ∃ y M', q = (y, M') ∧ (∀ x, x ≠ 31 → x ≠ 30 → M' x = M x) ∧ M' 30 2 = nI (m * qn O n) ∧ ∀ c', c' < n → O.testBit c' = false → ∀ i, i < m → M' 31 (m * qn O c' + i) = nI (efI (mvN M) (K c') i)) (n := n) (lpF (by omega)) ⟨_, rfl, fun x _ a => by rw [am_up_ne a], up_s, fun c hc => by omega⟩ ?_ ?_ ?_
  · rintro c s hc ⟨M', rfl, g1, g2, g3⟩
    have h9 := g1 9 (by decide) (by decide)
    have hq := qn_le O c
    dsimp only
    rw [if_neg (show ¬ M' 9 0 ≤ nI c by rw [h9, p0]; exact nle_n hc (by omega))]
    by_cases e : O.testBit c = true
    · rw [if_neg (show ¬ f_X0_isIn (nI c) (M' 9 3) = 0 by rw [h9, p3]; exact isIn_y (by omega) (by omega) e), nI_s]
      refine Or.inl ⟨_, rfl, M', rfl, g1, by rw [qn_o e]; exact g2, fun c' hc' ho => ?_⟩
      by_cases ec : c' = c
      · subst ec; rw [e] at ho; exact absurd ho (by decide)
      · exact g3 c' (by omega) ho
    · have e' : O.testBit c = false := by simpa using e
      have hmq : m * qn O c + m ≤ 64 := by
        have := Nat.mul_le_mul hm (show qn O c ≤ 7 by omega)
        omega
      obtain ⟨r, er, k1, k2, k3, k4⟩ := chain_g (M := M) (X := M') hm hw (show c < 8 by omega) p1 h9 (show M' 12 c = nI (K c) by rw [g1 12 (by decide) (by decide)]; exact hK c hc) g2 hmq
      rw [if_pos (show f_X0_isIn (nI c) (M' 9 3) = 0 by rw [h9, p3]; exact isIn_n (by omega) (by omega) e), er, Option.bind_some, nI_s]
      refine Or.inl ⟨_, rfl, r, rfl, fun x a b => by rw [k1 x a b, g1 x a b], by rw [qn_s e', Nat.mul_succ]; exact k2, fun c' hc' ho i hi => ?_⟩
      by_cases ec : c' = c
      · subst ec; exact k4 i hi
      · rw [k3 _ (idx_lt hi (qn_lt ho (by omega))), g3 c' (by omega) ho i hi]
  · rintro s ⟨M', rfl, g1, g⟩
    dsimp only
    rw [if_pos (show M' 9 0 ≤ nI n by rw [g1 9 (by decide) (by decide), p0]; exact nle_y (by omega) (by omega))]
    exact ⟨_, rfl, _, M', rfl, g1, g⟩
  · rintro q ⟨y, M', rfl, g⟩
    exact ⟨_, rfl, g⟩
theorem and_mask {k w : Nat} (hw : w ≤ 8) (hk : k < 2 ^ w) : nI k &&& nI (2 ^ w - 1) = nI k := by
  rw [n_and, Nat.and_two_pow_sub_one_eq_mod, Nat.mod_eq_of_lt hk]
theorem effects_r {M : am_M} {n m w O C K} (hB : VB n m w O C K) (hV : VR M n m w O C K) (p2 : M 9 2 = nI w) (q6 : M 44 6 = M 9 6) : ∃ r, f_X8_findEffects_43 M = some r ∧ ((∀ x, x ≠ 49 → x ≠ 43 → r x = M x) ∧ (∀ j, j ≠ 22 → r 43 j = M 43 j) ∧ r 43 22 = nI (m * qn O n) ∧ ∀ c, c < n → O.testBit c = false → ∀ i, i < m → r 49 (m * qn O c + i) = nI (efI (mvN M) (K c) (m - 1 - i))) := by
  obtain ⟨⟨hn, hm, hw⟩, hO, hC2, hKw⟩ := hB
  obtain ⟨⟨p0, p1, q2, p3⟩, hC, hK⟩ := hV
  have h8 := pw8 hn
  unfold f_X8_findEffects_43
  rw [bl_s]
  refine lp_bnd (fun r => r) (fun c s => ∃ M', s = (nI c, M') ∧ (∀ x, x ≠ 49 → x ≠ 43 → M' x = M x) ∧ (∀ j, j ≠ 22 → M' 43 j = M 43 j) ∧ M' 43 22 = nI (m * qn O c) ∧ ∀ c', c' < c → O.testBit c' = false → ∀ i, i < m → M' 49 (m * qn O c' + i) = nI (efI (mvN M) (K c') (m - 1 - i))) (fun q => ∃ y M', q = (y, M') ∧ (∀ x, x ≠ 49 → x ≠ 43 → M' x = M x) ∧ (∀ j, j ≠ 22 → M' 43 j = M 43 j) ∧ M' 43 22 = nI (m * qn O n) ∧ ∀ c', c' < n → O.testBit c' = false → ∀ i, i < m → M' 49 (m * qn O c' + i) = nI (efI (mvN M) (K c') (m - 1 - i))) (n := n) (lpF (by omega)) ⟨_, rfl, fun x _ a => by rw [am_up_ne a], fun j hj => by rw [up_k hj], up_s, fun c hc => by omega⟩ ?_ ?_ ?_
  · rintro c s hc ⟨M', rfl, g1, g1', g2, g3⟩
    have h44 := g1 44 (by decide) (by decide)
    have hq := qn_le O c
    dsimp only
    rw [if_neg (show ¬ M' 44 (0 : Int32).toNatClampNeg ≤ nI c by rw [clamp0, h44, p0]; exact nle_n hc (by omega))]
    by_cases e : O.testBit c = true
    · refine Or.inl (lp_bnd Sum.inl (fun t s => t = 0 ∧ s = (0, M')) (fun q => ∃ y, q = (y, M')) (n := 1) (lpF (by omega)) ⟨rfl, rfl⟩ ?_ ?_ ?_)
      · rintro t s ht ⟨-, rfl⟩
        dsimp only
        by_cases em : M' 44 (1 : Int32).toNatClampNeg ≤ 0
        · rw [if_pos em]
          exact Or.inr ⟨_, rfl, _, rfl⟩
        · rw [if_neg em, if_neg (show ¬ f_X8_has (M' 44 (3 : Int32).toNatClampNeg) (nI c) = 0 by rw [clamp3, h44, p3]; exact has_y (by omega) (by omega) e)]
          exact Or.inr ⟨_, rfl, _, rfl⟩
      · rintro s ⟨h, -⟩
        omega
      · rintro q ⟨y, rfl⟩
        dsimp only
        rw [nI_s]
        refine ⟨_, rfl, M', rfl, g1, g1', by rw [qn_o e]; exact g2, fun c' hc' ho => ?_⟩
        by_cases ec : c' = c
        · subst ec; rw [e] at ho; exact absurd ho (by decide)
        · exact g3 c' (by omega) ho
    · have e' : O.testBit c = false := by simpa using e
      have hmq : m * qn O c + m ≤ 64 := by
        have := Nat.mul_le_mul hm (show qn O c ≤ 7 by omega)
        omega
      refine Or.inl (lp_bnd Sum.inl (fun t s => ∃ M2, s = (nI t, M2) ∧ (∀ x, x ≠ 49 → x ≠ 43 → M2 x = M x) ∧ (∀ j, j ≠ 22 → M2 43 j = M 43 j) ∧ M2 43 22 = nI (m * qn O c + t) ∧ (∀ j, j < m * qn O c → M2 49 j = M' 49 j) ∧ ∀ i, i < t → M2 49 (m * qn O c + i) = nI (efI (mvN M) (K c) (m - 1 - i))) (fun q => ∃ y M2, q = (y, M2) ∧ (∀ x, x ≠ 49 → x ≠ 43 → M2 x = M x) ∧ (∀ j, j ≠ 22 → M2 43 j = M 43 j) ∧ M2 43 22 = nI (m * qn O c + m) ∧ (∀ j, j < m * qn O c → M2 49 j = M' 49 j) ∧ ∀ i, i < m → M2 49 (m * qn O c + i) = nI (efI (mvN M) (K c) (m - 1 - i))) (n := m) (lpF (by omega)) ⟨M', rfl, g1, g1', g2, fun j _ => rfl, fun i hi => by omega⟩ ?_ ?_ ?_)
      · rintro t s ht ⟨M2, rfl, k1, k1', k2, k3, k4⟩
        have k44 := k1 44 (by decide) (by decide)
        have k9 := k1 9 (by decide) (by decide)
        have hkc := hKw c hc
        have hmask : f_X8_mask_43 M2 = nI (2 ^ w - 1) := by
          unfold f_X8_mask_43
          rw [clamp2, k44, q2, all1 w (by omega)]
        dsimp only
        rw [if_neg (show ¬ M2 44 (1 : Int32).toNatClampNeg ≤ nI t by rw [clamp1, k44, p1]; exact nle_n ht (by omega)), if_pos (show f_X8_has (M2 44 (3 : Int32).toNatClampNeg) (nI c) = 0 by rw [clamp3, k44, p3]; exact has_n (by omega) (by omega) e), a_135, if_pos (db_ok (by omega) (by omega)), nI_clamp (by omega), show M2 44 (135 + c) = nI (K c) by rw [k44]; exact hK c hc, hmask, and_mask hw hkc, bl_s, nI_s]
        refine Or.inl (lp_bnd Sum.inl (fun i s => s = (nI (efI (mvN M) (K c) i), nI (t + 1 + i))) (fun q => ∃ y, q = (nI (efI (mvN M) (K c) (m - 1 - t)), y)) (n := m - 1 - t) (lpF (by omega)) rfl ?_ ?_ ?_)
        · rintro i s hi rfl
          have hlt := ef_lt hw p2 hkc i
          dsimp only
          rw [if_neg (show ¬ M2 44 (1 : Int32).toNatClampNeg ≤ nI (t + 1 + i) by rw [clamp1, k44, p1]; exact nle_n (by omega) (by omega)), mv_eq hw (by rw [k9]; exact p2) (by rw [k44]; exact q2) (by rw [k44, k9]; exact q6) hlt, mv_9 (M := M) k9, tn_n (f_X4_moved_9 _ M), nI_s]
          exact Or.inl ⟨_, rfl, rfl⟩
        · rintro s rfl
          dsimp only
          rw [if_pos (show M2 44 (1 : Int32).toNatClampNeg ≤ nI (t + 1 + (m - 1 - t)) by rw [clamp1, k44, p1]; exact nle_y (by omega) (by omega))]
          exact ⟨_, rfl, _, rfl⟩
        · rintro q ⟨y, rfl⟩
          dsimp only
          rw [if_pos (show am_dbin (M2 43 22) 64 = true by rw [k2]; exact db_ok (by omega) (by omega)), k2, nI_clamp (by omega), bl_s, up_p (q := 43) (by decide), k2, nI_s, bl_s]
          refine ⟨_, rfl, _, rfl, fun x a b => by rw [am_up_ne b, am_up_ne a, k1 x a b], fun j hj => by rw [up_k hj, up_p (by decide), k1' j hj], by rw [up_s]; rfl, fun j hj => by rw [up_p (by decide), up_k (by omega), k3 j hj], fun i hi => ?_⟩
          rw [up_p (by decide)]
          by_cases ei : i = t
          · subst ei; rw [up_s]
          · rw [up_k (by omega), k4 i (by omega)]
      · rintro s ⟨M2, rfl, k1, k⟩
        dsimp only
        rw [if_pos (show M2 44 (1 : Int32).toNatClampNeg ≤ nI m by rw [clamp1, k1 44 (by decide) (by decide), p1]; exact nle_y (by omega) (by omega))]
        exact ⟨_, rfl, _, M2, rfl, k1, k⟩
      · rintro q ⟨y, M2, rfl, k1, k1', k2, k3, k4⟩
        dsimp only
        rw [nI_s]
        refine ⟨_, rfl, M2, rfl, k1, k1', by rw [qn_s e', Nat.mul_succ]; exact k2, fun c' hc' ho i hi => ?_⟩
        by_cases ec : c' = c
        · subst ec; exact k4 i hi
        · rw [k3 _ (idx_lt hi (qn_lt ho (by omega))), g3 c' (by omega) ho i hi]
  · rintro s ⟨M', rfl, g1, g⟩
    dsimp only
    rw [if_pos (show M' 44 (0 : Int32).toNatClampNeg ≤ nI n by rw [clamp0, g1 44 (by decide) (by decide), p0]; exact nle_y (by omega) (by omega))]
    exact ⟨_, rfl, _, M', rfl, g1, g⟩
  · rintro q ⟨y, M', rfl, g⟩
    exact ⟨_, rfl, g⟩
/-! SUMS OVER BLOCKS -/
theorem sm_app {f : Nat → Nat} {a : Nat} : ∀ {b : Nat}, sm f (a + b) = sm f a + sm (fun i => f (a + i)) b
  | 0 => rfl
  | b + 1 => by
    show sm f (a + b) + f (a + b) = sm f a + (sm (fun i => f (a + i)) b + f (a + b))
    rw [sm_app (b := b)]
    omega
theorem sm_blk {f : Nat → Nat} {m : Nat} : ∀ {Q : Nat}, sm f (m * Q) = sm (fun q => sm (fun i => f (m * q + i)) m) Q
  | 0 => rfl
  | Q + 1 => by
    rw [Nat.mul_succ, sm_app, sm_blk (Q := Q)]
    rfl
/-- B is A with each block the other way round -/
def rvs (A B : Nat → Nat) (m Q : Nat) : Prop := ∀ q i, q < Q → i < m → B (m * q + i) = A (m * q + (m - 1 - i))
theorem rvs_sm {A B : Nat → Nat} {m Q : Nat} (h : rvs A B m Q) (g : Nat → Nat) : sm (fun k => g (A k)) (m * Q) = sm (fun k => g (B k)) (m * Q) := by
  rw [sm_blk, sm_blk]
  refine sm_cong (fun q hq => ?_)
  rw [sm_rev]
  exact sm_cong (fun i hi => by rw [h q i hq hi])
theorem rvs_all {A B : Nat → Nat} {m Q : Nat} (h : rvs A B m Q) (P : Nat → Prop) : (∀ k, k < m * Q → P (A k)) ↔ ∀ k, k < m * Q → P (B k) := by
  have hk : ∀ k, k < m * Q → ∃ q i, q < Q ∧ i < m ∧ k = m * q + i := by
    intro k hk
    have hm : 0 < m := by
      apply Decidable.byContradiction
      intro hn
      have : m = 0 := by omega
      subst this
      rw [Nat.zero_mul] at hk
      omega
    exact ⟨k / m, k % m, Nat.div_lt_of_lt_mul hk, Nat.mod_lt _ hm, (Nat.div_add_mod k m).symm⟩
  constructor
  · intro hA k hk'
    obtain ⟨q, i, hq, hi, rfl⟩ := hk k hk'
    rw [h q i hq hi]
    exact hA _ (Nat.lt_of_lt_of_le (idx_lt (q' := q + 1) (by omega) (by omega)) (Nat.mul_le_mul_left m (by omega)))
  · intro hB k hk'
    obtain ⟨q, i, hq, hi, rfl⟩ := hk k hk'
    have := h q (m - 1 - i) hq (by omega)
    rw [show m - 1 - (m - 1 - i) = i by omega] at this
    rw [← this]
    exact hB _ (Nat.lt_of_lt_of_le (idx_lt (q' := q + 1) (by omega) (by omega)) (Nat.mul_le_mul_left m (by omega)))
def dl (a b : Nat) : Nat := if a = b then 1 else 0
theorem dl_c (a b : Nat) : dl a b = dl b a := by
  unfold dl
  by_cases e : a = b
  · rw [if_pos e, if_pos e.symm]
  · rw [if_neg e, if_neg (fun h => e h.symm)]
theorem pairs_full {A : Nat → Nat} : ∀ {N : Nat}, 2 * sm (fun i => sm (fun j => dl (A i) (A j)) i) N + N = sm (fun i => sm (fun j => dl (A i) (A j)) N) N
  | 0 => rfl
  | N + 1 => by
    have ih := pairs_full (A := A) (N := N)
    show 2 * (sm (fun i => sm (fun j => dl (A i) (A j)) i) N + sm (fun j => dl (A N) (A j)) N) + (N + 1) = sm (fun i => sm (fun j => dl (A i) (A j)) N + dl (A i) (A N)) N + (sm (fun j => dl (A N) (A j)) N + dl (A N) (A N))
    rw [sm_add, sm_cong (f := fun i => dl (A i) (A N)) (g := fun i => dl (A N) (A i)) (fun i _ => dl_c _ _), show dl (A N) (A N) = 1 from if_pos rfl]
    omega
theorem rvs_pairs {A B : Nat → Nat} {m Q : Nat} (h : rvs A B m Q) : sm (fun i => sm (fun j => dl (A i) (A j)) i) (m * Q) = sm (fun i => sm (fun j => dl (B i) (B j)) i) (m * Q) := by
  have h1 := pairs_full (A := A) (N := m * Q)
  have h2 := pairs_full (A := B) (N := m * Q)
  have h3 : sm (fun i => sm (fun j => dl (A i) (A j)) (m * Q)) (m * Q) = sm (fun i => sm (fun j => dl (B i) (B j)) (m * Q)) (m * Q) := by
    rw [sm_cong (fun i _ => rvs_sm h (fun b => dl (A i) b))]
    exact rvs_sm h (fun a => sm (fun k => dl a (B k)) (m * Q))
  omega
/-! ROWS WITH A HIGHEST BIT EACH -/
def HC (H : Nat → Nat) : Prop := ∀ i, i < 8 → H i = 0 ∨ ((H i).testBit i = true ∧ H i < 2 ^ (i + 1))
def hQ (H : Nat → Nat) : Nat → Nat → Bool
  | 0, _ => true
  | k + 1, u => hQ H k u && (pr (H k &&& u) == 0)
theorem hQ_iff {H : Nat → Nat} {u : Nat} : ∀ k, (hQ H k u = true ↔ ∀ i, i < k → pr (H i &&& u) = 0)
  | 0 => ⟨fun _ i h => absurd h (Nat.not_lt_zero i), fun _ => rfl⟩
  | k + 1 => by
    show (hQ H k u && (pr (H k &&& u) == 0)) = true ↔ _
    rw [Bool.and_eq_true, beq_iff_eq, hQ_iff k]
    constructor
    · rintro ⟨h1, h2⟩ i hi
      by_cases e : i = k
      · rw [e]; exact h2
      · exact h1 i (by omega)
    · intro h
      exact ⟨fun i hi => h i (by omega), h k (by omega)⟩
def hT (H : Nat → Nat) (k : Nat) : Nat := sm (fun u => b01 (hQ H k u)) (2 ^ k)
theorem hT_s {H : Nat → Nat} (hE : HC H) {k : Nat} (hk : k < 8) : hT H (k + 1) = hT H k * (if H k = 0 then 2 else 1) := by
  unfold hT
  rw [Nat.pow_succ, show 2 ^ k * 2 = 2 ^ k + 2 ^ k by omega, sm_app, ← sm_add, ← sm_mul]
  refine sm_cong (fun u hu => ?_)
  have hor : 2 ^ k + u = u ||| 2 ^ k := by
    have := Nat.two_pow_add_eq_or_of_lt (i := k) (b := u) hu 1
    rw [Nat.mul_one] at this
    rw [this, Nat.or_comm]
  have hA : u.testBit k = false := Nat.testBit_lt_two_pow hu
  have hup : hQ H k (2 ^ k + u) = hQ H k u := by
    rw [Bool.eq_iff_iff, hQ_iff, hQ_iff]
    have key : ∀ i, i < k → pr (H i &&& (2 ^ k + u)) = pr (H i &&& u) := by
      intro i hi
      rw [hor, pr_j (by omega) hA]
      have hp := pr_1 (H i &&& u)
      have hf : (H i).testBit k = false := by
        rcases hE i (by omega) with e | ⟨-, e⟩
        · rw [e, Nat.zero_testBit]
        · exact Nat.testBit_lt_two_pow (Nat.lt_of_lt_of_le e (Nat.pow_le_pow_right (by omega) (by omega)))
      rw [hf]
      simp
      omega
    constructor
    · intro h i hi
      rw [← key i hi]; exact h i hi
    · intro h i hi
      rw [key i hi]; exact h i hi
  show b01 (hQ H k u && (pr (H k &&& u) == 0)) + b01 (hQ H k (2 ^ k + u) && (pr (H k &&& (2 ^ k + u)) == 0)) = _
  rw [hup, hor, pr_j (by omega) hA]
  have hp := pr_1 (H k &&& u)
  cases hQ H k u with
  | false => simp [b01]
  | true =>
    by_cases e : H k = 0
    · rw [e, Nat.zero_testBit, Nat.zero_and, pr_0]; rfl
    · obtain ⟨f1, -⟩ := (hE k hk).resolve_left e
      rw [f1, if_neg e]
      have h2 : pr (H k &&& u) = 0 ∨ pr (H k &&& u) = 1 := by omega
      rcases h2 with h2 | h2 <;> rw [h2] <;> rfl
def hrk (H : Nat → Nat) : Nat := sm (fun i => if H i = 0 then 0 else 1) 8
theorem hT_all {H : Nat → Nat} (hE : HC H) : ∀ k, k ≤ 8 → hT H k * 2 ^ sm (fun i => if H i = 0 then 0 else 1) k = 2 ^ k
  | 0, _ => rfl
  | k + 1, hk => by
    rw [hT_s hE (by omega)]
    have ih := hT_all hE k (by omega)
    show _ * 2 ^ (sm (fun i => if H i = 0 then 0 else 1) k + if H k = 0 then 0 else 1) = _
    by_cases e : H k = 0
    · rw [if_pos e, if_pos e, Nat.add_zero, Nat.mul_right_comm, ih, Nat.pow_succ]
    · rw [if_neg e, if_neg e, Nat.mul_one, Nat.pow_succ, Nat.pow_succ, ← Nat.mul_assoc, ih]
def HSol (H : Nat → Nat) (y : Nat) : Prop := ∀ i, i < 8 → pr (H i &&& y) = 0
theorem pow2_inj {a b : Nat} (h : 2 ^ a = 2 ^ b) : a = b := by
  rcases Nat.lt_trichotomy a b with e | e | e
  · have := Nat.pow_lt_pow_right (a := 2) (by omega) e
    omega
  · exact e
  · have := Nat.pow_lt_pow_right (a := 2) (by omega) e
    omega
/-- both ranks -/
theorem rk_eq {R H : Nat → Nat} (hE : EC R) (h0 : ∀ i, 8 ≤ i → i < 12 → R i = 0) (hH : HC H) (hS : ∀ y, y < 2 ^ 8 → (Sol R y ↔ HSol H y)) : rk R = hrk H := by
  obtain ⟨h1, h2⟩ := cT_rk (R := R) (z := 0) (b := 8) (by omega) hE h0 (fun j _ => Nat.zero_testBit j)
  have h3 := hT_all hH 8 (Nat.le_refl 8)
  have h4 : cT R 0 8 8 = hT H 8 := by
    unfold cT hT
    refine sm_cong (fun u hu => ?_)
    rw [Nat.sub_self, Nat.pow_zero, Nat.mul_one]
    have : qT R 0 8 8 u = hQ H 8 u := by
      rw [Bool.eq_iff_iff, qT_iff 8 (Nat.le_refl 8), hQ_iff]
      have hs := hS u hu
      constructor
      · intro h
        exact hs.mp (fun i hi => by
          by_cases e : i < 8
          · have := h i (by omega) e
            rwa [Nat.or_zero] at this
          · rw [h0 i (by omega) hi, Nat.zero_and, pr_0])
      · intro h i _ hi
        rw [Nat.or_zero]
        exact hs.mpr h i (by omega)
    rw [this]
  rw [← h4, h2, ← Nat.pow_add] at h3
  have h5 := pow2_inj h3
  unfold hrk
  have : sm (fun i => if H i = 0 then 0 else 1) 8 ≤ 8 * 1 := sm_le (fun i _ => by split <;> omega)
  omega
