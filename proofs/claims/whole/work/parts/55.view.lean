/-! THE CHIP IN NUMBERS -/
def tn (x : Int32) : Nat := x.toBitVec.toNat
theorem tn_n (x : Int32) : x = nI (tn x) := nI_self x
theorem tn_nI {a : Nat} (h : a < 2 ^ 32) : tn (nI a) = a := pk_tn h
theorem n_xor (a b : Nat) : nI a ^^^ nI b = nI (a ^^^ b) := by
  apply Int32.toBitVec_inj.mp
  rw [Int32.toBitVec_xor]
  show BitVec.ofNat 32 a ^^^ BitVec.ofNat 32 b = BitVec.ofNat 32 (a ^^^ b)
  apply BitVec.eq_of_getLsbD_eq
  intro i hi
  simp [BitVec.getLsbD_ofNat, hi, Nat.testBit_xor]
theorem n_or (a b : Nat) : nI a ||| nI b = nI (a ||| b) := by
  apply Int32.toBitVec_inj.mp
  rw [Int32.toBitVec_or]
  show BitVec.ofNat 32 a ||| BitVec.ofNat 32 b = BitVec.ofNat 32 (a ||| b)
  apply BitVec.eq_of_getLsbD_eq
  intro i hi
  simp [BitVec.getLsbD_ofNat, hi, Nat.testBit_or]
theorem n_has {a i : Nat} (ha : a < 2 ^ 31) (hi : i < 32) : f_X8_has (nI a) (nI i) = if a.testBit i = true then 1 else 0 := by
  unfold f_X8_has
  have hd : a / 2 ^ i < 2 ^ 32 := Nat.lt_of_le_of_lt (Nat.div_le_self _ _) (by omega)
  rw [n_shr ha hi, n_and1 hd]
  have h2 : a / 2 ^ i % 2 < 2 := Nat.mod_lt _ (by omega)
  have h3 : a.testBit i = decide (a / 2 ^ i % 2 = 1) := Nat.testBit_eq_decide_div_mod_eq
  rw [h3]
  by_cases e : a / 2 ^ i % 2 = 1
  · rw [e, if_pos (c := nI 1 = 1) rfl]
    simp
  · have e0 : a / 2 ^ i % 2 = 0 := by omega
    rw [e0, if_neg (by decide)]
    simp
theorem n_isIn {a i : Nat} (ha : a < 2 ^ 31) (hi : i < 32) : f_X0_isIn (nI i) (nI a) = if a.testBit i = true then 1 else 0 := n_has ha hi
theorem has_y {a i : Nat} (ha : a < 2 ^ 31) (hi : i < 32) (h : a.testBit i = true) : ¬ f_X8_has (nI a) (nI i) = 0 := by
  rw [n_has ha hi, if_pos h]; decide
theorem has_n {a i : Nat} (ha : a < 2 ^ 31) (hi : i < 32) (h : ¬ a.testBit i = true) : f_X8_has (nI a) (nI i) = 0 := by
  rw [n_has ha hi, if_neg h]
theorem isIn_y {a i : Nat} (ha : a < 2 ^ 31) (hi : i < 32) (h : a.testBit i = true) : ¬ f_X0_isIn (nI i) (nI a) = 0 := has_y ha hi h
theorem isIn_n {a i : Nat} (ha : a < 2 ^ 31) (hi : i < 32) (h : ¬ a.testBit i = true) : f_X0_isIn (nI i) (nI a) = 0 := has_n ha hi h
/-- what isn't in the other -/
theorem n_andn {a b : Nat} (ha : a < 2 ^ 32) (hb : b < 2 ^ 32) : (nI a &&& (nI b ^^^ (-1))) = 0 ↔ ∀ i, a.testBit i = true → b.testBit i = true := by
  have hbit : ∀ i, i < 32 → (nI a &&& (nI b ^^^ (-1))).toBitVec.getLsbD i = (a.testBit i && !b.testBit i) := by
    intro i hi
    rw [Int32.toBitVec_and, Int32.toBitVec_xor, BitVec.getLsbD_and, BitVec.getLsbD_xor]
    have h1 : ∀ x, x < 2 ^ 32 → (nI x).toBitVec.getLsbD i = x.testBit i := by
      intro x hx
      rw [← BitVec.testBit_toNat, pk_tn hx]
    have h2 : (-1 : Int32).toBitVec.getLsbD i = true := by
      have : (-1 : Int32).toBitVec = BitVec.allOnes 32 := by decide
      rw [this, BitVec.getLsbD_allOnes]
      simpa using hi
    rw [h1 a ha, h1 b hb, h2]
    simp
  have h0 : ∀ i, (0 : Int32).toBitVec.getLsbD i = false := by
    intro i
    have : (0 : Int32).toBitVec = 0#32 := by decide
    rw [this]
    simp
  constructor
  · intro h i hi
    have h32 : i < 32 := by
      apply Decidable.byContradiction
      intro hn
      rw [Nat.testBit_lt_two_pow (Nat.lt_of_lt_of_le ha (Nat.pow_le_pow_right (by omega) (by omega)))] at hi
      exact absurd hi (by decide)
    have h3 := hbit i h32
    rw [h, h0, hi] at h3
    simpa using h3.symm
  · intro h
    apply Int32.toBitVec_inj.mp
    apply BitVec.eq_of_getLsbD_eq
    intro i hi
    rw [hbit i hi, h0]
    by_cases e : a.testBit i = true
    · rw [e, h i e]; rfl
    · simp [e]
theorem flag_if (p : Prop) [Decidable p] : f_X8_flag (if p then 1 else 0) = if p then 1 else 0 := by
  by_cases h : p
  · simp only [if_pos h]; rfl
  · simp only [if_neg h]; rfl
theorem add_if (y : Nat) (p : Prop) [Decidable p] : nI y + (if p then 1 else 0) = nI (y + if p then 1 else 0) := by
  by_cases h : p
  · rw [if_pos h, if_pos h]; exact nI_add y 1
  · rw [if_neg h, if_neg h]; exact nI_add y 0
theorem add_0 (y : Nat) : nI y + 0 = nI y := nI_add y 0
def sm (f : Nat → Nat) : Nat → Nat
  | 0 => 0
  | n + 1 => sm f n + f n
theorem sm_cong {f g : Nat → Nat} : ∀ {n : Nat}, (∀ i, i < n → f i = g i) → sm f n = sm g n
  | 0, _ => rfl
  | n + 1, e => by
    show sm f n + f n = sm g n + g n
    rw [sm_cong (n := n) (fun i hi => e i (Nat.lt_succ_of_lt hi)), e n (Nat.lt_succ_self n)]
theorem sm_add {f g : Nat → Nat} : ∀ {n : Nat}, sm (fun i => f i + g i) n = sm f n + sm g n
  | 0 => rfl
  | n + 1 => by
    show sm (fun i => f i + g i) n + (f n + g n) = (sm f n + f n) + (sm g n + g n)
    rw [sm_add (n := n)]
    omega
theorem sm_0 : ∀ {n : Nat}, sm (fun _ => 0) n = 0
  | 0 => rfl
  | n + 1 => by
    show sm (fun _ => 0) n + 0 = 0
    rw [sm_0 (n := n)]
theorem sm_swap {f : Nat → Nat → Nat} {m : Nat} : ∀ {n : Nat}, sm (fun i => sm (f i) m) n = sm (fun j => sm (fun i => f i j) n) m
  | 0 => by
    show 0 = sm (fun j => 0) m
    rw [sm_0]
  | n + 1 => by
    show sm (fun i => sm (f i) m) n + sm (f n) m = sm (fun j => sm (fun i => f i j) n + f n j) m
    rw [sm_swap (n := n), sm_add]
theorem lp_sum {body : Int32 × Int32 → Option ((Int32 × Int32) ⊕ (Int32 × Int32))} (f : Nat → Nat) {n : Nat} (hn : n < 4999) {a : Nat} (hs : ∀ i x, i < n → body (nI x, nI i) = some (.inl (nI (x + f i), nI (i + 1)))) (hx : ∀ x, body (nI x, nI n) = some (.inr (nI x, nI n))) : lp body lp_F (nI a, 0) = some (nI (a + sm f n), nI n) :=
  lp_run (fun i => (nI (a + sm f i), nI i)) (n := n) (fun i hi => (hs i _ hi).trans (by rw [Nat.add_assoc]; rfl)) (hx _) (lpF hn)
/-- the class's chip at P -/
def VC (M : am_M) (P n m w O : Nat) (C : Nat → Nat → Nat) (K : Nat → Nat) : Prop :=
  (M P 0 = nI n ∧ M P 1 = nI m ∧ M P 2 = nI w ∧ M P 3 = nI O) ∧ (∀ c t, c < n → t < m → M (P + 1) (8 * c + t) = nI (C c t)) ∧ (∀ c, c < n → M (P + 3) c = nI (K c))
/-- the reference's -/
def VR (M : am_M) (n m w O : Nat) (C : Nat → Nat → Nat) (K : Nat → Nat) : Prop :=
  (M 44 0 = nI n ∧ M 44 1 = nI m ∧ M 44 2 = nI w ∧ M 44 3 = nI O) ∧ (∀ c t, c < n → t < m → M 44 (7 + 8 * c + t) = nI (C c t)) ∧ (∀ c, c < n → M 44 (135 + c) = nI (K c))
def VB (n m w O : Nat) (C : Nat → Nat → Nat) (K : Nat → Nat) : Prop :=
  (n ≤ 8 ∧ m ≤ 8 ∧ w ≤ 8) ∧ O < 2 ^ n ∧ (∀ c t, c < n → t < m → C c t ≤ 2) ∧ (∀ c, c < n → K c < 2 ^ w)
theorem cv3_tn {x : Int32} (h : cv3 x) : tn x ≤ 2 := by
  rcases h with h | h | h <;> subst h <;> decide
theorem bit_tn {x : Int32} {k : Nat} (hk : k ≤ 32) (h : bit x k) : tn x < 2 ^ k := by
  obtain ⟨a, ha, rfl⟩ := h
  rw [tn_nI (Nat.lt_of_lt_of_le ha (Nat.pow_le_pow_right (by omega) hk))]
  exact ha
/-- any chip of the class and its row -/
theorem cr_V {M : am_M} {P q o n m w : Nat} (h : cr M P q o n m w) : ∃ O C K, VB n m w O C K ∧ VC M P n m w O C K ∧ (M q (o + 0) = nI n ∧ M q (o + 1) = nI m ∧ M q (o + 2) = nI w ∧ M q (o + 3) = nI O) ∧ (∀ c t, c < n → t < m → M q (o + (7 + 8 * c + t)) = nI (C c t)) ∧ (∀ c, c < n → M q (o + (135 + c)) = nI (K c)) := by
  obtain ⟨⟨hn, hm, hw⟩, ⟨p0, p1, p2⟩, ⟨q0, q1, q2⟩, ⟨q3, q4, q5, q6⟩, ⟨b3, -, b6⟩, hcell, hwant, hcol, hsus⟩ := h
  refine ⟨tn (M P 3), fun c t => tn (M (P + 1) (8 * c + t)), fun c => tn (M (P + 3) c), ⟨⟨hn, hm, hw⟩, bit_tn (by omega) b3, fun c t hc ht => cv3_tn (hcell c t hc ht).2, fun c hc => bit_tn (by omega) (hcol c hc).2⟩, ⟨⟨p0, p1, p2, tn_n _⟩, fun c t hc ht => tn_n _, fun c hc => tn_n _⟩, ⟨q0, q1, q2, q3.trans (tn_n _)⟩, fun c t hc ht => ((hcell c t hc ht).1).trans (tn_n _), fun c hc => ((hcol c hc).1).trans (tn_n _)⟩
theorem rel_V {M : am_M} (h : Rel M) : ∃ n m w O C K, VB n m w O C K ∧ VC M 9 n m w O C K ∧ VR M n m w O C K := by
  obtain ⟨n, m, w, hc⟩ := h.1
  obtain ⟨O, C, K, h1, h2, h3, h4, h5⟩ := cr_V hc
  refine ⟨n, m, w, O, C, K, h1, h2, ?_⟩
  simp only [Nat.zero_add] at h3 h4 h5
  exact ⟨h3, h4, h5⟩
/-- cells that have so much -/
def cwN (n m : Nat) (p : Nat → Nat → Bool) : Nat := sm (fun i => sm (fun j => if p i j = true then 1 else 0) m) n
theorem cells_c {M : am_M} {n m w O C K} (hB : VB n m w O C K) (hV : VC M 9 n m w O C K) (a : Int32) : f_X0_cellsWith_9 a M = some (nI (cwN n m (fun i j => decide (nI (C i j) = a)))) := by
  obtain ⟨⟨hn, hm, hw⟩, -, -, -⟩ := hB
  obtain ⟨⟨p0, p1, p2, p3⟩, hC, hK⟩ := hV
  unfold f_X0_cellsWith_9
  refine Option.bind_eq_some_iff.mpr ⟨_, lp_sum (a := 0) (fun i => sm (fun j => if decide (nI (C i j) = a) = true then 1 else 0) m) (n := n) (by omega) ?_ ?_, by simp only [Nat.zero_add]; rfl⟩
  · intro i x hi
    dsimp only
    rw [p0, if_neg (nle_n hi (by omega))]
    refine Option.bind_eq_some_iff.mpr ⟨_, lp_sum (fun j => if decide (nI (C i j) = a) = true then 1 else 0) (n := m) (by omega) ?_ ?_, by rw [nI_s]⟩
    · intro j y hj
      dsimp only
      rw [p1, if_neg (nle_n hj (by omega)), a_at, if_pos (db_ok (by omega) (by omega)), nI_clamp (by omega), hC i j hi hj, nI_s, nI_s]
      by_cases e : nI (C i j) = a
      · simp [e]
      · simp [e]
    · intro y
      dsimp only
      rw [p1, if_pos (nle_y (by omega) (by omega))]
  · intro x
    dsimp only
    rw [p0, if_pos (nle_y (by omega) (by omega))]
theorem cell_of {M : am_M} {n m w O C K} (hB : VB n m w O C K) (hV : VR M n m w O C K) {i j : Nat} (hi : i < n) (hj : j < m) : f_X8_cellOf_43 (nI i) (nI j) M = some (nI (C i j)) := by
  obtain ⟨⟨hn, hm, hw⟩, -, -, -⟩ := hB
  unfold f_X8_cellOf_43
  rw [a_7, if_pos (db_ok (by omega) (by omega)), nI_clamp (by omega), hV.2.1 i j hi hj]
theorem cells_r {M : am_M} {n m w O C K} (hB : VB n m w O C K) (hV : VR M n m w O C K) (a : Int32) : f_X8_cellsOf_43 a M = some (nI (cwN n m (fun i j => decide (nI (C i j) = a)))) := by
  have hB' := hB
  have hV' := hV
  obtain ⟨⟨hn, hm, hw⟩, -, -, -⟩ := hB
  obtain ⟨⟨p0, p1, p2, p3⟩, hC, hK⟩ := hV
  unfold f_X8_cellsOf_43
  rw [clamp0, clamp1]
  refine Option.bind_eq_some_iff.mpr ⟨_, lp_sum (a := 0) (fun i => sm (fun j => if decide (nI (C i j) = a) = true then 1 else 0) m) (n := n) (by omega) ?_ ?_, by simp only [Nat.zero_add]; rfl⟩
  · intro i x hi
    dsimp only
    rw [p0, if_neg (nle_n hi (by omega))]
    refine Option.bind_eq_some_iff.mpr ⟨_, lp_sum (fun j => if decide (nI (C i j) = a) = true then 1 else 0) (n := m) (by omega) ?_ ?_, by rw [nI_s]⟩
    · intro j y hj
      dsimp only
      rw [p1, if_neg (nle_n hj (by omega)), cell_of hB' hV' hi hj, nI_s]
      simp only [Option.bind_some, bl, flag_if, add_if, decide_eq_true_eq]
    · intro y
      dsimp only
      rw [p1, if_pos (nle_y (by omega) (by omega))]
  · intro x
    dsimp only
    rw [p0, if_pos (nle_y (by omega) (by omega))]
