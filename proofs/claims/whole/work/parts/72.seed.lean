/-! SEED -/
theorem pr_w {v s W : Nat} (hv : v < 2 ^ 12) (hs : s < 2 ^ 12) (hW : W ≤ 1) : pr ((v ||| W * 4096) &&& (s ||| 4096)) = (pr (v &&& s) + W) % 2 := by
  have t12 : ∀ x, x < 2 ^ 12 → x.testBit 12 = false := fun x hx => Nat.testBit_lt_two_pow hx
  have es : s ||| 4096 = s ^^^ 2 ^ 12 := or_xr (j := 12) (t12 s hs)
  have h1 : ∀ x, x < 2 ^ 12 → pr (x &&& 2 ^ 12) = 0 := fun x hx => by rw [Nat.and_comm, pr_2 (by omega), tbN, t12 x hx]; rfl
  have hp := pr_1 (v &&& s)
  have : W = 0 ∨ W = 1 := by omega
  rcases this with rfl | rfl
  · rw [Nat.zero_mul, Nat.or_zero, es, pr_r, h1 v hv]
  · have ev : v ||| 1 * 4096 = v ^^^ 2 ^ 12 := or_xr (j := 12) (t12 v hv)
    rw [ev, es, pr_l, pr_r, pr_r, h1 v hv, Nat.and_comm (2 ^ 12) s, h1 s hs, pr_2 (by omega), show 2 ^ 12 / 2 ^ 12 % 2 = 1 from by decide]
    omega
/-- what is wanted at the cells before (t0, c0) -/
def PRW (T b n : Nat) (W : Nat → Nat → Nat) (t0 c0 s : Nat) : Prop := ∀ t c, c < n → (t < t0 ∨ (t = t0 ∧ c < c0)) → W c t ≠ 2 → pr (rF T b t (3 * c % b) &&& s) = W c t
def EQ (M0 M : am_M) (T b n : Nat) (W : Nat → Nat → Nat) (t0 c0 : Nat) : Prop := ∃ R f, (∀ i, i < 12 → M 29 i = nI (R i)) ∧ M 28 1 = nI (rk R) ∧ M 28 2 = nI f ∧ f ≤ 1 ∧ EC R ∧ (∀ i, i < 12 → sub (R i) ((2 ^ b - 1) ||| 4096)) ∧ (∀ s, s < 2 ^ b → ((Sol R (s ||| 4096) ∧ f = 0) ↔ PRW T b n W t0 c0 s)) ∧ ∀ x, x ≠ 26 → x ≠ 27 → x ≠ 28 → x ≠ 29 → M x = M0 x
theorem prw_s {T b n : Nat} {W : Nat → Nat → Nat} {t c s : Nat} (hc : c < n) : PRW T b n W t (c + 1) s ↔ PRW T b n W t c s ∧ (W c t ≠ 2 → pr (rF T b t (3 * c % b) &&& s) = W c t) := by
  constructor
  · intro h
    exact ⟨fun t' c' a b => h t' c' a (by omega), fun e => h t c hc (Or.inr ⟨rfl, by omega⟩) e⟩
  · rintro ⟨h1, h2⟩ t' c' a b e
    by_cases ec : t' = t ∧ c' = c
    · obtain ⟨rfl, rfl⟩ := ec
      exact h2 e
    · exact h1 t' c' a (by omega) e
theorem prw_n {T b n : Nat} {W : Nat → Nat → Nat} {t s : Nat} : PRW T b n W t n s ↔ PRW T b n W (t + 1) 0 s := by
  constructor
  · intro h t' c' a b e
    exact h t' c' a (by omega) e
  · intro h t' c' a b e
    exact h t' c' a (by omega) e
theorem sub_lt {x b : Nat} (h : x < 2 ^ b) : sub x ((2 ^ b - 1) ||| 4096) := by
  intro j hj
  have : j < b := by
    apply Decidable.byContradiction
    intro hn
    rw [Nat.testBit_lt_two_pow (Nat.lt_of_lt_of_le h (Nat.pow_le_pow_right (by omega) (by omega)))] at hj
    exact absurd hj (by decide)
  rw [Nat.testBit_or, Nat.testBit_two_pow_sub_one, decide_eq_true this]
  rfl
theorem sub_or {a b K : Nat} (h1 : sub a K) (h2 : sub b K) : sub (a ||| b) K := by
  intro j h
  rw [Nat.testBit_or, Bool.or_eq_true] at h
  exact h.elim (h1 j) (h2 j)
theorem eq_add {M0 M r : am_M} {T b n : Nat} {W : Nat → Nat → Nat} {t c : Nat} (hb2 : b ≤ 12) (hb1 : 1 ≤ b) (hc : c < n) (hW2 : W c t ≤ 1) (h : EQ M0 M T b n W t c) (hr : ∀ R, (∀ i, i < 12 → M 29 i = nI (R i)) → M 28 1 = nI (rk R) → EC R → ADD M r 28 29 (rF T b t (3 * c % b) ||| W c t * 4096) R) : EQ M0 r T b n W t (c + 1) := by
  obtain ⟨R, f, h1, h2, h3, h4, h5, h6, h7, h8⟩ := h
  obtain ⟨R', g1, g2, g3, g4, g5, g6⟩ := hr R h1 h2 h5
  have h12 : 2 ^ b ≤ 2 ^ 12 := Nat.pow_le_pow_right (by omega) hb2
  have hv := rF_lt (T := T) (b := b) t _ (Nat.mod_lt (3 * c) (show b > 0 by omega))
  have hsub : sub (rF T b t (3 * c % b) ||| W c t * 4096) ((2 ^ b - 1) ||| 4096) := by
    refine sub_or (sub_lt hv) ?_
    have : W c t = 0 ∨ W c t = 1 := by omega
    rcases this with e | e
    · rw [e, Nat.zero_mul]
      intro j hj
      rw [Nat.zero_testBit] at hj
      exact absurd hj (by decide)
    · rw [e, Nat.one_mul]
      intro j hj
      rw [Nat.testBit_or, hj, Bool.or_true]
  have hiff : ∀ s, s < 2 ^ b → (pr ((rF T b t (3 * c % b) ||| W c t * 4096) &&& (s ||| 4096)) = 0 ↔ pr (rF T b t (3 * c % b) &&& s) = W c t) := by
    intro s hs
    rw [pr_w (by omega) (by omega) hW2]
    have := pr_1 (rF T b t (3 * c % b) &&& s)
    omega
  have hw : W c t ≠ 2 := by omega
  have y12 : ∀ s, (s ||| 4096).testBit 12 = true := fun s => by
    rw [Nat.testBit_or, show (4096 : Nat) = 2 ^ 12 from rfl, Nat.testBit_two_pow]
    simp
  rcases g6 with ⟨k1, k2⟩ | ⟨k1, k2, -⟩
  · refine ⟨R', f, g2, g3, k1.trans h3, h4, g1, g5 _ hsub h6, fun s hs => ?_, fun x a b c d => by rw [g4 x c d, h8 x a b c d]⟩
    rw [prw_s hc, k2, ← h7 s hs, hiff s hs]
    constructor
    · rintro ⟨⟨a, b⟩, c⟩
      exact ⟨⟨a, c⟩, fun _ => b⟩
    · rintro ⟨⟨a, c⟩, b⟩
      exact ⟨⟨a, b hw⟩, c⟩
  · refine ⟨R', 1, g2, g3, k1, by omega, g1, g5 _ hsub h6, fun s hs => ?_, fun x a b c d => by rw [g4 x c d, h8 x a b c d]⟩
    rw [prw_s hc, ← h7 s hs]
    constructor
    · rintro ⟨-, a⟩
      exact absurd a (by decide)
    · rintro ⟨⟨a, c⟩, b⟩
      exfalso
      have := k2 _ (y12 s) a
      rw [(hiff s hs).mpr (b hw)] at this
      exact absurd this (by decide)
theorem fill_29 (a : Int32) (M : am_M) : ∃ r, f_J7_fill_53178_29 a M = some r ∧ ((∀ x, x ≠ 29 → r x = M x) ∧ ∀ i, i < 12 → r 29 i = a) := by
  unfold f_J7_fill_53178_29
  refine lp_bnd (fun r => r) (fun i s => ∃ M', s = (nI i, M') ∧ (∀ x, x ≠ 29 → M' x = M x) ∧ ∀ j, j < i → M' 29 j = a) (fun q => ∃ y M', q = (y, M') ∧ (∀ x, x ≠ 29 → M' x = M x) ∧ ∀ j, j < 12 → M' 29 j = a) (n := 12) (lpF (by omega)) ⟨_, rfl, fun x _ => rfl, fun j hj => by omega⟩ ?_ ?_ ?_
  · rintro i s hi ⟨M', rfl, h1, h2⟩
    dsimp only
    rw [if_neg (c := 12 ≤ nI i) (nle_n (n := 12) hi (by omega)), if_pos (db_ok hi (by omega)), nI_clamp (by omega), bl_s, nI_s]
    refine Or.inl ⟨_, rfl, _, rfl, fun x hx => by rw [am_up_ne hx, h1 x hx], fun j hj => ?_⟩
    by_cases e : j = i
    · subst e; rw [up_s]
    · rw [up_k (by omega), h2 j (by omega)]
  · rintro s ⟨M', rfl, h⟩
    dsimp only
    rw [if_pos (c := 12 ≤ nI 12) (by decide)]
    exact ⟨_, rfl, _, M', rfl, h⟩
  · rintro q ⟨y, M', rfl, h⟩
    exact ⟨_, rfl, h⟩
theorem fill_33 (a : Int32) (M : am_M) : ∃ r, f_J7_fill_53178_33 a M = some r ∧ ((∀ x, x ≠ 33 → r x = M x) ∧ ∀ i, i < 12 → r 33 i = a) := by
  unfold f_J7_fill_53178_33
  refine lp_bnd (fun r => r) (fun i s => ∃ M', s = (nI i, M') ∧ (∀ x, x ≠ 33 → M' x = M x) ∧ ∀ j, j < i → M' 33 j = a) (fun q => ∃ y M', q = (y, M') ∧ (∀ x, x ≠ 33 → M' x = M x) ∧ ∀ j, j < 12 → M' 33 j = a) (n := 12) (lpF (by omega)) ⟨_, rfl, fun x _ => rfl, fun j hj => by omega⟩ ?_ ?_ ?_
  · rintro i s hi ⟨M', rfl, h1, h2⟩
    dsimp only
    rw [if_neg (c := 12 ≤ nI i) (nle_n (n := 12) hi (by omega)), if_pos (db_ok hi (by omega)), nI_clamp (by omega), bl_s, nI_s]
    refine Or.inl ⟨_, rfl, _, rfl, fun x hx => by rw [am_up_ne hx, h1 x hx], fun j hj => ?_⟩
    by_cases e : j = i
    · subst e; rw [up_s]
    · rw [up_k (by omega), h2 j (by omega)]
  · rintro s ⟨M', rfl, h⟩
    dsimp only
    rw [if_pos (c := 12 ≤ nI 12) (by decide)]
    exact ⟨_, rfl, _, M', rfl, h⟩
  · rintro q ⟨y, M', rfl, h⟩
    exact ⟨_, rfl, h⟩
theorem rk_z : rk (fun _ => 0) = 0 := by
  unfold rk
  rw [show (fun i : Nat => if (fun _ : Nat => 0) i = 0 then 0 else 1) = (fun _ => 0) from by funext i; rfl, sm_0]
theorem ec_z : EC (fun _ => 0) := fun i _ => ⟨by show 0 < 2 ^ 13; omega, Or.inl rfl⟩
theorem sol_z (y : Nat) : Sol (fun _ => 0) y := fun i _ => by
  show pr (0 &&& y) = 0
  rw [Nat.zero_and, pr_0]
theorem wanted_c {M : am_M} {n m b T : Nat} {W : Nat → Nat → Nat} (hn : n ≤ 8) (hm : m ≤ 8) (hb1 : 1 ≤ b) (hb2 : b ≤ 12) (hT : T < 2 ^ b) (p0 : M 9 0 = nI n) (p1 : M 9 1 = nI m) (p4 : M 9 4 = nI b) (p5 : M 9 5 = nI T) (hW : ∀ c t, c < n → t < m → M 11 (8 * c + t) = nI (W c t) ∧ W c t ≤ 2) : ∃ r, f_X2_wantedOf_26_9 M = some r ∧ EQ M r T b n W m 0 := by
  unfold f_X2_wantedOf_26_9 f_X1_begin_28
  obtain ⟨r1, e1, a1, a2⟩ := fill_29 0 M
  rw [e1, Option.bind_some, bl_s, bl_s, Option.bind_some]
  have hx2 : ∀ x, x ≠ 28 → x ≠ 29 → am_up (am_up r1 28 1 0) 28 2 0 x = M x := fun x h1 h2 => by rw [am_up_ne h1, am_up_ne h1, a1 x h2]
  obtain ⟨r3, e3, c1, c2⟩ := reg_begin (M := am_up (am_up r1 28 1 0) 28 2 0) (T := T) hb1 hb2 (by rw [hx2 9 (by decide) (by decide)]; exact p4) (by rw [hx2 9 (by decide) (by decide)]; exact p5)
  rw [e3, Option.bind_some]
  have hE0 : EQ M r3 T b n W 0 0 := by
    refine ⟨fun _ => 0, 0, fun i hi => ?_, ?_, ?_, by omega, ec_z, fun i hi j hj => ?_, fun s hs => ?_, fun x h1 h2 h3 h4 => by rw [c2 x h1 h2, hx2 x h3 h4]⟩
    · rw [c2 29 (by decide) (by decide), up_p (by decide), up_p (by decide), a2 i hi]; rfl
    · rw [c2 28 (by decide) (by decide), up_k (by decide), up_s, rk_z]; rfl
    · rw [c2 28 (by decide) (by decide), up_s]; rfl
    · rw [Nat.zero_testBit] at hj
      exact absurd hj (by decide)
    · exact ⟨fun _ t c _ h => by omega, fun _ => ⟨sol_z _, rfl⟩⟩
  have hcell : ∀ M' : am_M, (∀ x, x ≠ 26 → x ≠ 27 → x ≠ 28 → x ≠ 29 → M' x = M x) → M' 9 = M 9 ∧ M' 11 = M 11 := fun M' h => ⟨h 9 (by decide) (by decide) (by decide) (by decide), h 11 (by decide) (by decide) (by decide) (by decide)⟩
  refine lp_bnd (fun r => r) (fun t s => ∃ M', s = (nI t, M') ∧ RG M' T b t ∧ EQ M M' T b n W t 0) (fun q => ∃ y M', q = (y, M') ∧ EQ M M' T b n W m 0) (n := m) (lpF (by omega)) ⟨r3, rfl, c1, hE0⟩ ?_ ?_ ?_
  · rintro t s ht ⟨M', rfl, g1, g2⟩
    have hfr := g2
    obtain ⟨-, -, -, -, -, -, -, -, -, hfr⟩ := hfr
    obtain ⟨f9, f11⟩ := hcell M' hfr
    dsimp only
    rw [if_neg (show ¬ M' 9 1 ≤ nI t by rw [f9, p1]; exact nle_n ht (by omega))]
    refine Or.inl (lp_bnd Sum.inl (fun c s => ∃ M2, s = (nI c, M2) ∧ RG M2 T b t ∧ EQ M M2 T b n W t c) (fun q => ∃ y M2, q = (y, M2) ∧ RG M2 T b t ∧ EQ M M2 T b n W t n) (n := n) (lpF (by omega)) ⟨M', rfl, g1, g2⟩ ?_ ?_ ?_)
    · rintro c s hc ⟨M2, rfl, k1, k2⟩
      have hfr := k2
      obtain ⟨-, -, -, -, -, -, -, -, -, hfr⟩ := hfr
      obtain ⟨f9, f11⟩ := hcell M2 hfr
      obtain ⟨w1, w2⟩ := hW c t hc ht
      have hv := rF_lt (T := T) (b := b) t _ (Nat.mod_lt (3 * c) (show b > 0 by omega))
      have h12 : 2 ^ b ≤ 2 ^ 12 := Nat.pow_le_pow_right (by omega) hb2
      have hM2 : M2 11 (8 * c + t) = nI (W c t) := by rw [f11, w1]
      dsimp only
      rw [if_neg (show ¬ M2 9 0 ≤ nI c by rw [f9, p0]; exact nle_n hc (by omega)), a_at, if_pos (db_ok (by omega) (by omega)), nI_clamp (by omega), bl_s, form_c hb1 hb2 (by omega) k1, Option.bind_some, Option.bind_some]
      have hx13 : ∀ u, u ≤ 1 → (rF T b t (3 * c % b) ||| u * 4096) < 2 ^ 13 := fun u hu => Nat.or_lt_two_pow (by omega) (by omega)
      have h3 : W c t = 2 ∨ W c t = 1 ∨ W c t = 0 := by omega
      have hfin : ∀ v : Int32, W c t ≤ 1 → v = nI (rF T b t (3 * c % b) ||| W c t * 4096) → (∃ s', ((f_X1_add_28 v M2).bind (fun q20 => (some (.inl ((nI c + 1), q20)))) : Option ((Int32 × am_M) ⊕ (Int32 × am_M))) = some (.inl s') ∧ ∃ M3, s' = (nI (c + 1), M3) ∧ RG M3 T b t ∧ EQ M M3 T b n W t (c + 1)) := by
        rintro v hw1 rfl
        have hk2 := k2
        obtain ⟨R, f, j1, j2, j3, j4, j5, -⟩ := hk2
        obtain ⟨r, er, hr⟩ := add_28 (M := M2) (hx13 _ hw1) j5 j1 j2
        have hr' := hr
        obtain ⟨R', -, -, -, i4, -⟩ := hr'
        rw [er, Option.bind_some, nI_s]
        refine ⟨_, rfl, r, rfl, ?_, eq_add hb2 hb1 hc hw1 k2 (fun R2 l1 l2 l3 => ?_)⟩
        · unfold RG
          rw [i4 26 (by decide) (by decide), i4 27 (by decide) (by decide)]
          exact k1
        · obtain ⟨r', er', hr'⟩ := add_28 (M := M2) (hx13 _ hw1) l3 l1 l2
          rw [er] at er'
          obtain rfl := Option.some.inj er'
          exact hr'
      rcases h3 with e | e | e
      · rw [if_pos (show M2 11 (8 * c + t) = 2 by rw [hM2, e]; rfl), nI_s]
        refine Or.inl ⟨_, rfl, M2, rfl, k1, ?_⟩
        obtain ⟨R, f, j1, j2, j3, j4, j5, j6, j7, j8⟩ := k2
        refine ⟨R, f, j1, j2, j3, j4, j5, j6, fun s hs => ?_, j8⟩
        rw [prw_s hc, j7 s hs]
        exact ⟨fun h => ⟨h, fun h2 => absurd e h2⟩, fun h => h.1⟩
      · rw [if_neg (show ¬ M2 11 (8 * c + t) = 2 by rw [hM2, e]; decide), if_pos (show M2 11 (8 * c + t) = 1 by rw [hM2, e]; rfl)]
        refine Or.inl (hfin _ (by omega) ?_)
        rw [e, show (4096 : Int32) = nI 4096 from rfl, n_or, Nat.one_mul]
      · rw [if_neg (show ¬ M2 11 (8 * c + t) = 2 by rw [hM2, e]; decide), if_neg (show ¬ M2 11 (8 * c + t) = 1 by rw [hM2, e]; decide)]
        refine Or.inl (hfin _ (by omega) ?_)
        rw [e, Nat.zero_mul, Nat.or_zero]
    · rintro s ⟨M2, rfl, k1, k2⟩
      have hfr := k2
      obtain ⟨-, -, -, -, -, -, -, -, -, hfr⟩ := hfr
      obtain ⟨f9, f11⟩ := hcell M2 hfr
      dsimp only
      rw [if_pos (show M2 9 0 ≤ nI n by rw [f9, p0]; exact nle_y (by omega) (by omega))]
      exact ⟨_, rfl, _, M2, rfl, k1, k2⟩
    · rintro q ⟨y, M2, rfl, k1, k2⟩
      obtain ⟨r, er, k3, k4⟩ := reg_move hb1 hb2 hT k1
      dsimp only
      rw [er, Option.bind_some, nI_s]
      refine ⟨_, rfl, r, rfl, k3, ?_⟩
      obtain ⟨R, f, j1, j2, j3, j4, j5, j6, j7, j8⟩ := k2
      refine ⟨R, f, fun i hi => by rw [k4 29 (by decide), j1 i hi], by rw [k4 28 (by decide), j2], by rw [k4 28 (by decide), j3], j4, j5, j6, fun s hs => (j7 s hs).trans prw_n, fun x h1 h2 h3 h4 => by rw [k4 x h2, j8 x h1 h2 h3 h4]⟩
  · rintro s ⟨M', rfl, g1, g2⟩
    have hfr := g2
    obtain ⟨-, -, -, -, -, -, -, -, -, hfr⟩ := hfr
    obtain ⟨f9, f11⟩ := hcell M' hfr
    dsimp only
    rw [if_pos (show M' 9 1 ≤ nI m by rw [f9, p1]; exact nle_y (by omega) (by omega))]
    exact ⟨_, rfl, _, M', rfl, g2⟩
  · rintro q ⟨y, M', rfl, g2⟩
    exact ⟨_, rfl, g2⟩
/-- the reference: a seed brings all -/
theorem brings_r {M : am_M} {n m b T : Nat} {W : Nat → Nat → Nat} (hn : n ≤ 8) (hm : m ≤ 8) (hb1 : 1 ≤ b) (hb2 : b ≤ 12) (hT : T < 2 ^ b) (q0 : M 44 0 = nI n) (q1 : M 44 1 = nI m) (q4 : M 44 4 = nI b) (q5 : M 44 5 = nI T) (hW : ∀ c t, c < n → t < m → M 44 (71 + 8 * c + t) = nI (W c t) ∧ W c t ≤ 2) {s : Nat} (hs : s < 2 ^ b) {p : Bool} (hp : p = true ↔ PRW T b n W m 0 s) : f_X8_bringsAll_43 (nI s) M = some (nI (b01 p)) := by
  have key : ∃ r, f_X8_bringsAll_43 (nI s) M = some r ∧ r = nI (b01 p) := by
    unfold f_X8_bringsAll_43
    have hr := reg_main hb1 hb2 hT hs
    refine lp_bnd (fun r => r) (fun t s' => s' = (nI (sT T b s t), nI t) ∧ PRW T b n W t 0 s) (fun q => (q = .inl 0 ∧ ¬ PRW T b n W m 0 s) ∨ (∃ y, q = .inr y ∧ PRW T b n W m 0 s)) (n := m) (lpF (by omega)) ⟨rfl, fun t c _ h => by omega⟩ ?_ ?_ ?_
    · rintro t s' ht ⟨rfl, h1⟩
      have step : ∀ c, c < n → PRW T b n W t c s → ∀ (A B : Option (Int32 ⊕ (Int32 ⊕ Int32))), ((if am_dbin (((71 : Int32) + ((8 : Int32) * nI c)) + nI t) 151 = true then (bl ((M 44 (((71 : Int32) + ((8 : Int32) * nI c)) + nI t).toNatClampNeg)) (fun (v14 : Int32) => (if v14 = 2 then A else ((f_X8_broughtBy_43 (nI (sT T b s t)) (nI c) M).bind (fun v16 => (if v14 = v16 then A else B)))))) else none) = A ∧ PRW T b n W t (c + 1) s) ∨ ((if am_dbin (((71 : Int32) + ((8 : Int32) * nI c)) + nI t) 151 = true then (bl ((M 44 (((71 : Int32) + ((8 : Int32) * nI c)) + nI t).toNatClampNeg)) (fun (v14 : Int32) => (if v14 = 2 then A else ((f_X8_broughtBy_43 (nI (sT T b s t)) (nI c) M).bind (fun v16 => (if v14 = v16 then A else B)))))) else none) = B ∧ ¬ PRW T b n W t (c + 1) s) := by
        intro c hc hP A B
        obtain ⟨w1, w2⟩ := hW c t hc ht
        have hbit := hr t (3 * c % b) (Nat.mod_lt _ (by omega))
        have hp1 := pr_1 (rF T b t (3 * c % b) &&& s)
        rw [a_71, if_pos (db_ok (by omega) (by omega)), nI_clamp (by omega), w1, bl_s, by_r hb1 hb2 q4 (sT_lt hb1 hs t) (by omega), Option.bind_some, hbit]
        by_cases e : W c t = 2
        · left
          rw [if_pos (by rw [e]; rfl)]
          exact ⟨rfl, (prw_s hc).mpr ⟨hP, fun h => absurd e h⟩⟩
        · rw [if_neg (c := nI (W c t) = 2) (nI_ne (b := 2) (by omega) (by omega) e)]
          by_cases e2 : W c t = pr (rF T b t (3 * c % b) &&& s)
          · left
            rw [if_pos (by rw [e2])]
            exact ⟨rfl, (prw_s hc).mpr ⟨hP, fun _ => e2.symm⟩⟩
          · right
            rw [if_neg (nI_ne (by omega) (by omega) e2)]
            exact ⟨rfl, fun h => e2 (((prw_s hc).mp h).2 e).symm⟩
      dsimp only
      rw [if_neg (show ¬ M 44 (1 : Int32).toNatClampNeg ≤ nI t by rw [clamp1, q1]; exact nle_n ht (by omega))]
      by_cases hP : PRW T b n W t n s
      · refine Or.inl (lp_bnd Sum.inl (fun c s'' => s'' = nI c ∧ PRW T b n W t c s) (fun q => ∃ y, q = .inr y) (n := n) (lpF (by omega)) ⟨rfl, h1⟩ ?_ ?_ ?_)
        · rintro c s'' hc ⟨rfl, h2⟩
          rw [if_neg (show ¬ M 44 (0 : Int32).toNatClampNeg ≤ nI c by rw [clamp0, q0]; exact nle_n hc (by omega)), nI_s]
          rcases step c hc h2 (some (Sum.inl (nI (c + 1)))) (some (Sum.inr (Sum.inl 0))) with ⟨e, h3⟩ | ⟨e, h3⟩
          · rw [e]
            exact Or.inl ⟨_, rfl, rfl, h3⟩
          · exfalso
            apply h3
            intro t' c' a b d
            exact hP t' c' a (by omega) d
        · rintro s'' ⟨rfl, h2⟩
          rw [if_pos (show M 44 (0 : Int32).toNatClampNeg ≤ nI n by rw [clamp0, q0]; exact nle_y (by omega) (by omega))]
          exact ⟨_, rfl, _, rfl⟩
        · rintro q ⟨y, rfl⟩
          dsimp only [Sum.elim_inr]
          rw [next_r (T := T) hb1 hb2 q4 q5 (sT_lt hb1 hs t), Option.bind_some, nI_s]
          exact ⟨_, rfl, rfl, prw_n.mp hP⟩
      · refine Or.inr (lp_bnd Sum.inr (fun c s'' => s'' = nI c ∧ PRW T b n W t c s) (fun q => q = .inl 0) (n := n) (lpF (by omega)) ⟨rfl, h1⟩ ?_ ?_ ?_)
        · rintro c s'' hc ⟨rfl, h2⟩
          rw [if_neg (show ¬ M 44 (0 : Int32).toNatClampNeg ≤ nI c by rw [clamp0, q0]; exact nle_n hc (by omega)), nI_s]
          rcases step c hc h2 (some (Sum.inl (nI (c + 1)))) (some (Sum.inr (Sum.inl 0))) with ⟨e, h3⟩ | ⟨e, h3⟩
          · rw [e]
            exact Or.inl ⟨_, rfl, rfl, h3⟩
          · rw [e]
            exact Or.inr ⟨_, rfl, rfl⟩
        · rintro s'' ⟨rfl, h2⟩
          exact absurd h2 hP
        · rintro q rfl
          exact ⟨_, rfl, Or.inl ⟨rfl, fun h => hP (fun t' c' a b d => h t' c' a (by omega) d)⟩⟩
    · rintro s' ⟨rfl, h1⟩
      dsimp only
      rw [if_pos (show M 44 (1 : Int32).toNatClampNeg ≤ nI m by rw [clamp1, q1]; exact nle_y (by omega) (by omega))]
      exact ⟨_, rfl, Or.inr ⟨_, rfl, h1⟩⟩
    · rintro q (⟨rfl, h⟩ | ⟨y, rfl, h⟩)
      · refine ⟨_, rfl, ?_⟩
        have : p = false := by
          cases p
          · rfl
          · exact absurd (hp.mp rfl) h
        rw [this]; rfl
      · refine ⟨_, rfl, ?_⟩
        rw [hp.mpr h]; rfl
  obtain ⟨r, h1, rfl⟩ := key
  exact h1
/-- the first seed found, below i -/
def lz (p : Nat → Bool) : Nat → Int32
  | 0 => -4
  | i + 1 => if p i = true ∧ sm (fun q => b01 (p q)) i = 0 then nI i else lz p i
theorem lz_none {p : Nat → Bool} : ∀ i, (∀ q, q < i → p q = false) → lz p i = -4 ∧ sm (fun q => b01 (p q)) i = 0
  | 0, _ => ⟨rfl, rfl⟩
  | i + 1, h => by
    obtain ⟨h1, h2⟩ := lz_none i (fun q hq => h q (by omega))
    have h3 := h i (by omega)
    refine ⟨?_, ?_⟩
    · show (if p i = true ∧ sm (fun q => b01 (p q)) i = 0 then nI i else lz p i) = -4
      rw [if_neg (fun e => by rw [h3] at e; exact absurd e.1 (by decide)), h1]
    · show sm (fun q => b01 (p q)) i + b01 (p i) = 0
      rw [h2, h3]; rfl
theorem lz_some {p : Nat → Bool} {l : Nat} (hl : p l = true) (h0 : ∀ q, q < l → p q = false) : ∀ k, lz p (l + 1 + k) = nI l ∧ 0 < sm (fun q => b01 (p q)) (l + 1 + k)
  | 0 => by
    obtain ⟨h1, h2⟩ := lz_none l h0
    refine ⟨?_, ?_⟩
    · show (if p l = true ∧ sm (fun q => b01 (p q)) l = 0 then nI l else lz p l) = nI l
      rw [if_pos ⟨hl, h2⟩]
    · show 0 < sm (fun q => b01 (p q)) l + b01 (p l)
      rw [hl]
      show 0 < _ + 1
      omega
  | k + 1 => by
    obtain ⟨h1, h2⟩ := lz_some hl h0 k
    refine ⟨?_, ?_⟩
    · show (if p (l + 1 + k) = true ∧ sm (fun q => b01 (p q)) (l + 1 + k) = 0 then nI (l + 1 + k) else lz p (l + 1 + k)) = nI l
      rw [if_neg (fun e => by omega), h1]
    · show 0 < sm (fun q => b01 (p q)) (l + 1 + k) + b01 (p (l + 1 + k))
      omega
theorem sol_q {R : Nat → Nat} {b u : Nat} (hb : b ≤ 12) (h0 : ∀ i, b ≤ i → i < 12 → R i = 0) : qT R 4096 b b u = true ↔ Sol R (u ||| 4096) := by
  rw [qT_iff b (Nat.le_refl b)]
  constructor
  · intro h i hi
    by_cases e : i < b
    · exact h i (by omega) e
    · rw [h0 i (by omega) hi, Nat.zero_and, pr_0]
  · intro h i _ hi
    exact h i (by omega)
theorem z4096 {j : Nat} (h : j < 12) : (4096 : Nat).testBit j = false := by
  rw [show (4096 : Nat) = 2 ^ 12 from rfl, Nat.testBit_two_pow, decide_eq_false (by omega)]
theorem clr_12 {L : Nat} (h : L < 2 ^ 12) : nI (L ||| 4096) &&& (-4097) = nI L := by
  rw [show (-4097 : Int32) = nI 4294963199 by decide, n_and]
  congr 1
  apply Nat.eq_of_testBit_eq
  intro i
  rw [Nat.testBit_and, Nat.testBit_or]
  by_cases e : i < 12
  · have h2 : ∀ i, i < 12 → (4294963199 : Nat).testBit i = true := by decide
    rw [z4096 e, h2 i e]
    simp
  · rw [Nat.testBit_lt_two_pow (Nat.lt_of_lt_of_le h (Nat.pow_le_pow_right (by omega) (by omega)))]
    by_cases e2 : i = 12
    · subst e2; decide
    · rw [show (4096 : Nat).testBit i = false by rw [show (4096 : Nat) = 2 ^ 12 from rfl, Nat.testBit_two_pow, decide_eq_false (by omega)]]
      rfl
theorem least_c {M : am_M} {R : Nat → Nat} (hA : ∀ i, i < 12 → M 29 i = nI (R i)) (hE : EC R) : f_X1_leastSolution_28 M = some (nI (lq R 4096 12 12)) := by
  unfold f_X1_leastSolution_28
  have hok := lq_ok (R := R) (z := 4096) (b := 12) (by omega) (fun i hi => (hE i hi).2) (fun j hj => z4096 hj)
  have h0 : ((4096 : Int32), (11 : Int32)) = (nI (lq R 4096 12 0 * 2 ^ (12 - 0) ||| 4096), nI 12 - nI (0 + 1)) := by
    show _ = (nI (0 * 2 ^ 12 ||| 4096), nI 12 - nI 1)
    rw [Nat.zero_mul, Nat.zero_or]
    decide
  refine Option.bind_eq_some_iff.mpr ⟨(nI (lq R 4096 12 12 * 2 ^ (12 - 12) ||| 4096), nI 12 - nI (12 + 1)), ?_, ?_⟩
  · rw [h0]
    refine lp_run (fun k => (nI (lq R 4096 12 k * 2 ^ (12 - k) ||| 4096), nI 12 - nI (k + 1))) (n := 12) ?_ ?_ (lpF (by omega))
    · intro k hk
      obtain ⟨-, k2, -⟩ := hok k (by omega)
      dsimp only
      have e1 : nI 12 - nI (k + 1) = nI (11 - k) := by
        rw [pk_sub (by omega)]
        congr 1
        omega
      have e2 : ∀ k, k < 12 → nI (11 - k) + (-1) = nI 12 - nI (k + 1 + 1) := by decide
      have hu : lq R 4096 12 k * 2 ^ (12 - k) < 2 ^ 12 := by
        have h3 : 2 ^ k * 2 ^ (12 - k) = 2 ^ 12 := by rw [← Nat.pow_add, show k + (12 - k) = 12 by omega]
        rw [← h3]
        exact Nat.mul_lt_mul_of_pos_right k2 (Nat.pow_pos (by omega))
      have hlu : (lq R 4096 12 k * 2 ^ (12 - k) ||| 4096) < 2 ^ 13 := Nat.or_lt_two_pow (by omega) (by omega)
      have hand : (R (11 - k) &&& (lq R 4096 12 k * 2 ^ (12 - k) ||| 4096)) < 2 ^ 17 := Nat.lt_of_le_of_lt Nat.and_le_right (by omega)
      rw [e1, if_neg (nI_pos (by omega)), if_pos (db_ok (by omega) (by omega)), nI_clamp (by omega), hA _ (by omega), n_and, par_c hand, shl_1 (pr_1 _) (by omega), n_or, bl_s, e2 k hk]
      have hl : lq R 4096 12 (k + 1) = 2 * lq R 4096 12 k + pr (R (12 - 1 - k) &&& (lq R 4096 12 k * 2 ^ (12 - k) ||| 4096)) := rfl
      rw [show 12 - 1 - k = 11 - k by omega] at hl
      have hp := pr_1 (R (11 - k) &&& (lq R 4096 12 k * 2 ^ (12 - k) ||| 4096))
      have e3 : lq R 4096 12 (k + 1) * 2 ^ (12 - (k + 1)) ||| 4096 = (lq R 4096 12 k * 2 ^ (12 - k) ||| 4096) ||| pr (R (11 - k) &&& (lq R 4096 12 k * 2 ^ (12 - k) ||| 4096)) * 2 ^ (11 - k) := by
        rw [hl, show 12 - (k + 1) = 11 - k by omega]
        have h2' : pr (R (11 - k) &&& (lq R 4096 12 k * 2 ^ (12 - k) ||| 4096)) = 0 ∨ pr (R (11 - k) &&& (lq R 4096 12 k * 2 ^ (12 - k) ||| 4096)) = 1 := by omega
        rcases h2' with h | h
        · rw [h, Nat.add_zero, Nat.zero_mul, Nat.or_zero, even_j, show 11 - k + 1 = 12 - k by omega]
        · rw [h, odd_j, show 11 - k + 1 = 12 - k by omega, Nat.one_mul, or_sw]
      rw [e3]
    · dsimp only
      rw [if_pos (c := nI 12 - nI (12 + 1) < 0) (by decide)]
  · dsimp only
    obtain ⟨-, k2, -⟩ := hok 12 (by omega)
    rw [show 12 - 12 = 0 from rfl, Nat.pow_zero, Nat.mul_one, clr_12 k2]
theorem op_seed (a0 : Int32) {M : am_M} (h : Rel M) : ∃ v M1, f_X7_seed_0 a0 M = some (v, M1) ∧ f_X8_seed_43 a0 M1 = some v ∧ Rel M1 := by
  obtain ⟨n, m, w, b, hch⟩ := chp_iff.mp h.1
  obtain ⟨⟨hn, hm, hw, hb1, hb2⟩, ⟨p0, p1, p2, p4⟩, ⟨q0, q1, q2, q3, q4, q5, q6⟩, ⟨b3, ⟨T, hT, e5⟩, b6⟩, hcell, hwant, hcol, hsus⟩ := hch
  have h12 : 2 ^ b ≤ 2 ^ 12 := Nat.pow_le_pow_right (by omega) hb2
  have hpos : 0 < 2 ^ b := Nat.pow_pos (by omega)
  by_cases hx : 0 ≤ a0 ∧ a0 ≤ 1
  · obtain ⟨r, er, R, f, j1, j2, j3, j4, j5, j6, j7, j8⟩ := wanted_c (W := fun c t => tn (M 11 (8 * c + t))) hn hm hb1 hb2 hT p0 p1 p4 e5 (fun c t hc ht => ⟨tn_n _, cv3_tn (hwant c t hc ht).2⟩)
    have hR1 : Rel r := rel_26 h j8
    have e44 : r 44 = M 44 := j8 44 (by decide) (by decide) (by decide) (by decide)
    have hR0 : ∀ i, b ≤ i → i < 12 → R i = 0 := by
      intro i h1 h2
      apply Decidable.byContradiction
      intro hne
      obtain ⟨t1, -⟩ := (j5 i h2).2.resolve_left hne
      have := j6 i h2 i t1
      rw [Nat.testBit_or, Nat.testBit_two_pow_sub_one, decide_eq_false (by omega), z4096 h2] at this
      exact absurd this (by decide)
    obtain ⟨hrk, hcT⟩ := cT_rk (R := R) (z := 4096) hb2 j5 hR0 (fun j hj => z4096 (by omega))
    have hp : ∀ s, s < 2 ^ b → ((decide (f = 0) && qT R 4096 b b s) = true ↔ PRW T b n (fun c t => tn (M 11 (8 * c + t))) m 0 s) := by
      intro s hs
      rw [Bool.and_eq_true, decide_eq_true_eq, sol_q hb2 hR0, ← j7 s hs]
      exact And.comm
    have hbr : ∀ s, s < 2 ^ b → f_X8_bringsAll_43 (nI s) r = some (nI (b01 (decide (f = 0) && qT R 4096 b b s))) := fun s hs => brings_r hn hm hb1 hb2 hT (by rw [e44]; exact q0) (by rw [e44]; exact q1) (by rw [e44]; exact q4) (by rw [e44, q5]; exact e5) (fun c t hc ht => ⟨by rw [e44, (hwant c t hc ht).1]; exact tn_n _, cv3_tn (hwant c t hc ht).2⟩) hs (hp s hs)
    have hsh : (1 : Int32) <<< (nI b &&& 31) = nI (1 * 2 ^ b) := shl_1 (v := 1) (by omega) (by omega)
    rw [Nat.one_mul] at hsh
    generalize hpp : (fun s => decide (f = 0) && qT R 4096 b b s) = p at *
    have hpe : ∀ s, (decide (f = 0) && qT R 4096 b b s) = p s := fun s => by rw [← hpp]
    have hcnt : ∀ i, sm (fun q => b01 (p q)) i ≤ i * 1 := fun i => sm_le (fun _ _ => b01_1 _)
    have hloop : ∀ k2 : Int32 × Int32 × Int32 → Option Int32, ((lp (σ := Int32 × Int32 × Int32) (ρ := Int32 × Int32 × Int32) (fun (s3 : Int32 × Int32 × Int32) => match s3 with | (x4, x5, x6) => (if ((1 : Int32) <<< ((r 44 (4 : Int32).toNatClampNeg) &&& 31)) ≤ x6 then (some (.inr (x4, x5, x6))) else ((f_X8_bringsAll_43 x6 r).bind (fun v9 => (if v9 = 0 then (some (.inl (x4, x5, (x6 + 1)))) else (if x5 = 0 then (some (.inl (x6, (x5 + 1), (x6 + 1)))) else (some (.inl (x4, (x5 + 1), (x6 + 1)))))))))) lp_F ((-4), 0, 0)).bind k2) = k2 (lz p (2 ^ b), nI (sm (fun q => b01 (p q)) (2 ^ b)), nI (2 ^ b)) := by
      intro k2
      have hl := lp_run (body := (fun (s3 : Int32 × Int32 × Int32) => match s3 with | (x4, x5, x6) => (if ((1 : Int32) <<< ((r 44 (4 : Int32).toNatClampNeg) &&& 31)) ≤ x6 then (some (.inr (x4, x5, x6))) else ((f_X8_bringsAll_43 x6 r).bind (fun v9 => (if v9 = 0 then (some (.inl (x4, x5, (x6 + 1)))) else (if x5 = 0 then (some (.inl (x6, (x5 + 1), (x6 + 1)))) else (some (.inl (x4, (x5 + 1), (x6 + 1))))))))))) (fun i => (lz p i, nI (sm (fun q => b01 (p q)) i), nI i)) (n := 2 ^ b) (q := (lz p (2 ^ b), nI (sm (fun q => b01 (p q)) (2 ^ b)), nI (2 ^ b))) ?_ ?_ (F := lp_F) (lpF (by omega))
      · have : ((-4 : Int32), (0 : Int32), (0 : Int32)) = (lz p 0, nI (sm (fun q => b01 (p q)) 0), nI 0) := rfl
        rw [this, hl, Option.bind_some]
      · intro i hi
        dsimp only
        rw [clamp4, e44, q4, hsh, if_neg (nle_n hi (by omega)), hbr i hi, Option.bind_some, hpe, nI_s, nI_s]
        have hc := hcnt i
        show _ = some (Sum.inl (if p i = true ∧ sm (fun q => b01 (p q)) i = 0 then nI i else lz p i, nI (sm (fun q => b01 (p q)) i + b01 (p i)), nI (i + 1)))
        cases hpi : p i with
        | false =>
          rw [if_pos (c := nI (b01 false) = 0) rfl, if_neg (fun e => absurd e.1 (by decide))]
          rfl
        | true =>
          rw [if_neg (c := nI (b01 true) = 0) (by decide)]
          by_cases e : sm (fun q => b01 (p q)) i = 0
          · rw [if_pos (by rw [e]; rfl), if_pos ⟨rfl, e⟩]; rfl
          · rw [if_neg (c := nI (sm (fun q => b01 (p q)) i) = 0) (nI_ne (b := 0) (by omega) (by omega) e), if_neg (fun e' => e e'.2)]; rfl
      · dsimp only
        rw [clamp4, e44, q4, hsh, if_pos (nle_y (by omega) (by omega))]
    have hD : f_X8_seed_43 a0 r = (if a0 = 0 then (some (lz p (2 ^ b))) else (if nI (sm (fun q => b01 (p q)) (2 ^ b)) = 0 then (some (lz p (2 ^ b))) else ((lp (σ := Int32) (ρ := Int32) (fun x19 => (if nI (sm (fun q => b01 (p q)) (2 ^ b)) ≤ ((1 : Int32) <<< (x19 &&& 31)) then (some (.inr x19)) else (some (.inl (x19 + 1))))) lp_F 0).bind (fun x22 => (some x22))))) := by
      unfold f_X8_seed_43
      rw [part_r, if_pos hx, Option.bind_some, if_neg (c := (1 : Int32) = 0) (by decide), hloop]
    have hC : f_X7_seed_0 a0 M = (if nI f = 0 then (if a0 = 0 then ((f_X1_leastSolution_28 r).bind (fun v6 => (some (v6, r)))) else (some (((r 9 4) - (r 28 1)), r))) else (some ((-4), r))) := by
      unfold f_X7_seed_0
      rw [if_neg (Int32.not_lt.mpr hx.1), if_pos hx.2, er, Option.bind_some, j3]
    suffices hS : ∃ v, (if nI f = 0 then (if a0 = 0 then ((f_X1_leastSolution_28 r).bind (fun v6 => (some (v6, r)))) else (some (((r 9 4) - (r 28 1)), r))) else (some ((-4), r))) = some (v, r) ∧ (if a0 = 0 then (some (lz p (2 ^ b))) else (if nI (sm (fun q => b01 (p q)) (2 ^ b)) = 0 then (some (lz p (2 ^ b))) else ((lp (σ := Int32) (ρ := Int32) (fun x19 => (if nI (sm (fun q => b01 (p q)) (2 ^ b)) ≤ ((1 : Int32) <<< (x19 &&& 31)) then (some (.inr x19)) else (some (.inl (x19 + 1))))) lp_F 0).bind (fun x22 => (some x22))))) = some v by
      obtain ⟨v, s1, s2⟩ := hS
      exact ⟨v, r, hC.trans s1, hD.trans s2, hR1⟩
    by_cases hf : f = 0
    · subst hf
      have hpq : ∀ s, p s = qT R 4096 b b s := fun s => by rw [← hpe]; simp
      have hN : sm (fun q => b01 (p q)) (2 ^ b) = 2 ^ (b - rk R) := by
        rw [← hcT]
        unfold cT
        exact sm_cong (fun q _ => by rw [hpq, Nat.sub_self, Nat.pow_zero, Nat.mul_one])
      have hNp : 0 < 2 ^ (b - rk R) := Nat.pow_pos (by omega)
      have hNle : 2 ^ (b - rk R) ≤ 2 ^ 12 := Nat.pow_le_pow_right (by omega) (by omega)
      obtain ⟨k1, k2, k3⟩ := lq_ok (R := R) (z := 4096) (b := 12) (by omega) (fun i hi => (j5 i hi).2) (fun j hj => z4096 hj) 12 (Nat.le_refl 12)
      rw [Nat.sub_self, Nat.pow_zero, Nat.mul_one] at k1
      have hq12 : ∀ u, qT R 4096 12 12 u = qT R 4096 b b u := fun u => by
        rw [Bool.eq_iff_iff, sol_q (Nat.le_refl 12) (fun i h1 h2 => by omega), sol_q hb2 hR0]
      have hleast : ∀ q, p q = true → lq R 4096 12 12 ≤ q := fun q hq => k3 q (by rw [Nat.sub_self, Nat.pow_zero, Nat.mul_one, hq12, ← hpq]; exact hq)
      have hpl : p (lq R 4096 12 12) = true := by rw [hpq, ← hq12]; exact k1
      have hlt : lq R 4096 12 12 < 2 ^ b := by
        apply Decidable.byContradiction
        intro hn'
        obtain ⟨-, z⟩ := lz_none (p := p) (2 ^ b) (fun q hq => by
          cases hpq' : p q with
          | false => rfl
          | true => have := hleast q hpq'; omega)
        omega
      have hlz := (lz_some hpl (fun q hq => by
          cases hpq' : p q with
          | false => rfl
          | true => have := hleast q hpq'; omega) (2 ^ b - (lq R 4096 12 12 + 1))).1
      rw [show lq R 4096 12 12 + 1 + (2 ^ b - (lq R 4096 12 12 + 1)) = 2 ^ b by omega] at hlz
      rw [if_pos (c := nI 0 = 0) rfl]
      rcases two01 hx with e | e
      · subst e
        rw [if_pos (c := (0 : Int32) = 0) rfl, if_pos (c := (0 : Int32) = 0) rfl, least_c j1 j5, Option.bind_some]
        exact ⟨_, rfl, by rw [hlz]⟩
      · subst e
        rw [if_neg (c := (1 : Int32) = 0) (by decide), if_neg (c := (1 : Int32) = 0) (by decide), hN, if_neg (c := nI (2 ^ (b - rk R)) = 0) (nI_ne (b := 0) (by omega) (by omega) (by omega))]
        refine ⟨nI (b - rk R), ?_, Option.bind_eq_some_iff.mpr ⟨nI (b - rk R), lp_run (fun i => nI i) (n := b - rk R) ?_ ?_ (lpF (by omega)), rfl⟩⟩
        · rw [j8 9 (by decide) (by decide) (by decide) (by decide), p4, j2, pk_sub hrk]
        · intro i hi
          have hs1 : (1 : Int32) <<< (nI i &&& 31) = nI (1 * 2 ^ i) := shl_1 (v := 1) (by omega) (by omega)
          have hlt2 : 2 ^ i < 2 ^ (b - rk R) := Nat.pow_lt_pow_right (by omega) hi
          rw [hs1, if_neg (fun q => by
            have := (ni_le (by omega) (by omega)).mp q
            omega), nI_s]
        · have hs1 : (1 : Int32) <<< (nI (b - rk R) &&& 31) = nI (1 * 2 ^ (b - rk R)) := shl_1 (v := 1) (by omega) (by omega)
          rw [hs1, if_pos ((ni_le (by omega) (by omega)).mpr (by omega))]
    · have hp0 : ∀ q, p q = false := fun q => by rw [← hpe, decide_eq_false hf]; rfl
      obtain ⟨z1, z2⟩ := lz_none (p := p) (2 ^ b) (fun q _ => hp0 q)
      rw [if_neg (c := nI f = 0) (nI_ne (b := 0) (by omega) (by omega) hf), z1, z2]
      refine ⟨-4, rfl, ?_⟩
      by_cases e : a0 = 0
      · rw [if_pos e]
      · rw [if_neg e, if_pos (c := nI 0 = 0) rfl]
  · refine ⟨-1, M, ?_, ?_, h⟩
    · unfold f_X7_seed_0
      by_cases c1 : a0 < 0
      · rw [if_pos c1]
      · rw [if_neg c1, if_neg (fun c2 => hx ⟨Int32.not_lt.mp c1, c2⟩)]
    · unfold f_X8_seed_43
      rw [part_r, if_neg hx, Option.bind_some, if_pos (c := (0 : Int32) = 0) rfl]
