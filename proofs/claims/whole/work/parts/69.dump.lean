/-! CLEAR -/
theorem op_clear (a0 : Int32) {M : am_M} (h : Rel M) : ∃ v M1 M2, f_X7_clear_0 a0 M = some (v, M1) ∧ f_X8_clear_43 a0 M1 = some (v, M2) ∧ Rel M2 := by
  obtain ⟨n, m, w, b, hch⟩ := chp_iff.mp h.1
  have hch0 := hch
  obtain ⟨⟨hn, hm, hw, hb1, hb2⟩, ⟨p0, p1, p2, p4⟩, ⟨q0, q1, q2, q3, q4, q5, q6⟩, ⟨b3, b5, b6⟩, hcell, hwant, hcol, hsus⟩ := hch
  unfold f_X7_clear_0 f_X8_clear_43 f_X0_allSuspicions_9
  rw [p1, (sus_eq m (by omega)).1, clamp1]
  rcases chain_c hn p0 a0 with ⟨e, k, hk, rfl⟩ | ⟨e, hno⟩
  · obtain ⟨a, ha, ea⟩ := (hsus k hk).2
    have hv : bit (f_X8_allSuspects (nI m)) 17 := ⟨_, (sus_eq m (by omega)).2, nI_self _⟩
    refine ⟨nI (cntN a 20), am_up M 13 k (f_X8_allSuspects (nI m)), am_up (am_up M 13 k (f_X8_allSuspects (nI m))) 44 (143 + k) (f_X8_allSuspects (nI m)), ?_, ?_, rel_upd (by omega) h ⟨n, m, w, b, chp_sus hk hv hch0⟩⟩
    · rw [e, if_neg (by decide)]
      unfold f_X7_exchange_13
      rw [if_pos (db_ok (by omega) (by omega)), if_pos (db_ok (by omega) (by omega)), nI_clamp (by omega)]
      rw [bl_s, Option.bind_some, ea, bc_17 ha]
    · rw [chain_r hn (by rw [up_p (by decide)]; exact q0), if_pos ⟨k, hk, rfl⟩, Option.bind_some, if_neg (by decide), up_p (by decide), q1, a_143]
      unfold f_X8_becomes_43
      rw [if_pos (db_ok (by omega) (by omega)), if_pos (db_ok (by omega) (by omega)), nI_clamp (by omega), up_p (by decide), (hsus k hk).1]
      rw [bl_s, Option.bind_some, ea, bits_ok (by omega)]
      rfl
  · refine ⟨-1, M, M, ?_, ?_, h⟩
    · rw [e, if_pos rfl]
    · rw [chain_r hn q0, if_neg hno, Option.bind_some, if_pos rfl]
/-! DUMP -/
def mdB (x : Nat → Nat) (d t s : Nat) : Nat → Bool
  | 0 => true
  | j + 1 => mdB x d t s j && (if t ≤ j then decide (s = d / 2 ^ j % 2) else (decide (x j = 2) || decide (x j = d / 2 ^ j % 2)))
theorem mdB_no {x : Nat → Nat} {d t s j : Nat} (h : mdB x d t s j = false) : ∀ k, mdB x d t s (j + k) = false
  | 0 => h
  | k + 1 => by
    show (mdB x d t s (j + k) && _) = false
    rw [mdB_no h k]
    rfl
theorem bt {d j : Nat} (hd : d < 2 ^ 31) (hj : j < 32) : (nI d >>> (nI j &&& 31)) &&& 1 = nI (d / 2 ^ j % 2) := by
  rw [n_shr hd hj, n_and1 (Nat.lt_of_le_of_lt (Nat.div_le_self _ _) (by omega))]
def b01 (b : Bool) : Nat := if b = true then 1 else 0
theorem may_c {M : am_M} {n m w O C K} (hB : VB n m w O C K) (hV : VC M 9 n m w O C K) {c d t s : Nat} (hc : c < n) (hd : d < 256) (hs : s ≤ 1) (ht : t ≤ m) : f_X0_mayDump_9 (nI c) (nI d) (nI t) (nI s) M = some (nI (b01 (mdB (C c) d t s m))) := by
  have hn := hB.1.1
  have hm := hB.1.2.1
  have key : ∃ r, f_X0_mayDump_9 (nI c) (nI d) (nI t) (nI s) M = some r ∧ r = nI (b01 (mdB (C c) d t s m)) := by
    unfold f_X0_mayDump_9
    rw [hV.1.2.1]
    refine lp_bnd (fun r => r) (fun i s' => s' = nI i ∧ mdB (C c) d t s i = true) (fun q => (q = .inl 0 ∧ mdB (C c) d t s m = false) ∨ (∃ y, q = .inr y ∧ mdB (C c) d t s m = true)) (n := m) (lpF (by omega)) ⟨rfl, rfl⟩ ?_ ?_ ?_
    · rintro j s' hj ⟨rfl, h1⟩
      have hx := hB.2.2.1 c j hc hj
      have hbit : d / 2 ^ j % 2 ≤ 1 := by omega
      have hms : mdB (C c) d t s (j + 1) = (mdB (C c) d t s j && (if t ≤ j then decide (s = d / 2 ^ j % 2) else (decide (C c j = 2) || decide (C c j = d / 2 ^ j % 2)))) := rfl
      have hno : mdB (C c) d t s (j + 1) = false → mdB (C c) d t s m = false := fun h => by
        have := mdB_no h (m - (j + 1))
        rwa [show j + 1 + (m - (j + 1)) = m by omega] at this
      rw [if_neg (nle_n hj (by omega)), bl_s, bt (by omega) (by omega), nI_s]
      by_cases c1 : t ≤ j
      · rw [if_pos (c := nI t ≤ nI j) ((ni_le (by omega) (by omega)).mpr c1)]
        dsimp only
        rw [if_neg (c := nI s = 2) (nI_ne (b := 2) (by omega) (by omega) (by omega))]
        rw [if_pos c1, h1] at hms
        by_cases c2 : s = d / 2 ^ j % 2
        · rw [if_pos (by rw [c2])]
          exact Or.inl ⟨_, rfl, rfl, by rw [hms]; simpa using c2⟩
        · rw [if_neg (nI_ne (by omega) (by omega) c2)]
          exact Or.inr ⟨_, rfl, Or.inl ⟨rfl, hno (by rw [hms]; simpa using c2)⟩⟩
      · rw [if_neg (c := nI t ≤ nI j) (fun q => c1 ((ni_le (by omega) (by omega)).mp q)), a_at, if_pos (db_ok (by omega) (by omega)), nI_clamp (by omega), hV.2.1 c j hc hj]
        dsimp only
        rw [if_neg c1, h1] at hms
        by_cases c3 : C c j = 2
        · rw [c3, if_pos (c := nI 2 = 2) rfl]
          exact Or.inl ⟨_, rfl, rfl, by rw [hms]; simp [c3]⟩
        · rw [if_neg (c := nI (C c j) = 2) (nI_ne (b := 2) (by omega) (by omega) c3)]
          by_cases c2 : C c j = d / 2 ^ j % 2
          · rw [if_pos (by rw [c2])]
            exact Or.inl ⟨_, rfl, rfl, by rw [hms]; simp only [decide_eq_true c2, Bool.or_true, Bool.and_true]⟩
          · rw [if_neg (nI_ne (by omega) (by omega) c2)]
            exact Or.inr ⟨_, rfl, Or.inl ⟨rfl, hno (by rw [hms, decide_eq_false c3, decide_eq_false c2]; rfl)⟩⟩
    · rintro s' ⟨rfl, h1⟩
      rw [if_pos (nle_y (by omega) (by omega))]
      exact ⟨_, rfl, Or.inr ⟨_, rfl, h1⟩⟩
    · rintro q (⟨rfl, h⟩ | ⟨y, rfl, h⟩)
      · exact ⟨_, rfl, by rw [h]; rfl⟩
      · exact ⟨_, rfl, by rw [h]; rfl⟩
  obtain ⟨r, h1, rfl⟩ := key
  exact h1
theorem may_r {M : am_M} {n m w O C K} (hB : VB n m w O C K) (hV : VR M n m w O C K) {c d t s : Nat} (hc : c < n) (hd : d < 256) (hs : s ≤ 1) (ht : t ≤ m) : f_X8_mayDump_43 (nI c) (nI t) (nI s) (nI d) M = some (nI (b01 (mdB (C c) d t s m))) := by
  have hn := hB.1.1
  have hm := hB.1.2.1
  unfold f_X8_mayDump_43
  rw [clamp1, hV.1.2.1]
  refine Option.bind_eq_some_iff.mpr ⟨(nI (b01 (mdB (C c) d t s m)), nI m), lp_run (fun i => (nI (b01 (mdB (C c) d t s i)), nI i)) (n := m) ?_ ?_ (lpF (by omega)), ?_⟩
  · intro j hj
    have hx := hB.2.2.1 c j hc hj
    have hbit : d / 2 ^ j % 2 ≤ 1 := by omega
    have hms : mdB (C c) d t s (j + 1) = (mdB (C c) d t s j && (if t ≤ j then decide (s = d / 2 ^ j % 2) else (decide (C c j = 2) || decide (C c j = d / 2 ^ j % 2)))) := rfl
    dsimp only
    rw [if_neg (nle_n hj (by omega)), bt (by omega) (by omega), nI_s, hms]
    cases mdB (C c) d t s j with
    | false => rw [if_pos (c := nI (b01 false) = 0) rfl]; rfl
    | true =>
      rw [if_neg (c := nI (b01 true) = 0) (by decide), Bool.true_and]
      by_cases c1 : t ≤ j
      · rw [if_pos (c := nI t ≤ nI j) ((ni_le (by omega) (by omega)).mpr c1), if_pos c1]
        by_cases c2 : s = d / 2 ^ j % 2
        · rw [if_pos (by rw [c2]), decide_eq_true c2]; rfl
        · rw [if_neg (nI_ne (by omega) (by omega) c2), decide_eq_false c2]; rfl
      · rw [if_neg (c := nI t ≤ nI j) (fun q => c1 ((ni_le (by omega) (by omega)).mp q)), if_neg c1, cell_of hB hV hc hj, Option.bind_some, Option.bind_some]
        by_cases c3 : C c j = 2
        · rw [c3, if_pos (c := nI 2 = 2) rfl]; rfl
        · rw [if_neg (c := nI (C c j) = 2) (nI_ne (b := 2) (by omega) (by omega) c3), decide_eq_false c3, Bool.false_or]
          by_cases c2 : C c j = d / 2 ^ j % 2
          · rw [if_pos (by rw [c2]), decide_eq_true c2]; rfl
          · rw [if_neg (nI_ne (by omega) (by omega) c2), decide_eq_false c2]; rfl
  · dsimp only
    rw [if_pos (nle_y (by omega) (by omega))]
  · dsimp only
    rw [if_pos]
    cases mdB (C c) d t s m
    · exact Or.inl rfl
    · exact Or.inr rfl
/-- the suspicions that may be, below i -/
def eN (x : Nat → Nat) (d m : Nat) : Nat → Nat
  | 0 => 0
  | i + 1 => eN x d m i ||| (b01 (mdB x d (i / 2) (i % 2) m) * 2 ^ i)
theorem b01_1 (b : Bool) : b01 b ≤ 1 := by cases b <;> decide
theorem eN_lt {x : Nat → Nat} {d m : Nat} : ∀ i, eN x d m i < 2 ^ i
  | 0 => by show 0 < 1; omega
  | i + 1 => by
    show eN x d m i ||| (b01 (mdB x d (i / 2) (i % 2) m) * 2 ^ i) < 2 ^ (i + 1)
    have h := eN_lt (x := x) (d := d) (m := m) i
    have h1 := b01_1 (mdB x d (i / 2) (i % 2) m)
    have h2 : b01 (mdB x d (i / 2) (i % 2) m) * 2 ^ i ≤ 1 * 2 ^ i := Nat.mul_le_mul_right _ h1
    have h3 : 2 ^ (i + 1) = 2 ^ i + 2 ^ i := by rw [Nat.pow_succ]; omega
    have h4 : 0 < 2 ^ i := Nat.pow_pos (by omega)
    exact Nat.or_lt_two_pow (by omega) (by omega)
theorem shl_1 {v i : Nat} (hv : v ≤ 1) (hi : i < 31) : nI v <<< (nI i &&& 31) = nI (v * 2 ^ i) := by
  have h3 : 2 ^ i ≤ 2 ^ 30 := Nat.pow_le_pow_right (by omega) (by omega)
  have hv2 : v * 2 ^ i ≤ 1 * 2 ^ 30 := Nat.mul_le_mul hv h3
  exact pk_shlN _ i (sm_31 i (by omega)) (by omega)
theorem expl_c {M : am_M} {n m w O C K} (hB : VB n m w O C K) (hV : VC M 9 n m w O C K) {c d : Nat} (hc : c < n) (hd : d < 256) : f_X0_explanations_9 (nI c) (nI d) M = some (nI ((b01 (mdB (C c) d m 0 m) * 65536) ||| eN (C c) d m (2 * m))) := by
  have hn := hB.1.1
  have hm := hB.1.2.1
  unfold f_X0_explanations_9
  have h0 : f_X0_mayDump_9 (nI c) (nI d) (nI m) 0 M = _ := may_c hB hV (s := 0) hc hd (by omega) (Nat.le_refl m)
  rw [hV.1.2.1, h0, Option.bind_some]
  have hv : (if nI (b01 (mdB (C c) d m 0 m)) = 0 then (0 : Int32) else 65536) = nI (b01 (mdB (C c) d m 0 m) * 65536) := by
    cases mdB (C c) d m 0 m <;> decide
  rw [hv, bl_s]
  generalize b01 (mdB (C c) d m 0 m) * 65536 = V
  refine Option.bind_eq_some_iff.mpr ⟨(nI (V ||| eN (C c) d m (2 * m)), nI m), ?_, rfl⟩
  have hz : (nI V, (0 : Int32)) = (nI (V ||| eN (C c) d m (2 * 0)), nI 0) := by
    show _ = (nI (V ||| 0), nI 0)
    rw [Nat.or_zero]; rfl
  rw [hz]
  refine lp_run (fun i => (nI (V ||| eN (C c) d m (2 * i)), nI i)) (n := m) ?_ ?_ (lpF (by omega))
  · intro t ht
    dsimp only
    rw [if_neg (nle_n ht (by omega))]
    refine Option.bind_eq_some_iff.mpr ⟨(nI (V ||| eN (C c) d m (2 * t + 2)), nI 2), lp_run (fun s => (nI (V ||| eN (C c) d m (2 * t + s)), nI s)) (n := 2) ?_ ?_ (lpF (by omega)), by rw [nI_s, show 2 * (t + 1) = 2 * t + 2 by omega]⟩
    · intro s hs
      dsimp only
      rw [if_neg (c := 1 < nI s) (fun q => by
        have := (ni_lt (a := 1) (b := s) (by omega) (by omega)).mp q
        omega), may_c hB hV hc hd (by omega) (by omega), Option.bind_some, nI_s]
      show _ = some (Sum.inl (nI (V ||| (eN (C c) d m (2 * t + s) ||| (b01 (mdB (C c) d ((2 * t + s) / 2) ((2 * t + s) % 2) m) * 2 ^ (2 * t + s)))), nI (s + 1)))
      rw [show (2 * t + s) / 2 = t by omega, show (2 * t + s) % 2 = s by omega]
      cases mdB (C c) d t s m with
      | false =>
        rw [if_pos (c := nI (b01 false) = 0) rfl]
        show _ = some (Sum.inl (nI (V ||| (eN (C c) d m (2 * t + s) ||| (0 * 2 ^ (2 * t + s)))), nI (s + 1)))
        rw [Nat.zero_mul, Nat.or_zero]
      | true =>
        rw [if_neg (c := nI (b01 true) = 0) (by decide), bl_s, show (2 : Int32) = nI 2 from rfl, pk_mul, nI_add]
        have e1 : (1 : Int32) <<< (nI (2 * t + s) &&& 31) = nI (1 * 2 ^ (2 * t + s)) := shl_1 (v := 1) (by omega) (by omega)
        rw [e1, n_or, Nat.or_assoc]
        rfl
    · dsimp only
      rw [if_pos (c := 1 < nI 2) (by decide)]
  · dsimp only
    rw [if_pos (nle_y (by omega) (by omega))]
theorem i32_div2 : ∀ i, i < 16 → nI i / 2 = nI (i / 2) ∧ nI i - nI i / 2 * 2 = nI (i % 2) := by decide
theorem op_dump (a0 a1 : Int32) {M : am_M} (h : Rel M) : ∃ v M1 M2, f_X7_dump_0 a0 a1 M = some (v, M1) ∧ f_X8_dump_43 a0 a1 M1 = some (v, M2) ∧ Rel M2 := by
  obtain ⟨n', m', w', O, C, K, hB, hVC, hVR⟩ := rel_V h
  obtain ⟨n, m, w, b, hch⟩ := chp_iff.mp h.1
  have hch0 := hch
  obtain ⟨⟨hn, hm, hw, hb1, hb2⟩, ⟨p0, p1, p2, p4⟩, ⟨q0, q1, q2, q3, q4, q5, q6⟩, ⟨b3, b5, b6⟩, hcell, hwant, hcol, hsus⟩ := hch
  have en : n' = n := (nI_eq (by have := hB.1.1; omega) (by omega)).mp (hVC.1.1.symm.trans p0)
  have em : m' = m := (nI_eq (by have := hB.1.2.1; omega) (by omega)).mp (hVC.1.2.1.symm.trans p1)
  subst en
  subst em
  have h8 := pw8 hm
  have hp : 0 < 2 ^ m' := Nat.pow_pos (by omega)
  unfold f_X7_dump_0 f_X8_dump_43
  rw [p1, clamp1]
  have hsh : (1 : Int32) <<< (nI m' &&& 31) = nI (1 * 2 ^ m') := shl_1 (v := 1) (by omega) (by omega)
  rcases chain_c hn p0 a0 with ⟨e, k, hk, rfl⟩ | ⟨e, hno⟩
  · rw [e, if_neg (c := (1 : Int32) = 0) (by decide), if_pos (db_ok (by omega) (by omega)), nI_clamp (by omega)]
    have hbi := bit_in (n := m') (by omega) a1
    by_cases hx : bit a1 m'
    · have hi := hbi.mpr hx
      obtain ⟨d, hd, rfl⟩ := hx
      obtain ⟨a, ha, ea⟩ := (hsus k hk).2
      have hE : ((b01 (mdB (C k) d m' 0 m') * 65536) ||| eN (C k) d m' (2 * m')) < 2 ^ 17 := by
        have h1 := b01_1 (mdB (C k) d m' 0 m')
        have h2 := eN_lt (x := C k) (d := d) (m := m') (2 * m')
        have h3 : 2 ^ (2 * m') ≤ 2 ^ 16 := Nat.pow_le_pow_right (by omega) (by omega)
        exact Nat.or_lt_two_pow (by omega) (by omega)
      have hA : (a &&& ((b01 (mdB (C k) d m' 0 m') * 65536) ||| eN (C k) d m' (2 * m'))) < 2 ^ 17 := Nat.lt_of_le_of_lt Nat.and_le_left ha
      refine ⟨nI (cntN (a &&& ((b01 (mdB (C k) d m' 0 m') * 65536) ||| eN (C k) d m' (2 * m'))) 20), am_up M 13 k (nI (a &&& ((b01 (mdB (C k) d m' 0 m') * 65536) ||| eN (C k) d m' (2 * m')))), am_up (am_up M 13 k (nI (a &&& ((b01 (mdB (C k) d m' 0 m') * 65536) ||| eN (C k) d m' (2 * m'))))) 44 (143 + k) (nI (a &&& ((b01 (mdB (C k) d m' 0 m') * 65536) ||| eN (C k) d m' (2 * m')))), ?_, ?_, rel_upd (by omega) h ⟨n', m', w, b, chp_sus hk ⟨_, hA, rfl⟩ hch0⟩⟩
      · rw [if_neg (Int32.not_lt.mpr hi.1), hsh, if_pos ((ni_lt (by omega) (by omega)).mpr (by omega)), expl_c hB hVC hk (by omega), Option.bind_some, if_pos (db_ok (by omega) (by omega)), ea, n_and, bl_s, if_pos (db_ok (by omega) (by omega)), up_s, bc_17 hA]
      · generalize hX : am_up M 13 k (nI (a &&& ((b01 (mdB (C k) d m' 0 m') * 65536) ||| eN (C k) d m' (2 * m')))) = X
        have hx44 : X 44 = M 44 := by rw [← hX, am_up_ne (by decide)]
        have hVX : VR X n' m' w' O C K := by
          unfold VR
          rw [hx44]
          exact hVR
        rw [chain_r hn (by rw [hx44]; exact q0), if_pos ⟨k, hk, rfl⟩, Option.bind_some, if_neg (c := (1 : Int32) = 0) (by decide), hx44, q1, all1 m' (by omega), if_neg (in_y (b := 0) (c := nI (2 ^ m' - 1)) (by decide) rfl hi)]
        refine Option.bind_eq_some_iff.mpr ⟨(nI (eN (C k) d m' (2 * m')), nI (2 * m')), lp_run (fun i => (nI (eN (C k) d m' i), nI i)) (n := 2 * m') ?_ ?_ (lpF (by omega)), ?_⟩
        · intro i hi2
          dsimp only
          rw [show (2 : Int32) * nI m' = nI (2 * m') from by rw [show (2 : Int32) = nI 2 from rfl, pk_mul], if_neg (nle_n hi2 (by omega)), (i32_div2 i (by omega)).1]
          have e2 := (i32_div2 i (by omega)).2
          rw [(i32_div2 i (by omega)).1] at e2
          rw [e2, may_r hB hVX hk (by omega) (by omega) (by omega), Option.bind_some, flag_w (b01_1 _), shl_1 (b01_1 _) (by omega), n_or, nI_s]
          rfl
        · dsimp only
          rw [show (2 : Int32) * nI m' = nI (2 * m') from by rw [show (2 : Int32) = nI 2 from rfl, pk_mul], if_pos (nle_y (by omega) (by omega))]
        · dsimp only
          have h0 : f_X8_mayDump_43 (nI k) (nI m') 0 (nI d) X = _ := may_r hB hVX (s := 0) hk (by omega) (by omega) (Nat.le_refl m')
          rw [h0, Option.bind_some, a_143, if_pos (db_ok (by omega) (by omega)), if_pos (db_ok (by omega) (by omega)), nI_clamp (by omega), flag_w (b01_1 _), show ((16 : Int32) &&& 31) = (nI 16 &&& 31) from rfl, shl_1 (b01_1 _) (by omega), n_or, (hsus k hk).1, ea, n_and, Nat.or_comm (eN (C k) d m' (2 * m')), show (2 : Nat) ^ 16 = 65536 from rfl, bl_s, if_pos (db_ok (by omega) (by omega)), up_s, bits_ok (Nat.lt_trans hA (by omega)), Option.bind_some]
    · refine ⟨-1, M, M, ?_, ?_, h⟩
      · by_cases c1 : a1 < 0
        · rw [if_pos c1]
        · rw [if_neg c1, hsh, if_neg]
          intro c2
          obtain ⟨y, hy, rfl⟩ := nI_of c1
          have := (ni_lt hy (by omega)).mp c2
          exact hx ⟨y, by omega, rfl⟩
      · rw [chain_r hn q0, if_pos ⟨k, hk, rfl⟩, Option.bind_some, if_neg (c := (1 : Int32) = 0) (by decide), q1, all1 m' (by omega), if_pos (in_n (b := 0) (c := nI (2 ^ m' - 1)) (by decide) rfl (fun q => hx (hbi.mp q)))]
  · refine ⟨-1, M, M, ?_, ?_, h⟩
    · rw [e, if_pos rfl]
    · rw [chain_r hn q0, if_neg hno, Option.bind_some, if_pos rfl]
