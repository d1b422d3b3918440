/-! HIDDEN, SURE, HIDES -/
def xN (K : Nat → Nat) (x : Nat) : Nat → Nat
  | 0 => 0
  | c + 1 => if x.testBit c = true then xN K x c ^^^ K c else xN K x c
def jN (K : Nat → Nat) (x : Nat) : Nat → Nat
  | 0 => 0
  | c + 1 => if x.testBit c = true then jN K x c ||| K c else jN K x c
theorem xN_lt {K : Nat → Nat} {x w : Nat} : ∀ {n : Nat}, (∀ c, c < n → K c < 2 ^ w) → xN K x n < 2 ^ w
  | 0, _ => Nat.pow_pos (by omega)
  | n + 1, h => by
    have h1 := xN_lt (K := K) (x := x) (w := w) (n := n) (fun c hc => h c (by omega))
    show (if x.testBit n = true then xN K x n ^^^ K n else xN K x n) < 2 ^ w
    split
    · exact Nat.xor_lt_two_pow h1 (h n (by omega))
    · exact h1
theorem jN_lt {K : Nat → Nat} {x w : Nat} : ∀ {n : Nat}, (∀ c, c < n → K c < 2 ^ w) → jN K x n < 2 ^ w
  | 0, _ => Nat.pow_pos (by omega)
  | n + 1, h => by
    have h1 := jN_lt (K := K) (x := x) (w := w) (n := n) (fun c hc => h c (by omega))
    show (if x.testBit n = true then jN K x n ||| K n else jN K x n) < 2 ^ w
    split
    · exact Nat.or_lt_two_pow h1 (h n (by omega))
    · exact h1
theorem sum_c {M : am_M} {n m w O C K} (hB : VB n m w O C K) (hV : VC M 9 n m w O C K) {x : Nat} (hx : x < 2 ^ 31) : f_X0_sumOf_9 (nI x) M = some (nI (xN K x n)) := by
  have hn := hB.1.1
  unfold f_X0_sumOf_9
  rw [hV.1.1]
  refine Option.bind_eq_some_iff.mpr ⟨(nI (xN K x n), nI n), lp_run (fun i => (nI (xN K x i), nI i)) (n := n) ?_ ?_ (lpF (by omega)), rfl⟩
  · intro c hc
    dsimp only
    rw [if_neg (nle_n hc (by omega)), nI_s]
    show _ = some (Sum.inl (nI (if x.testBit c = true then xN K x c ^^^ K c else xN K x c), nI (c + 1)))
    by_cases e : x.testBit c = true
    · rw [if_neg (isIn_y hx (by omega) e), if_pos e, if_pos (db_ok (by omega) (by omega)), nI_clamp (by omega), hV.2.2 c hc, n_xor]
    · rw [if_pos (isIn_n hx (by omega) e), if_neg e]
  · dsimp only
    rw [if_pos (nle_y (by omega) (by omega))]
theorem cov_c {M : am_M} {n m w O C K} (hB : VB n m w O C K) (hV : VC M 9 n m w O C K) {x : Nat} (hx : x < 2 ^ 31) : f_X0_coverOf_9 (nI x) M = some (nI (jN K x n)) := by
  have hn := hB.1.1
  unfold f_X0_coverOf_9
  rw [hV.1.1]
  refine Option.bind_eq_some_iff.mpr ⟨(nI (jN K x n), nI n), lp_run (fun i => (nI (jN K x i), nI i)) (n := n) ?_ ?_ (lpF (by omega)), rfl⟩
  · intro c hc
    dsimp only
    rw [if_neg (nle_n hc (by omega)), nI_s]
    show _ = some (Sum.inl (nI (if x.testBit c = true then jN K x c ||| K c else jN K x c), nI (c + 1)))
    by_cases e : x.testBit c = true
    · rw [if_neg (isIn_y hx (by omega) e), if_pos e, if_pos (db_ok (by omega) (by omega)), nI_clamp (by omega), hV.2.2 c hc, n_or]
    · rw [if_pos (isIn_n hx (by omega) e), if_neg e]
  · dsimp only
    rw [if_pos (nle_y (by omega) (by omega))]
theorem sum_r {M : am_M} {n m w O C K} (hB : VB n m w O C K) (hV : VR M n m w O C K) {x : Nat} (hx : x < 2 ^ 31) : f_X8_columnsAdded_43 (nI x) M = some (nI (xN K x n)) := by
  have hn := hB.1.1
  unfold f_X8_columnsAdded_43
  rw [clamp0, hV.1.1]
  refine Option.bind_eq_some_iff.mpr ⟨(nI (xN K x n), nI n), lp_run (fun i => (nI (xN K x i), nI i)) (n := n) ?_ ?_ (lpF (by omega)), rfl⟩
  · intro c hc
    dsimp only
    rw [if_neg (nle_n hc (by omega)), nI_s, a_135]
    show _ = some (Sum.inl (nI (if x.testBit c = true then xN K x c ^^^ K c else xN K x c), nI (c + 1)))
    by_cases e : x.testBit c = true
    · rw [if_neg (has_y hx (by omega) e), if_pos e, if_pos (db_ok (by omega) (by omega)), nI_clamp (by omega), hV.2.2 c hc, n_xor]
    · rw [if_pos (has_n hx (by omega) e), if_neg e, Int32.xor_zero]
  · dsimp only
    rw [if_pos (nle_y (by omega) (by omega))]
theorem cov_r {M : am_M} {n m w O C K} (hB : VB n m w O C K) (hV : VR M n m w O C K) {x : Nat} (hx : x < 2 ^ 31) : f_X8_columnsJoined_43 (nI x) M = some (nI (jN K x n)) := by
  have hn := hB.1.1
  unfold f_X8_columnsJoined_43
  rw [clamp0, hV.1.1]
  refine Option.bind_eq_some_iff.mpr ⟨(nI (jN K x n), nI n), lp_run (fun i => (nI (jN K x i), nI i)) (n := n) ?_ ?_ (lpF (by omega)), rfl⟩
  · intro c hc
    dsimp only
    rw [if_neg (nle_n hc (by omega)), nI_s, a_135]
    show _ = some (Sum.inl (nI (if x.testBit c = true then jN K x c ||| K c else jN K x c), nI (c + 1)))
    by_cases e : x.testBit c = true
    · rw [if_neg (has_y hx (by omega) e), if_pos e, if_pos (db_ok (by omega) (by omega)), nI_clamp (by omega), hV.2.2 c hc, n_or]
    · rw [if_pos (has_n hx (by omega) e), if_neg e, Int32.or_zero]
  · dsimp only
    rw [if_pos (nle_y (by omega) (by omega))]
/-- hidden: 1 or 0 -/
def hN (K : Nat → Nat) (n x u : Nat) : Nat := if (nI (xN K x n) &&& (nI (jN K u n) ^^^ (-1))) = 0 then 1 else 0
theorem hid_r {M : am_M} {n m w O C K} (hB : VB n m w O C K) (hV : VR M n m w O C K) {x u : Nat} (hx : x < 2 ^ 31) (hu : u < 2 ^ 31) : f_X8_isHidden_43 (nI x) (nI u) M = some (nI (hN K n x u)) := by
  unfold f_X8_isHidden_43 hN
  rw [sum_r hB hV hx, Option.bind_some, cov_r hB hV hu, Option.bind_some]
  by_cases e : (nI (xN K x n) &&& (nI (jN K u n) ^^^ (-1))) = 0
  · rw [if_pos e, if_pos e]; rfl
  · rw [if_neg e, if_neg e]; rfl
theorem hN_1 {K n x u} : hN K n x u ≤ 1 := by
  unfold hN
  split <;> omega
/-- the chains inside, and what is left of them -/
def aN (n O : Nat) : Nat := tn (nI (2 ^ n - 1) &&& (nI O ^^^ (-1)))
def rN (A x : Nat) : Nat := tn (nI A &&& (nI x ^^^ (-1)))
theorem and_le {a : Nat} (ha : a < 2 ^ 32) (y : Int32) : tn (nI a &&& y) ≤ a := by
  have h1 : a &&& tn y ≤ a := Nat.and_le_left
  rw [tn_n y, n_and, tn_nI (by omega)]
  omega
theorem aN_lt {n O : Nat} (hn : n ≤ 8) : aN n O < 2 ^ n := by
  have h8 := pw8 hn
  have hp : 0 < 2 ^ n := Nat.pow_pos (by omega)
  have := and_le (a := 2 ^ n - 1) (by omega) (nI O ^^^ (-1))
  unfold aN
  omega
theorem rN_le {A x : Nat} (hA : A < 2 ^ 32) : rN A x ≤ A := and_le hA _
theorem ins_c {M : am_M} {n m w O C K} (hB : VB n m w O C K) (hV : VC M 9 n m w O C K) : f_X0_chainsInside_9 M = nI (aN n O) := by
  unfold f_X0_chainsInside_9 f_X0_allChains_9 aN
  rw [hV.1.1, hV.1.2.2.2, all1 n (by have := hB.1.1; omega)]
  exact tn_n _
theorem ins_r {M : am_M} {n m w O C K} (hB : VB n m w O C K) (hV : VR M n m w O C K) : f_X8_chainsIn_43 M = nI (aN n O) := by
  unfold f_X8_chainsIn_43 aN
  rw [clamp0, clamp3, hV.1.1, hV.1.2.2.2, all1 n (by have := hB.1.1; omega)]
  exact tn_n _
/-- a choice: 1 or 0 -/
def kN (x : Nat) (a : Int32) (A : Nat) : Nat := if (nI x &&& (nI A ^^^ (-1))) = 0 ∧ nI (cntN x 20) = a then 1 else 0
theorem choice_c {x : Nat} (hx : x < 2 ^ 12) (a : Int32) (A : Nat) : f_X0_isChoice (nI x) a (nI A) = nI (kN x a A) := by
  unfold f_X0_isChoice kN
  rw [bc_ok hx]
  by_cases e : (nI x &&& (nI A ^^^ (-1))) = 0
  · rw [if_pos e]
    by_cases e2 : nI (cntN x 20) = a
    · rw [if_pos e2, if_pos ⟨e, e2⟩]; rfl
    · rw [if_neg e2, if_neg (fun h => e2 h.2)]; rfl
  · rw [if_neg e, if_neg (fun h => e h.1)]; rfl
theorem kN_1 {x a A} : kN x a A = 0 ∨ kN x a A = 1 := by
  unfold kN
  split <;> omega
/-- choices beside x: all (b = 0), the hidden ones (b = 1) -/
def bsN (K : Nat → Nat) (n x : Nat) (a : Int32) (R : Nat) (b : Bool) : Nat := sm (fun u => if kN u a R = 0 then 0 else if b = true then hN K n x u else 1) (R + 1)
def chN (K : Nat → Nat) (n : Nat) (e u : Int32) (A : Nat) (b : Bool) : Nat := sm (fun i => if kN (i + 1) e A = 0 then 0 else bsN K n (i + 1) u (rN A (i + 1)) b) A
theorem bes_c {M : am_M} {n m w O C K} (hB : VB n m w O C K) (hV : VC M 9 n m w O C K) {x R : Nat} (hx : x < 2 ^ 31) (hR : R < 256) (a : Int32) (b : Bool) : f_X0_choicesBeside_9 (nI x) a (nI R) (if b = true then 1 else 0) M = some (nI (bsN K n x a R b)) := by
  unfold f_X0_choicesBeside_9 bsN
  rw [sum_c hB hV hx, Option.bind_some]
  refine Option.bind_eq_some_iff.mpr ⟨_, lp_sum (a := 0) (fun u => if kN u a R = 0 then 0 else if b = true then hN K n x u else 1) (n := R + 1) (by omega) ?_ ?_, by simp only [Nat.zero_add]⟩
  · intro u y hu
    dsimp only
    rw [if_neg (fun q => by
      have := (ni_lt (by omega) (by omega)).mp q
      omega), choice_c (by omega), nI_s, nI_s]
    rcases kN_1 (x := u) (a := a) (A := R) with e | e
    · rw [e, if_pos (c := nI 0 = 0) rfl, if_pos rfl]; rfl
    · rw [e, if_neg (c := nI 1 = 0) (by decide), if_neg (c := (1 : Nat) = 0) (by omega)]
      cases b with
      | false => rfl
      | true =>
        rw [if_neg (by decide), cov_c hB hV (by omega), Option.bind_some, if_pos rfl]
        unfold hN
        by_cases e2 : (nI (xN K x n) &&& (nI (jN K u n) ^^^ (-1))) = 0
        · rw [if_pos e2, if_pos e2]
        · rw [if_neg e2, if_neg e2]; rfl
  · intro y
    dsimp only
    rw [if_pos ((ni_lt (by omega) (by omega)).mpr (by omega))]
theorem cho_c {M : am_M} {n m w O C K} (hB : VB n m w O C K) (hV : VC M 9 n m w O C K) (e u : Int32) (b : Bool) : f_X0_choices_9 e u (if b = true then 1 else 0) M = some (nI (chN K n e u (aN n O) b)) := by
  have hA := aN_lt (O := O) hB.1.1
  have h8 := pw8 hB.1.1
  unfold f_X0_choices_9 chN
  rw [ins_c hB hV]
  refine Option.bind_eq_some_iff.mpr ⟨(nI (sm (fun i => if kN (i + 1) e (aN n O) = 0 then 0 else bsN K n (i + 1) u (rN (aN n O) (i + 1)) b) (aN n O)), nI (aN n O + 1)), lp_run (fun i => (nI (sm (fun i => if kN (i + 1) e (aN n O) = 0 then 0 else bsN K n (i + 1) u (rN (aN n O) (i + 1)) b) i), nI (i + 1))) (n := aN n O) ?_ ?_ (lpF (by omega)), rfl⟩
  · intro i hi
    dsimp only
    have hr := rN_le (A := aN n O) (x := i + 1) (by omega)
    rw [if_neg (fun q => by
      have := (ni_lt (by omega) (by omega)).mp q
      omega), choice_c (by omega), nI_s]
    show _ = some (Sum.inl (nI (sm (fun i => if kN (i + 1) e (aN n O) = 0 then 0 else bsN K n (i + 1) u (rN (aN n O) (i + 1)) b) i + (if kN (i + 1) e (aN n O) = 0 then 0 else bsN K n (i + 1) u (rN (aN n O) (i + 1)) b)), nI (i + 1 + 1)))
    rcases kN_1 (x := i + 1) (a := e) (A := aN n O) with e1 | e1
    · rw [e1, if_pos (c := nI 0 = 0) rfl, if_pos rfl]; rfl
    · rw [e1, if_neg (c := nI 1 = 0) (by decide), if_neg (c := (1 : Nat) = 0) (by omega), tn_n (nI (aN n O) &&& (nI (i + 1) ^^^ (-1)))]
      have hb := bes_c hB hV (x := i + 1) (R := rN (aN n O) (i + 1)) (by omega) (by omega) u b
      unfold rN at hb
      rw [hb, Option.bind_some, nI_add]
      rfl
  · dsimp only
    rw [if_pos ((ni_lt (by omega) (by omega)).mpr (by omega))]
/-- the reference counts both, in two fields -/
def fh (M M' : am_M) (a b : Nat) : Prop := (∀ x, x ≠ 43 → M' x = M x) ∧ (∀ j, j ≠ 19 → j ≠ 20 → M' 43 j = M 43 j) ∧ M' 43 19 = nI a ∧ M' 43 20 = nI b
theorem fh_r {M : am_M} {n m w O C K} (hB : VB n m w O C K) (hV : VR M n m w O C K) (e u : Int32) : ∃ M', f_X8_findHidden_43 e u M = some M' ∧ fh M M' (chN K n e u (aN n O) false) (chN K n e u (aN n O) true) := by
  have hA := aN_lt (O := O) hB.1.1
  have h8 := pw8 hB.1.1
  have hVx : ∀ M', (∀ x, x ≠ 43 → M' x = M x) → VR M' n m w O C K := by
    intro M' h
    unfold VR
    rw [h 44 (by decide)]
    exact hV
  unfold f_X8_findHidden_43
  rw [ins_r hB hV, bl_s, bl_s]
  refine lp_bnd (fun M1 => M1) (fun i s => ∃ M', s = (nI (i + 1), M') ∧ fh M M' (sm (fun i => if kN (i + 1) e (aN n O) = 0 then 0 else bsN K n (i + 1) u (rN (aN n O) (i + 1)) false) i) (sm (fun i => if kN (i + 1) e (aN n O) = 0 then 0 else bsN K n (i + 1) u (rN (aN n O) (i + 1)) true) i)) (fun q => ∃ y M', q = (y, M') ∧ fh M M' (chN K n e u (aN n O) false) (chN K n e u (aN n O) true)) (n := aN n O) (lpF (by omega)) ⟨_, rfl, ?_, ?_, ?_, ?_⟩ ?_ ?_ ?_
  · intro x hx
    rw [am_up_ne hx, am_up_ne hx]
  · intro j h1 h2
    rw [up_k h2, up_k h1]
  · rw [up_k (by decide), up_s]; rfl
  · rw [up_s]; rfl
  · rintro i s hi ⟨M', rfl, f1, f2, f3, f4⟩
    dsimp only
    have hr := rN_le (A := aN n O) (x := i + 1) (by omega)
    rw [if_neg (fun q => by
      have := (ni_lt (by omega) (by omega)).mp q
      omega), bits_ok (by omega), nI_s, tn_n (nI (aN n O) &&& (nI (i + 1) ^^^ (-1)))]
    have hsm : ∀ b, sm (fun i => if kN (i + 1) e (aN n O) = 0 then 0 else bsN K n (i + 1) u (rN (aN n O) (i + 1)) b) (i + 1) = sm (fun i => if kN (i + 1) e (aN n O) = 0 then 0 else bsN K n (i + 1) u (rN (aN n O) (i + 1)) b) i + (if kN (i + 1) e (aN n O) = 0 then 0 else bsN K n (i + 1) u (rN (aN n O) (i + 1)) b) := fun b => rfl
    rw [hsm, hsm]
    generalize sm (fun i => if kN (i + 1) e (aN n O) = 0 then 0 else bsN K n (i + 1) u (rN (aN n O) (i + 1)) false) i = a0 at f3 ⊢
    generalize sm (fun i => if kN (i + 1) e (aN n O) = 0 then 0 else bsN K n (i + 1) u (rN (aN n O) (i + 1)) true) i = b0 at f4 ⊢
    have hk : kN (i + 1) e (aN n O) = if (nI (i + 1) &&& (nI (aN n O) ^^^ (-1))) = 0 ∧ nI (cntN (i + 1) 20) = e then 1 else 0 := rfl
    by_cases e1 : (nI (i + 1) &&& (nI (aN n O) ^^^ (-1))) = 0
    · rw [if_pos e1, Option.bind_some]
      by_cases e2 : nI (cntN (i + 1) 20) = e
      · rw [if_pos e2]
        rw [if_pos ⟨e1, e2⟩] at hk
        rw [hk, if_neg (c := (1 : Nat) = 0) (by omega), if_neg (c := (1 : Nat) = 0) (by omega)]
        have hrr : tn (nI (aN n O) &&& (nI (i + 1) ^^^ (-1))) = rN (aN n O) (i + 1) := rfl
        rw [hrr]
        unfold bsN
        generalize rN (aN n O) (i + 1) = R at hr
        refine Or.inl (lp_bnd Sum.inl (fun j s => ∃ M', s = (nI j, M') ∧ fh M M' (a0 + sm (fun x => if kN x u R = 0 then 0 else if false = true then hN K n (i + 1) x else 1) j) (b0 + sm (fun x => if kN x u R = 0 then 0 else if true = true then hN K n (i + 1) x else 1) j)) (fun q => ∃ M', q = (nI (R + 1), M') ∧ fh M M' (a0 + sm (fun x => if kN x u R = 0 then 0 else if false = true then hN K n (i + 1) x else 1) (R + 1)) (b0 + sm (fun x => if kN x u R = 0 then 0 else if true = true then hN K n (i + 1) x else 1) (R + 1))) (n := R + 1) (lpF (by omega)) ⟨M', rfl, f1, f2, f3, f4⟩ ?_ ?_ ?_)
        · rintro j s hj ⟨M2, rfl, g1, g2, g3, g4⟩
          dsimp only
          rw [if_neg (fun q => by
            have := (ni_lt (by omega) (by omega)).mp q
            omega), bits_ok (by omega), nI_s]
          have hs1 : ∀ b, sm (fun x => if kN x u R = 0 then 0 else if b = true then hN K n (i + 1) x else 1) (j + 1) = sm (fun x => if kN x u R = 0 then 0 else if b = true then hN K n (i + 1) x else 1) j + (if kN j u R = 0 then 0 else if b = true then hN K n (i + 1) j else 1) := fun b => rfl
          rw [hs1, hs1]
          generalize sm (fun x => if kN x u R = 0 then 0 else if false = true then hN K n (i + 1) x else 1) j = a1 at g3 ⊢
          generalize sm (fun x => if kN x u R = 0 then 0 else if true = true then hN K n (i + 1) x else 1) j = b1 at g4 ⊢
          have hk2 : kN j u R = if (nI j &&& (nI R ^^^ (-1))) = 0 ∧ nI (cntN j 20) = u then 1 else 0 := rfl
          by_cases e3 : (nI j &&& (nI R ^^^ (-1))) = 0
          · rw [if_pos e3, Option.bind_some]
            by_cases e4 : nI (cntN j 20) = u
            · rw [if_pos e4]
              rw [if_pos ⟨e3, e4⟩] at hk2
              rw [hk2, if_neg (c := (1 : Nat) = 0) (by omega), if_neg (c := (1 : Nat) = 0) (by omega), if_neg (c := false = true) (by decide), if_pos (c := true = true) rfl, bl_s, hid_r hB (hVx _ (fun x hx => by rw [am_up_ne hx, g1 x hx])) (by omega) (by omega), Option.bind_some, bl_s, flag_w hN_1]
              refine Or.inl ⟨_, rfl, _, rfl, ?_, ?_, ?_, ?_⟩
              · intro x hx
                rw [am_up_ne hx, am_up_ne hx, g1 x hx]
              · intro k h1 h2
                rw [up_k h2, up_k h1, g2 k h1 h2]
              · rw [up_k (by decide), up_s, g3, nI_s, Nat.add_assoc]
              · rw [up_s, up_k (by decide), g4, nI_add, Nat.add_assoc]
            · rw [if_neg e4]
              rw [if_neg (fun h => e4 h.2)] at hk2
              rw [hk2, if_pos rfl, if_pos rfl]
              exact Or.inl ⟨_, rfl, M2, rfl, g1, g2, g3, g4⟩
          · rw [if_neg e3]
            rw [if_neg (fun h => e3 h.1)] at hk2
            rw [hk2, if_pos rfl, if_pos rfl]
            exact Or.inl ⟨_, rfl, M2, rfl, g1, g2, g3, g4⟩
        · rintro s ⟨M2, rfl, g⟩
          dsimp only
          rw [if_pos ((ni_lt (by omega) (by omega)).mpr (by omega))]
          exact ⟨_, rfl, M2, rfl, g⟩
        · rintro q ⟨M2, rfl, g⟩
          exact ⟨_, rfl, M2, rfl, g⟩
      · rw [if_neg e2]
        rw [if_neg (fun h => e2 h.2)] at hk
        rw [hk, if_pos rfl, if_pos rfl]
        exact Or.inl ⟨_, rfl, M', rfl, f1, f2, f3, f4⟩
    · rw [if_neg e1]
      rw [if_neg (fun h => e1 h.1)] at hk
      rw [hk, if_pos rfl, if_pos rfl]
      exact Or.inl ⟨_, rfl, M', rfl, f1, f2, f3, f4⟩
  · rintro s ⟨M', rfl, f⟩
    dsimp only
    rw [if_pos ((ni_lt (by omega) (by omega)).mpr (by omega))]
    exact ⟨_, rfl, _, M', rfl, f⟩
  · rintro q ⟨y, M', rfl, f⟩
    exact ⟨_, rfl, f⟩
theorem fh_rel {M M' : am_M} {a b : Nat} (h : Rel M) (hf : fh M M' a b) : Rel M' := by
  obtain ⟨f1, f2, -, -⟩ := hf
  refine rel_same h (fun x hx => f1 x (by omega)) ⟨fun x hx => f1 x (by omega), ?_, ?_, ?_, ?_, ?_, ?_⟩
  · rw [f1 0 (by decide)]
  · rw [f1 0 (by decide)]
  · rw [f1 2 (by decide)]
  · exact f2 12 (by decide) (by decide)
  · exact f2 17 (by decide) (by decide)
  · exact f2 30 (by decide) (by decide)
theorem unk (a : Int32) : (f_X7_isUnknowns a = 1 ∧ 0 ≤ a ∧ a ≤ 8) ∨ (f_X7_isUnknowns a = 0 ∧ ¬ (0 ≤ a ∧ a ≤ 8)) := by
  unfold f_X7_isUnknowns
  by_cases h1 : a < 0
  · rw [if_pos h1]
    exact Or.inr ⟨rfl, fun h => absurd h1 (Int32.not_lt.mpr h.1)⟩
  · rw [if_neg h1]
    by_cases h2 : 8 < a
    · rw [if_pos h2]
      exact Or.inr ⟨rfl, fun h => absurd h2 (Int32.not_lt.mpr h.2)⟩
    · rw [if_neg h2]
      exact Or.inl ⟨rfl, Int32.not_lt.mp h1, Int32.not_lt.mp h2⟩
theorem part_r (a : Int32) : f_X8_isPart a = some (if 0 ≤ a ∧ a ≤ 1 then 1 else 0) := by
  unfold f_X8_isPart
  rw [in_l (b := 0) (c := 1) a (by decide) (by decide)]
  split
  · rfl
  · rfl
theorem two01 {a : Int32} (h : 0 ≤ a ∧ a ≤ 1) : a = 0 ∨ a = 1 := by
  obtain ⟨k, hk, rfl⟩ := nI_of (x := a) (Int32.not_lt.mpr h.1)
  have := (ni_le (a := k) (b := 1) (by omega) (by omega)).mp h.2
  have : k = 0 ∨ k = 1 := by omega
  rcases this with e | e <;> subst e
  · exact Or.inl rfl
  · exact Or.inr rfl
theorem op_hidden (a0 a1 a2 : Int32) {M : am_M} (h : Rel M) : ∃ v M2, f_X7_hidden_0 a0 a1 a2 M = some v ∧ f_X8_hidden_43 a0 a1 a2 M = some (v, M2) ∧ Rel M2 := by
  obtain ⟨n, m, w, O, C, K, hB, hVC, hVR⟩ := rel_V h
  obtain ⟨M', ef, hf⟩ := fh_r hB hVR a0 a1
  unfold f_X7_hidden_0 f_X8_hidden_43
  by_cases h0 : 1 ≤ a0 ∧ a0 ≤ 8
  · rw [if_neg (Int32.not_lt.mpr h0.1), if_neg (Int32.not_lt.mpr h0.2), if_neg (in_y (b := 1) (c := 8) (by decide) (by decide) h0)]
    rcases unk a1 with ⟨u1, u2⟩ | ⟨u1, u2⟩
    · rw [u1, if_neg (c := (1 : Int32) = 0) (by decide), if_neg (in_y (b := 0) (c := 8) (by decide) (by decide) u2), part_r, Option.bind_some]
      by_cases h2 : 0 ≤ a2 ∧ a2 ≤ 1
      · rw [if_neg (Int32.not_lt.mpr h2.1), if_pos h2.2, if_pos h2, if_neg (c := (1 : Int32) = 0) (by decide), ef, Option.bind_some, bl_s]
        rcases two01 h2 with e | e
        · subst e
          have := cho_c hB hVC a0 a1 false
          rw [if_neg (c := (0 : Int32) = 1) (by decide), if_pos rfl]
          rw [if_neg (c := false = true) (by decide)] at this
          rw [this, hf.2.2.1]
          exact ⟨_, _, rfl, rfl, fh_rel h hf⟩
        · subst e
          have := cho_c hB hVC a0 a1 true
          rw [if_pos (c := (1 : Int32) = 1) rfl, if_neg (c := (1 : Int32) = 0) (by decide)]
          rw [if_pos (c := true = true) rfl] at this
          rw [this, hf.2.2.2]
          exact ⟨_, _, rfl, rfl, fh_rel h hf⟩
      · refine ⟨-1, M, ?_, ?_, h⟩
        · by_cases h3 : a2 < 0
          · rw [if_pos h3]
          · rw [if_neg h3, if_neg (fun q => h2 ⟨Int32.not_lt.mp h3, q⟩)]
        · rw [if_neg h2, if_pos (c := (0 : Int32) = 0) rfl]
    · refine ⟨-1, M, ?_, ?_, h⟩
      · rw [u1, if_pos (c := (0 : Int32) = 0) rfl]
      · rw [if_pos (in_n (b := 0) (c := 8) (by decide) (by decide) u2)]
  · refine ⟨-1, M, ?_, ?_, h⟩
    · by_cases h3 : a0 < 1
      · rw [if_pos h3]
      · rw [if_neg h3, if_pos (Int32.not_le.mp (fun q => h0 ⟨Int32.not_lt.mp h3, q⟩))]
    · rw [if_pos (in_n (b := 1) (c := 8) (by decide) (by decide) h0)]
theorem op_sure (a0 : Int32) {M : am_M} (h : Rel M) : ∃ v M2, f_X7_sure_0 a0 M = some v ∧ f_X8_sure_43 a0 M = some (v, M2) ∧ Rel M2 := by
  obtain ⟨n, m, w, O, C, K, hB, hVC, hVR⟩ := rel_V h
  unfold f_X7_sure_0 f_X8_sure_43
  rcases unk a0 with ⟨u1, u2⟩ | ⟨u1, u2⟩
  · rw [u1, if_neg (c := (1 : Int32) = 0) (by decide), if_neg (in_y (b := 0) (c := 8) (by decide) (by decide) u2)]
    have hc : ∃ v, ((lp (σ := Int32) (ρ := (Int32) ⊕ (Int32)) (fun x3 => (if 8 < x3 then (some (.inr (.inr x3))) else ((f_X0_choices_9 x3 a0 1 M).bind (fun v5 => (if v5 ≤ 0 then (some (.inl (x3 + 1))) else (some (.inr (.inl (x3 - 1))))))))) lp_F 1).bind (fun os7 => Sum.elim (fun u => (some u)) (fun x8 => (some 8)) os7)) = some v ∧ ((∃ e, e < 8 ∧ ¬ nI (chN K n (nI (e + 1)) a0 (aN n O) true) ≤ 0 ∧ (∀ e', e' < e → nI (chN K n (nI (e' + 1)) a0 (aN n O) true) ≤ 0) ∧ v = nI e) ∨ ((∀ e', e' < 8 → nI (chN K n (nI (e' + 1)) a0 (aN n O) true) ≤ 0) ∧ v = 8)) := by
      refine lp_bnd (fun v => v) (fun i s => s = nI (i + 1) ∧ ∀ e', e' < i → nI (chN K n (nI (e' + 1)) a0 (aN n O) true) ≤ 0) (fun q => (∃ e, e < 8 ∧ ¬ nI (chN K n (nI (e + 1)) a0 (aN n O) true) ≤ 0 ∧ (∀ e', e' < e → nI (chN K n (nI (e' + 1)) a0 (aN n O) true) ≤ 0) ∧ q = .inl (nI e)) ∨ (∃ y, (∀ e', e' < 8 → nI (chN K n (nI (e' + 1)) a0 (aN n O) true) ≤ 0) ∧ q = .inr y)) (n := 8) (lpF (by omega)) ⟨rfl, fun e' he => by omega⟩ ?_ ?_ ?_
      · rintro i s hi ⟨rfl, hs⟩
        have := cho_c hB hVC (nI (i + 1)) a0 true
        rw [if_pos (c := true = true) rfl] at this
        rw [if_neg (c := 8 < nI (i + 1)) (fun q => by
          have := (ni_lt (a := 8) (b := i + 1) (by omega) (by omega)).mp q
          omega), this, Option.bind_some]
        by_cases e : nI (chN K n (nI (i + 1)) a0 (aN n O) true) ≤ 0
        · rw [if_pos e, nI_s]
          refine Or.inl ⟨_, rfl, rfl, fun e' he => ?_⟩
          by_cases ee : e' = i
          · subst ee; exact e
          · exact hs e' (by omega)
        · rw [if_neg e]
          refine Or.inr ⟨_, rfl, Or.inl ⟨i, hi, e, hs, ?_⟩⟩
          rw [show (1 : Int32) = nI 1 from rfl, pk_sub (by omega)]
          rfl
      · rintro s ⟨rfl, hs⟩
        rw [if_pos (by decide)]
        exact ⟨_, rfl, Or.inr ⟨_, hs, rfl⟩⟩
      · rintro q (⟨e, h1, h2, h3, rfl⟩ | ⟨y, h1, rfl⟩)
        · exact ⟨_, rfl, Or.inl ⟨e, h1, h2, h3, rfl⟩⟩
        · exact ⟨_, rfl, Or.inr ⟨h1, rfl⟩⟩
    have hr : ∃ r : Int32 × am_M, ((lp (σ := Int32 × am_M) (ρ := (Int32 × am_M) ⊕ (Int32 × am_M)) (fun (s2 : Int32 × am_M) => match s2 with | (x3, M4) => (if 8 < x3 then (some (.inr (.inr (x3, M4)))) else ((f_X8_findHidden_43 x3 a0 M4).bind (fun q6 => (if (q6 43 20) ≤ 0 then (some (.inl ((x3 + 1), q6))) else (some (.inr (.inl ((x3 - 1), q6))))))))) lp_F (1, M)).bind (fun os8 => Sum.elim (fun u => (some u)) (fun (s8 : Int32 × am_M) => match s8 with | (x9, M10) => (some ((8 : Int32), M10))) os8)) = some r ∧ (Rel r.2 ∧ ((∃ e, e < 8 ∧ ¬ nI (chN K n (nI (e + 1)) a0 (aN n O) true) ≤ 0 ∧ (∀ e', e' < e → nI (chN K n (nI (e' + 1)) a0 (aN n O) true) ≤ 0) ∧ r.1 = nI e) ∨ ((∀ e', e' < 8 → nI (chN K n (nI (e' + 1)) a0 (aN n O) true) ≤ 0) ∧ r.1 = 8))) := by
      refine lp_bnd (fun v => v) (fun i s => ∃ M', s = (nI (i + 1), M') ∧ Rel M' ∧ M' 44 = M 44 ∧ ∀ e', e' < i → nI (chN K n (nI (e' + 1)) a0 (aN n O) true) ≤ 0) (fun q => (∃ e M', e < 8 ∧ Rel M' ∧ ¬ nI (chN K n (nI (e + 1)) a0 (aN n O) true) ≤ 0 ∧ (∀ e', e' < e → nI (chN K n (nI (e' + 1)) a0 (aN n O) true) ≤ 0) ∧ q = .inl (nI e, M')) ∨ (∃ y M', Rel M' ∧ (∀ e', e' < 8 → nI (chN K n (nI (e' + 1)) a0 (aN n O) true) ≤ 0) ∧ q = .inr (y, M'))) (n := 8) (lpF (by omega)) ⟨M, rfl, h, rfl, fun e' he => by omega⟩ ?_ ?_ ?_
      · rintro i s hi ⟨M', rfl, hR, h44, hs⟩
        have hVR' : VR M' n m w O C K := by
          unfold VR
          rw [h44]
          exact hVR
        obtain ⟨M2, e2, hf⟩ := fh_r hB hVR' (nI (i + 1)) a0
        dsimp only
        rw [if_neg (c := 8 < nI (i + 1)) (fun q => by
          have := (ni_lt (a := 8) (b := i + 1) (by omega) (by omega)).mp q
          omega), e2, Option.bind_some, hf.2.2.2]
        by_cases e : nI (chN K n (nI (i + 1)) a0 (aN n O) true) ≤ 0
        · rw [if_pos e, nI_s]
          refine Or.inl ⟨_, rfl, M2, rfl, fh_rel hR hf, by rw [hf.1 44 (by decide), h44], fun e' he => ?_⟩
          by_cases ee : e' = i
          · subst ee; exact e
          · exact hs e' (by omega)
        · rw [if_neg e]
          refine Or.inr ⟨_, rfl, Or.inl ⟨i, M2, hi, fh_rel hR hf, e, hs, ?_⟩⟩
          rw [show (1 : Int32) = nI 1 from rfl, pk_sub (by omega)]
          rfl
      · rintro s ⟨M', rfl, hR, h44, hs⟩
        dsimp only
        rw [if_pos (by decide)]
        exact ⟨_, rfl, Or.inr ⟨_, M', hR, hs, rfl⟩⟩
      · rintro q (⟨e, M', h1, hR, h2, h3, rfl⟩ | ⟨y, M', hR, h1, rfl⟩)
        · exact ⟨_, rfl, hR, Or.inl ⟨e, h1, h2, h3, rfl⟩⟩
        · exact ⟨_, rfl, hR, Or.inr ⟨h1, rfl⟩⟩
    obtain ⟨v, hv, h1⟩ := hc
    obtain ⟨⟨v', M'⟩, hr', hR, h2⟩ := hr
    refine ⟨v, M', hv, ?_, hR⟩
    rw [hr']
    dsimp only at h2
    have : v' = v := by
      rcases h1 with ⟨e, a1, a2, a3, rfl⟩ | ⟨a1, rfl⟩ <;> rcases h2 with ⟨e', b1, b2, b3, rfl⟩ | ⟨b1, rfl⟩
      · have : e = e' := by
          apply Decidable.byContradiction
          intro hne
          have hlt : e < e' ∨ e' < e := by omega
          rcases hlt with hl | hl
          · exact a2 (b3 e hl)
          · exact b2 (a3 e' hl)
        rw [this]
      · exact absurd (b1 e a1) a2
      · exact absurd (a1 e' b1) b2
      · rfl
    rw [this]
  · refine ⟨-1, M, ?_, ?_, h⟩
    · rw [u1, if_pos (c := (0 : Int32) = 0) rfl]
    · rw [if_pos (in_n (b := 0) (c := 8) (by decide) (by decide) u2)]
