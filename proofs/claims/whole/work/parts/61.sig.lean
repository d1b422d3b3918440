/-! BEST, SIGNATURE -/
theorem sm_le {f : Nat → Nat} {k : Nat} : ∀ {n : Nat}, (∀ i, i < n → f i ≤ k) → sm f n ≤ n * k
  | 0, _ => by show 0 ≤ 0 * k; omega
  | n + 1, h => by
    have h1 := sm_le (n := n) (fun i hi => h i (by omega))
    have h2 := h n (by omega)
    show sm f n + f n ≤ (n + 1) * k
    rw [Nat.succ_mul]
    omega
theorem wS_le {O C K n m} (hn : n ≤ 8) (hm : m ≤ 8) : wS O C K n m ≤ 64 := by
  have h1 : wS O C K n m ≤ n * (m * 1) := sm_le (fun i _ => sm_le (fun j _ => wB_1))
  have h2 : n * (m * 1) ≤ 8 * 8 := Nat.mul_le_mul hn (by omega)
  omega
/-- the first with the most, below i -/
def ag (W : Nat → Nat) : Nat → Nat
  | 0 => 0
  | i + 1 => if W i ≤ W (ag W i) then ag W i else i
theorem best_c {M : am_M} {n m w O C K} (hB : VB n m w O C K) (hV : VC M 9 n m w O C K) : f_X7_best_0 M = some (nI (ag (fun o => wS o C K n m) (2 ^ n))) := by
  have hn := hB.1.1
  have hm := hB.1.2.1
  have h8 := pw8 hn
  have hp : 0 < 2 ^ n := Nat.pow_pos (by omega)
  unfold f_X7_best_0
  have h0 : f_X0_watchedWithout_9 0 M = some (nI (wS 0 C K n m)) := watched_c hB hV (o' := 0) (by omega)
  have hag1 : ag (fun o => wS o C K n m) (0 + 1) = 0 := by simp only [ag, Nat.le_refl, if_true]
  have h01 : ((0 : Int32), nI (wS 0 C K n m), (1 : Int32)) = (nI (ag (fun o => wS o C K n m) (0 + 1)), nI (wS (ag (fun o => wS o C K n m) (0 + 1)) C K n m), nI (0 + 1)) := by
    rw [hag1]; rfl
  rw [h0, Option.bind_some, h01]
  refine Option.bind_eq_some_iff.mpr ⟨(nI (ag (fun o => wS o C K n m) (2 ^ n - 1 + 1)), nI (wS (ag (fun o => wS o C K n m) (2 ^ n - 1 + 1)) C K n m), nI (2 ^ n - 1 + 1)), lp_run (fun i => (nI (ag (fun o => wS o C K n m) (i + 1)), nI (wS (ag (fun o => wS o C K n m) (i + 1)) C K n m), nI (i + 1))) (n := 2 ^ n - 1) ?_ ?_ (lpF (by omega)), by rw [show 2 ^ n - 1 + 1 = 2 ^ n by omega]⟩
  · intro i hi
    dsimp only
    unfold f_X0_allChains_9
    rw [hV.1.1, all1 n (by omega), if_neg (fun q => by
      have := (ni_lt (by omega) (by omega)).mp q
      omega), watched_c hB hV (by omega), Option.bind_some, nI_s]
    have hag : ag (fun o => wS o C K n m) (i + 1 + 1) = if wS (i + 1) C K n m ≤ wS (ag (fun o => wS o C K n m) (i + 1)) C K n m then ag (fun o => wS o C K n m) (i + 1) else i + 1 := rfl
    have b1 := wS_le (O := i + 1) (C := C) (K := K) hn hm
    have b2 := wS_le (O := ag (fun o => wS o C K n m) (i + 1)) (C := C) (K := K) hn hm
    rw [hag]
    by_cases e : wS (i + 1) C K n m ≤ wS (ag (fun o => wS o C K n m) (i + 1)) C K n m
    · rw [if_pos ((ni_le (by omega) (by omega)).mpr e), if_pos e]
    · rw [if_neg (fun q => e ((ni_le (by omega) (by omega)).mp q)), if_neg e]
  · dsimp only
    unfold f_X0_allChains_9
    rw [hV.1.1, all1 n (by omega), if_pos ((ni_lt (by omega) (by omega)).mpr (by omega))]
theorem best_r {M : am_M} {n m w O C K} (hB : VB n m w O C K) (hV : VR M n m w O C K) : f_X8_best_43 M = some (nI (ag (fun o => wS o C K n m) (2 ^ n)), M) := by
  have hn := hB.1.1
  have hm := hB.1.2.1
  have h8 := pw8 hn
  have hp : 0 < 2 ^ n := Nat.pow_pos (by omega)
  unfold f_X8_best_43
  have key : ∀ M', (∀ x, x ≠ 44 → M' x = M x) → (∀ j, j ≠ 3 → M' 44 j = M 44 j) → ∀ o', o' < 2 ^ n → f_X8_watched_43 (am_up M' 44 (3 : Int32).toNatClampNeg (nI o')) = some (nI (wS o' C K n m)) := by
    intro M' h1 h2 o' ho
    refine watched_r (w := w) ⟨hB.1, ho, hB.2.2.1, hB.2.2.2⟩ ⟨⟨?_, ?_, ?_, ?_⟩, ?_, ?_⟩
    · rw [clamp3, up_k (by decide), h2 0 (by decide)]; exact hV.1.1
    · rw [clamp3, up_k (by decide), h2 1 (by decide)]; exact hV.1.2.1
    · rw [clamp3, up_k (by decide), h2 2 (by decide)]; exact hV.1.2.2.1
    · rw [clamp3, up_s]
    · intro c t hc ht
      rw [clamp3, up_k (by omega), h2 _ (by omega)]
      exact hV.2.1 c t hc ht
    · intro c hc
      rw [clamp3, up_k (by omega), h2 _ (by omega)]
      exact hV.2.2 c hc
  have := lp_bnd (τ := Int32 × am_M) (fun M1 => (nI (ag (fun o => wS o C K n m) (2 ^ n)), M1)) (P := fun M1 => M1 = M)
    (k := (fun (s14 : Int32 × Int32 × Int32 × am_M) => match s14 with | (x15, x16, x17, M18) => (bl (am_up M18 44 (3 : Int32).toNatClampNeg (M 44 (3 : Int32).toNatClampNeg)) (fun (M21 : am_M) => (some (x15, M21))))))
    (body := (fun (s2 : Int32 × Int32 × Int32 × am_M) => match s2 with | (x3, x4, x5, M6) => (if ((1 : Int32) <<< ((M6 44 (0 : Int32).toNatClampNeg) &&& 31)) ≤ x5 then (some (.inr (x3, x4, x5, M6))) else (bl (am_up M6 44 (3 : Int32).toNatClampNeg x5) (fun (M11 : am_M) => ((f_X8_watched_43 M11).bind (fun v12 => (if v12 ≤ x4 then (some (.inl (x3, x4, (x5 + 1), M11))) else (some (.inl (x5, v12, (x5 + 1), M11)))))))))))
    (fun i s => ∃ y M', s = (nI (ag (fun o => wS o C K n m) i), y, nI i, M') ∧ ((i = 0 ∧ y = -1) ∨ (0 < i ∧ y = nI (wS (ag (fun o => wS o C K n m) i) C K n m))) ∧ (∀ x, x ≠ 44 → M' x = M x) ∧ (∀ j, j ≠ 3 → M' 44 j = M 44 j))
    (fun q : Int32 × Int32 × Int32 × am_M => ∃ y z M', q = (nI (ag (fun o => wS o C K n m) (2 ^ n)), y, z, M') ∧ (∀ x, x ≠ 44 → M' x = M x) ∧ (∀ j, j ≠ 3 → M' 44 j = M 44 j)) (n := 2 ^ n) (s0 := (0, (-1), 0, M)) (F := lp_F) (lpF (by omega)) ⟨-1, M, rfl, Or.inl ⟨rfl, rfl⟩, fun _ _ => rfl, fun _ _ => rfl⟩ ?_ ?_ ?_
  · obtain ⟨M1, e1, rfl⟩ := this
    exact e1
  · rintro i s hi ⟨y, M', rfl, hy, h1, h2⟩
    dsimp only
    rw [if_neg (show ¬ ((1 : Int32) <<< ((M' 44 (0 : Int32).toNatClampNeg) &&& 31)) ≤ nI i by
      rw [clamp0, h2 0 (by decide), hV.1.1, sh1 n (by omega)]
      exact nle_n hi (by omega)), bl_s, key M' h1 h2 i hi, Option.bind_some, nI_s]
    have hag : ag (fun o => wS o C K n m) (i + 1) = if wS i C K n m ≤ wS (ag (fun o => wS o C K n m) i) C K n m then ag (fun o => wS o C K n m) i else i := rfl
    have b1 := wS_le (O := i) (C := C) (K := K) hn hm
    have b2 := wS_le (O := ag (fun o => wS o C K n m) i) (C := C) (K := K) hn hm
    have f1 : ∀ x, x ≠ 44 → am_up M' 44 (3 : Int32).toNatClampNeg (nI i) x = M x := fun x hx => by rw [am_up_ne hx, h1 x hx]
    have f2 : ∀ j, j ≠ 3 → am_up M' 44 (3 : Int32).toNatClampNeg (nI i) 44 j = M 44 j := fun j hj => by rw [clamp3, up_k hj, h2 j hj]
    rcases hy with ⟨rfl, rfl⟩ | ⟨hi0, rfl⟩
    · rw [if_neg (fun q => absurd (Int32.le_iff_toInt_le.mp q) (by rw [nI_toInt (by omega), show (-1 : Int32).toInt = -1 by decide]; omega))]
      refine Or.inl ⟨_, rfl, _, _, ?_, Or.inr ⟨by omega, rfl⟩, f1, f2⟩
      rw [hag]
      simp only [ag, Nat.le_refl, if_true]
    · rw [hag]
      by_cases e : wS i C K n m ≤ wS (ag (fun o => wS o C K n m) i) C K n m
      · rw [if_pos ((ni_le (by omega) (by omega)).mpr e), if_pos e]
        exact Or.inl ⟨_, rfl, _, _, rfl, Or.inr ⟨by omega, rfl⟩, f1, f2⟩
      · rw [if_neg (fun q => e ((ni_le (by omega) (by omega)).mp q)), if_neg e]
        exact Or.inl ⟨_, rfl, _, _, rfl, Or.inr ⟨by omega, rfl⟩, f1, f2⟩
  · rintro s ⟨y, M', rfl, hy, h1, h2⟩
    dsimp only
    rw [if_pos (show ((1 : Int32) <<< ((M' 44 (0 : Int32).toNatClampNeg) &&& 31)) ≤ nI (2 ^ n) by
      rw [clamp0, h2 0 (by decide), hV.1.1, sh1 n (by omega)]
      exact nle_y (by omega) (by omega))]
    exact ⟨_, rfl, _, _, M', rfl, h1, h2⟩
  · rintro q ⟨y, z, M', rfl, h1, h2⟩
    refine ⟨_, rfl, ?_⟩
    funext p j
    rw [clamp3]
    by_cases ep : p = 44
    · subst ep
      by_cases ej : j = 3
      · subst ej; rw [up_s]
      · rw [up_k ej, h2 j ej]
    · rw [up_p ep, h1 p ep]
theorem op_best {M : am_M} (h : Rel M) : ∃ v M2, f_X7_best_0 M = some v ∧ f_X8_best_43 M = some (v, M2) ∧ Rel M2 := by
  obtain ⟨n, m, w, O, C, K, hB, hVC, hVR⟩ := rel_V h
  exact ⟨_, M, best_c hB hVC, best_r hB hVR, h⟩

/-- the signature moved on -/
theorem mv_all : (List.range 9).all (fun w => (List.range (2 ^ w)).all (fun s => decide (((nI s <<< ((1 : Int32) &&& 31)) &&& (nI (2 ^ w - 1) ^^^ (-1))) = 0) == decide ((if nI w ≤ 0 then (0 : Int32) else (if (f_X8_has (nI s) (nI w - 1)) = 0 then 0 else 1)) = 0))) = true := by decide +kernel
theorem mv_eq {M : am_M} {w s : Nat} (hw : w ≤ 8) (p2 : M 9 2 = nI w) (q2 : M 44 2 = nI w) (q6 : M 44 6 = M 9 6) (hs : s < 2 ^ w) : f_X8_shifted_43 (nI s) M = f_X4_moved_9 (nI s) M := by
  have h1 := List.all_eq_true.mp mv_all w (List.mem_range.mpr (by omega))
  have h2 := List.all_eq_true.mp h1 s (List.mem_range.mpr hs)
  have h3 := eq_of_beq h2
  have h4 : (((nI s <<< ((1 : Int32) &&& 31)) &&& (nI (2 ^ w - 1) ^^^ (-1))) = 0) ↔ ((if nI w ≤ 0 then (0 : Int32) else (if (f_X8_has (nI s) (nI w - 1)) = 0 then 0 else 1)) = 0) := by
    constructor
    · intro h
      rw [decide_eq_true h] at h3
      exact of_decide_eq_true h3.symm
    · intro h
      rw [decide_eq_true h] at h3
      exact of_decide_eq_true h3
  unfold f_X8_shifted_43 f_X4_moved_9 f_X8_mask_43 f_X0_allOutputs_9
  rw [clamp2, clamp6, p2, q2, q6, all1 w (by omega), bl_s, bl_s, bl_s]
  by_cases e : (((nI s <<< ((1 : Int32) &&& 31)) &&& (nI (2 ^ w - 1) ^^^ (-1))) = 0)
  · rw [if_pos (h4.mp e), if_pos e]
    congr 1
    rw [Int32.xor_zero]
  · rw [if_neg (fun h => e (h4.mpr h)), if_neg e]
theorem and_lt {a k : Nat} (ha : a < 2 ^ k) (y : Int32) : tn (y &&& nI a) < 2 ^ k ∨ 32 < k := by
  by_cases hk : 32 < k
  · exact Or.inr hk
  · left
    have hk32 : 2 ^ k ≤ 2 ^ 32 := Nat.pow_le_pow_right (by omega) (by omega)
    have h1 : tn y &&& a ≤ a := Nat.and_le_right
    rw [tn_n y, n_and, tn_nI (by omega)]
    omega
theorem mv_lt {M : am_M} {w : Nat} (hw : w ≤ 8) (p2 : M 9 2 = nI w) (s : Int32) : tn (f_X4_moved_9 s M) < 2 ^ w := by
  have hp : 0 < 2 ^ w := Nat.pow_pos (by omega)
  unfold f_X4_moved_9 f_X0_allOutputs_9
  rw [p2, all1 w (by omega), bl_s]
  rcases and_lt (a := 2 ^ w - 1) (k := w) (by omega) (if s <<< ((1 : Int32) &&& 31) &&& (nI (2 ^ w - 1) ^^^ -1) = 0 then s <<< ((1 : Int32) &&& 31) else s <<< ((1 : Int32) &&& 31) ^^^ M 9 6) with h | h
  · exact h
  · omega
def sgI (f : Nat → Nat) (s : Nat) : Nat → Nat
  | 0 => s
  | o + 1 => sgI f s o ^^^ (f o * 2 ^ o)
theorem sgI_lt {f : Nat → Nat} {s w : Nat} (hs : s < 2 ^ w) : ∀ {k : Nat}, k ≤ w → (∀ o, o < k → f o ≤ 1) → sgI f s k < 2 ^ w
  | 0, _, _ => hs
  | k + 1, hk, hf => by
    have h1 := sgI_lt (f := f) hs (k := k) (by omega) (fun o ho => hf o (by omega))
    have h2 := hf k (by omega)
    show sgI f s k ^^^ (f k * 2 ^ k) < 2 ^ w
    refine Nat.xor_lt_two_pow h1 ?_
    have h3 : 2 ^ k < 2 ^ w := Nat.pow_lt_pow_right (by omega) (by omega)
    have h4 : f k = 0 ∨ f k = 1 := by omega
    rcases h4 with h4 | h4 <;> rw [h4] <;> omega
def sg (mv : Nat → Nat) (f : Nat → Nat → Nat) (w : Nat) : Nat → Nat
  | 0 => 0
  | t + 1 => sgI (f t) (mv (sg mv f w t)) w
theorem shl_bit {v o : Nat} (hv : v ≤ 1) (ho : o < 8) : nI v <<< (nI o &&& 31) = nI (v * 2 ^ o) := by
  have h3 : 2 ^ o ≤ 2 ^ 8 := Nat.pow_le_pow_right (by omega) (by omega)
  have hv2 : v * 2 ^ o ≤ 1 * 2 ^ 8 := Nat.mul_le_mul hv h3
  exact pk_shlN _ o (sm_31 o (by omega)) (by omega)
theorem unb {n m w O C K} (hB : VB n m w O C K) {t : Nat} (ht : t < m) : bN O C K t n = 0 ↔ ∀ o, o < w → sN O C K t o n ≠ 2 := by
  have hsb : ∀ o, (sN O C K t o n = 2 ↔ (bN O C K t n).testBit o = true) := fun o => (sN_2 (m := m) ht hB.2.2.1).2.trans (bN_bit o).symm
  have hlt := bN_lt (O := O) (C := C) (t := t) hB.2.2.2
  constructor
  · intro h o ho hs
    have := (hsb o).mp hs
    rw [h] at this
    simp at this
  · intro h
    apply Nat.eq_of_testBit_eq
    intro o
    rw [Nat.zero_testBit]
    by_cases ho : o < w
    · have := h o ho
      rw [Ne, hsb] at this
      simpa using this
    · exact Nat.testBit_lt_two_pow (Nat.lt_of_lt_of_le hlt (Nat.pow_le_pow_right (by omega) (by omega)))
theorem sig_c {M : am_M} {n m w O C K} (hB : VB n m w O C K) (hV : VC M 9 n m w O C K) : ∃ v, f_X7_signature_0 M = some v ∧ (((∃ t, t < m ∧ bN O C K t n ≠ 0) ∧ v = -4) ∨ ((¬ ∃ t, t < m ∧ bN O C K t n ≠ 0) ∧ v = nI (sg (fun s => tn (f_X4_moved_9 (nI s) M)) (fun t o => sN O C K t o n) w m))) := by
  have hm := hB.1.2.1
  have hn := hB.1.1
  have hw := hB.1.2.2
  have h8w := pw8 hw
  unfold f_X7_signature_0
  rw [hV.1.2.1, hV.1.2.2.1, hV.1.2.2.2]
  refine lp_bnd (fun v => v) (fun t s => s = (nI (sg (fun s => tn (f_X4_moved_9 (nI s) M)) (fun t o => sN O C K t o n) w t), nI t) ∧ ¬ ∃ t', t' < t ∧ bN O C K t' n ≠ 0) (fun q => (q = .inl (-4) ∧ ∃ t, t < m ∧ bN O C K t n ≠ 0) ∨ (∃ y, q = .inr (nI (sg (fun s => tn (f_X4_moved_9 (nI s) M)) (fun t o => sN O C K t o n) w m), y) ∧ ¬ ∃ t, t < m ∧ bN O C K t n ≠ 0)) (n := m) (lpF (by omega)) ⟨rfl, by rintro ⟨t, ht, -⟩; omega⟩ ?_ ?_ ?_
  · rintro t s ht ⟨rfl, hs⟩
    dsimp only
    rw [if_neg (nle_n ht (by omega)), blur_c hB hV ht hB.2.1, Option.bind_some]
    have hb := bN_lt (O := O) (C := C) (t := t) hB.2.2.2
    by_cases e : bN O C K t n = 0
    · rw [e, if_pos (c := nI 0 = 0) rfl, tn_n (f_X4_moved_9 _ M)]
      have hu := (unb hB ht).mp e
      refine Or.inl (lp_bnd Sum.inl (fun o s => s = (nI (sgI (fun o => sN O C K t o n) (tn (f_X4_moved_9 (nI (sg (fun s => tn (f_X4_moved_9 (nI s) M)) (fun t o => sN O C K t o n) w t)) M)) o), nI o)) (fun q => q = (nI (sgI (fun o => sN O C K t o n) (tn (f_X4_moved_9 (nI (sg (fun s => tn (f_X4_moved_9 (nI s) M)) (fun t o => sN O C K t o n) w t)) M)) w), nI w)) (n := w) (lpF (by omega)) rfl ?_ ?_ ?_)
      · rintro o s ho rfl
        dsimp only
        have h2 := (sN_2 (O := O) (C := C) (K := K) (t := t) (o := o) (m := m) ht hB.2.2.1).1
        have h3 := hu o ho
        rw [if_neg (nle_n ho (by omega)), seen_c9 hB hV ht ho, Option.bind_some, shl_bit (by omega) (by omega), n_xor, nI_s]
        exact Or.inl ⟨_, rfl, rfl⟩
      · rintro s rfl
        dsimp only
        rw [if_pos (nle_y (by omega) (by omega))]
        exact ⟨_, rfl, rfl⟩
      · rintro q rfl
        refine ⟨_, rfl, by rw [nI_s]; rfl, ?_⟩
        rintro ⟨t', ht', hr⟩
        by_cases et : t' = t
        · subst et; exact hr e
        · exact hs ⟨t', by omega, hr⟩
    · rw [if_neg (c := nI (bN O C K t n) = 0) (nI_ne (b := 0) (by omega) (by omega) e)]
      exact Or.inr ⟨_, rfl, Or.inl ⟨rfl, t, ht, e⟩⟩
  · rintro s ⟨rfl, hs⟩
    dsimp only
    rw [if_pos (nle_y (by omega) (by omega))]
    exact ⟨_, rfl, Or.inr ⟨_, rfl, hs⟩⟩
  · rintro q (⟨rfl, h⟩ | ⟨y, rfl, h⟩)
    · exact ⟨_, rfl, Or.inl ⟨h, rfl⟩⟩
    · exact ⟨_, rfl, Or.inr ⟨h, rfl⟩⟩
theorem sig_r {M : am_M} {n m w O C K} (hB : VB n m w O C K) (hV : VR M n m w O C K) (p2 : M 9 2 = nI w) (q6 : M 44 6 = M 9 6) : ∃ v, f_X8_signature_43 M = some v ∧ (((∃ t, t < m ∧ bN O C K t n ≠ 0) ∧ v = -4) ∨ ((¬ ∃ t, t < m ∧ bN O C K t n ≠ 0) ∧ v = nI (sg (fun s => tn (f_X4_moved_9 (nI s) M)) (fun t o => sN O C K t o n) w m))) := by
  have hm := hB.1.2.1
  have hn := hB.1.1
  have hw := hB.1.2.2
  have h8w := pw8 hw
  have hpw : 0 < 2 ^ w := Nat.pow_pos (by omega)
  unfold f_X8_signature_43
  rw [clamp1, clamp2, hV.1.2.1, hV.1.2.2.1]
  refine lp_bnd (fun v => v) (fun t s => s = (nI (sg (fun s => tn (f_X4_moved_9 (nI s) M)) (fun t o => sN O C K t o n) w t), nI t) ∧ sg (fun s => tn (f_X4_moved_9 (nI s) M)) (fun t o => sN O C K t o n) w t < 2 ^ w ∧ ¬ ∃ t', t' < t ∧ bN O C K t' n ≠ 0) (fun q => (q = .inl (-4) ∧ ∃ t, t < m ∧ bN O C K t n ≠ 0) ∨ (∃ y, q = .inr (nI (sg (fun s => tn (f_X4_moved_9 (nI s) M)) (fun t o => sN O C K t o n) w m), y) ∧ ¬ ∃ t, t < m ∧ bN O C K t n ≠ 0)) (n := m) (lpF (by omega)) ⟨rfl, hpw, by rintro ⟨t, ht, -⟩; omega⟩ ?_ ?_ ?_
  · rintro t s ht ⟨rfl, hlt, hs⟩
    dsimp only
    rw [if_neg (nle_n ht (by omega)), mv_eq hw p2 hV.1.2.2.1 q6 hlt, tn_n (f_X4_moved_9 _ M)]
    have hml := mv_lt hw p2 (nI (sg (fun s => tn (f_X4_moved_9 (nI s) M)) (fun t o => sN O C K t o n) w t))
    have hl := lp_bnd (τ := (Int32 × Int32) ⊕ (Int32 ⊕ (Int32 × Int32))) (fun v => v) (P := fun r => (r = .inl (nI (sg (fun s => tn (f_X4_moved_9 (nI s) M)) (fun t o => sN O C K t o n) w (t + 1)), nI (t + 1)) ∧ bN O C K t n = 0) ∨ (r = .inr (.inl (-4)) ∧ bN O C K t n ≠ 0)) (s0 := (nI (tn (f_X4_moved_9 (nI (sg (fun s => tn (f_X4_moved_9 (nI s) M)) (fun t o => sN O C K t o n) w t)) M)), 0)) (F := lp_F)
      (k := (fun os16 => Sum.elim (fun u => (some (.inr (.inl u)))) (fun (s16 : Int32 × Int32) => match s16 with | (x17, x18) => (some (.inl (x17, (nI t + 1))))) os16))
      (body := (fun (s8 : Int32 × Int32) => match s8 with | (x9, x10) => (if nI w ≤ x10 then (some (.inr (.inr (x9, x10)))) else ((f_X8_seenAt_43 (nI t) x10 M).bind (fun v14 => (if v14 = 2 then (some (.inr (.inl (-4)))) else (some (.inl ((x9 ^^^ (v14 <<< (x10 &&& 31))), (x10 + 1))))))))))
      (fun o s => s = (nI (sgI (fun o => sN O C K t o n) (tn (f_X4_moved_9 (nI (sg (fun s => tn (f_X4_moved_9 (nI s) M)) (fun t o => sN O C K t o n) w t)) M)) o), nI o) ∧ ∀ o', o' < o → sN O C K t o' n ≠ 2) (fun q => (q = .inl (-4) ∧ bN O C K t n ≠ 0) ∨ (q = .inr (nI (sgI (fun o => sN O C K t o n) (tn (f_X4_moved_9 (nI (sg (fun s => tn (f_X4_moved_9 (nI s) M)) (fun t o => sN O C K t o n) w t)) M)) w), nI w) ∧ bN O C K t n = 0)) (n := w) (lpF (by omega)) ⟨rfl, fun o' ho => by omega⟩ ?_ ?_ ?_
    · obtain ⟨r, hr, h2⟩ := hl
      rcases h2 with ⟨rfl, h3⟩ | ⟨rfl, h3⟩
      · refine Or.inl ⟨_, hr, rfl, ?_, ?_⟩
        · exact sgI_lt hml (Nat.le_refl w) (fun o ho => by
            have h2 := (sN_2 (O := O) (C := C) (K := K) (t := t) (o := o) (m := m) ht hB.2.2.1).1
            have h4 := (unb hB ht).mp h3 o ho
            show sN O C K t o n ≤ 1
            omega)
        · rintro ⟨t', ht', hr'⟩
          by_cases et : t' = t
          · subst et; exact hr' h3
          · exact hs ⟨t', by omega, hr'⟩
      · exact Or.inr ⟨_, hr, Or.inl ⟨rfl, t, ht, h3⟩⟩
    · rintro o s ho ⟨rfl, hs'⟩
      dsimp only
      have h2 := (sN_2 (O := O) (C := C) (K := K) (t := t) (o := o) (m := m) ht hB.2.2.1).1
      rw [if_neg (nle_n ho (by omega)), seen_r hB hV ht ho, Option.bind_some]
      by_cases e : sN O C K t o n = 2
      · rw [e, if_pos (c := nI 2 = 2) rfl]
        exact Or.inr ⟨_, rfl, Or.inl ⟨rfl, fun h => (unb hB ht).mp h o ho e⟩⟩
      · rw [if_neg (c := nI (sN O C K t o n) = 2) (nI_ne (b := 2) (by omega) (by omega) e), shl_bit (by omega) (by omega), n_xor, nI_s]
        refine Or.inl ⟨_, rfl, rfl, ?_⟩
        intro o' ho'
        by_cases eo : o' = o
        · subst eo; exact e
        · exact hs' o' (by omega)
    · rintro s ⟨rfl, hs'⟩
      dsimp only
      rw [if_pos (nle_y (by omega) (by omega))]
      exact ⟨_, rfl, Or.inr ⟨rfl, (unb hB ht).mpr hs'⟩⟩
    · rintro q (⟨rfl, h⟩ | ⟨rfl, h⟩)
      · exact ⟨_, rfl, Or.inr ⟨rfl, h⟩⟩
      · exact ⟨_, rfl, Or.inl ⟨by rw [nI_s]; rfl, h⟩⟩
  · rintro s ⟨rfl, hlt, hs⟩
    dsimp only
    rw [if_pos (nle_y (by omega) (by omega))]
    exact ⟨_, rfl, Or.inr ⟨_, rfl, hs⟩⟩
  · rintro q (⟨rfl, h⟩ | ⟨y, rfl, h⟩)
    · exact ⟨_, rfl, Or.inl ⟨h, rfl⟩⟩
    · exact ⟨_, rfl, Or.inr ⟨h, rfl⟩⟩
theorem op_signature {M : am_M} (h : Rel M) : ∃ v, f_X7_signature_0 M = some v ∧ f_X8_signature_43 M = some v ∧ Rel M := by
  obtain ⟨n, m, w, O, C, K, hB, hVC, hVR⟩ := rel_V h
  obtain ⟨n', m', w', b', -, ⟨p0, p1, p2, p4⟩, ⟨q0, q1, q2, q3, q4, q5, q6⟩, -⟩ := chp_iff.mp h.1
  obtain ⟨v, e1, h1⟩ := sig_c hB hVC
  obtain ⟨v', e2, h2⟩ := sig_r hB hVR hVC.1.2.2.1 q6
  refine ⟨v, e1, ?_, h⟩
  rw [e2]
  rcases h1 with ⟨h1, rfl⟩ | ⟨h1, rfl⟩ <;> rcases h2 with ⟨h2, rfl⟩ | ⟨h2, rfl⟩
  · rfl
  · exact absurd h1 h2
  · exact absurd h2 h1
  · rfl
