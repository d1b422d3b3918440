/-! WHAT A TEXT SAYS -/
def ls (L : Nat) : Nat := if L = 1 then 2 else if L = 2 then 1 else if L = 3 then 2 else if L = 4 then 1 else 3
def mx (L : Nat) : Nat := if L = 1 then 160 else if L = 2 then 160 else ls L
def lo (L k : Nat) : Nat := if L = 0 then 1 else if L = 3 then (if k = 0 then 1 else 0) else 0
def hi (L k : Nat) : Nat := if L = 0 then 8 else if L = 1 then 7 else if L = 2 then 7 else if L = 3 then (if k = 0 then 12 else 4095) else if L = 4 then 255 else if L = 5 then (if k = 2 then 2 else 7) else 7
/-- a chain is told -/
def tch (v : Nat) (h : Nat → Nat) : Nat → Nat := nr (nr h 0 (max (h 0) (v + 1))) 7 v
def tA (L k v : Nat) (A h : Nat → Nat) : (Nat → Nat) × (Nat → Nat) :=
  if L = 0 then (nr A (if k = 0 then 0 else if k = 1 then 1 else 2) v, h)
  else if L = 1 then (if k = 0 then (A, tch v h) else (nr A (135 + h 7) (A (135 + h 7) ||| 2 ^ v), nr h 2 (max (h 2) (v + 1))))
  else if L = 2 then (nr A 3 (A 3 ||| 2 ^ v), tch v h)
  else if L = 3 then (nr A (if k = 0 then 4 else 5) v, h)
  else if L = 4 then (nr A 6 v, h)
  else (if k = 0 then (A, tch v h) else if k = 1 then (A, nr (nr h 1 (max (h 1) (v + 1))) 8 v) else if k = 2 then (nr A (7 + (8 * h 7 + h 8)) v, h) else (A, h))
def nlS (g : Nat → Nat) (l L : Nat) : Nat → Nat → Nat → (Nat → Nat) → (Nat → Nat) → (Nat × Nat) ⊕ (Nat × (Nat → Nat) × (Nat → Nat))
  | 0, _, _, _, _ => .inl (0, 0)
  | f + 1, k, q, A, h => if mx L ≤ k ∨ kd g l q ≠ 2 then (if k < ls L ∨ kd g l q ≠ 3 then .inl (if kd g l q = 0 then 1 else 2, q) else .inr (sk g l (en g l q), A, h)) else if vl g l q < lo L k ∨ hi L k < vl g l q then .inl (3, q) else nlS g l L f (k + 1) (sk g l (en g l q)) (tA L k (vl g l q) A h).1 (tA L k (vl g l q) A h).2
def CS (M : am_M) (A h : Nat → Nat) : Prop := (∀ j, j < 7 → M 4 j = nI (A j)) ∧ (∀ i, i < 64 → M 5 i = nI (A (7 + i))) ∧ (∀ i, i < 64 → M 6 i = 2) ∧ (∀ c, c < 8 → M 7 c = nI (A (135 + c))) ∧ (M 1 7 = nI (h 0) ∧ M 1 8 = nI (h 1) ∧ M 1 9 = nI (h 2) ∧ M 1 5 = nI (h 7) ∧ M 1 6 = nI (h 8)) ∧ M 1 4 = nI (h 3 + 8 * h 4 + 16 * h 5)
def BS (A h : Nat → Nat) : Prop := (A 0 ≤ 8 ∧ A 1 ≤ 8 ∧ A 2 ≤ 8) ∧ (1 ≤ A 4 ∧ A 4 ≤ 12 ∧ A 5 < 4096 ∧ A 6 < 256) ∧ A 3 < 2 ^ (h 0) ∧ (∀ c, c < 8 → A (135 + c) < 2 ^ (h 2)) ∧ (∀ i, i < 64 → A (7 + i) ≤ 2) ∧ (∀ i, i < 64 → A (71 + i) = 2) ∧ (h 0 ≤ 8 ∧ h 1 ≤ 8 ∧ h 2 ≤ 8) ∧ (h 3 ≤ 1 ∧ h 4 ≤ 1 ∧ h 5 ≤ 1) ∧ (h 3 = 0 → A 0 = 0)
def TP (L k : Nat) (h : Nat → Nat) : Prop := ((L = 1 ∨ L = 5) → 1 ≤ k → h 7 ≤ 7) ∧ (L = 5 → 2 ≤ k → h 8 ≤ 7)
theorem cs_4 {M : am_M} {A h : Nat → Nat} {j v : Nat} (hj : j < 7) (hc : CS M A h) : CS (am_up M 4 j (nI v)) (nr A j v) h := by
  obtain ⟨c4, c5, c6, c7, ch, ct⟩ := hc
  refine ⟨fun i hi => ?_, fun i hi => ?_, fun i hi => ?_, fun i hi => ?_, ?_, ?_⟩
  · by_cases e : i = j
    · subst e; rw [up_s, nr_s]
    · rw [up_k e, nr_o e, c4 i hi]
  · rw [up_p (by decide), nr_o (by omega), c5 i hi]
  · rw [up_p (by decide), c6 i hi]
  · rw [up_p (by decide), nr_o (by omega), c7 i hi]
  · rw [up_p (by decide), up_p (by decide), up_p (by decide), up_p (by decide), up_p (by decide)]; exact ch
  · rw [up_p (by decide)]; exact ct
theorem cs_5 {M : am_M} {A h : Nat → Nat} {j v : Nat} (hj : j < 64) (hc : CS M A h) : CS (am_up M 5 j (nI v)) (nr A (7 + j) v) h := by
  obtain ⟨c4, c5, c6, c7, ch, ct⟩ := hc
  refine ⟨fun i hi => ?_, fun i hi => ?_, fun i hi => ?_, fun i hi => ?_, ?_, ?_⟩
  · rw [up_p (by decide), nr_o (by omega), c4 i hi]
  · by_cases e : i = j
    · subst e; rw [up_s, nr_s]
    · rw [up_k e, nr_o (by omega), c5 i hi]
  · rw [up_p (by decide), c6 i hi]
  · rw [up_p (by decide), nr_o (by omega), c7 i hi]
  · rw [up_p (by decide), up_p (by decide), up_p (by decide), up_p (by decide), up_p (by decide)]; exact ch
  · rw [up_p (by decide)]; exact ct
theorem cs_7 {M : am_M} {A h : Nat → Nat} {j v : Nat} (hj : j < 8) (hc : CS M A h) : CS (am_up M 7 j (nI v)) (nr A (135 + j) v) h := by
  obtain ⟨c4, c5, c6, c7, ch, ct⟩ := hc
  refine ⟨fun i hi => ?_, fun i hi => ?_, fun i hi => ?_, fun i hi => ?_, ?_, ?_⟩
  · rw [up_p (by decide), nr_o (by omega), c4 i hi]
  · rw [up_p (by decide), nr_o (by omega), c5 i hi]
  · rw [up_p (by decide), c6 i hi]
  · by_cases e : i = j
    · subst e; rw [up_s, nr_s]
    · rw [up_k e, nr_o (by omega), c7 i hi]
  · rw [up_p (by decide), up_p (by decide), up_p (by decide), up_p (by decide), up_p (by decide)]; exact ch
  · rw [up_p (by decide)]; exact ct
theorem cs_h0 {M : am_M} {A h : Nat → Nat} {v : Nat} (hc : CS M A h) : CS (am_up M 1 7 (nI v)) A (nr h 0 v) := by
  obtain ⟨c4, c5, c6, c7, ch, ct⟩ := hc
  exact ⟨fun i hi => by rw [up_p (by decide), c4 i hi], fun i hi => by rw [up_p (by decide), c5 i hi], fun i hi => by rw [up_p (by decide), c6 i hi], fun i hi => by rw [up_p (by decide), c7 i hi], ⟨by rw [up_s, nr_s], by rw [up_k (by decide), nr_o (by decide)]; exact ch.2.1, by rw [up_k (by decide), nr_o (by decide)]; exact ch.2.2.1, by rw [up_k (by decide), nr_o (by decide)]; exact ch.2.2.2.1, by rw [up_k (by decide), nr_o (by decide)]; exact ch.2.2.2.2⟩, by rw [up_k (by decide), nr_o (by decide), nr_o (by decide), nr_o (by decide)]; exact ct⟩
theorem cs_h1 {M : am_M} {A h : Nat → Nat} {v : Nat} (hc : CS M A h) : CS (am_up M 1 8 (nI v)) A (nr h 1 v) := by
  obtain ⟨c4, c5, c6, c7, ch, ct⟩ := hc
  exact ⟨fun i hi => by rw [up_p (by decide), c4 i hi], fun i hi => by rw [up_p (by decide), c5 i hi], fun i hi => by rw [up_p (by decide), c6 i hi], fun i hi => by rw [up_p (by decide), c7 i hi], ⟨by rw [up_k (by decide), nr_o (by decide)]; exact ch.1, by rw [up_s, nr_s], by rw [up_k (by decide), nr_o (by decide)]; exact ch.2.2.1, by rw [up_k (by decide), nr_o (by decide)]; exact ch.2.2.2.1, by rw [up_k (by decide), nr_o (by decide)]; exact ch.2.2.2.2⟩, by rw [up_k (by decide), nr_o (by decide), nr_o (by decide), nr_o (by decide)]; exact ct⟩
theorem cs_h2 {M : am_M} {A h : Nat → Nat} {v : Nat} (hc : CS M A h) : CS (am_up M 1 9 (nI v)) A (nr h 2 v) := by
  obtain ⟨c4, c5, c6, c7, ch, ct⟩ := hc
  exact ⟨fun i hi => by rw [up_p (by decide), c4 i hi], fun i hi => by rw [up_p (by decide), c5 i hi], fun i hi => by rw [up_p (by decide), c6 i hi], fun i hi => by rw [up_p (by decide), c7 i hi], ⟨by rw [up_k (by decide), nr_o (by decide)]; exact ch.1, by rw [up_k (by decide), nr_o (by decide)]; exact ch.2.1, by rw [up_s, nr_s], by rw [up_k (by decide), nr_o (by decide)]; exact ch.2.2.2.1, by rw [up_k (by decide), nr_o (by decide)]; exact ch.2.2.2.2⟩, by rw [up_k (by decide), nr_o (by decide), nr_o (by decide), nr_o (by decide)]; exact ct⟩
theorem cs_h7 {M : am_M} {A h : Nat → Nat} {v : Nat} (hc : CS M A h) : CS (am_up M 1 5 (nI v)) A (nr h 7 v) := by
  obtain ⟨c4, c5, c6, c7, ch, ct⟩ := hc
  exact ⟨fun i hi => by rw [up_p (by decide), c4 i hi], fun i hi => by rw [up_p (by decide), c5 i hi], fun i hi => by rw [up_p (by decide), c6 i hi], fun i hi => by rw [up_p (by decide), c7 i hi], ⟨by rw [up_k (by decide), nr_o (by decide)]; exact ch.1, by rw [up_k (by decide), nr_o (by decide)]; exact ch.2.1, by rw [up_k (by decide), nr_o (by decide)]; exact ch.2.2.1, by rw [up_s, nr_s], by rw [up_k (by decide), nr_o (by decide)]; exact ch.2.2.2.2⟩, by rw [up_k (by decide), nr_o (by decide), nr_o (by decide), nr_o (by decide)]; exact ct⟩
theorem cs_h8 {M : am_M} {A h : Nat → Nat} {v : Nat} (hc : CS M A h) : CS (am_up M 1 6 (nI v)) A (nr h 8 v) := by
  obtain ⟨c4, c5, c6, c7, ch, ct⟩ := hc
  exact ⟨fun i hi => by rw [up_p (by decide), c4 i hi], fun i hi => by rw [up_p (by decide), c5 i hi], fun i hi => by rw [up_p (by decide), c6 i hi], fun i hi => by rw [up_p (by decide), c7 i hi], ⟨by rw [up_k (by decide), nr_o (by decide)]; exact ch.1, by rw [up_k (by decide), nr_o (by decide)]; exact ch.2.1, by rw [up_k (by decide), nr_o (by decide)]; exact ch.2.2.1, by rw [up_k (by decide), nr_o (by decide)]; exact ch.2.2.2.1, by rw [up_s, nr_s]⟩, by rw [up_k (by decide), nr_o (by decide), nr_o (by decide), nr_o (by decide)]; exact ct⟩
theorem imx {a b : Nat} (ha : a < 2 ^ 31) (hb : b < 2 ^ 31) : imax (nI a) (nI b) = nI (max a b) := by
  unfold imax
  by_cases e : a < b
  · rw [if_pos ((ni_lt ha hb).mpr e), Nat.max_eq_right (by omega)]
  · rw [if_neg (fun h => e ((ni_lt ha hb).mp h)), Nat.max_eq_left (by omega)]
/-- what telling leaves -/
def F1 (M r : am_M) : Prop := (∀ x, x ≠ 1 → x ≠ 4 → x ≠ 5 → x ≠ 7 → r x = M x) ∧ r 1 2 = M 1 2
theorem F1_t {A B C : am_M} (h : F1 A B) (h' : F1 B C) : F1 A C := ⟨fun x a b c d => (h'.1 x a b c d).trans (h.1 x a b c d), h'.2.trans h.2⟩
theorem F1_r {A : am_M} : F1 A A := ⟨fun _ _ _ _ _ => rfl, rfl⟩
theorem F1_u {A : am_M} {p k : Nat} {v : Int32} (hk : (p = 1 ∧ k ≠ 2) ∨ p = 4 ∨ p = 5 ∨ p = 7) : F1 A (am_up A p k v) := by
  refine ⟨fun x a b c d => am_up_ne (by omega), ?_⟩
  by_cases e : 1 = p
  · exact up_k (by omega)
  · exact up_p e
theorem tch_c {M : am_M} {A h : Nat → Nat} {v : Nat} (hv : v < 100) (h0 : h 0 ≤ 8) (hc : CS M A h) : ∃ r, f_X6_tellChain_1 (nI v) M = some r ∧ (CS r A (tch v h) ∧ F1 M r) := by
  unfold f_X6_tellChain_1 tch
  rw [bl_s, hc.2.2.2.2.1.1, nI_s, imx (by omega) (by omega), bl_s]
  exact ⟨_, rfl, cs_h7 (cs_h0 hc), F1_t (F1_u (by omega)) (F1_u (by omega))⟩
theorem shl_v {v : Nat} (hv : v < 31) : (1 : Int32) <<< (nI v &&& 31) = nI (2 ^ v) := by
  have := shl_1 (v := 1) (i := v) (by omega) hv
  rw [Nat.one_mul] at this
  exact this
theorem tell_c {M : am_M} {A h : Nat → Nat} {L k v : Nat} (hL : L < 6) (hk : k < 2 ^ 31) (hv : v ≤ hi L k) (hb : BS A h) (ht : TP L k h) (hc : CS M A h) : ∃ r, f_X6_tell_1 (nI L) (nI k) (nI v) M = some r ∧ (CS r (tA L k v A h).1 (tA L k v A h).2 ∧ F1 M r) := by
  have h0 := hb.2.2.2.2.2.2.1
  have k0 : ∀ c : Nat, c < 2 ^ 31 → (nI k = nI c ↔ k = c) := fun c hc => nI_eq hk hc
  have h6 : L = 0 ∨ L = 1 ∨ L = 2 ∨ L = 3 ∨ L = 4 ∨ L = 5 := by omega
  unfold f_X6_tell_1
  rcases h6 with rfl | rfl | rfl | rfl | rfl | rfl
  · rw [bl_s, if_neg (c := nI 0 = 2) (by decide), if_neg (c := nI 0 = 1) (by decide), if_neg (c := nI 0 = 5) (by decide)]
    have e : ∀ X : Option am_M, (if nI k = 0 then X else X) = X := fun X => by split <;> rfl
    rw [e]
    dsimp only
    rw [if_pos (c := nI 0 = 0) rfl]
    unfold f_X6_tellChip_1
    show ∃ r, _ ∧ (CS r (nr A (if k = 0 then 0 else if k = 1 then 1 else 2) v) h ∧ F1 M r)
    by_cases e0 : k = 0
    · rw [if_pos (c := nI k = 0) (by rw [e0]; rfl), if_pos e0, bl_s]
      exact ⟨_, rfl, cs_4 (by omega) hc, F1_u (by omega)⟩
    · rw [if_neg (c := nI k = 0) (fun q => e0 ((k0 0 (by omega)).mp q)), if_neg e0]
      by_cases e1 : k = 1
      · rw [if_pos (c := nI k = 1) (by rw [e1]; rfl), if_pos e1, bl_s]
        exact ⟨_, rfl, cs_4 (by omega) hc, F1_u (by omega)⟩
      · rw [if_neg (c := nI k = 1) (fun q => e1 ((k0 1 (by omega)).mp q)), if_neg e1, bl_s]
        exact ⟨_, rfl, cs_4 (by omega) hc, F1_u (by omega)⟩
  · have hv7 : v ≤ 7 := hv
    rw [bl_s, if_neg (c := nI 1 = 2) (by decide), if_pos (c := nI 1 = 1) rfl]
    show ∃ r, _ ∧ (CS r (if k = 0 then (A, tch v h) else (nr A (135 + h 7) (A (135 + h 7) ||| 2 ^ v), nr h 2 (max (h 2) (v + 1)))).1 (if k = 0 then (A, tch v h) else (nr A (135 + h 7) (A (135 + h 7) ||| 2 ^ v), nr h 2 (max (h 2) (v + 1)))).2 ∧ F1 M r)
    by_cases e0 : k = 0
    · obtain ⟨r, er, r1, r2⟩ := tch_c (v := v) (by omega) h0.1 hc
      rw [if_pos (c := nI k = 0) (by rw [e0]; rfl), if_pos e0, er, Option.bind_some]
      dsimp only
      rw [if_neg (c := nI 1 = 0) (by decide), if_pos (c := nI 1 = 1) rfl]
      unfold f_X6_tellColumn_1
      rw [if_pos (c := nI k ≤ 0) (by rw [e0]; decide)]
      exact ⟨r, rfl, r1, r2⟩
    · rw [if_neg (c := nI k = 0) (fun q => e0 ((k0 0 (by omega)).mp q)), if_neg e0]
      dsimp only
      rw [if_neg (c := nI 1 = 0) (by decide), if_pos (c := nI 1 = 1) rfl]
      unfold f_X6_tellColumn_1
      have h7 := ht.1 (Or.inl rfl) (by omega)
      rw [if_neg (c := nI k ≤ 0) (fun q => by
        have := (ni_le (b := 0) hk (by omega)).mp q
        omega), bl_s, hc.2.2.2.2.1.2.2.1, nI_s, imx (by omega) (by omega), up_k (j := 5) (by decide), hc.2.2.2.2.1.2.2.2.1, if_pos (db_ok (by omega) (by omega)), if_pos (db_ok (by omega) (by omega)), nI_clamp (by omega), up_p (q := 7) (by decide), hc.2.2.2.1 _ (by omega), shl_v (by omega), n_or, bl_s]
      exact ⟨_, rfl, cs_7 (by omega) (cs_h2 hc), F1_t (F1_u (by omega)) (F1_u (by omega))⟩
  · have hv7 : v ≤ 7 := hv
    obtain ⟨r, er, r1, r2⟩ := tch_c (v := v) (by omega) h0.1 hc
    rw [bl_s, if_pos (c := nI 2 = 2) rfl, er, Option.bind_some]
    dsimp only
    rw [if_neg (c := nI 2 = 0) (by decide), if_neg (c := nI 2 = 1) (by decide), if_pos (c := nI 2 = 2) rfl, r1.1 3 (by omega), shl_v (by omega), n_or, bl_s]
    exact ⟨_, rfl, cs_4 (by omega) r1, F1_t r2 (F1_u (by omega))⟩
  · rw [bl_s, if_neg (c := nI 3 = 2) (by decide), if_neg (c := nI 3 = 1) (by decide), if_neg (c := nI 3 = 5) (by decide)]
    have e : ∀ X : Option am_M, (if nI k = 0 then X else X) = X := fun X => by split <;> rfl
    rw [e]
    dsimp only
    rw [if_neg (c := nI 3 = 0) (by decide), if_neg (c := nI 3 = 1) (by decide), if_neg (c := nI 3 = 2) (by decide), if_pos (c := nI 3 = 3) rfl]
    unfold f_X6_tellRegister_1
    show ∃ r, _ ∧ (CS r (nr A (if k = 0 then 4 else 5) v) h ∧ F1 M r)
    by_cases e0 : k = 0
    · rw [if_pos (c := nI k = 0) (by rw [e0]; rfl), if_pos e0, bl_s]
      exact ⟨_, rfl, cs_4 (by omega) hc, F1_u (by omega)⟩
    · rw [if_neg (c := nI k = 0) (fun q => e0 ((k0 0 (by omega)).mp q)), if_neg e0, bl_s]
      exact ⟨_, rfl, cs_4 (by omega) hc, F1_u (by omega)⟩
  · rw [bl_s, if_neg (c := nI 4 = 2) (by decide), if_neg (c := nI 4 = 1) (by decide), if_neg (c := nI 4 = 5) (by decide)]
    have e : ∀ X : Option am_M, (if nI k = 0 then X else X) = X := fun X => by split <;> rfl
    rw [e]
    dsimp only
    rw [if_neg (c := nI 4 = 0) (by decide), if_neg (c := nI 4 = 1) (by decide), if_neg (c := nI 4 = 2) (by decide), if_neg (c := nI 4 = 3) (by decide), if_pos (c := nI 4 = 4) rfl, bl_s]
    exact ⟨_, rfl, cs_4 (by omega) hc, F1_u (by omega)⟩
  · rw [bl_s, if_neg (c := nI 5 = 2) (by decide), if_neg (c := nI 5 = 1) (by decide), if_pos (c := nI 5 = 5) rfl]
    show ∃ r, _ ∧ (CS r (if k = 0 then (A, tch v h) else if k = 1 then (A, nr (nr h 1 (max (h 1) (v + 1))) 8 v) else if k = 2 then (nr A (7 + (8 * h 7 + h 8)) v, h) else (A, h)).1 (if k = 0 then (A, tch v h) else if k = 1 then (A, nr (nr h 1 (max (h 1) (v + 1))) 8 v) else if k = 2 then (nr A (7 + (8 * h 7 + h 8)) v, h) else (A, h)).2 ∧ F1 M r)
    have hv7 : v ≤ 7 := by
      have : hi 5 k ≤ 7 := by
        show (if k = 2 then 2 else 7) ≤ 7
        split <;> omega
      omega
    by_cases e0 : k = 0
    · obtain ⟨r, er, r1, r2⟩ := tch_c (v := v) (by omega) h0.1 hc
      rw [if_pos (c := nI k = 0) (by rw [e0]; rfl), if_pos e0, er, Option.bind_some]
      dsimp only
      rw [if_neg (c := nI 5 = 0) (by decide), if_neg (c := nI 5 = 1) (by decide), if_neg (c := nI 5 = 2) (by decide), if_neg (c := nI 5 = 3) (by decide), if_neg (c := nI 5 = 4) (by decide)]
      unfold f_X6_tellCell_1
      rw [if_neg (c := nI k = 1) (fun q => by
        have := (k0 1 (by omega)).mp q
        omega), if_neg (c := nI k = 2) (fun q => by
        have := (k0 2 (by omega)).mp q
        omega)]
      exact ⟨r, rfl, r1, r2⟩
    · rw [if_neg (c := nI k = 0) (fun q => e0 ((k0 0 (by omega)).mp q)), if_neg e0]
      dsimp only
      rw [if_neg (c := nI 5 = 0) (by decide), if_neg (c := nI 5 = 1) (by decide), if_neg (c := nI 5 = 2) (by decide), if_neg (c := nI 5 = 3) (by decide), if_neg (c := nI 5 = 4) (by decide)]
      unfold f_X6_tellCell_1
      have h7 := ht.1 (Or.inr rfl) (by omega)
      by_cases e1 : k = 1
      · rw [if_pos (c := nI k = 1) (by rw [e1]; rfl), if_pos e1, bl_s, hc.2.2.2.2.1.2.1, nI_s, imx (by omega) (by omega), bl_s]
        exact ⟨_, rfl, cs_h8 (cs_h1 hc), F1_t (F1_u (by omega)) (F1_u (by omega))⟩
      · rw [if_neg (c := nI k = 1) (fun q => e1 ((k0 1 (by omega)).mp q)), if_neg e1]
        by_cases e2 : k = 2
        · have h8 := ht.2 rfl (by omega)
          rw [if_pos (c := nI k = 2) (by rw [e2]; rfl), if_pos e2, hc.2.2.2.2.1.2.2.2.1, hc.2.2.2.2.1.2.2.2.2, a_at, if_pos (db_ok (by omega) (by omega)), nI_clamp (by omega), bl_s]
          exact ⟨_, rfl, cs_5 (by omega) hc, F1_u (by omega)⟩
        · rw [if_neg (c := nI k = 2) (fun q => e2 ((k0 2 (by omega)).mp q)), if_neg e2]
          exact ⟨_, rfl, hc, F1_r⟩
