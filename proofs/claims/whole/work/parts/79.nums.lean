/-! BOUNDS; THE CLASS TAKES NUMBERS -/
theorem bs_s {A h : Nat → Nat} {j v : Nat} (hj : j < 7) (hj3 : j ≠ 3) (hv : (j ≤ 2 → v ≤ 8) ∧ (j = 4 → 1 ≤ v ∧ v ≤ 12) ∧ (j = 5 → v < 4096) ∧ (j = 6 → v < 256)) (h3 : h 3 = 1 ∨ j ≠ 0) (hb : BS A h) : BS (nr A j v) h := by
  obtain ⟨b1, b2, b3, b4, b5, b6, b7, b8, b9⟩ := hb
  have e : ∀ i, nr A j v i = if i = j then v else A i := fun i => rfl
  refine ⟨?_, ?_, ?_, fun c hc => ?_, fun i hi => ?_, fun i hi => ?_, b7, b8, fun h0 => ?_⟩
  · rw [e, e, e]
    refine ⟨?_, ?_, ?_⟩ <;> split <;> omega
  · rw [e, e, e]
    refine ⟨?_, ?_, ?_, ?_⟩ <;> split <;> omega
  · rw [nr_o (by omega)]; exact b3
  · rw [nr_o (by omega)]; exact b4 c hc
  · rw [nr_o (by omega)]; exact b5 i hi
  · rw [nr_o (by omega)]; exact b6 i hi
  · rw [nr_o (by omega)]; exact b9 h0
theorem bs_tch {A h : Nat → Nat} {v : Nat} (hv : v ≤ 7) (hb : BS A h) : BS A (tch v h) ∧ v < tch v h 0 := by
  obtain ⟨b1, b2, b3, b4, b5, b6, b7, b8, b9⟩ := hb
  have e0 : tch v h 0 = max (h 0) (v + 1) := by unfold tch; rw [nr_o (by decide), nr_s]
  have eo : ∀ j, j ≠ 0 → j ≠ 7 → tch v h j = h j := fun j h1 h2 => by unfold tch; rw [nr_o h2, nr_o h1]
  refine ⟨⟨b1, b2, ?_, ?_, b5, b6, ?_, ?_, ?_⟩, by rw [e0]; omega⟩
  · rw [e0]
    exact Nat.lt_of_lt_of_le b3 (Nat.pow_le_pow_right (by omega) (Nat.le_max_left _ _))
  · rw [eo 2 (by decide) (by decide)]; exact b4
  · rw [e0, eo 1 (by decide) (by decide), eo 2 (by decide) (by decide)]
    omega
  · rw [eo 3 (by decide) (by decide), eo 4 (by decide) (by decide), eo 5 (by decide) (by decide)]; exact b8
  · rw [eo 3 (by decide) (by decide)]; exact b9
theorem bs_3 {A h : Nat → Nat} {v : Nat} (hv : v < h 0) (hb : BS A h) : BS (nr A 3 (A 3 ||| 2 ^ v)) h := by
  obtain ⟨b1, b2, b3, b4, b5, b6, b7, b8, b9⟩ := hb
  refine ⟨?_, ?_, ?_, fun c hc => ?_, fun i hi => ?_, fun i hi => ?_, b7, b8, fun h0 => ?_⟩
  · rw [nr_o (by decide), nr_o (by decide), nr_o (by decide)]; exact b1
  · rw [nr_o (by decide), nr_o (by decide), nr_o (by decide)]; exact b2
  · rw [nr_s]
    exact Nat.or_lt_two_pow b3 (Nat.pow_lt_pow_right (by omega) hv)
  · rw [nr_o (by omega)]; exact b4 c hc
  · rw [nr_o (by omega)]; exact b5 i hi
  · rw [nr_o (by omega)]; exact b6 i hi
  · rw [nr_o (by omega)]; exact b9 h0
theorem bs_c {A h : Nat → Nat} {c v : Nat} (hc8 : c < 8) (hv : v < h 2) (hb : BS A h) : BS (nr A (135 + c) (A (135 + c) ||| 2 ^ v)) h := by
  obtain ⟨b1, b2, b3, b4, b5, b6, b7, b8, b9⟩ := hb
  refine ⟨?_, ?_, ?_, fun c' hc => ?_, fun i hi => ?_, fun i hi => ?_, b7, b8, fun h0 => ?_⟩
  · rw [nr_o (by omega), nr_o (by omega), nr_o (by omega)]; exact b1
  · rw [nr_o (by omega), nr_o (by omega), nr_o (by omega)]; exact b2
  · rw [nr_o (by omega)]; exact b3
  · by_cases e : c' = c
    · subst e
      rw [nr_s]
      exact Nat.or_lt_two_pow (b4 c' hc) (Nat.pow_lt_pow_right (by omega) hv)
    · rw [nr_o (by omega)]; exact b4 c' hc
  · rw [nr_o (by omega)]; exact b5 i hi
  · rw [nr_o (by omega)]; exact b6 i hi
  · rw [nr_o (by omega)]; exact b9 h0
theorem bs_e {A h : Nat → Nat} {j v : Nat} (hj : j < 64) (hv : v ≤ 2) (hb : BS A h) : BS (nr A (7 + j) v) h := by
  obtain ⟨b1, b2, b3, b4, b5, b6, b7, b8, b9⟩ := hb
  refine ⟨?_, ?_, ?_, fun c' hc => ?_, fun i hi => ?_, fun i hi => ?_, b7, b8, fun h0 => ?_⟩
  · rw [nr_o (by omega), nr_o (by omega), nr_o (by omega)]; exact b1
  · rw [nr_o (by omega), nr_o (by omega), nr_o (by omega)]; exact b2
  · rw [nr_o (by omega)]; exact b3
  · rw [nr_o (by omega)]; exact b4 c' hc
  · by_cases e : i = j
    · subst e; rw [nr_s]; exact hv
    · rw [nr_o (by omega)]; exact b5 i hi
  · rw [nr_o (by omega)]; exact b6 i hi
  · rw [nr_o (by omega)]; exact b9 h0
theorem bs_h2 {A h : Nat → Nat} {v : Nat} (hv : v ≤ 7) (hb : BS A h) : BS A (nr h 2 (max (h 2) (v + 1))) := by
  obtain ⟨b1, b2, b3, b4, b5, b6, b7, b8, b9⟩ := hb
  refine ⟨b1, b2, ?_, fun c hc => ?_, b5, b6, ?_, ?_, ?_⟩
  · rw [nr_o (by decide)]; exact b3
  · rw [nr_s]
    exact Nat.lt_of_lt_of_le (b4 c hc) (Nat.pow_le_pow_right (by omega) (Nat.le_max_left _ _))
  · rw [nr_s, nr_o (by decide), nr_o (by decide)]; omega
  · rw [nr_o (by decide), nr_o (by decide), nr_o (by decide)]; exact b8
  · rw [nr_o (by decide)]; exact b9
theorem bs_h1 {A h : Nat → Nat} {v : Nat} (hv : v ≤ 7) (hb : BS A h) : BS A (nr (nr h 1 (max (h 1) (v + 1))) 8 v) := by
  obtain ⟨b1, b2, b3, b4, b5, b6, b7, b8, b9⟩ := hb
  have eo : ∀ j, j ≠ 1 → j ≠ 8 → nr (nr h 1 (max (h 1) (v + 1))) 8 v j = h j := fun j h1 h2 => by rw [nr_o h2, nr_o h1]
  refine ⟨b1, b2, ?_, fun c hc => ?_, b5, b6, ?_, ?_, ?_⟩
  · rw [eo 0 (by decide) (by decide)]; exact b3
  · rw [eo 2 (by decide) (by decide)]; exact b4 c hc
  · rw [eo 0 (by decide) (by decide), eo 2 (by decide) (by decide), nr_o (by decide), nr_s]; omega
  · rw [eo 3 (by decide) (by decide), eo 4 (by decide) (by decide), eo 5 (by decide) (by decide)]; exact b8
  · rw [eo 3 (by decide) (by decide)]; exact b9
theorem tA_b {A h : Nat → Nat} {L k v : Nat} (hL : L < 6) (h1 : lo L k ≤ v) (hv : v ≤ hi L k) (hb : BS A h) (ht : TP L k h) (h3 : L = 0 → h 3 = 1) : BS (tA L k v A h).1 (tA L k v A h).2 ∧ TP L (k + 1) (tA L k v A h).2 ∧ (tA L k v A h).2 3 = h 3 := by
  have h6 : L = 0 ∨ L = 1 ∨ L = 2 ∨ L = 3 ∨ L = 4 ∨ L = 5 := by omega
  have et : ∀ v, tch v h 7 = v := fun v => by unfold tch; rw [nr_s]
  have et3 : ∀ v, tch v h 3 = h 3 := fun v => by unfold tch; rw [nr_o (by decide), nr_o (by decide)]
  rcases h6 with rfl | rfl | rfl | rfl | rfl | rfl
  · have hv8 : v ≤ 8 := hv
    refine ⟨bs_s ?_ ?_ ?_ (Or.inl (h3 rfl)) hb, ⟨fun h => by omega, fun h => by omega⟩, rfl⟩
    · split
      · omega
      · split <;> omega
    · split
      · omega
      · split <;> omega
    · split
      · omega
      · split <;> omega
  · have hv7 : v ≤ 7 := hv
    show BS (if k = 0 then (A, tch v h) else (nr A (135 + h 7) (A (135 + h 7) ||| 2 ^ v), nr h 2 (max (h 2) (v + 1)))).1 (if k = 0 then (A, tch v h) else (nr A (135 + h 7) (A (135 + h 7) ||| 2 ^ v), nr h 2 (max (h 2) (v + 1)))).2 ∧ TP 1 (k + 1) (if k = 0 then (A, tch v h) else (nr A (135 + h 7) (A (135 + h 7) ||| 2 ^ v), nr h 2 (max (h 2) (v + 1)))).2 ∧ (if k = 0 then (A, tch v h) else (nr A (135 + h 7) (A (135 + h 7) ||| 2 ^ v), nr h 2 (max (h 2) (v + 1)))).2 3 = h 3
    by_cases e : k = 0
    · rw [if_pos e]
      exact ⟨(bs_tch hv7 hb).1, ⟨fun _ _ => by show tch v h 7 ≤ 7; rw [et]; exact hv7, fun h => by omega⟩, et3 v⟩
    · rw [if_neg e]
      have h7 := ht.1 (Or.inl rfl) (by omega)
      refine ⟨bs_c (by omega) ?_ (bs_h2 hv7 hb), ⟨fun _ _ => ?_, fun h => by omega⟩, ?_⟩
      · show v < nr h 2 (max (h 2) (v + 1)) 2
        rw [nr_s]; omega
      · show nr h 2 (max (h 2) (v + 1)) 7 ≤ 7
        rw [nr_o (by decide)]; exact h7
      · show nr h 2 (max (h 2) (v + 1)) 3 = h 3
        rw [nr_o (by decide)]
  · have hv7 : v ≤ 7 := hv
    obtain ⟨b1, b2⟩ := bs_tch hv7 hb
    exact ⟨bs_3 b2 b1, ⟨fun h => by omega, fun h => by omega⟩, et3 v⟩
  · have h1' : (if k = 0 then 1 else 0) ≤ v := h1
    have hv' : v ≤ (if k = 0 then 12 else 4095) := hv
    refine ⟨bs_s ?_ ?_ ?_ (Or.inr ?_) hb, ⟨fun h => by omega, fun h => by omega⟩, rfl⟩
    · split <;> omega
    · split <;> omega
    · by_cases e : k = 0
      · rw [if_pos e] at h1' hv' ⊢
        omega
      · rw [if_neg e] at h1' hv' ⊢
        omega
    · split <;> omega
  · have hv' : v ≤ 255 := hv
    exact ⟨bs_s (by omega) (by omega) (by omega) (Or.inr (by omega)) hb, ⟨fun h => by omega, fun h => by omega⟩, rfl⟩
  · have hv' : v ≤ (if k = 2 then 2 else 7) := hv
    have hv7 : v ≤ 7 := by
      have : (if k = 2 then 2 else 7) ≤ 7 := by split <;> omega
      omega
    show BS (if k = 0 then (A, tch v h) else if k = 1 then (A, nr (nr h 1 (max (h 1) (v + 1))) 8 v) else if k = 2 then (nr A (7 + (8 * h 7 + h 8)) v, h) else (A, h)).1 (if k = 0 then (A, tch v h) else if k = 1 then (A, nr (nr h 1 (max (h 1) (v + 1))) 8 v) else if k = 2 then (nr A (7 + (8 * h 7 + h 8)) v, h) else (A, h)).2 ∧ TP 5 (k + 1) (if k = 0 then (A, tch v h) else if k = 1 then (A, nr (nr h 1 (max (h 1) (v + 1))) 8 v) else if k = 2 then (nr A (7 + (8 * h 7 + h 8)) v, h) else (A, h)).2 ∧ (if k = 0 then (A, tch v h) else if k = 1 then (A, nr (nr h 1 (max (h 1) (v + 1))) 8 v) else if k = 2 then (nr A (7 + (8 * h 7 + h 8)) v, h) else (A, h)).2 3 = h 3
    by_cases e : k = 0
    · rw [if_pos e]
      exact ⟨(bs_tch hv7 hb).1, ⟨fun _ _ => by show tch v h 7 ≤ 7; rw [et]; exact hv7, fun _ h => by omega⟩, et3 v⟩
    · rw [if_neg e]
      have h7 := ht.1 (Or.inr rfl) (by omega)
      by_cases e1 : k = 1
      · rw [if_pos e1]
        refine ⟨bs_h1 hv7 hb, ⟨fun _ _ => ?_, fun _ _ => ?_⟩, ?_⟩
        · show nr (nr h 1 (max (h 1) (v + 1))) 8 v 7 ≤ 7
          rw [nr_o (by decide), nr_o (by decide)]; exact h7
        · show nr (nr h 1 (max (h 1) (v + 1))) 8 v 8 ≤ 7
          rw [nr_s]; exact hv7
        · show nr (nr h 1 (max (h 1) (v + 1))) 8 v 3 = h 3
          rw [nr_o (by decide), nr_o (by decide)]
      · rw [if_neg e1]
        have h8 := ht.2 rfl (by omega)
        by_cases e2 : k = 2
        · rw [if_pos e2]
          rw [if_pos e2] at hv'
          exact ⟨bs_e (by omega) hv' hb, ⟨fun _ _ => h7, fun _ _ => h8⟩, rfl⟩
        · rw [if_neg e2]
          exact ⟨hb, ⟨fun _ _ => h7, fun _ _ => h8⟩, rfl⟩
theorem ls_c : ∀ L, L < 6 → f_X6_leastNumbers (nI L) = nI (ls L) := by decide
theorem lo_c {L k : Nat} (hL : L < 6) (hk : k < 2 ^ 31) : f_X6_lowest (nI L) (nI k) = nI (lo L k) := by
  unfold f_X6_lowest lo
  have h6 : L = 0 ∨ L = 1 ∨ L = 2 ∨ L = 3 ∨ L = 4 ∨ L = 5 := by omega
  by_cases e : k = 0
  · subst e
    rcases h6 with rfl | rfl | rfl | rfl | rfl | rfl <;> decide
  · have e' : ¬ nI k = 0 := nI_ne (b := 0) hk (by omega) e
    simp only [if_neg e, if_neg e']
    rcases h6 with rfl | rfl | rfl | rfl | rfl | rfl <;> decide
theorem hi_c {L k : Nat} (hL : L < 6) (hk : k < 2 ^ 31) : f_X6_highest (nI L) (nI k) = nI (hi L k) := by
  unfold f_X6_highest hi
  have h6 : L = 0 ∨ L = 1 ∨ L = 2 ∨ L = 3 ∨ L = 4 ∨ L = 5 := by omega
  by_cases e : k = 0
  · subst e
    rcases h6 with rfl | rfl | rfl | rfl | rfl | rfl <;> decide
  · have e' : ¬ nI k = 0 := nI_ne (b := 0) hk (by omega) e
    by_cases e2 : k = 2
    · subst e2
      rcases h6 with rfl | rfl | rfl | rfl | rfl | rfl <;> decide
    · have e2' : ¬ nI k = 2 := nI_ne (b := 2) hk (by omega) e2
      simp only [if_neg e, if_neg e', if_neg e2, if_neg e2']
      rcases h6 with rfl | rfl | rfl | rfl | rfl | rfl <;> decide
theorem hi_le {L k : Nat} : hi L k ≤ 4095 := by
  unfold hi
  repeat' split
  all_goals omega
/-- all that the reader may change -/
def FT (M r : am_M) : Prop := (∀ x, x ≠ 1 → x ≠ 2 → x ≠ 4 → x ≠ 5 → x ≠ 7 → r x = M x) ∧ r 2 1 = M 2 1
theorem FT_t {A B C : am_M} (h : FT A B) (h' : FT B C) : FT A C := ⟨fun x a b c d e => (h'.1 x a b c d e).trans (h.1 x a b c d e), h'.2.trans h.2⟩
theorem FT_r {A : am_M} : FT A A := ⟨fun _ _ _ _ _ _ => rfl, rfl⟩
theorem FT_1 {A B : am_M} (h : F1 A B) : FT A B := ⟨fun x a _ c d e => h.1 x a c d e, by rw [h.1 2 (by decide) (by decide) (by decide) (by decide)]⟩
theorem FT_2 {A B : am_M} (h : F2 A B) : FT A B := ⟨fun x _ b _ _ _ => h.1 x b, h.2⟩
theorem FT_u {A : am_M} {k : Nat} {v : Int32} : FT A (am_up A 1 k v) := ⟨fun x a _ _ _ _ => am_up_ne a, up_p (by decide)⟩
theorem BY_t {A B : am_M} {g : Nat → Nat} {l : Nat} (h : BY A g l) (hf : FT A B) : BY B g l := ⟨by rw [hf.2]; exact h.1, by rw [hf.1 3 (by decide) (by decide) (by decide) (by decide) (by decide)]; exact h.2⟩
theorem TC_1 {A B : am_M} {g : Nat → Nat} {l q : Nat} (h : TC A g l q) (hf : F1 A B) : TC B g l q := by
  unfold TC
  rw [hf.1 2 (by decide) (by decide) (by decide) (by decide)]
  exact h
theorem CS_2 {A B : am_M} {a h : Nat → Nat} (hc : CS A a h) (hf : F2 A B) : CS B a h := by
  unfold CS
  rw [hf.1 4 (by decide), hf.1 5 (by decide), hf.1 6 (by decide), hf.1 7 (by decide), hf.1 1 (by decide)]
  exact hc
theorem refuse_c {M : am_M} {g : Nat → Nat} {l q c : Nat} (hT : TC M g l q) : ∃ r, f_X6_refuse_1 (nI c) M = some r ∧ (r 1 2 = nI (if kd g l q = 0 then 1 else c) ∧ r 1 3 = nI q ∧ FT M r) := by
  have hk4 := kd_le (g := g) (l := l) (q := q)
  unfold f_X6_refuse_1
  rw [hT.2.2.1]
  by_cases e : kd g l q = 0
  · rw [if_pos (by rw [e]; rfl), if_pos e, bl_s, up_p (q := 2) (by decide), hT.1, bl_s]
    exact ⟨_, rfl, by rw [up_k (by decide), up_s]; rfl, up_s, FT_t FT_u FT_u⟩
  · rw [if_neg (c := nI (kd g l q) = 0) (nI_ne (b := 0) (by omega) (by omega) e), if_neg e, bl_s, up_p (q := 2) (by decide), hT.1, bl_s]
    exact ⟨_, rfl, by rw [up_k (by decide), up_s], up_s, FT_t FT_u FT_u⟩
/-- how taking numbers ends -/
def NR (M r : am_M) (g : Nat → Nat) (l q : Nat) (R : (Nat × Nat) ⊕ (Nat × (Nat → Nat) × (Nat → Nat))) : Prop := FT M r ∧ ((∃ f p, R = .inl (f, p) ∧ 1 ≤ f ∧ f ≤ 6 ∧ r 1 2 = nI f ∧ r 1 3 = nI p) ∨ (∃ q' A h, R = .inr (q', A, h) ∧ r 1 2 = 0 ∧ TC r g l q' ∧ CS r A h ∧ BS A h ∧ q < q' ∧ q' ≤ l))
theorem nlS_u (g : Nat → Nat) (l L f k q : Nat) (A h : Nat → Nat) : nlS g l L (f + 1) k q A h = if mx L ≤ k ∨ kd g l q ≠ 2 then (if k < ls L ∨ kd g l q ≠ 3 then .inl (if kd g l q = 0 then 1 else 2, q) else .inr (sk g l (en g l q), A, h)) else if vl g l q < lo L k ∨ hi L k < vl g l q then .inl (3, q) else nlS g l L f (k + 1) (sk g l (en g l q)) (tA L k (vl g l q) A h).1 (tA L k (vl g l q) A h).2 := rfl
theorem mx_c : ∀ L, L < 6 → (if nI L = 1 then (160 : Int32) else (if nI L = 2 then 160 else (f_X6_leastNumbers (nI L)))) = nI (mx L) := by decide
theorem kd_lt {g : Nat → Nat} {l q : Nat} (h : kd g l q ≠ 4) : q < l := by
  apply Decidable.byContradiction
  intro hn
  exact h (kd_4.mpr hn)
theorem vl_lt {g : Nat → Nat} {l q : Nat} (hg : BG g l) (hk : kd g l q = 2) : vl g l q < 100000 := by
  unfold vl
  have hq : q < l := kd_lt (by rw [hk]; decide)
  have henb := en_b (g := g) (l := l) (q := q) (by omega)
  have hn : en g l q - q ≤ 4 := by
    unfold kd at hk
    rw [if_pos hq] at hk
    apply Decidable.byContradiction
    intro hn
    revert hk
    rw [if_neg hn]
    repeat' split
    all_goals omega
  have hd : ∀ k, q + k < l → g (q + k) - 48 ≤ 79 := fun k hk => by
    have := hg.2 (q + k) hk
    omega
  have h0 : dgv g q 0 = 0 := rfl
  have h1 : dgv g q 1 = 10 * dgv g q 0 + (g (q + 0) - 48) := rfl
  have h2 : dgv g q 2 = 10 * dgv g q 1 + (g (q + 1) - 48) := rfl
  have h3 : dgv g q 3 = 10 * dgv g q 2 + (g (q + 2) - 48) := rfl
  have h4 : dgv g q 4 = 10 * dgv g q 3 + (g (q + 3) - 48) := rfl
  have h5 : en g l q - q = 0 ∨ en g l q - q = 1 ∨ en g l q - q = 2 ∨ en g l q - q = 3 ∨ en g l q - q = 4 := by omega
  rcases h5 with e | e | e | e | e
  · rw [e, h0]; omega
  · rw [e]
    have d0 := hd 0 (by omega)
    omega
  · rw [e]
    have d0 := hd 0 (by omega)
    have d1 := hd 1 (by omega)
    omega
  · rw [e]
    have d0 := hd 0 (by omega)
    have d1 := hd 1 (by omega)
    have d2 := hd 2 (by omega)
    omega
  · rw [e]
    have d0 := hd 0 (by omega)
    have d1 := hd 1 (by omega)
    have d2 := hd 2 (by omega)
    have d3 := hd 3 (by omega)
    omega
theorem nums_c {M : am_M} {g : Nat → Nat} {l q L : Nat} {A h : Nat → Nat} (hL : L < 6) (hB : BY M g l) (hg : BG g l) (hq : q ≤ l) (hT : TC M g l q) (hc : CS M A h) (hb : BS A h) (h12 : M 1 2 = 0) (h3 : L = 0 → h 3 = 1) : ∃ r, f_X6_takeNumbers_1 (nI L) M = some r ∧ NR M r g l q (nlS g l L 200 0 q A h) := by
  have hl := hg.1
  have hmx : mx L ≤ 160 := by
    have : ∀ L, L < 6 → mx L ≤ 160 := by decide
    exact this L hL
  have hls : ls L ≤ 3 := by
    have : ∀ L, L < 6 → ls L ≤ 3 := by decide
    exact this L hL
  unfold f_X6_takeNumbers_1
  rw [mx_c L hL, bl_s]
  generalize hR : nlS g l L 200 0 q A h = R
  refine lp_bnd (fun r => r)
    (fun i s => (∃ M' q' A' h', s = (nI i, M') ∧ M' 1 2 = 0 ∧ TC M' g l q' ∧ CS M' A' h' ∧ BS A' h' ∧ TP L i h' ∧ (L = 0 → h' 3 = 1) ∧ i ≤ q' ∧ q ≤ q' ∧ q' ≤ l ∧ nlS g l L (200 - i) i q' A' h' = R ∧ FT M M') ∨ (∃ M' y p, s = (y, M') ∧ R = .inl (3, p) ∧ M' 1 2 = 3 ∧ M' 1 3 = nI p ∧ FT M M'))
    (fun s => (∃ M' k q' A' h', s = (nI k, M') ∧ M' 1 2 = 0 ∧ TC M' g l q' ∧ CS M' A' h' ∧ BS A' h' ∧ k ≤ q' ∧ q ≤ q' ∧ q' ≤ l ∧ (mx L ≤ k ∨ kd g l q' ≠ 2) ∧ nlS g l L (200 - k) k q' A' h' = R ∧ FT M M') ∨ (∃ M' y p, s = (y, M') ∧ R = .inl (3, p) ∧ M' 1 2 = 3 ∧ M' 1 3 = nI p ∧ FT M M'))
    (n := 162) (lpF (by omega)) (Or.inl ⟨M, q, A, h, rfl, h12, hT, hc, hb, ⟨fun _ h => by omega, fun _ h => by omega⟩, h3, by omega, by omega, hq, hR, FT_r⟩) ?_ ?_ ?_
  · rintro i s hi162 (⟨M', q', A', h', rfl, g1, g2, g3, g4, g5, g6, g7, g8, g9, g10, g11⟩ | ⟨M', y, p, rfl, g1, g2, g3, g4⟩)
    · have hk4 := kd_le (g := g) (l := l) (q := q')
      dsimp only
      by_cases e0 : mx L ≤ i
      · rw [if_pos ((ni_le (by omega) (by omega)).mpr e0)]
        exact Or.inr ⟨_, rfl, Or.inl ⟨M', i, q', A', h', rfl, g1, g2, g3, g4, g7, g8, g9, Or.inl e0, g10, g11⟩⟩
      · rw [if_neg (fun h => e0 ((ni_le (by omega) (by omega)).mp h)), if_pos (show M' 1 2 = 0 from g1)]
        by_cases e1 : kd g l q' = 2
        · have hv := vl_lt hg e1
          have hhi := hi_le (L := L) (k := i)
          have hlo : lo L i ≤ 1 := by
            unfold lo
            repeat' split
            all_goals omega
          have hql : q' < l := kd_lt (by rw [e1]; decide)
          have henb := en_b (g := g) (l := l) (q := q') (by omega)
          have hskb := sk_b (g := g) (l := l) (p := en g l q') (by omega)
          have hlt := henb.2.2 hql
          rw [if_pos (show M' 2 3 = 2 by rw [g2.2.2.1, e1]; rfl), g2.2.2.2 e1, lo_c hL (by omega), hi_c hL (by omega), nI_s]
          have hun := nlS_u g l L (199 - i) i q' A' h'
          rw [show 199 - i + 1 = 200 - i by omega, g10, if_neg (by omega)] at hun
          by_cases e2 : vl g l q' < lo L i
          · obtain ⟨r, er, r1, r2, r3⟩ := refuse_c (c := 3) g2
            rw [if_pos ((ni_lt (by omega) (by omega)).mpr e2), show (3 : Int32) = nI 3 from rfl, er, Option.bind_some]
            rw [if_pos (Or.inl e2)] at hun
            rw [e1] at r1
            exact Or.inl ⟨_, rfl, Or.inr ⟨r, _, q', rfl, hun, r1, r2, FT_t g11 r3⟩⟩
          · rw [if_neg (fun h => e2 ((ni_lt (by omega) (by omega)).mp h))]
            by_cases e3 : vl g l q' ≤ hi L i
            · obtain ⟨r, er, r1, r2⟩ := tell_c hL (k := i) (v := vl g l q') (by omega) e3 g4 g5 g3
              have r3 := FT_1 r2
              obtain ⟨r', er', t1, t2⟩ := adv_c (p := en g l q') (BY_t hB (FT_t g11 r3)) hg (by omega) (TC_1 g2 r2).2.1
              obtain ⟨u1, u2, u3⟩ := tA_b hL (by omega) e3 g4 g5 g6
              rw [if_pos ((ni_le (by omega) (by omega)).mpr e3), er, Option.bind_some, er', Option.bind_some]
              rw [if_neg (by omega)] at hun
              exact Or.inl ⟨_, rfl, Or.inl ⟨r', sk g l (en g l q'), _, _, rfl, by rw [t2.1 1 (by decide), r2.2]; exact g1, t1, CS_2 r1 t2, u1, u2, fun h => by rw [u3]; exact g6 h, by omega, by omega, by omega, by rw [show 200 - (i + 1) = 199 - i by omega]; exact hun.symm, FT_t g11 (FT_t r3 (FT_2 t2))⟩⟩
            · obtain ⟨r, er, r1, r2, r3⟩ := refuse_c (c := 3) g2
              rw [if_neg (fun h => e3 ((ni_le (by omega) (by omega)).mp h)), show (3 : Int32) = nI 3 from rfl, er, Option.bind_some]
              rw [if_pos (Or.inr (by omega))] at hun
              rw [e1] at r1
              exact Or.inl ⟨_, rfl, Or.inr ⟨r, _, q', rfl, hun, r1, r2, FT_t g11 r3⟩⟩
        · rw [if_neg (show ¬ M' 2 3 = 2 by rw [g2.2.2.1]; exact nI_ne (b := 2) (by omega) (by omega) e1)]
          exact Or.inr ⟨_, rfl, Or.inl ⟨M', i, q', A', h', rfl, g1, g2, g3, g4, g7, g8, g9, Or.inr e1, g10, g11⟩⟩
    · dsimp only
      by_cases e : nI (mx L) ≤ y
      · rw [if_pos e]
        exact Or.inr ⟨_, rfl, Or.inr ⟨M', _, p, rfl, g1, g2, g3, g4⟩⟩
      · rw [if_neg e, if_neg (show ¬ M' 1 2 = 0 by rw [g2]; decide)]
        exact Or.inr ⟨_, rfl, Or.inr ⟨M', _, p, rfl, g1, g2, g3, g4⟩⟩
  · rintro s (⟨M', q', A', h', rfl, g1, g2, g3, g4, g5, g6, g7, g8, g9, g10, g11⟩ | ⟨M', y, p, rfl, g1, g2, g3, g4⟩)
    · omega
    · dsimp only
      by_cases e : nI (mx L) ≤ y
      · rw [if_pos e]
        exact ⟨_, rfl, Or.inr ⟨M', _, p, rfl, g1, g2, g3, g4⟩⟩
      · rw [if_neg e, if_neg (show ¬ M' 1 2 = 0 by rw [g2]; decide)]
        exact ⟨_, rfl, Or.inr ⟨M', _, p, rfl, g1, g2, g3, g4⟩⟩
  · rintro s (⟨M', k, q', A', h', rfl, g1, g2, g3, g4, g7, g8, g9, g12, g10, g11⟩ | ⟨M', y, p, rfl, g1, g2, g3, g4⟩)
    · have hk4 := kd_le (g := g) (l := l) (q := q')
      have hun := nlS_u g l L (199 - k) k q' A' h'
      rw [show 199 - k + 1 = 200 - k by omega, g10, if_pos g12] at hun
      dsimp only
      rw [if_pos (show M' 1 2 = 0 from g1), ls_c L hL]
      by_cases e0 : k < ls L
      · obtain ⟨r, er, r1, r2, r3⟩ := refuse_c (c := 2) g2
        rw [if_pos ((ni_lt (by omega) (by omega)).mpr e0), show (2 : Int32) = nI 2 from rfl, er]
        rw [if_pos (Or.inl e0)] at hun
        refine ⟨r, rfl, FT_t g11 r3, Or.inl ⟨_, _, hun, ?_, ?_, r1, r2⟩⟩ <;> split <;> omega
      · rw [if_neg (fun h => e0 ((ni_lt (by omega) (by omega)).mp h))]
        by_cases e1 : kd g l q' = 3
        · have hql : q' < l := kd_lt (by rw [e1]; decide)
          have henb := en_b (g := g) (l := l) (q := q') (by omega)
          have hskb := sk_b (g := g) (l := l) (p := en g l q') (by omega)
          have hlt := henb.2.2 hql
          obtain ⟨r', er', t1, t2⟩ := adv_c (p := en g l q') (BY_t hB g11) hg (by omega) g2.2.1
          rw [if_pos (show M' 2 3 = 3 by rw [g2.2.2.1, e1]; rfl), er']
          rw [if_neg (by omega)] at hun
          exact ⟨r', rfl, FT_t g11 (FT_2 t2), Or.inr ⟨_, _, _, hun, by rw [t2.1 1 (by decide)]; exact g1, t1, CS_2 g3 t2, g4, by omega, by omega⟩⟩
        · obtain ⟨r, er, r1, r2, r3⟩ := refuse_c (c := 2) g2
          rw [if_neg (show ¬ M' 2 3 = 3 by rw [g2.2.2.1]; exact nI_ne (b := 3) (by omega) (by omega) e1), show (2 : Int32) = nI 2 from rfl, er]
          rw [if_pos (Or.inr e1)] at hun
          refine ⟨r, rfl, FT_t g11 r3, Or.inl ⟨_, _, hun, ?_, ?_, r1, r2⟩⟩ <;> split <;> omega
    · dsimp only
      rw [if_neg (show ¬ M' 1 2 = 0 by rw [g2]; decide)]
      exact ⟨M', rfl, g4, Or.inl ⟨3, p, g1, by omega, by omega, g2, g3⟩⟩
