/-! THE CLASS TAKES LINES AND A TEXT -/
def told (h : Nat → Nat) (L : Nat) : Nat := if L = 0 then h 3 else if L = 3 then h 4 else if L = 4 then h 5 else 0
def stl (h : Nat → Nat) (L : Nat) : Nat → Nat := if L = 0 then nr h 3 1 else if L = 3 then nr h 4 1 else if L = 4 then nr h 5 1 else h
def stp (g : Nat → Nat) (l q : Nat) (A h : Nat → Nat) : (Nat × Nat) ⊕ (Nat × (Nat → Nat) × (Nat → Nat)) := if kd g l q ≠ 1 ∨ lineOf g l q = 6 then .inl (if kd g l q = 0 then 1 else 2, q) else if told h (lineOf g l q) = 1 then .inl (4, q) else nlS g l (lineOf g l q) 200 0 (sk g l (en g l q)) A (stl h (lineOf g l q))
def psA (g : Nat → Nat) (l : Nat) : Nat → Nat → Nat → (Nat → Nat) → (Nat → Nat) → (Nat × Nat) ⊕ (Nat × (Nat → Nat) × (Nat → Nat))
  | 0, _, _, _, _ => .inl (0, 0)
  | f + 1, n, q, A, h => if kd g l q = 4 then .inr (n, A, h) else match stp g l q A h with
    | .inl e => .inl e
    | .inr (q', A', h') => psA g l f (n + 1) q' A' h'
theorem psA_4 {g : Nat → Nat} {l f n q : Nat} {A h : Nat → Nat} (e : kd g l q = 4) : psA g l (f + 1) n q A h = .inr (n, A, h) := by
  show (if kd g l q = 4 then _ else _) = _
  rw [if_pos e]
theorem psA_l {g : Nat → Nat} {l f n q : Nat} {A h : Nat → Nat} {e : Nat × Nat} (h4 : kd g l q ≠ 4) (hs : stp g l q A h = .inl e) : psA g l (f + 1) n q A h = .inl e := by
  rw [psA, if_neg h4, hs]
theorem psA_r {g : Nat → Nat} {l f n q q' : Nat} {A h A' h' : Nat → Nat} (h4 : kd g l q ≠ 4) (hs : stp g l q A h = .inr (q', A', h')) : psA g l (f + 1) n q A h = psA g l f (n + 1) q' A' h' := by
  rw [psA, if_neg h4, hs]
theorem lineOf_6 {g : Nat → Nat} {l q : Nat} : lineOf g l q ≤ 6 := by
  unfold lineOf
  repeat' split
  all_goals omega
theorem bit_t : ∀ a, a < 2 → ∀ b, b < 2 → ∀ c, c < 2 → ∀ L, L < 6 → (a + 8 * b + 16 * c) / 2 ^ L % 2 = if L = 0 then a else if L = 3 then b else if L = 4 then c else 0 := by decide
theorem or_t : ∀ a, a < 2 → ∀ b, b < 2 → ∀ c, c < 2 → ((a + 8 * b + 16 * c) ||| 2 ^ 0 = 1 + 8 * b + 16 * c) ∧ ((a + 8 * b + 16 * c) ||| 2 ^ 3 = a + 8 * 1 + 16 * c) ∧ ((a + 8 * b + 16 * c) ||| 2 ^ 4 = a + 8 * b + 16 * 1) := by decide
theorem cs_t {M : am_M} {A h : Nat → Nat} {L : Nat} (hL : L = 0 ∨ L = 3 ∨ L = 4) (hb : BS A h) (hc : CS M A h) : CS (am_up M 1 4 (nI ((h 3 + 8 * h 4 + 16 * h 5) ||| 2 ^ L))) A (stl h L) := by
  obtain ⟨c4, c5, c6, c7, ch, ct⟩ := hc
  have b8 := hb.2.2.2.2.2.2.2.1
  have hor := or_t (h 3) (by omega) (h 4) (by omega) (h 5) (by omega)
  refine ⟨fun i hi => by rw [up_p (by decide), c4 i hi], fun i hi => by rw [up_p (by decide), c5 i hi], fun i hi => by rw [up_p (by decide), c6 i hi], fun i hi => by rw [up_p (by decide), c7 i hi], ?_, ?_⟩
  · rw [up_k (by decide), up_k (by decide), up_k (by decide), up_k (by decide), up_k (by decide)]
    rcases hL with rfl | rfl | rfl
    · show _ ∧ _ ∧ _ ∧ _ ∧ _
      exact ch
    · exact ch
    · exact ch
  · rw [up_s]
    rcases hL with rfl | rfl | rfl
    · rw [hor.1]; rfl
    · rw [hor.2.1]; rfl
    · rw [hor.2.2]; rfl
theorem bs_t {A h : Nat → Nat} {L : Nat} (hb : BS A h) : BS A (stl h L) := by
  obtain ⟨b1, b2, b3, b4, b5, b6, b7, b8, b9⟩ := hb
  unfold stl
  split
  · exact ⟨b1, b2, b3, b4, b5, b6, b7, ⟨by rw [nr_s]; omega, b8.2⟩, fun e => by rw [nr_s] at e; exact absurd e (by decide)⟩
  · split
    · exact ⟨b1, b2, b3, b4, b5, b6, b7, ⟨b8.1, by rw [nr_s]; omega, b8.2.2⟩, b9⟩
    · split
      · exact ⟨b1, b2, b3, b4, b5, b6, b7, ⟨b8.1, b8.2.1, by rw [nr_s]; omega⟩, b9⟩
      · exact ⟨b1, b2, b3, b4, b5, b6, b7, b8, b9⟩
theorem takeLine_c {M : am_M} {g : Nat → Nat} {l q : Nat} {A h : Nat → Nat} (hB : BY M g l) (hg : BG g l) (hq : q ≤ l) (hT : TC M g l q) (hc : CS M A h) (hb : BS A h) (h12 : M 1 2 = 0) : ∃ r, f_X6_takeLine_1 M = some r ∧ NR M r g l q (stp g l q A h) := by
  have hl := hg.1
  have b8 := hb.2.2.2.2.2.2.2.1
  have hl6 := lineOf_6 (g := g) (l := l) (q := q)
  have henb := en_b (g := g) (l := l) (q := q) hq
  have hskb := sk_b (g := g) (l := l) (p := en g l q) henb.2.1
  unfold f_X6_takeLine_1 stp
  rw [line_c hB hg hq hT, Option.bind_some]
  by_cases e0 : kd g l q ≠ 1 ∨ lineOf g l q = 6
  · have e6 : (if kd g l q = 1 then lineOf g l q else 6) = 6 := by
      by_cases e : kd g l q = 1
      · rw [if_pos e]; omega
      · rw [if_neg e]
    obtain ⟨r, er, r1, r2, r3⟩ := refuse_c (c := 2) hT
    rw [e6, if_pos (c := nI 6 = 6) rfl, show (2 : Int32) = nI 2 from rfl, er, if_pos e0]
    refine ⟨r, rfl, r3, Or.inl ⟨_, _, rfl, ?_, ?_, r1, r2⟩⟩ <;> split <;> omega
  · have e1 : kd g l q = 1 := by omega
    have e2 : lineOf g l q < 6 := by omega
    have hql : q < l := kd_lt (by rw [e1]; decide)
    have hlt := henb.2.2 hql
    rw [if_pos e1, if_neg e0]
    generalize hLL : lineOf g l q = L at *
    have hbt := bit_t (h 3) (by omega) (h 4) (by omega) (h 5) (by omega) L e2
    rw [if_neg (c := nI L = 6) (nI_ne (b := 6) (by omega) (by omega) (by omega)), hc.2.2.2.2.2, bt (by omega) (by omega), hbt, bl_s]
    show ∃ r, _ ∧ NR M r g l q (if told h L = 1 then _ else _)
    have htd : told h L = if L = 0 then h 3 else if L = 3 then h 4 else if L = 4 then h 5 else 0 := rfl
    rw [← htd]
    have ht1 : told h L ≤ 1 := by
      rw [htd]
      repeat' split
      all_goals omega
    by_cases e3 : told h L = 1
    · obtain ⟨r, er, r1, r2, r3⟩ := refuse_c (c := 4) hT
      rw [if_pos (by rw [e3]; rfl), show (4 : Int32) = nI 4 from rfl, er, if_pos e3]
      rw [e1] at r1
      exact ⟨r, rfl, r3, Or.inl ⟨4, q, rfl, by omega, by omega, r1, r2⟩⟩
    · rw [if_neg (c := nI (told h L) = 1) (nI_ne (b := 1) (by omega) (by omega) e3), if_neg e3]
      have fin : ∀ X, FT M X → X 2 = M 2 → CS X A (stl h L) → X 1 2 = 0 → (L = 0 → stl h L 3 = 1) → ∃ r, ((f_X5_advance_2 X).bind (fun q11 => ((f_X6_takeNumbers_1 (nI L) q11).bind (fun q12 => (some q12))))) = some r ∧ NR M r g l q (nlS g l L 200 0 (sk g l (en g l q)) A (stl h L)) := by
        intro X x1 x2 x3 x4 x5
        obtain ⟨r', er', t1, t2⟩ := adv_c (M := X) (p := en g l q) (BY_t hB x1) hg (by omega) (by rw [x2]; exact hT.2.1)
        obtain ⟨r, er, n1, n2⟩ := nums_c e2 (BY_f (BY_t hB x1) t2) hg hskb.2 t1 (CS_2 x3 t2) (bs_t hb) (by rw [t2.1 1 (by decide)]; exact x4) x5
        rw [er', Option.bind_some, er]
        refine ⟨r, rfl, FT_t x1 (FT_t (FT_2 t2) n1), n2.imp id ?_⟩
        rintro ⟨q', A', h', m1, m2, m3, m4, m5, m6, m7⟩
        exact ⟨q', A', h', m1, m2, m3, m4, m5, by omega, m7⟩
      have hup : ∀ v, FT M (am_up M 1 4 v) ∧ am_up M 1 4 v 2 = M 2 ∧ am_up M 1 4 v 1 2 = 0 := fun v => ⟨FT_u, am_up_ne (by decide), by rw [up_k (by decide)]; exact h12⟩
      by_cases l0 : L = 0
      · subst l0
        rw [if_pos (c := nI 0 = 0) rfl, shl_v (by omega), n_or, bl_s]
        exact fin _ (hup _).1 (hup _).2.1 (cs_t (Or.inl rfl) hb hc) (hup _).2.2 (fun _ => show nr h 3 1 3 = 1 from nr_s)
      · rw [if_neg (c := nI L = 0) (nI_ne (b := 0) (by omega) (by omega) l0)]
        by_cases l3 : L = 3
        · subst l3
          rw [if_pos (c := nI 3 = 3) rfl, shl_v (by omega), n_or, bl_s]
          exact fin _ (hup _).1 (hup _).2.1 (cs_t (Or.inr (Or.inl rfl)) hb hc) (hup _).2.2 (fun h => absurd h l0)
        · rw [if_neg (c := nI L = 3) (nI_ne (b := 3) (by omega) (by omega) l3)]
          by_cases l4 : L = 4
          · subst l4
            rw [if_pos (c := nI 4 = 4) rfl, shl_v (by omega), n_or, bl_s]
            exact fin _ (hup _).1 (hup _).2.1 (cs_t (Or.inr (Or.inr rfl)) hb hc) (hup _).2.2 (fun h => absurd h l0)
          · rw [if_neg (c := nI L = 4) (nI_ne (b := 4) (by omega) (by omega) l4)]
            have es : stl h L = h := by
              unfold stl
              rw [if_neg l0, if_neg l3, if_neg l4]
            have := fin M FT_r rfl (by rw [es]; exact hc) h12 (fun h => absurd h l0)
            exact this
theorem fill_5 (a : Int32) (M : am_M) : ∃ r, f_J7_fill_53178_5 a M = some r ∧ ((∀ x, x ≠ 5 → r x = M x) ∧ ∀ i, i < 64 → r 5 i = a) := by
  unfold f_J7_fill_53178_5
  refine lp_bnd (fun r => r) (fun i s => ∃ M', s = (nI i, M') ∧ (∀ x, x ≠ 5 → M' x = M x) ∧ ∀ j, j < i → M' 5 j = a) (fun q => ∃ y M', q = (y, M') ∧ (∀ x, x ≠ 5 → M' x = M x) ∧ ∀ j, j < 64 → M' 5 j = a) (n := 64) (lpF (by omega)) ⟨_, rfl, fun x _ => rfl, fun j hj => by omega⟩ ?_ ?_ ?_
  · rintro i s hi ⟨M', rfl, h1, h2⟩
    dsimp only
    rw [if_neg (c := 64 ≤ nI i) (nle_n (n := 64) hi (by omega)), if_pos (db_ok hi (by omega)), nI_clamp (by omega), bl_s, nI_s]
    refine Or.inl ⟨_, rfl, _, rfl, fun x hx => by rw [am_up_ne hx, h1 x hx], fun j hj => ?_⟩
    by_cases e : j = i
    · subst e; rw [up_s]
    · rw [up_k (by omega), h2 j (by omega)]
  · rintro s ⟨M', rfl, h⟩
    dsimp only
    rw [if_pos (c := 64 ≤ nI 64) (by decide)]
    exact ⟨_, rfl, _, M', rfl, h⟩
  · rintro q ⟨y, M', rfl, h⟩
    exact ⟨_, rfl, h⟩
theorem fill_6 (a : Int32) (M : am_M) : ∃ r, f_J7_fill_53178_6 a M = some r ∧ ((∀ x, x ≠ 6 → r x = M x) ∧ ∀ i, i < 64 → r 6 i = a) := by
  unfold f_J7_fill_53178_6
  refine lp_bnd (fun r => r) (fun i s => ∃ M', s = (nI i, M') ∧ (∀ x, x ≠ 6 → M' x = M x) ∧ ∀ j, j < i → M' 6 j = a) (fun q => ∃ y M', q = (y, M') ∧ (∀ x, x ≠ 6 → M' x = M x) ∧ ∀ j, j < 64 → M' 6 j = a) (n := 64) (lpF (by omega)) ⟨_, rfl, fun x _ => rfl, fun j hj => by omega⟩ ?_ ?_ ?_
  · rintro i s hi ⟨M', rfl, h1, h2⟩
    dsimp only
    rw [if_neg (c := 64 ≤ nI i) (nle_n (n := 64) hi (by omega)), if_pos (db_ok hi (by omega)), nI_clamp (by omega), bl_s, nI_s]
    refine Or.inl ⟨_, rfl, _, rfl, fun x hx => by rw [am_up_ne hx, h1 x hx], fun j hj => ?_⟩
    by_cases e : j = i
    · subst e; rw [up_s]
    · rw [up_k (by omega), h2 j (by omega)]
  · rintro s ⟨M', rfl, h⟩
    dsimp only
    rw [if_pos (c := 64 ≤ nI 64) (by decide)]
    exact ⟨_, rfl, _, M', rfl, h⟩
  · rintro q ⟨y, M', rfl, h⟩
    exact ⟨_, rfl, h⟩
theorem fill_7 (a : Int32) (M : am_M) : ∃ r, f_J7_fill_53178_7 a M = some r ∧ ((∀ x, x ≠ 7 → r x = M x) ∧ ∀ i, i < 8 → r 7 i = a) := by
  unfold f_J7_fill_53178_7
  refine lp_bnd (fun r => r) (fun i s => ∃ M', s = (nI i, M') ∧ (∀ x, x ≠ 7 → M' x = M x) ∧ ∀ j, j < i → M' 7 j = a) (fun q => ∃ y M', q = (y, M') ∧ (∀ x, x ≠ 7 → M' x = M x) ∧ ∀ j, j < 8 → M' 7 j = a) (n := 8) (lpF (by omega)) ⟨_, rfl, fun x _ => rfl, fun j hj => by omega⟩ ?_ ?_ ?_
  · rintro i s hi ⟨M', rfl, h1, h2⟩
    dsimp only
    rw [if_neg (c := 8 ≤ nI i) (nle_n (n := 8) hi (by omega)), if_pos (db_ok hi (by omega)), nI_clamp (by omega), bl_s, nI_s]
    refine Or.inl ⟨_, rfl, _, rfl, fun x hx => by rw [am_up_ne hx, h1 x hx], fun j hj => ?_⟩
    by_cases e : j = i
    · subst e; rw [up_s]
    · rw [up_k (by omega), h2 j (by omega)]
  · rintro s ⟨M', rfl, h⟩
    dsimp only
    rw [if_pos (c := 8 ≤ nI 8) (by decide)]
    exact ⟨_, rfl, _, M', rfl, h⟩
  · rintro q ⟨y, M', rfl, h⟩
    exact ⟨_, rfl, h⟩
theorem fill_8 (a : Int32) (M : am_M) : ∃ r, f_J7_fill_53178_8 a M = some r ∧ ((∀ x, x ≠ 8 → r x = M x) ∧ ∀ i, i < 8 → r 8 i = a) := by
  unfold f_J7_fill_53178_8
  refine lp_bnd (fun r => r) (fun i s => ∃ M', s = (nI i, M') ∧ (∀ x, x ≠ 8 → M' x = M x) ∧ ∀ j, j < i → M' 8 j = a) (fun q => ∃ y M', q = (y, M') ∧ (∀ x, x ≠ 8 → M' x = M x) ∧ ∀ j, j < 8 → M' 8 j = a) (n := 8) (lpF (by omega)) ⟨_, rfl, fun x _ => rfl, fun j hj => by omega⟩ ?_ ?_ ?_
  · rintro i s hi ⟨M', rfl, h1, h2⟩
    dsimp only
    rw [if_neg (c := 8 ≤ nI i) (nle_n (n := 8) hi (by omega)), if_pos (db_ok hi (by omega)), nI_clamp (by omega), bl_s, nI_s]
    refine Or.inl ⟨_, rfl, _, rfl, fun x hx => by rw [am_up_ne hx, h1 x hx], fun j hj => ?_⟩
    by_cases e : j = i
    · subst e; rw [up_s]
    · rw [up_k (by omega), h2 j (by omega)]
  · rintro s ⟨M', rfl, h⟩
    dsimp only
    rw [if_pos (c := 8 ≤ nI 8) (by decide)]
    exact ⟨_, rfl, _, M', rfl, h⟩
  · rintro q ⟨y, M', rfl, h⟩
    exact ⟨_, rfl, h⟩
def A0 : Nat → Nat := fun j => if j = 4 then 4 else if j = 5 then 1 else if j = 6 then 1 else if 7 ≤ j ∧ j ≤ 134 then 2 else 0
def H0 (c7 c8 : Nat) : Nat → Nat := fun j => if j = 7 then c7 else if j = 8 then c8 else 0
theorem a0_c {i : Nat} (h : i < 128) : A0 (7 + i) = 2 := by
  unfold A0
  rw [if_neg (by omega), if_neg (by omega), if_neg (by omega), if_pos (by omega)]
theorem a0_o {i : Nat} : A0 (135 + i) = 0 := by
  unfold A0
  rw [if_neg (by omega), if_neg (by omega), if_neg (by omega), if_neg (by omega)]
theorem bs_0 (c7 c8 : Nat) : BS A0 (H0 c7 c8) := by
  refine ⟨by decide, by decide, by show 0 < 2 ^ 0; decide, fun c _ => by rw [a0_o]; show 0 < 2 ^ 0; decide, fun i hi => by rw [a0_c (by omega)]; omega, fun i hi => ?_, ⟨Nat.zero_le 8, Nat.zero_le 8, Nat.zero_le 8⟩, ⟨Nat.zero_le 1, Nat.zero_le 1, Nat.zero_le 1⟩, fun _ => rfl⟩
  have := a0_c (i := 64 + i) (by omega)
  rwa [show 7 + (64 + i) = 71 + i by omega] at this
theorem forget_c (M : am_M) : ∃ r, f_X0_forget_4 M = some r ∧ ((∀ x, x ≠ 4 → x ≠ 5 → x ≠ 6 → x ≠ 7 → r x = M x) ∧ (∀ j, j < 7 → r 4 j = nI (A0 j)) ∧ (∀ i, i < 64 → r 5 i = 2) ∧ (∀ i, i < 64 → r 6 i = 2) ∧ ∀ i, i < 8 → r 7 i = 0) := by
  unfold f_X0_forget_4
  rw [bl_s, bl_s, bl_s, bl_s, bl_s, bl_s, bl_s]
  generalize hX : am_up (am_up (am_up (am_up (am_up (am_up (am_up M 4 0 0) 4 1 0) 4 2 0) 4 3 0) 4 4 4) 4 5 1) 4 6 1 = X
  obtain ⟨r5, e5, a1, a2⟩ := fill_5 2 X
  obtain ⟨r6, e6, b1, b2⟩ := fill_6 2 r5
  obtain ⟨r7, e7, c1, c2⟩ := fill_7 0 r6
  rw [e5, Option.bind_some, e6, Option.bind_some, e7, Option.bind_some]
  refine ⟨r7, rfl, fun x h4 h5 h6 h7 => ?_, fun j hj => ?_, fun i hi => ?_, fun i hi => ?_, c2⟩
  · rw [c1 x h7, b1 x h6, a1 x h5, ← hX, am_up_ne h4, am_up_ne h4, am_up_ne h4, am_up_ne h4, am_up_ne h4, am_up_ne h4, am_up_ne h4]
  · rw [c1 4 (by decide), b1 4 (by decide), a1 4 (by decide), ← hX]
    have h7 : j = 0 ∨ j = 1 ∨ j = 2 ∨ j = 3 ∨ j = 4 ∨ j = 5 ∨ j = 6 := by omega
    rcases h7 with rfl | rfl | rfl | rfl | rfl | rfl | rfl <;> simp only [up_i] <;> rfl
  · rw [c1 5 (by decide), b1 5 (by decide), a2 i hi]
  · rw [c1 6 (by decide), b2 i hi]
/-- nothing is told that isn't there -/
def wh (A h : Nat → Nat) : Prop := h 0 ≤ A 0 ∧ h 1 ≤ A 1 ∧ h 2 ≤ A 2 ∧ A 5 / 2 ^ (A 4) = 0 ∧ (h 5 = 1 → A 6 / 2 ^ (A 2) = 0)
theorem div_0 {a k : Nat} : a / 2 ^ k = 0 ↔ a < 2 ^ k := by
  constructor
  · intro h
    rcases Nat.div_eq_zero_iff.mp h with e | e
    · have : 0 < 2 ^ k := Nat.pow_pos (by omega)
      omega
    · exact e
  · intro h
    exact Nat.div_eq_of_lt h
theorem there_c {M : am_M} {A h : Nat → Nat} (hc : CS M A h) (hb : BS A h) : (wh A h → f_X6_tellsWhatIsNotThere_1 M = 0) ∧ (¬ wh A h → f_X6_tellsWhatIsNotThere_1 M = 1) := by
  obtain ⟨c4, c5, c6, c7, ch, ct⟩ := hc
  obtain ⟨b1, b2, b3, b4, b5, b6, b7, b8, b9⟩ := hb
  have hbt := bit_t (h 3) (by omega) (h 4) (by omega) (h 5) (by omega) 4 (by omega)
  have hb4 : (((nI (h 3 + 8 * h 4 + 16 * h 5)) >>> ((4 : Int32) &&& 31)) &&& 1) = nI (h 5) := by
    have := bt (d := h 3 + 8 * h 4 + 16 * h 5) (j := 4) (by omega) (by omega)
    rw [hbt] at this
    exact this
  have hmk := maskm (n := A 2) (by omega) (nI (A 6))
  have hbi : bit (nI (A 6)) (A 2) ↔ A 6 < 2 ^ (A 2) := by
    constructor
    · rintro ⟨a, ha, e⟩
      have h2 : 2 ^ (A 2) ≤ 2 ^ 8 := Nat.pow_le_pow_right (by omega) (by omega)
      have := (nI_eq (by omega) (by omega)).mp e
      omega
    · intro hlt
      exact ⟨_, hlt, rfl⟩
  unfold f_X6_tellsWhatIsNotThere_1 f_X0_allOutputs_4 wh
  rw [ct, hb4, bl_s, c4 0 (by omega), c4 1 (by omega), c4 2 (by omega), c4 4 (by omega), c4 5 (by omega), c4 6 (by omega), ch.1, ch.2.1, ch.2.2.1, n_shr (by omega) (by omega), all1 (A 2) (by omega)]
  by_cases e0 : h 0 ≤ A 0
  · rw [if_neg (c := nI (A 0) < nI (h 0)) (fun q => by
      have := (ni_lt (by omega) (by omega)).mp q
      omega)]
    by_cases e1 : h 1 ≤ A 1
    · rw [if_neg (c := nI (A 1) < nI (h 1)) (fun q => by
        have := (ni_lt (by omega) (by omega)).mp q
        omega)]
      by_cases e2 : h 2 ≤ A 2
      · rw [if_neg (c := nI (A 2) < nI (h 2)) (fun q => by
          have := (ni_lt (by omega) (by omega)).mp q
          omega)]
        by_cases e3 : A 5 / 2 ^ (A 4) = 0
        · rw [if_pos (by rw [e3]; rfl)]
          by_cases e4 : h 5 = 1
          · rw [e4, if_pos (c := nI 1 = 1) rfl, if_neg (c := (1 : Int32) = 0) (by decide)]
            by_cases e5 : A 6 / 2 ^ (A 2) = 0
            · rw [if_pos (hmk.mpr (hbi.mpr (div_0.mp e5)))]
              exact ⟨fun _ => rfl, fun q => absurd ⟨e0, e1, e2, e3, fun _ => e5⟩ q⟩
            · rw [if_neg (fun q => e5 (div_0.mpr (hbi.mp (hmk.mp q))))]
              exact ⟨fun q => absurd (q.2.2.2.2 rfl) e5, fun _ => rfl⟩
          · have e4' : h 5 = 0 := by omega
            rw [e4', if_neg (c := nI 0 = 1) (by decide), if_pos (c := (0 : Int32) = 0) rfl]
            exact ⟨fun _ => rfl, fun q => absurd ⟨e0, e1, e2, e3, fun e => absurd e (by decide)⟩ q⟩
        · have hlt : A 5 / 2 ^ (A 4) ≤ A 5 := Nat.div_le_self _ _
          rw [if_neg (c := nI (A 5 / 2 ^ (A 4)) = 0) (nI_ne (b := 0) (by omega) (by omega) e3)]
          exact ⟨fun q => absurd q.2.2.2.1 e3, fun _ => rfl⟩
      · rw [if_pos (c := nI (A 2) < nI (h 2)) ((ni_lt (by omega) (by omega)).mpr (by omega))]
        exact ⟨fun q => absurd q.2.2.1 e2, fun _ => rfl⟩
    · rw [if_pos (c := nI (A 1) < nI (h 1)) ((ni_lt (by omega) (by omega)).mpr (by omega))]
      exact ⟨fun q => absurd q.2.1 e1, fun _ => rfl⟩
  · rw [if_pos (c := nI (A 0) < nI (h 0)) ((ni_lt (by omega) (by omega)).mpr (by omega))]
    exact ⟨fun q => absurd q.1 e0, fun _ => rfl⟩
/-- how a text ends, for the class -/
def XR (M : am_M) (r : Int32 × am_M) (l : Nat) (R : (Nat × Nat) ⊕ (Nat × (Nat → Nat) × (Nat → Nat))) : Prop := (∀ x, x ≠ 1 → x ≠ 2 → x ≠ 4 → x ≠ 5 → x ≠ 6 → x ≠ 7 → x ≠ 8 → r.2 x = M x) ∧ ((∃ f p, R = .inl (f, p) ∧ 1 ≤ f ∧ f ≤ 6 ∧ r.2 1 2 = nI f ∧ r.2 1 3 = nI p) ∨ (∃ n A h, R = .inr (n, A, h) ∧ ¬ wh A h ∧ r.2 1 2 = 6 ∧ r.2 1 3 = nI l) ∨ (∃ n A h, R = .inr (n, A, h) ∧ wh A h ∧ r.1 = nI n ∧ r.2 1 2 = 0 ∧ CS r.2 A h ∧ BS A h ∧ ∀ c, c < 8 → r.2 8 c = f_X8_allSuspects (nI (A 1))))
theorem susp_c {M : am_M} {A h : Nat → Nat} (hc : M 4 1 = nI (A 1)) (hb : A 1 ≤ 8) : ∃ r, f_X0_suspectAll_4 M = some r ∧ ((∀ x, x ≠ 8 → r x = M x) ∧ ∀ c, c < 8 → r 8 c = f_X8_allSuspects (nI (A 1))) := by
  unfold f_X0_suspectAll_4 f_X0_allSuspicions_4
  rw [hc, (sus_eq (A 1) (by omega)).1]
  obtain ⟨r, er, r1, r2⟩ := fill_8 (f_X8_allSuspects (nI (A 1))) M
  rw [er]
  exact ⟨r, rfl, r1, r2⟩
theorem susp_x (M : am_M) : ∃ r, f_X0_suspectAll_4 M = some r ∧ ∀ x, x ≠ 8 → r x = M x := by
  unfold f_X0_suspectAll_4
  obtain ⟨r, er, r1, r2⟩ := fill_8 (f_X0_allSuspicions_4 M) M
  rw [er]
  exact ⟨r, rfl, r1⟩
theorem takeText_c {M : am_M} {g : Nat → Nat} {l : Nat} (hB : BY M g l) (hg : BG g l) : ∃ r, f_X6_takeText_1 M = some r ∧ XR M r l (psA g l 400 0 (sk g l 0) A0 (H0 (tn (M 1 5)) (tn (M 1 6)))) := by
  have hl := hg.1
  unfold f_X6_takeText_1
  obtain ⟨r0, e0, f1, f2, f3, f4, f5⟩ := forget_c M
  rw [e0, Option.bind_some, bl_s, bl_s, bl_s, bl_s, bl_s]
  generalize hX : am_up (am_up (am_up (am_up (am_up r0 1 2 0) 1 4 0) 1 7 0) 1 8 0) 1 9 0 = X
  have xo : ∀ x, x ≠ 1 → X x = r0 x := fun x hx => by rw [← hX, am_up_ne hx, am_up_ne hx, am_up_ne hx, am_up_ne hx, am_up_ne hx]
  have hBX : BY X g l := ⟨by rw [xo 2 (by decide), f1 2 (by decide) (by decide) (by decide) (by decide)]; exact hB.1, by rw [xo 3 (by decide), f1 3 (by decide) (by decide) (by decide) (by decide)]; exact hB.2⟩
  have hcX : CS X A0 (H0 (tn (M 1 5)) (tn (M 1 6))) := by
    have r1 : r0 1 = M 1 := f1 1 (by decide) (by decide) (by decide) (by decide)
    refine ⟨fun j hj => by rw [xo 4 (by decide), f2 j hj], fun i hi => by rw [xo 5 (by decide), f3 i hi, a0_c (by omega)]; rfl, fun i hi => by rw [xo 6 (by decide), f4 i hi], fun c hc => by rw [xo 7 (by decide), f5 c hc, a0_o]; rfl, ⟨?_, ?_, ?_, ?_, ?_⟩, ?_⟩
    · rw [← hX, up_k (by decide), up_k (by decide), up_s]; rfl
    · rw [← hX, up_k (by decide), up_s]; rfl
    · rw [← hX, up_s]; rfl
    · rw [← hX, up_k (by decide), up_k (by decide), up_k (by decide), up_k (by decide), up_k (by decide), r1]; exact tn_n _
    · rw [← hX, up_k (by decide), up_k (by decide), up_k (by decide), up_k (by decide), up_k (by decide), r1]; exact tn_n _
    · rw [← hX, up_k (by decide), up_k (by decide), up_k (by decide), up_s]; rfl
  have x12 : X 1 2 = 0 := by rw [← hX, up_k (by decide), up_k (by decide), up_k (by decide), up_k (by decide), up_s]
  unfold f_X5_begin_2
  rw [bl_s]
  have hf2 : F2 X (am_up X 2 2 0) := F2_u (by decide)
  obtain ⟨r1, e1, t1, t2⟩ := adv_c (M := am_up X 2 2 0) (p := 0) (BY_f hBX hf2) hg (by omega) up_s
  rw [e1, Option.bind_some, Option.bind_some]
  have t3 := F2_t hf2 t2
  have hfr : ∀ r : am_M, FT X r → ∀ x, x ≠ 1 → x ≠ 2 → x ≠ 4 → x ≠ 5 → x ≠ 6 → x ≠ 7 → x ≠ 8 → r x = M x := fun r hr x a b c d e f _ => by rw [hr.1 x a b c d f, xo x a, f1 x c d e f]
  generalize hR : psA g l 400 0 (sk g l 0) A0 (H0 (tn (M 1 5)) (tn (M 1 6))) = R
  have hs0 := sk_b (g := g) (l := l) (p := 0) (by omega)
  refine lp_bnd (fun r => r)
    (fun i s => (∃ M' q' A' h', s = (nI i, M') ∧ M' 1 2 = 0 ∧ TC M' g l q' ∧ CS M' A' h' ∧ BS A' h' ∧ i ≤ q' ∧ q' ≤ l ∧ psA g l (400 - i) i q' A' h' = R ∧ FT X M') ∨ (∃ M' y f p, s = (y, M') ∧ R = .inl (f, p) ∧ 1 ≤ f ∧ f ≤ 6 ∧ M' 1 2 = nI f ∧ M' 1 3 = nI p ∧ FT X M'))
    (fun s => (∃ M' n A' h', s = (nI n, M') ∧ R = .inr (n, A', h') ∧ M' 1 2 = 0 ∧ CS M' A' h' ∧ BS A' h' ∧ FT X M') ∨ (∃ M' y f p, s = (y, M') ∧ R = .inl (f, p) ∧ 1 ≤ f ∧ f ≤ 6 ∧ M' 1 2 = nI f ∧ M' 1 3 = nI p ∧ FT X M'))
    (n := 162) (lpF (by omega)) (Or.inl ⟨r1, sk g l 0, A0, _, rfl, by rw [t3.1 1 (by decide)]; exact x12, t1, CS_2 hcX t3, bs_0 _ _, by omega, hs0.2, hR, FT_2 t3⟩) ?_ ?_ ?_
  · rintro i s hi162 (⟨M', q', A', h', rfl, g1, g2, g3, g4, g5, g6, g7, g8⟩ | ⟨M', y, f, p, rfl, g1, g2, g3, g4, g5, g6⟩)
    · have hk4 := kd_le (g := g) (l := l) (q := q')
      have h400 : 400 - i = (399 - i) + 1 := by omega
      dsimp only
      by_cases e4 : kd g l q' = 4
      · have hu := psA_4 (f := 399 - i) (n := i) (A := A') (h := h') e4
        rw [← h400, g7] at hu
        have hex : (if 160 ≤ nI i then (some (.inr (nI i, M')) : Option ((Int32 × am_M) ⊕ (Int32 × am_M))) else if M' 1 2 = 0 then (if M' 2 3 = 4 then some (.inr (nI i, M')) else (f_X6_takeLine_1 M').bind (fun q14 => some (.inl (nI i + 1, q14)))) else some (.inr (nI i, M'))) = some (.inr (nI i, M')) := by
          by_cases e : 160 ≤ nI i
          · rw [if_pos e]
          · rw [if_neg e, if_pos g1, if_pos (show M' 2 3 = 4 by rw [g2.2.2.1, e4]; rfl)]
        rw [hex]
        exact Or.inr ⟨_, rfl, Or.inl ⟨M', i, A', h', rfl, hu, g1, g3, g4, g8⟩⟩
      · have hql : q' < l := kd_lt e4
        obtain ⟨r, er, n1, n2⟩ := takeLine_c (BY_t hBX g8) hg g6 g2 g3 g4 g1
        rw [if_neg (c := 160 ≤ nI i) (nle_n (n := 160) (by omega) (by omega)), if_pos (show M' 1 2 = 0 from g1), if_neg (show ¬ M' 2 3 = 4 by rw [g2.2.2.1]; exact nI_ne (b := 4) (by omega) (by omega) e4), er, Option.bind_some, nI_s]
        rcases n2 with ⟨f, p, m1, m2, m3, m4, m5⟩ | ⟨q2, A2, h2, m1, m2, m3, m4, m5, m6, m7⟩
        · have hu := psA_l (f := 399 - i) (n := i) e4 m1
          rw [← h400, g7] at hu
          exact Or.inl ⟨_, rfl, Or.inr ⟨r, _, f, p, rfl, hu, m2, m3, m4, m5, FT_t g8 n1⟩⟩
        · have hu := psA_r (f := 399 - i) (n := i) e4 m1
          rw [← h400, g7] at hu
          exact Or.inl ⟨_, rfl, Or.inl ⟨r, q2, A2, h2, rfl, m2, m3, m4, m5, by omega, m7, by rw [show 400 - (i + 1) = 399 - i by omega]; exact hu.symm, FT_t g8 n1⟩⟩
    · dsimp only
      have hne : ¬ M' 1 2 = 0 := by rw [g4]; exact nI_ne (b := 0) (by omega) (by omega) (by omega)
      by_cases e : 160 ≤ y
      · rw [if_pos e]
        exact Or.inr ⟨_, rfl, Or.inr ⟨M', _, f, p, rfl, g1, g2, g3, g4, g5, g6⟩⟩
      · rw [if_neg e, if_neg hne]
        exact Or.inr ⟨_, rfl, Or.inr ⟨M', _, f, p, rfl, g1, g2, g3, g4, g5, g6⟩⟩
  · rintro s (⟨M', q', A', h', rfl, g1, g2, g3, g4, g5, g6, g7, g8⟩ | ⟨M', y, f, p, rfl, g1, g2, g3, g4, g5, g6⟩)
    · omega
    · dsimp only
      have hne : ¬ M' 1 2 = 0 := by rw [g4]; exact nI_ne (b := 0) (by omega) (by omega) (by omega)
      by_cases e : 160 ≤ y
      · rw [if_pos e]
        exact ⟨_, rfl, Or.inr ⟨M', _, f, p, rfl, g1, g2, g3, g4, g5, g6⟩⟩
      · rw [if_neg e, if_neg hne]
        exact ⟨_, rfl, Or.inr ⟨M', _, f, p, rfl, g1, g2, g3, g4, g5, g6⟩⟩
  · rintro s (⟨M', n, A', h', rfl, g0, g1, g3, g4, g8⟩ | ⟨M', y, f, p, rfl, g1, g2, g3, g4, g5, g6⟩)
    · dsimp only
      rw [bl_s, if_pos (show M' 1 2 = 0 from g1)]
      have hth := there_c g3 g4
      by_cases e : wh A' h'
      · obtain ⟨r, er, r1, r2⟩ := susp_c (h := h') (g3.1 1 (by omega)) g4.1.2.1
        rw [if_pos (hth.1 e)]
        dsimp only
        rw [er, Option.bind_some]
        refine ⟨(nI n, r), rfl, fun x a b c d e' f k => ?_, Or.inr (Or.inr ⟨n, A', h', g0, e, rfl, ?_, ?_, g4, r2⟩)⟩
        · show r x = M x
          rw [r1 x k, hfr M' g8 x a b c d e' f k]
        · show r 1 2 = 0
          rw [r1 1 (by decide)]; exact g1
        · show CS r A' h'
          unfold CS
          rw [r1 4 (by decide), r1 5 (by decide), r1 6 (by decide), r1 7 (by decide), r1 1 (by decide)]
          exact g3
      · rw [if_neg (show ¬ f_X6_tellsWhatIsNotThere_1 M' = 0 by rw [hth.2 e]; decide), bl_s, up_p (q := 2) (by decide), (BY_t hBX g8).1, bl_s]
        obtain ⟨r, er, r1⟩ := susp_x (am_up (am_up M' 1 2 6) 1 3 (nI l))
        dsimp only
        rw [er, Option.bind_some]
        refine ⟨(nI n, r), rfl, fun x a b c d e' f k => ?_, Or.inr (Or.inl ⟨n, A', h', g0, e, ?_, ?_⟩)⟩
        · show r x = M x
          rw [r1 x k, am_up_ne a, am_up_ne a, hfr M' g8 x a b c d e' f k]
        · show r 1 2 = 6
          rw [r1 1 (by decide), up_k (by decide), up_s]
        · show r 1 3 = nI l
          rw [r1 1 (by decide), up_s]
    · have hne : ¬ M' 1 2 = 0 := by rw [g4]; exact nI_ne (b := 0) (by omega) (by omega) (by omega)
      dsimp only
      rw [bl_s, if_neg hne]
      obtain ⟨r, er, r1⟩ := susp_x M'
      dsimp only
      rw [er, Option.bind_some]
      refine ⟨(y, r), rfl, fun x a b c d e' f k => ?_, Or.inl ⟨f, p, g1, g2, g3, ?_, ?_⟩⟩
      · show r x = M x
        rw [r1 x k, hfr M' g6 x a b c d e' f k]
      · show r 1 2 = nI f
        rw [r1 1 (by decide)]; exact g4
      · show r 1 3 = nI p
        rw [r1 1 (by decide)]; exact g5
