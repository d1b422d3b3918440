/-! THE REFERENCE READS NUMBERS -/
def RS (M : am_M) (A h : Nat → Nat) : Prop := (∀ j, j < 143 → M 47 j = nI (A j)) ∧ (M 43 7 = nI (h 0) - 1 ∧ M 43 8 = nI (h 1) - 1 ∧ M 43 9 = nI (h 2) - 1) ∧ (M 43 4 = nI (h 3) ∧ M 43 5 = nI (h 4) ∧ M 43 6 = nI (h 5)) ∧ (M 43 10 = 0 ∨ 1 ≤ h 0)
def FL (M : am_M) (f p : Nat) : Prop := M 43 17 = nI f ∧ M 43 18 = nI p
def FR (M r : am_M) : Prop := (∀ x, x ≠ 43 → x ≠ 47 → r x = M x) ∧ ∀ j, (j = 12 ∨ 18 < j) → r 43 j = M 43 j
theorem FR_t {A B C : am_M} (h : FR A B) (h' : FR B C) : FR A C := ⟨fun x a b => (h'.1 x a b).trans (h.1 x a b), fun j hj => (h'.2 j hj).trans (h.2 j hj)⟩
theorem FR_r {A : am_M} : FR A A := ⟨fun _ _ _ => rfl, fun _ _ => rfl⟩
theorem FR_43 {A B : am_M} (h : F43 A B) : FR A B := ⟨fun x a _ => h.1 x a, fun j hj => h.2 j (by omega)⟩
theorem FR_u {A : am_M} {k : Nat} {v : Int32} (hk : k < 12 ∨ (12 < k ∧ k ≤ 18)) : FR A (am_up A 43 k v) := ⟨fun x a _ => am_up_ne a, fun j hj => up_k (by omega)⟩
theorem FR_7 {A : am_M} {k : Nat} {v : Int32} : FR A (am_up A 47 k v) := ⟨fun x _ b => am_up_ne b, fun j _ => up_p (by decide)⟩
theorem BR_r {A B : am_M} {g : Nat → Nat} {l : Nat} (h : BR A g l) (hf : FR A B) : BR B g l := ⟨by rw [hf.2 12 (by omega)]; exact h.1, by rw [hf.1 48 (by decide) (by decide)]; exact h.2⟩
theorem RS_43 {M r : am_M} {A h : Nat → Nat} (hr : RS M A h) (hf : F43 M r) : RS r A h := by
  unfold RS
  rw [hf.1 47 (by decide), hf.2 7 (by omega), hf.2 8 (by omega), hf.2 9 (by omega), hf.2 4 (by omega), hf.2 5 (by omega), hf.2 6 (by omega), hf.2 10 (by omega)]
  exact hr
theorem TR_e {M r : am_M} {g : Nat → Nat} {l q : Nat} (ht : TR M g l q) (h : ∀ j, 13 ≤ j → j ≤ 18 → r 43 j = M 43 j) : TR r g l q := by
  unfold TR
  rw [h 13 (by omega) (by omega), h 14 (by omega) (by omega), h 15 (by omega) (by omega), h 16 (by omega) (by omega), h 17 (by omega) (by omega), h 18 (by omega) (by omega)]
  exact ht
theorem FL_e {M r : am_M} {f p : Nat} (ht : FL M f p) (h : ∀ j, 13 ≤ j → j ≤ 18 → r 43 j = M 43 j) : FL r f p := by
  unfold FL
  rw [h 17 (by omega) (by omega), h 18 (by omega) (by omega)]
  exact ht
theorem rs_47 {M : am_M} {A h : Nat → Nat} {j v : Nat} (hr : RS M A h) : RS (am_up M 47 j (nI v)) (nr A j v) h := by
  obtain ⟨r1, r2, r3, r4⟩ := hr
  refine ⟨fun i hi => ?_, ?_, ?_, ?_⟩
  · by_cases e : i = j
    · subst e; rw [up_s, nr_s]
    · rw [up_k e, nr_o e, r1 i hi]
  · rw [up_p (by decide), up_p (by decide), up_p (by decide)]; exact r2
  · rw [up_p (by decide), up_p (by decide), up_p (by decide)]; exact r3
  · rw [up_p (by decide)]; exact r4
theorem e47 {M : am_M} {k : Nat} {v : Int32} : ∀ j, 13 ≤ j → j ≤ 18 → am_up M 47 k v 43 j = M 43 j := fun j _ _ => up_p (by decide)
theorem e43 {M : am_M} {k : Nat} {v : Int32} (hk : k < 13) : ∀ j, 13 ≤ j → j ≤ 18 → am_up M 43 k v 43 j = M 43 j := fun j _ _ => up_k (by omega)
theorem flt17 {M : am_M} {f p : Nat} (h : FL M f p) (h1 : 1 ≤ f) (h6 : f ≤ 6) : ¬ M 43 17 = 0 ∧ ¬ M 43 17 ≤ 0 := by
  rw [h.1]
  refine ⟨nI_ne (b := 0) (by omega) (by omega) (by omega), fun q => ?_⟩
  have := (ni_le (b := 0) (by omega) (by omega)).mp q
  omega
theorem rdn_f {M : am_M} {f p : Nat} (h : FL M f p) (h1 : 1 ≤ f) (h6 : f ≤ 6) (a b : Int32) : f_X8_readNumber_43 a b M = some (0, M) := by
  obtain ⟨n1, n2⟩ := flt17 h h1 h6
  unfold f_X8_readNumber_43
  rw [bl_s, if_neg n1]
  dsimp only
  rw [bl_s, if_neg n1]
  dsimp only
  rw [bl_s, if_neg n1, reads_f n2]
  rfl
def fcode (g : Nat → Nat) (l q : Nat) : Nat := if kd g l q = 0 then 1 else if kd g l q = 2 then 3 else 2
theorem fcode_b {g : Nat → Nat} {l q : Nat} : 1 ≤ fcode g l q ∧ fcode g l q ≤ 6 := by
  unfold fcode
  repeat' split
  all_goals omega
theorem rdn_r {M : am_M} {g : Nat → Nat} {l q a b : Nat} (hB : BR M g l) (hg : BG g l) (hq : q ≤ l) (ha : a < 10000) (hb : b < 10000) (ht : TR M g l q) : ∃ r : Int32 × am_M, f_X8_readNumber_43 (nI a) (nI b) M = some r ∧ F43 M r.2 ∧ ((kd g l q = 2 ∧ a ≤ vl g l q ∧ vl g l q ≤ b ∧ r.1 = nI (vl g l q) ∧ TR r.2 g l (sk g l (en g l q))) ∨ (¬ (kd g l q = 2 ∧ a ≤ vl g l q ∧ vl g l q ≤ b) ∧ r.1 = 0 ∧ FL r.2 (fcode g l q) q)) := by
  have hk4 := kd_le (g := g) (l := l) (q := q)
  have henb := en_b (g := g) (l := l) (q := q) hq
  rcases ht with ⟨t0, t17, t14, t13, t15, t16⟩ | ⟨t0, t17, t18⟩
  · unfold f_X8_readNumber_43
    rw [bl_s, if_pos t17, bl_s, t15]
    by_cases e : kd g l q = 2
    · have hv := vl_lt hg e
      have t16 := t16 e
      rw [if_pos (c := nI (kr (kd g l q)) = 2) (by rw [e]; rfl), req_1 (by decide), Option.bind_some]
      dsimp only
      rw [bl_s, if_pos t17, t16, in_l (b := nI a) (c := nI b) (nI (vl g l q)) rfl rfl]
      by_cases e2 : a ≤ vl g l q ∧ vl g l q ≤ b
      · rw [if_pos ⟨(ni_le (by omega) (by omega)).mpr e2.1, (ni_le (by omega) (by omega)).mpr e2.2⟩, req_1 (by decide), Option.bind_some]
        dsimp only
        rw [bl_s, if_pos t17, t16]
        obtain ⟨r, er, r1, r2⟩ := reads_r hB hg henb.2.1 t13 t17
        rw [er]
        exact ⟨_, rfl, r2, Or.inl ⟨e, e2.1, e2.2, rfl, r1⟩⟩
      · rw [if_neg (fun q => e2 ⟨(ni_le (by omega) (by omega)).mp q.1, (ni_le (by omega) (by omega)).mp q.2⟩), req_0 t17, Option.bind_some]
        have h17 : am_up (am_up M 43 17 3) 43 18 (M 43 14) 43 17 = 3 := by rw [up_k (by decide), up_s]
        dsimp only
        rw [bl_s, if_neg (show ¬ am_up (am_up M 43 17 3) 43 18 (M 43 14) 43 17 = 0 by rw [h17]; decide), reads_f (show ¬ am_up (am_up M 43 17 3) 43 18 (M 43 14) 43 17 ≤ 0 by rw [h17]; decide)]
        refine ⟨_, rfl, F43_t (F43_u (by omega)) (F43_u (by omega)), Or.inr ⟨fun q => e2 q.2, rfl, ?_, ?_⟩⟩
        · unfold fcode
          rw [if_neg t0, if_pos e]
          exact h17
        · show am_up (am_up M 43 17 3) 43 18 (M 43 14) 43 18 = nI q
          rw [up_s, t14]
    · have hkr : ¬ nI (kr (kd g l q)) = 2 := by
        unfold kr
        split
        · decide
        · exact nI_ne (b := 2) (by omega) (by omega) e
      rw [if_neg hkr, req_0 t17, Option.bind_some]
      have h17 : am_up (am_up M 43 17 2) 43 18 (M 43 14) 43 17 = 2 := by rw [up_k (by decide), up_s]
      have n17 : ¬ am_up (am_up M 43 17 2) 43 18 (M 43 14) 43 17 = 0 := by rw [h17]; decide
      dsimp only
      rw [bl_s, if_neg n17]
      dsimp only
      rw [bl_s, if_neg n17, reads_f (show ¬ am_up (am_up M 43 17 2) 43 18 (M 43 14) 43 17 ≤ 0 by rw [h17]; decide)]
      refine ⟨_, rfl, F43_t (F43_u (by omega)) (F43_u (by omega)), Or.inr ⟨fun q => e q.1, rfl, ?_, ?_⟩⟩
      · unfold fcode
        rw [if_neg t0, if_neg e]
        exact h17
      · show am_up (am_up M 43 17 2) 43 18 (M 43 14) 43 18 = nI q
        rw [up_s, t14]
  · have hf : FL M 1 q := ⟨t17, t18⟩
    rw [rdn_f hf (by omega) (by omega)]
    refine ⟨_, rfl, F43_r, Or.inr ⟨fun q => by omega, rfl, ?_⟩⟩
    unfold fcode
    rw [if_pos t0]
    exact hf
/-- a number of a line, and what is left to say -/
theorem num_s {M : am_M} {g : Nat → Nat} {l q L k f : Nat} {A h : Nat → Nat} {R : (Nat × Nat) ⊕ (Nat × (Nat → Nat) × (Nat → Nat))} (hL : L < 6) (hB : BR M g l) (hg : BG g l) (hq : q ≤ l) (ht : TR M g l q) (hr : RS M A h) (hb : BS A h) (hp : TP L k h) (h3 : L = 0 → h 3 = 1) (hk : k < mx L) (hk2 : k < ls L ∨ kd g l q = 2) (hR : nlS g l L (f + 1) k q A h = R) : ∃ r : Int32 × am_M, f_X8_readNumber_43 (nI (lo L k)) (nI (hi L k)) M = some r ∧ F43 M r.2 ∧ ((r.1 = nI (vl g l q) ∧ vl g l q ≤ hi L k ∧ TR r.2 g l (sk g l (en g l q)) ∧ RS r.2 A h ∧ q < sk g l (en g l q) ∧ sk g l (en g l q) ≤ l ∧ nlS g l L f (k + 1) (sk g l (en g l q)) (tA L k (vl g l q) A h).1 (tA L k (vl g l q) A h).2 = R ∧ BS (tA L k (vl g l q) A h).1 (tA L k (vl g l q) A h).2 ∧ TP L (k + 1) (tA L k (vl g l q) A h).2 ∧ (L = 0 → (tA L k (vl g l q) A h).2 3 = 1)) ∨ (r.1 = 0 ∧ ∃ f' p, R = .inl (f', p) ∧ 1 ≤ f' ∧ f' ≤ 6 ∧ FL r.2 f' p)) := by
  have hhi := hi_le (L := L) (k := k)
  have hlo : lo L k ≤ 1 := by
    unfold lo
    repeat' split
    all_goals omega
  obtain ⟨r, er, r1, r2⟩ := rdn_r (a := lo L k) (b := hi L k) hB hg hq (by omega) (by omega) ht
  refine ⟨r, er, r1, ?_⟩
  have henb := en_b (g := g) (l := l) (q := q) hq
  have hskb := sk_b (g := g) (l := l) (p := en g l q) henb.2.1
  rw [nlS_u] at hR
  rcases r2 with ⟨e1, e2, e3, e4, e5⟩ | ⟨e1, e2, e3⟩
  · left
    have hlt := henb.2.2 (kd_lt (by rw [e1]; decide))
    rw [if_neg (by omega), if_neg (by omega)] at hR
    obtain ⟨u1, u2, u3⟩ := tA_b hL e2 e3 hb hp h3
    exact ⟨e4, e3, e5, RS_43 hr r1, by omega, by omega, hR, u1, u2, fun h0 => by rw [u3]; exact h3 h0⟩
  · right
    refine ⟨e2, fcode g l q, q, ?_, fcode_b.1, fcode_b.2, e3⟩
    unfold fcode
    by_cases e : kd g l q = 2
    · rw [if_neg (by omega), if_pos (by omega)] at hR
      rw [← hR, if_neg (by omega), if_pos e]
    · rw [if_pos (Or.inr e), if_pos (Or.inl (by omega))] at hR
      rw [← hR]
      by_cases e0 : kd g l q = 0
      · rw [if_pos e0, if_pos e0]
      · rw [if_neg e0, if_neg e0, if_neg e]
/-- a chain is told, for the reference -/
theorem max_1 {a v : Nat} (ha : a ≤ 8) (hv : v ≤ 7) : (nI v ≤ nI a - 1 → nI a - 1 = nI (max a (v + 1)) - 1) ∧ (¬ nI v ≤ nI a - 1 → nI v = nI (max a (v + 1)) - 1) := by
  have key : ∀ a, a < 9 → ∀ v, v < 8 → (nI v ≤ nI a - 1 → nI a - 1 = nI (max a (v + 1)) - 1) ∧ (¬ nI v ≤ nI a - 1 → nI v = nI (max a (v + 1)) - 1) := by decide
  exact key a (by omega) v (by omega)
theorem rs_h0 {M : am_M} {A h : Nat → Nat} {v : Nat} (hr : RS M A h) : RS (am_up (am_up M 43 7 (nI (max (h 0) (v + 1)) - 1)) 43 10 1) A (tch v h) := by
  obtain ⟨r1, r2, r3, r4⟩ := hr
  refine ⟨fun i hi => by rw [up_p (by decide), up_p (by decide), r1 i hi], ⟨?_, ?_, ?_⟩, ⟨?_, ?_, ?_⟩, ?_⟩
  · rw [up_k (by decide), up_s]; rfl
  · rw [up_k (by decide), up_k (by decide)]; exact r2.2.1
  · rw [up_k (by decide), up_k (by decide)]; exact r2.2.2
  · rw [up_k (by decide), up_k (by decide)]; exact r3.1
  · rw [up_k (by decide), up_k (by decide)]; exact r3.2.1
  · rw [up_k (by decide), up_k (by decide)]; exact r3.2.2
  · right
    show 1 ≤ max (h 0) (v + 1)
    omega
theorem rs_h2 {M : am_M} {A h : Nat → Nat} {v : Nat} (hr : RS M A h) : RS (am_up M 43 9 (nI (max (h 2) (v + 1)) - 1)) A (nr h 2 (max (h 2) (v + 1))) := by
  obtain ⟨r1, r2, r3, r4⟩ := hr
  refine ⟨fun i hi => by rw [up_p (by decide), r1 i hi], ⟨?_, ?_, ?_⟩, ⟨?_, ?_, ?_⟩, ?_⟩
  · rw [up_k (by decide)]; exact r2.1
  · rw [up_k (by decide)]; exact r2.2.1
  · rw [up_s]; rfl
  · rw [up_k (by decide)]; exact r3.1
  · rw [up_k (by decide)]; exact r3.2.1
  · rw [up_k (by decide)]; exact r3.2.2
  · rw [up_k (by decide)]; exact r4
theorem rs_h1 {M : am_M} {A h : Nat → Nat} {v : Nat} (hr : RS M A h) : RS (am_up M 43 8 (nI (max (h 1) (v + 1)) - 1)) A (nr (nr h 1 (max (h 1) (v + 1))) 8 v) := by
  obtain ⟨r1, r2, r3, r4⟩ := hr
  refine ⟨fun i hi => by rw [up_p (by decide), r1 i hi], ⟨?_, ?_, ?_⟩, ⟨?_, ?_, ?_⟩, ?_⟩
  · rw [up_k (by decide)]; exact r2.1
  · rw [up_s]; rfl
  · rw [up_k (by decide)]; exact r2.2.2
  · rw [up_k (by decide)]; exact r3.1
  · rw [up_k (by decide)]; exact r3.2.1
  · rw [up_k (by decide)]; exact r3.2.2
  · rw [up_k (by decide)]; exact r4
/-- after readNumber 0 7: the chain is told -/
theorem chain_s {M : am_M} {r : Int32 × am_M} (er : f_X8_readNumber_43 0 7 M = some r) : ∃ r', f_X8_readChain_43 M = some (r.1, r') ∧ (FR r.2 r' ∧ (∀ j, 13 ≤ j → j ≤ 18 → r' 43 j = r.2 43 j) ∧ ∀ A h v, RS r.2 A h → r.1 = nI v → v ≤ 7 → h 0 ≤ 8 → RS r' A (tch v h)) := by
  unfold f_X8_readChain_43
  rw [er, Option.bind_some]
  by_cases e : r.1 ≤ r.2 43 7
  · rw [if_pos e, bl_s, bl_s]
    refine ⟨_, rfl, FR_t (FR_u (by omega)) (FR_u (by omega)), fun j a b => by rw [up_k (by omega), up_k (by omega)], fun A h v hr hv h7 h8 => ?_⟩
    have := rs_h0 (v := v) hr
    rw [hv, hr.2.1.1] at e
    rw [← (max_1 h8 h7).1 e, ← hr.2.1.1] at this
    exact this
  · rw [if_neg e, bl_s, bl_s]
    refine ⟨_, rfl, FR_t (FR_u (by omega)) (FR_u (by omega)), fun j a b => by rw [up_k (by omega), up_k (by omega)], fun A h v hr hv h7 h8 => ?_⟩
    have := rs_h0 (v := v) hr
    rw [hv, hr.2.1.1] at e
    rw [← (max_1 h8 h7).2 e] at this
    rw [hv]
    exact this
theorem output_s {M : am_M} {r : Int32 × am_M} (er : f_X8_readNumber_43 0 7 M = some r) : ∃ r', f_X8_readOutput_43 M = some (r.1, r') ∧ (FR r.2 r' ∧ (∀ x, x ≠ 43 → r' x = r.2 x) ∧ (∀ j, 13 ≤ j → j ≤ 18 → r' 43 j = r.2 43 j) ∧ ∀ A h v, RS r.2 A h → r.1 = nI v → v ≤ 7 → h 2 ≤ 8 → RS r' A (nr h 2 (max (h 2) (v + 1)))) := by
  unfold f_X8_readOutput_43
  rw [er, Option.bind_some]
  by_cases e : r.1 ≤ r.2 43 9
  · rw [if_pos e, bl_s]
    refine ⟨_, rfl, FR_u (by omega), fun x hx => am_up_ne hx, fun j a b => up_k (by omega), fun A h v hr hv h7 h8 => ?_⟩
    have := rs_h2 (v := v) hr
    rw [hv, hr.2.1.2.2] at e
    rw [← (max_1 h8 h7).1 e, ← hr.2.1.2.2] at this
    exact this
  · rw [if_neg e, bl_s]
    refine ⟨_, rfl, FR_u (by omega), fun x hx => am_up_ne hx, fun j a b => up_k (by omega), fun A h v hr hv h7 h8 => ?_⟩
    have := rs_h2 (v := v) hr
    rw [hv, hr.2.1.2.2] at e
    rw [← (max_1 h8 h7).2 e] at this
    rw [hv]
    exact this
