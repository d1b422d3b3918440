/-! TOKENS -/
def isL (b : Nat) : Bool := decide (97 ≤ b ∧ b ≤ 122)
def isF (b : Nat) : Bool := decide (48 ≤ b ∧ b ≤ 57)
def isS (b : Nat) : Bool := decide (b = 32)
def rn (P : Nat → Bool) (g : Nat → Nat) (l : Nat) : Nat → Nat → Nat
  | 0, p => p
  | f + 1, p => if p < l ∧ P (g p) = true then rn P g l f (p + 1) else p
def rx (P : Nat → Bool) (g : Nat → Nat) (l p : Nat) : Nat := rn P g l (l - p) p
theorem rx_y {P : Nat → Bool} {g : Nat → Nat} {l p : Nat} (h : p < l) (hP : P (g p) = true) : rx P g l p = rx P g l (p + 1) := by
  unfold rx
  obtain ⟨f, hf⟩ : ∃ f, l - p = f + 1 := ⟨l - p - 1, by omega⟩
  rw [hf, show l - (p + 1) = f by omega]
  show (if p < l ∧ P (g p) = true then rn P g l f (p + 1) else p) = _
  rw [if_pos ⟨h, hP⟩]
theorem rx_n {P : Nat → Bool} {g : Nat → Nat} {l p : Nat} (h : ¬ (p < l ∧ P (g p) = true)) : rx P g l p = p := by
  unfold rx
  cases hf : l - p with
  | zero => rfl
  | succ f =>
    show (if p < l ∧ P (g p) = true then rn P g l f (p + 1) else p) = _
    rw [if_neg h]
theorem rn_b {P : Nat → Bool} {g : Nat → Nat} {l : Nat} : ∀ f p, p ≤ l → p ≤ rn P g l f p ∧ rn P g l f p ≤ l
  | 0, p, h => ⟨Nat.le_refl p, h⟩
  | f + 1, p, h => by
    show p ≤ (if p < l ∧ P (g p) = true then rn P g l f (p + 1) else p) ∧ (if p < l ∧ P (g p) = true then rn P g l f (p + 1) else p) ≤ l
    by_cases e : p < l ∧ P (g p) = true
    · rw [if_pos e]
      have := rn_b (P := P) (g := g) (l := l) f (p + 1) (by omega)
      omega
    · rw [if_neg e]
      omega
theorem rx_b {P : Nat → Bool} {g : Nat → Nat} {l p : Nat} (h : p ≤ l) : p ≤ rx P g l p ∧ rx P g l p ≤ l := rn_b _ _ h
def en (g : Nat → Nat) (l q : Nat) : Nat := if q < l then (if isL (g q) = true then rx isL g l q else if isF (g q) = true then rx isF g l q else q + 1) else q
def kd (g : Nat → Nat) (l q : Nat) : Nat := if q < l then (if isL (g q) = true then 1 else if isF (g q) = true then (if en g l q - q ≤ 4 then 2 else 0) else if g q = 59 then 3 else 0) else 4
def dgv (g : Nat → Nat) (q : Nat) : Nat → Nat
  | 0 => 0
  | k + 1 => if k < 4 then 10 * dgv g q k + (g (q + k) - 48) else dgv g q k
def vl (g : Nat → Nat) (l q : Nat) : Nat := dgv g q (en g l q - q)
def sk (g : Nat → Nat) (l p : Nat) : Nat := rx isS g l p
theorem en_b {g : Nat → Nat} {l q : Nat} (h : q ≤ l) : q ≤ en g l q ∧ en g l q ≤ l ∧ (q < l → q < en g l q) := by
  unfold en
  by_cases e : q < l
  · rw [if_pos e]
    by_cases e1 : isL (g q) = true
    · rw [if_pos e1, rx_y e e1]
      have := rx_b (P := isL) (g := g) (l := l) (p := q + 1) (by omega)
      omega
    · rw [if_neg e1]
      by_cases e2 : isF (g q) = true
      · rw [if_pos e2, rx_y e e2]
        have := rx_b (P := isF) (g := g) (l := l) (p := q + 1) (by omega)
        omega
      · rw [if_neg e2]
        omega
  · rw [if_neg e]
    omega
theorem sk_b {g : Nat → Nat} {l p : Nat} (h : p ≤ l) : p ≤ sk g l p ∧ sk g l p ≤ l := rx_b h
theorem kd_4 {g : Nat → Nat} {l q : Nat} : kd g l q = 4 ↔ ¬ q < l := by
  unfold kd
  by_cases e : q < l
  · rw [if_pos e]
    constructor
    · intro h
      exfalso
      revert h
      repeat' split
      all_goals omega
    · intro h
      exact absurd e h
  · rw [if_neg e]
    exact ⟨fun _ => e, fun _ => rfl⟩
theorem kd_le {g : Nat → Nat} {l q : Nat} : kd g l q ≤ 4 := by
  unfold kd
  repeat' split
  all_goals omega
/-- the bytes -/
def BY (M : am_M) (g : Nat → Nat) (l : Nat) : Prop := M 2 1 = nI l ∧ ∀ i, i < l → M 3 i = nI (g i)
def BG (g : Nat → Nat) (l : Nat) : Prop := l ≤ 160 ∧ ∀ i, i < l → g i < 128
def F2 (M M' : am_M) : Prop := (∀ x, x ≠ 2 → M' x = M x) ∧ M' 2 1 = M 2 1
theorem F2_t {A B C : am_M} (h : F2 A B) (h' : F2 B C) : F2 A C := ⟨fun x hx => (h'.1 x hx).trans (h.1 x hx), h'.2.trans h.2⟩
theorem F2_r {A : am_M} : F2 A A := ⟨fun _ _ => rfl, rfl⟩
theorem F2_u {A : am_M} {k : Nat} {v : Int32} (hk : k ≠ 1) : F2 A (am_up A 2 k v) := ⟨fun x hx => am_up_ne hx, up_k (fun h => hk h.symm)⟩
theorem BY_f {A B : am_M} {g : Nat → Nat} {l : Nat} (h : BY A g l) (hf : F2 A B) : BY B g l := ⟨by rw [hf.2]; exact h.1, by rw [hf.1 3 (by decide)]; exact h.2⟩
/-- the class's token -/
def TC (M : am_M) (g : Nat → Nat) (l q : Nat) : Prop := M 2 4 = nI q ∧ M 2 2 = nI (en g l q) ∧ M 2 3 = nI (kd g l q) ∧ (kd g l q = 2 → M 2 5 = nI (vl g l q))
theorem let_c {M : am_M} {g : Nat → Nat} {l q : Nat} (hB : BY M g l) (hg : BG g l) (hq : q < l) : f_X5_isLetter_2 (nI q) M = some (nI (b01 (isL (g q)))) := by
  have h1 := hg.1
  have h2 := hg.2 q hq
  unfold f_X5_isLetter_2 isL
  rw [if_pos (db_ok (by omega) (by omega)), nI_clamp (by omega), hB.2 q hq, if_pos (db_ok (by omega) (by omega))]
  by_cases e : 97 ≤ g q
  · rw [if_neg (c := nI (g q) < 97) (fun h => by
      have := (ni_lt (a := g q) (b := 97) (by omega) (by omega)).mp h
      omega)]
    by_cases e2 : g q ≤ 122
    · rw [if_neg (c := 122 < nI (g q)) (fun h => by
        have := (ni_lt (a := 122) (b := g q) (by omega) (by omega)).mp h
        omega), decide_eq_true ⟨e, e2⟩]
      rfl
    · rw [if_pos (c := 122 < nI (g q)) ((ni_lt (a := 122) (b := g q) (by omega) (by omega)).mpr (by omega)), decide_eq_false (fun h => e2 h.2)]
      rfl
  · rw [if_pos (c := nI (g q) < 97) ((ni_lt (a := g q) (b := 97) (by omega) (by omega)).mpr (by omega)), decide_eq_false (fun h => e h.1)]
    rfl
theorem fig_c {M : am_M} {g : Nat → Nat} {l q : Nat} (hB : BY M g l) (hg : BG g l) (hq : q < l) : f_X5_isFigure_2 (nI q) M = some (nI (b01 (isF (g q)))) := by
  have h1 := hg.1
  have h2 := hg.2 q hq
  unfold f_X5_isFigure_2 isF
  rw [if_pos (db_ok (by omega) (by omega)), nI_clamp (by omega), hB.2 q hq, if_pos (db_ok (by omega) (by omega))]
  by_cases e : 48 ≤ g q
  · rw [if_neg (c := nI (g q) < 48) (fun h => by
      have := (ni_lt (a := g q) (b := 48) (by omega) (by omega)).mp h
      omega)]
    by_cases e2 : g q ≤ 57
    · rw [if_neg (c := 57 < nI (g q)) (fun h => by
        have := (ni_lt (a := 57) (b := g q) (by omega) (by omega)).mp h
        omega), decide_eq_true ⟨e, e2⟩]
      rfl
    · rw [if_pos (c := 57 < nI (g q)) ((ni_lt (a := 57) (b := g q) (by omega) (by omega)).mpr (by omega)), decide_eq_false (fun h => e2 h.2)]
      rfl
  · rw [if_pos (c := nI (g q) < 48) ((ni_lt (a := g q) (b := 48) (by omega) (by omega)).mpr (by omega)), decide_eq_false (fun h => e h.1)]
    rfl
theorem name_c {M : am_M} {g : Nat → Nat} {l q : Nat} (hB : BY M g l) (hg : BG g l) (hq : q < l) (h2 : M 2 2 = nI q) (h4 : M 2 4 = nI q) (hL : isL (g q) = true) : ∃ r, f_X5_takeName_2 M = some r ∧ (TC r g l q ∧ F2 M r) := by
  have hl := hg.1
  have hen : en g l q = rx isL g l q := by unfold en; rw [if_pos hq, if_pos hL]
  have hkd : kd g l q = 1 := by unfold kd; rw [if_pos hq, if_pos hL]
  unfold f_X5_takeName_2
  rw [bl_s]
  refine lp_bnd (fun r => r) (fun i s => ∃ p, i ≤ p ∧ p ≤ l ∧ s 2 2 = nI p ∧ s 2 3 = 1 ∧ s 2 4 = nI q ∧ rx isL g l p = rx isL g l q ∧ F2 M s) (fun s => s 2 2 = nI (rx isL g l q) ∧ s 2 3 = 1 ∧ s 2 4 = nI q ∧ F2 M s) (n := l + 1) (lpF (by omega)) ⟨q, by omega, by omega, by rw [up_k (by decide), h2], up_s, by rw [up_k (by decide), h4], rfl, F2_u (by decide)⟩ ?_ ?_ ?_
  · rintro i s hi ⟨p, p1, p2, p3, p4, p5, p6, p7⟩
    have hBs := BY_f hB p7
    by_cases e : p < l
    · rw [if_neg (show ¬ s 2 1 ≤ s 2 2 by rw [hBs.1, p3]; exact nle_n e (by omega)), p3, let_c hBs hg e, Option.bind_some]
      by_cases e2 : isL (g p) = true
      · rw [e2, if_neg (c := nI (b01 true) = 0) (by decide), nI_s, bl_s]
        exact Or.inl ⟨_, rfl, p + 1, by omega, by omega, up_s, by rw [up_k (by decide), p4], by rw [up_k (by decide), p5], by rw [← rx_y e e2, p6], F2_t p7 (F2_u (by decide))⟩
      · have e3 : isL (g p) = false := by simpa using e2
        rw [e3, if_pos (c := nI (b01 false) = 0) rfl]
        have := rx_n (P := isL) (g := g) (l := l) (p := p) (fun h => e2 h.2)
        exact Or.inr ⟨_, rfl, by rw [p3, ← p6, this], p4, p5, p7⟩
    · rw [if_pos (show s 2 1 ≤ s 2 2 by rw [hBs.1, p3]; exact nle_y (by omega) (by omega))]
      have := rx_n (P := isL) (g := g) (l := l) (p := p) (fun h => e h.1)
      exact Or.inr ⟨_, rfl, by rw [p3, ← p6, this], p4, p5, p7⟩
  · rintro s ⟨p, p1, p2, -⟩
    omega
  · rintro s ⟨h1, h2, h3, h4⟩
    exact ⟨s, rfl, ⟨h3, by rw [hen]; exact h1, by rw [hkd]; exact h2, fun h => by rw [hkd] at h; exact absurd h (by decide)⟩, h4⟩
theorem sub_n {a b : Nat} (h : b ≤ a) : nI a - nI b = nI (a - b) := pk_sub h
theorem dgv_lt (g : Nat → Nat) (q : Nat) (hg : ∀ k, g (q + k) - 48 < 80) : ∀ k, dgv g q k < 100000 := by
  have h0 : dgv g q 0 = 0 := rfl
  have h1 : dgv g q 1 < 80 := by
    show 10 * dgv g q 0 + (g (q + 0) - 48) < 80
    have := hg 0
    omega
  have h2 : dgv g q 2 < 880 := by
    show 10 * dgv g q 1 + (g (q + 1) - 48) < 880
    have := hg 1
    omega
  have h3 : dgv g q 3 < 8880 := by
    show 10 * dgv g q 2 + (g (q + 2) - 48) < 8880
    have := hg 2
    omega
  have h4 : dgv g q 4 < 88880 := by
    show 10 * dgv g q 3 + (g (q + 3) - 48) < 88880
    have := hg 3
    omega
  have h5 : ∀ k, dgv g q (4 + k) = dgv g q 4 := by
    intro k
    induction k with
    | zero => rfl
    | succ k ih =>
      show (if 4 + k < 4 then _ else dgv g q (4 + k)) = _
      rw [if_neg (by omega), ih]
  intro k
  by_cases e : k < 4
  · have : k = 0 ∨ k = 1 ∨ k = 2 ∨ k = 3 := by omega
    rcases this with rfl | rfl | rfl | rfl <;> omega
  · have := h5 (k - 4)
    rw [show 4 + (k - 4) = k by omega] at this
    omega
theorem dig {v b : Nat} (h : 48 ≤ b) : (((10 : Int32) * nI v) + nI b) - 48 = nI (10 * v + (b - 48)) := by
  rw [show (10 : Int32) = nI 10 from rfl, show (48 : Int32) = nI 48 from rfl, pk_mul, nI_add, sub_n (by omega)]
  congr 1
  omega
theorem num_c {M : am_M} {g : Nat → Nat} {l q : Nat} (hB : BY M g l) (hg : BG g l) (hq : q < l) (h2 : M 2 2 = nI q) (h4 : M 2 4 = nI q) (hL : isL (g q) = false) (hF : isF (g q) = true) : ∃ r, f_X5_takeNumber_2 M = some r ∧ (TC r g l q ∧ F2 M r) := by
  have hl := hg.1
  have hen : en g l q = rx isF g l q := by unfold en; rw [if_pos hq, hL, if_pos hF]; rfl
  have hkd : kd g l q = if en g l q - q ≤ 4 then 2 else 0 := by unfold kd; rw [if_pos hq, hL, if_pos hF]; rfl
  have henb := en_b (g := g) (l := l) (q := q) (by omega)
  unfold f_X5_takeNumber_2
  rw [bl_s]
  refine lp_bnd (fun r => r) (fun i s => ∃ p, i ≤ p ∧ q ≤ p ∧ p ≤ l ∧ s 2 2 = nI p ∧ s 2 5 = nI (dgv g q (p - q)) ∧ s 2 4 = nI q ∧ rx isF g l p = rx isF g l q ∧ F2 M s) (fun s => s 2 2 = nI (en g l q) ∧ s 2 5 = nI (vl g l q) ∧ s 2 4 = nI q ∧ F2 M s) (n := l + 1) (lpF (by omega)) ⟨q, by omega, by omega, by omega, by rw [up_k (by decide), h2], by rw [up_s, Nat.sub_self]; rfl, by rw [up_k (by decide), h4], rfl, F2_u (by decide)⟩ ?_ ?_ ?_
  · rintro i s hi ⟨p, p1, p0, p2, p3, p4, p5, p6, p7⟩
    have hBs := BY_f hB p7
    by_cases e : p < l
    · rw [if_neg (show ¬ s 2 1 ≤ s 2 2 by rw [hBs.1, p3]; exact nle_n e (by omega)), p3, fig_c hBs hg e, Option.bind_some]
      by_cases e2 : isF (g p) = true
      · have h48 : 48 ≤ g p := (of_decide_eq_true e2).1
        rw [e2, if_neg (c := nI (b01 true) = 0) (by decide), bl_s, p5, sub_n p0, if_pos (db_ok (by omega) (by omega)), nI_clamp (by omega), hBs.2 p e, p4, dig h48, bl_s]
        have hdv : dgv g q (p + 1 - q) = if p - q < 4 then 10 * dgv g q (p - q) + (g p - 48) else dgv g q (p - q) := by
          rw [show p + 1 - q = (p - q) + 1 by omega]
          show (if p - q < 4 then 10 * dgv g q (p - q) + (g (q + (p - q)) - 48) else dgv g q (p - q)) = _
          rw [show q + (p - q) = p by omega]
        by_cases e4 : p - q < 4
        · rw [if_neg (c := 4 ≤ nI (p - q)) (fun h => by
            have := (ni_le (a := 4) (b := p - q) (by omega) (by omega)).mp h
            omega)]
          dsimp only
          rw [bl_s, up_k (j := 2) (by decide), p3, nI_s]
          exact Or.inl ⟨_, rfl, p + 1, by omega, by omega, by omega, up_s, by rw [up_k (by decide), up_s, hdv, if_pos e4], by rw [up_k (by decide), up_k (by decide), p5], by rw [← rx_y e e2, p6], F2_t p7 (F2_t (F2_u (by decide)) (F2_u (by decide)))⟩
        · rw [if_pos (c := 4 ≤ nI (p - q)) ((ni_le (a := 4) (b := p - q) (by omega) (by omega)).mpr (by omega))]
          dsimp only
          rw [bl_s, p3, nI_s]
          exact Or.inl ⟨_, rfl, p + 1, by omega, by omega, by omega, up_s, by rw [up_k (by decide), p4, hdv, if_neg e4], by rw [up_k (by decide), p5], by rw [← rx_y e e2, p6], F2_t p7 (F2_u (by decide))⟩
      · have e3 : isF (g p) = false := by simpa using e2
        rw [e3, if_pos (c := nI (b01 false) = 0) rfl]
        have := rx_n (P := isF) (g := g) (l := l) (p := p) (fun h => e2 h.2)
        refine Or.inr ⟨_, rfl, by rw [p3, hen, ← p6, this], ?_, p5, p7⟩
        unfold vl
        rw [hen, ← p6, this, p4]
    · rw [if_pos (show s 2 1 ≤ s 2 2 by rw [hBs.1, p3]; exact nle_y (by omega) (by omega))]
      have := rx_n (P := isF) (g := g) (l := l) (p := p) (fun h => e h.1)
      refine Or.inr ⟨_, rfl, by rw [p3, hen, ← p6, this], ?_, p5, p7⟩
      unfold vl
      rw [hen, ← p6, this, p4]
  · rintro s ⟨p, p1, -, p2, -⟩
    omega
  · rintro s ⟨k1, k2, k3, k4⟩
    rw [k1, k3, sub_n henb.1]
    by_cases e : en g l q - q ≤ 4
    · rw [if_pos (c := nI (en g l q - q) ≤ 4) ((ni_le (a := en g l q - q) (b := 4) (by omega) (by omega)).mpr e), bl_s]
      exact ⟨_, rfl, ⟨by rw [up_k (by decide), k3], by rw [up_k (by decide), k1], by rw [up_s, hkd, if_pos e]; rfl, fun _ => by rw [up_k (by decide), k2]⟩, F2_t k4 (F2_u (by decide))⟩
    · rw [if_neg (c := nI (en g l q - q) ≤ 4) (fun h => e ((ni_le (a := en g l q - q) (b := 4) (by omega) (by omega)).mp h)), bl_s]
      exact ⟨_, rfl, ⟨by rw [up_k (by decide), k3], by rw [up_k (by decide), k1], by rw [up_s, hkd, if_neg e]; rfl, fun h => by rw [hkd, if_neg e] at h; exact absurd h (by decide)⟩, F2_t k4 (F2_u (by decide))⟩
theorem adv_c {M : am_M} {g : Nat → Nat} {l p : Nat} (hB : BY M g l) (hg : BG g l) (hp : p ≤ l) (h2 : M 2 2 = nI p) : ∃ r, f_X5_advance_2 M = some r ∧ (TC r g l (sk g l p) ∧ F2 M r) := by
  have hl := hg.1
  have hsb := sk_b (g := g) (l := l) hp
  unfold f_X5_advance_2
  rw [bl_s, h2]
  refine lp_bnd (fun r => r) (fun i s => ∃ p', i ≤ p' ∧ p' ≤ l ∧ s 2 4 = nI p' ∧ rx isS g l p' = rx isS g l p ∧ F2 M s) (fun s => s 2 4 = nI (sk g l p) ∧ F2 M s) (n := l + 1) (lpF (by omega)) ⟨p, by omega, by omega, up_s, rfl, F2_u (by decide)⟩ ?_ ?_ ?_
  · rintro i s hi ⟨p', p1, p2, p3, p6, p7⟩
    have hBs := BY_f hB p7
    by_cases e : p' < l
    · rw [if_neg (show ¬ s 2 1 ≤ s 2 4 by rw [hBs.1, p3]; exact nle_n e (by omega)), p3, if_pos (db_ok (by omega) (by omega)), nI_clamp (by omega)]
      by_cases e2 : g p' = 32
      · rw [if_pos (show s 3 p' = 32 by rw [hBs.2 p' e, e2]; rfl), bl_s, nI_s]
        exact Or.inl ⟨_, rfl, p' + 1, by omega, by omega, up_s, by rw [← rx_y e (decide_eq_true e2), p6], F2_t p7 (F2_u (by decide))⟩
      · have h8 := hg.2 p' e
        rw [if_neg (show ¬ s 3 p' = 32 by rw [hBs.2 p' e]; exact nI_ne (b := 32) (by omega) (by omega) e2)]
        have := rx_n (P := isS) (g := g) (l := l) (p := p') (fun h => e2 (of_decide_eq_true h.2))
        exact Or.inr ⟨_, rfl, by unfold sk; rw [p3, ← p6, this], p7⟩
    · rw [if_pos (show s 2 1 ≤ s 2 4 by rw [hBs.1, p3]; exact nle_y (by omega) (by omega))]
      have := rx_n (P := isS) (g := g) (l := l) (p := p') (fun h => e h.1)
      exact Or.inr ⟨_, rfl, by unfold sk; rw [p3, ← p6, this], p7⟩
  · rintro s ⟨p', p1, p2, -⟩
    omega
  · rintro s ⟨k1, k2⟩
    generalize hq : sk g l p = q at *
    have hf : F2 M (am_up s 2 2 (s 2 4)) := F2_t k2 (F2_u (by decide))
    have hBs := BY_f hB hf
    rw [bl_s]
    generalize hX : am_up s 2 2 (s 2 4) = X at *
    have x2 : X 2 2 = nI q := by rw [← hX, up_s, k1]
    have x4 : X 2 4 = nI q := by rw [← hX, up_k (by decide), k1]
    rw [x4, hBs.1]
    by_cases e : q < l
    · rw [if_pos ((ni_lt (by omega) (by omega)).mpr e), let_c hBs hg e, Option.bind_some]
      by_cases e1 : isL (g q) = true
      · obtain ⟨r, er, t1, t2⟩ := name_c hBs hg e x2 x4 e1
        rw [e1, if_neg (c := nI (b01 true) = 0) (by decide), er]
        exact ⟨r, rfl, t1, F2_t hf t2⟩
      · have e1' : isL (g q) = false := by simpa using e1
        rw [e1', if_pos (c := nI (b01 false) = 0) rfl, fig_c hBs hg e, Option.bind_some]
        by_cases e2 : isF (g q) = true
        · obtain ⟨r, er, t1, t2⟩ := num_c hBs hg e x2 x4 e1' e2
          rw [e2, if_neg (c := nI (b01 true) = 0) (by decide), er]
          exact ⟨r, rfl, t1, F2_t hf t2⟩
        · have e2' : isF (g q) = false := by simpa using e2
          have h8 := hg.2 q e
          have hen : en g l q = q + 1 := by unfold en; rw [if_pos e, e1', e2']; rfl
          have hkd : kd g l q = if g q = 59 then 3 else 0 := by unfold kd; rw [if_pos e, e1', e2']; rfl
          rw [e2', if_pos (c := nI (b01 false) = 0) rfl, if_pos (db_ok (by omega) (by omega)), nI_clamp (by omega)]
          by_cases e3 : g q = 59
          · rw [if_pos (show X 3 q = 59 by rw [hBs.2 q e, e3]; rfl), bl_s, up_k (j := 4) (by decide), x4, nI_s, bl_s]
            exact ⟨_, rfl, ⟨by rw [up_k (by decide), up_k (by decide), x4], by rw [up_s, hen], by rw [up_k (by decide), up_s, hkd, if_pos e3]; rfl, fun h => by rw [hkd, if_pos e3] at h; exact absurd h (by decide)⟩, F2_t hf (F2_t (F2_u (by decide)) (F2_u (by decide)))⟩
          · rw [if_neg (show ¬ X 3 q = 59 by rw [hBs.2 q e]; exact nI_ne (b := 59) (by omega) (by omega) e3), bl_s, up_k (j := 4) (by decide), x4, nI_s, bl_s]
            exact ⟨_, rfl, ⟨by rw [up_k (by decide), up_k (by decide), x4], by rw [up_s, hen], by rw [up_k (by decide), up_s, hkd, if_neg e3]; rfl, fun h => by rw [hkd, if_neg e3] at h; exact absurd h (by decide)⟩, F2_t hf (F2_t (F2_u (by decide)) (F2_u (by decide)))⟩
    · rw [if_neg (fun h => e ((ni_lt (by omega) (by omega)).mp h)), bl_s]
      have hen : en g l q = q := by unfold en; rw [if_neg e]
      have hkd : kd g l q = 4 := by unfold kd; rw [if_neg e]
      exact ⟨_, rfl, ⟨by rw [up_k (by decide), x4], by rw [up_k (by decide), x2, hen], by rw [up_s, hkd]; rfl, fun h => by rw [hkd] at h; exact absurd h (by decide)⟩, F2_t hf (F2_u (by decide))⟩
