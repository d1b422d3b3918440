/-! THE REFERENCE'S TOKENS -/
def BR (M : am_M) (g : Nat → Nat) (l : Nat) : Prop := M 43 12 = nI l ∧ ∀ i, i < l → M 48 i = nI (g i)
def F43 (M M' : am_M) : Prop := (∀ x, x ≠ 43 → M' x = M x) ∧ ∀ j, (j < 13 ∨ 18 < j) → M' 43 j = M 43 j
theorem F43_t {A B C : am_M} (h : F43 A B) (h' : F43 B C) : F43 A C := ⟨fun x hx => (h'.1 x hx).trans (h.1 x hx), fun j hj => (h'.2 j hj).trans (h.2 j hj)⟩
theorem F43_r {A : am_M} : F43 A A := ⟨fun _ _ => rfl, fun _ _ => rfl⟩
theorem F43_u {A : am_M} {k : Nat} {v : Int32} (hk : 13 ≤ k ∧ k ≤ 18) : F43 A (am_up A 43 k v) := ⟨fun x hx => am_up_ne hx, fun j hj => up_k (by omega)⟩
theorem BR_f {A B : am_M} {g : Nat → Nat} {l : Nat} (h : BR A g l) (hf : F43 A B) : BR B g l := ⟨by rw [hf.2 12 (by omega)]; exact h.1, by rw [hf.1 48 (by decide)]; exact h.2⟩
def kr (k : Nat) : Nat := if k = 4 then 0 else k
def TR (M : am_M) (g : Nat → Nat) (l q : Nat) : Prop := (kd g l q ≠ 0 ∧ M 43 17 = 0 ∧ M 43 14 = nI q ∧ M 43 13 = nI (en g l q) ∧ M 43 15 = nI (kr (kd g l q)) ∧ (kd g l q = 2 → M 43 16 = nI (vl g l q))) ∨ (kd g l q = 0 ∧ M 43 17 = 1 ∧ M 43 18 = nI q)
theorem byte_y {M : am_M} {g : Nat → Nat} {l p : Nat} (hB : BR M g l) (hl : l ≤ 160) (hp : p < l) : f_X8_byteAt_43 (nI p) M = some (nI (g p)) := by
  unfold f_X8_byteAt_43
  rw [hB.1, if_neg (nle_n hp (by omega)), if_pos (db_ok (by omega) (by omega)), nI_clamp (by omega), hB.2 p hp]
theorem byte_n {M : am_M} {g : Nat → Nat} {l p : Nat} (hB : BR M g l) (hp : l ≤ p) (h : p < 2 ^ 31) : f_X8_byteAt_43 (nI p) M = some (-1) := by
  unfold f_X8_byteAt_43
  rw [hB.1, if_pos (nle_y hp h)]
theorem inL_y {b : Nat} (hb : b < 128) (h : isL b = true) : ¬ f_X8_in (nI b).toInt64 97 122 = 0 := by
  have := of_decide_eq_true h
  exact in_y (b := nI 97) (c := nI 122) (by decide) (by decide) ⟨(ni_le (by omega) (by omega)).mpr this.1, (ni_le (by omega) (by omega)).mpr this.2⟩
theorem inL_n {b : Nat} (hb : b < 128) (h : isL b = false) : f_X8_in (nI b).toInt64 97 122 = 0 := by
  have := of_decide_eq_false h
  exact in_n (b := nI 97) (c := nI 122) (by decide) (by decide) (fun q => this ⟨(ni_le (by omega) (by omega)).mp q.1, (ni_le (by omega) (by omega)).mp q.2⟩)
theorem inF_y {b : Nat} (hb : b < 128) (h : isF b = true) : ¬ f_X8_in (nI b).toInt64 48 57 = 0 := by
  have := of_decide_eq_true h
  exact in_y (b := nI 48) (c := nI 57) (by decide) (by decide) ⟨(ni_le (by omega) (by omega)).mpr this.1, (ni_le (by omega) (by omega)).mpr this.2⟩
theorem inF_n {b : Nat} (hb : b < 128) (h : isF b = false) : f_X8_in (nI b).toInt64 48 57 = 0 := by
  have := of_decide_eq_false h
  exact in_n (b := nI 48) (c := nI 57) (by decide) (by decide) (fun q => this ⟨(ni_le (by omega) (by omega)).mp q.1, (ni_le (by omega) (by omega)).mp q.2⟩)
theorem req_1 {M : am_M} {v : Int32} {a : Int32} (h : ¬ v = 0) : f_X8_requires_43 v a M = some M := by
  unfold f_X8_requires_43
  rw [if_neg h]
theorem req_f {M : am_M} {v a : Int32} (h : ¬ M 43 17 = 0) : f_X8_requires_43 v a M = some M := by
  unfold f_X8_requires_43
  by_cases e : v = 0
  · rw [if_pos e, if_neg h]
  · rw [if_neg e]
theorem req_0 {M : am_M} {a : Int32} (h : M 43 17 = 0) : f_X8_requires_43 0 a M = some (am_up (am_up M 43 17 a) 43 18 (M 43 14)) := by
  unfold f_X8_requires_43
  rw [if_pos rfl, if_pos h, bl_s, up_k (j := 14) (by decide), bl_s]
theorem reads_f {M : am_M} (h : ¬ M 43 17 ≤ 0) : f_X8_reads_43 M = some M := by
  unfold f_X8_reads_43
  rw [if_neg h]
theorem reads_r {M : am_M} {g : Nat → Nat} {l p : Nat} (hB : BR M g l) (hg : BG g l) (hp : p ≤ l) (h13 : M 43 13 = nI p) (h17 : M 43 17 = 0) : ∃ r, f_X8_reads_43 M = some r ∧ (TR r g l (sk g l p) ∧ F43 M r) := by
  have hl := hg.1
  have hsb := sk_b (g := g) (l := l) hp
  unfold f_X8_reads_43
  rw [if_pos (show M 43 17 ≤ 0 by rw [h17]; decide)]
  refine lp_bnd (fun r => r) (fun i s => ∃ p', i ≤ p' ∧ p' ≤ l ∧ s 43 13 = nI p' ∧ s 43 17 = 0 ∧ rx isS g l p' = rx isS g l p ∧ F43 M s) (fun s => s 43 13 = nI (sk g l p) ∧ s 43 17 = 0 ∧ F43 M s) (n := l + 1) (lpF (by omega)) ⟨p, by omega, by omega, h13, h17, rfl, F43_r⟩ ?_ ?_ ?_
  · rintro i s hi ⟨p', p1, p2, p3, p5, p6, p7⟩
    have hBs := BR_f hB p7
    by_cases e : p' < l
    · rw [p3, byte_y hBs hl e, Option.bind_some, bl_s, nI_s]
      by_cases e2 : g p' = 32
      · rw [if_pos (by rw [e2]; rfl)]
        exact Or.inl ⟨_, rfl, p' + 1, by omega, by omega, up_s, by rw [up_k (by decide), p5], by rw [← rx_y e (decide_eq_true e2), p6], F43_t p7 (F43_u (by omega))⟩
      · have h8 := hg.2 p' e
        rw [if_neg (c := nI (g p') = 32) (nI_ne (b := 32) (by omega) (by omega) e2)]
        have := rx_n (P := isS) (g := g) (l := l) (p := p') (fun h => e2 (of_decide_eq_true h.2))
        exact Or.inr ⟨_, rfl, by unfold sk; rw [p3, ← p6, this], p5, p7⟩
    · rw [p3, byte_n hBs (by omega) (by omega), Option.bind_some, if_neg (c := (-1 : Int32) = 32) (by decide)]
      have := rx_n (P := isS) (g := g) (l := l) (p := p') (fun h => e h.1)
      exact Or.inr ⟨_, rfl, by unfold sk; rw [p3, ← p6, this], p5, p7⟩
  · rintro s ⟨p', p1, p2, -⟩
    omega
  · rintro s ⟨k1, k17, k2⟩
    generalize hq : sk g l p = q at *
    have hf : F43 M (am_up s 43 14 (s 43 13)) := F43_t k2 (F43_u (by omega))
    have hBs := BR_f hB hf
    rw [bl_s]
    generalize hX : am_up s 43 14 (s 43 13) = X at *
    have x13 : X 43 13 = nI q := by rw [← hX, up_k (by decide), k1]
    have x14 : X 43 14 = nI q := by rw [← hX, up_s, k1]
    have x17 : X 43 17 = 0 := by rw [← hX, up_k (by decide), k17]
    rw [x13]
    by_cases e : q < l
    · have h8 := hg.2 q e
      rw [byte_y hBs hl e, Option.bind_some, if_pos (c := 0 ≤ nI (g q)) (nI_pos' (by omega))]
      by_cases e1 : isL (g q) = true
      · have hen : en g l q = rx isL g l q := by unfold en; rw [if_pos e, if_pos e1]
        have hkd : kd g l q = 1 := by unfold kd; rw [if_pos e, if_pos e1]
        rw [if_neg (inL_y h8 e1), bl_s]
        refine lp_bnd (fun r => r) (fun i s => ∃ p', i ≤ p' ∧ p' ≤ l ∧ s 43 13 = nI p' ∧ s 43 14 = nI q ∧ s 43 15 = 1 ∧ s 43 17 = 0 ∧ rx isL g l p' = rx isL g l q ∧ F43 M s) (fun s => s 43 13 = nI (en g l q) ∧ s 43 14 = nI q ∧ s 43 15 = 1 ∧ s 43 17 = 0 ∧ F43 M s) (n := l + 1) (lpF (by omega)) ⟨q, by omega, by omega, by rw [up_k (by decide), x13], by rw [up_k (by decide), x14], up_s, by rw [up_k (by decide), x17], rfl, F43_t hf (F43_u (by omega))⟩ ?_ ?_ ?_
        · rintro i s hi ⟨p', p1, p2, p3, p4, p5, p5', p6, p7⟩
          have hBs := BR_f hB p7
          by_cases e : p' < l
          · have h8' := hg.2 p' e
            rw [p3, byte_y hBs hl e, Option.bind_some, bl_s, nI_s]
            by_cases e2 : isL (g p') = true
            · rw [if_neg (inL_y h8' e2)]
              exact Or.inl ⟨_, rfl, p' + 1, by omega, by omega, up_s, by rw [up_k (by decide), p4], by rw [up_k (by decide), p5], by rw [up_k (by decide), p5'], by rw [← rx_y e e2, p6], F43_t p7 (F43_u (by omega))⟩
            · rw [if_pos (inL_n h8' (by simpa using e2))]
              have := rx_n (P := isL) (g := g) (l := l) (p := p') (fun h => e2 h.2)
              exact Or.inr ⟨_, rfl, by rw [p3, hen, ← p6, this], p4, p5, p5', p7⟩
          · rw [p3, byte_n hBs (by omega) (by omega), Option.bind_some, if_pos (c := f_X8_in (-1 : Int32).toInt64 97 122 = 0) (by decide)]
            have := rx_n (P := isL) (g := g) (l := l) (p := p') (fun h => e h.1)
            exact Or.inr ⟨_, rfl, by rw [p3, hen, ← p6, this], p4, p5, p5', p7⟩
        · rintro s ⟨p', p1, p2, -⟩
          omega
        · rintro s ⟨t1, t2, t3, t4, t5⟩
          exact ⟨s, rfl, Or.inl ⟨by rw [hkd]; decide, t4, t2, t1, by rw [hkd]; exact t3, fun h => by rw [hkd] at h; exact absurd h (by decide)⟩, t5⟩
      · have e1' : isL (g q) = false := by simpa using e1
        rw [if_pos (inL_n h8 e1')]
        by_cases e2 : isF (g q) = true
        · have hen : en g l q = rx isF g l q := by unfold en; rw [if_pos e, e1', if_pos e2]; rfl
          have hkd : kd g l q = if en g l q - q ≤ 4 then 2 else 0 := by unfold kd; rw [if_pos e, e1', if_pos e2]; rfl
          have henb := en_b (g := g) (l := l) (q := q) (by omega)
          rw [if_neg (inF_y h8 e2), bl_s, bl_s]
          refine lp_bnd (fun r => r) (fun i s => ∃ p', i ≤ p' ∧ q ≤ p' ∧ p' ≤ l ∧ s 43 13 = nI p' ∧ s 43 16 = nI (dgv g q (p' - q)) ∧ s 43 14 = nI q ∧ s 43 15 = 2 ∧ s 43 17 = 0 ∧ rx isF g l p' = rx isF g l q ∧ F43 M s) (fun s => s 43 13 = nI (en g l q) ∧ s 43 16 = nI (vl g l q) ∧ s 43 14 = nI q ∧ s 43 15 = 2 ∧ s 43 17 = 0 ∧ F43 M s) (n := l + 1) (lpF (by omega)) ⟨q, by omega, by omega, by omega, by rw [up_k (by decide), up_k (by decide), x13], by rw [up_s, Nat.sub_self]; rfl, by rw [up_k (by decide), up_k (by decide), x14], by rw [up_k (by decide), up_s], by rw [up_k (by decide), up_k (by decide), x17], rfl, F43_t hf (F43_t (F43_u (by omega)) (F43_u (by omega)))⟩ ?_ ?_ ?_
          · rintro i s hi ⟨p', p1, p0, p2, p3, p4, p5, p5', p5'', p6, p7⟩
            have hBs := BR_f hB p7
            by_cases e : p' < l
            · have h8' := hg.2 p' e
              by_cases e2 : isF (g p') = true
              · have h48 : 48 ≤ g p' := (of_decide_eq_true e2).1
                have hdv : dgv g q (p' + 1 - q) = if p' - q < 4 then 10 * dgv g q (p' - q) + (g p' - 48) else dgv g q (p' - q) := by
                  rw [show p' + 1 - q = (p' - q) + 1 by omega]
                  show (if p' - q < 4 then 10 * dgv g q (p' - q) + (g (q + (p' - q)) - 48) else dgv g q (p' - q)) = _
                  rw [show q + (p' - q) = p' by omega]
                rw [p3, byte_y hBs hl e, Option.bind_some, if_neg (inF_y h8' e2), bl_s, p5, sub_n p0, p4, Option.bind_some, dig h48]
                dsimp only
                by_cases e4 : p' - q < 4
                · rw [if_neg (c := 4 ≤ nI (p' - q)) (fun h => by
                    have := (ni_le (a := 4) (b := p' - q) (by omega) (by omega)).mp h
                    omega), bl_s, up_k (j := 13) (by decide), p3, nI_s, bl_s]
                  exact Or.inl ⟨_, rfl, p' + 1, by omega, by omega, by omega, up_s, by rw [up_k (by decide), up_s, hdv, if_pos e4], by rw [up_k (by decide), up_k (by decide), p5], by rw [up_k (by decide), up_k (by decide), p5'], by rw [up_k (by decide), up_k (by decide), p5''], by rw [← rx_y e e2, p6], F43_t p7 (F43_t (F43_u (by omega)) (F43_u (by omega)))⟩
                · rw [if_pos (c := 4 ≤ nI (p' - q)) ((ni_le (a := 4) (b := p' - q) (by omega) (by omega)).mpr (by omega)), bl_s, up_k (j := 13) (by decide), p3, nI_s, bl_s]
                  exact Or.inl ⟨_, rfl, p' + 1, by omega, by omega, by omega, up_s, by rw [up_k (by decide), up_s, hdv, if_neg e4], by rw [up_k (by decide), up_k (by decide), p5], by rw [up_k (by decide), up_k (by decide), p5'], by rw [up_k (by decide), up_k (by decide), p5''], by rw [← rx_y e e2, p6], F43_t p7 (F43_t (F43_u (by omega)) (F43_u (by omega)))⟩
              · rw [p3, byte_y hBs hl e, Option.bind_some, if_pos (inF_n h8' (by simpa using e2))]
                have := rx_n (P := isF) (g := g) (l := l) (p := p') (fun h => e2 h.2)
                refine Or.inr ⟨_, rfl, by rw [p3, hen, ← p6, this], ?_, p5, p5', p5'', p7⟩
                unfold vl
                rw [hen, ← p6, this, p4]
            · rw [p3, byte_n hBs (by omega) (by omega), Option.bind_some, if_pos (c := f_X8_in (-1 : Int32).toInt64 48 57 = 0) (by decide)]
              have := rx_n (P := isF) (g := g) (l := l) (p := p') (fun h => e h.1)
              refine Or.inr ⟨_, rfl, by rw [p3, hen, ← p6, this], ?_, p5, p5', p5'', p7⟩
              unfold vl
              rw [hen, ← p6, this, p4]
          · rintro s ⟨p', p1, -, p2, -⟩
            omega
          · rintro s ⟨t1, t2, t3, t4, t5, t6⟩
            rw [t1, t3, sub_n henb.1, bl_s]
            by_cases e : en g l q - q ≤ 4
            · rw [if_neg (c := 4 < nI (en g l q - q)) (fun h => by
                have := (ni_lt (a := 4) (b := en g l q - q) (by omega) (by omega)).mp h
                omega), req_1 (by decide), Option.bind_some]
              exact ⟨s, rfl, Or.inl ⟨by rw [hkd, if_pos e]; decide, t5, t3, t1, by rw [hkd, if_pos e]; exact t4, fun _ => t2⟩, t6⟩
            · rw [if_pos (c := 4 < nI (en g l q - q)) ((ni_lt (a := 4) (b := en g l q - q) (by omega) (by omega)).mpr (by omega)), req_0 t5, Option.bind_some, t3]
              exact ⟨_, rfl, Or.inr ⟨by rw [hkd, if_neg e], by rw [up_k (by decide), up_s], up_s⟩, F43_t t6 (F43_t (F43_u (by omega)) (F43_u (by omega)))⟩
        · have e2' : isF (g q) = false := by simpa using e2
          have hen : en g l q = q + 1 := by unfold en; rw [if_pos e, e1', e2']; rfl
          have hkd : kd g l q = if g q = 59 then 3 else 0 := by unfold kd; rw [if_pos e, e1', e2']; rfl
          rw [if_pos (inF_n h8 e2'), bl_s, bl_s]
          by_cases e3 : g q = 59
          · rw [if_pos (c := nI (g q) = 59) (by rw [e3]; rfl), req_1 (by decide), Option.bind_some, up_k (j := 13) (by decide), x13, nI_s, bl_s]
            exact ⟨_, rfl, Or.inl ⟨by rw [hkd, if_pos e3]; decide, by rw [up_k (by decide), up_k (by decide), x17], by rw [up_k (by decide), up_k (by decide), x14], by rw [up_s, hen], by rw [up_k (by decide), up_s, hkd, if_pos e3]; rfl, fun h => by rw [hkd, if_pos e3] at h; exact absurd h (by decide)⟩, F43_t hf (F43_t (F43_u (by omega)) (F43_u (by omega)))⟩
          · rw [if_neg (c := nI (g q) = 59) (nI_ne (b := 59) (by omega) (by omega) e3), req_0 (by rw [up_k (by decide), x17]), Option.bind_some, bl_s]
            refine ⟨_, rfl, Or.inr ⟨by rw [hkd, if_neg e3], by rw [up_k (by decide), up_k (by decide), up_s], by rw [up_k (by decide), up_s, up_k (by decide), x14]⟩, F43_t hf (F43_t (F43_u (by omega)) (F43_t (F43_u (by omega)) (F43_t (F43_u (by omega)) (F43_u (by omega)))))⟩
    · have hen : en g l q = q := by unfold en; rw [if_neg e]
      have hkd : kd g l q = 4 := by unfold kd; rw [if_neg e]
      rw [byte_n hBs (by omega) (by omega), Option.bind_some, if_neg (c := 0 ≤ (-1 : Int32)) (by decide), bl_s]
      exact ⟨_, rfl, Or.inl ⟨by rw [hkd]; decide, by rw [up_k (by decide), x17], by rw [up_k (by decide), x14], by rw [up_k (by decide), x13, hen], by rw [up_s, hkd]; rfl, fun h => by rw [hkd] at h; exact absurd h (by decide)⟩, F43_t hf (F43_u (by omega))⟩
