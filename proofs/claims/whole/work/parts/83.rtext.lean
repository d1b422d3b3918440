/-! THE REFERENCE READS A TEXT -/
theorem rl_all {M : am_M} {g : Nat → Nat} {l q L : Nat} {A h : Nat → Nat} {R : (Nat × Nat) ⊕ (Nat × (Nat → Nat) × (Nat → Nat))} (hL : L < 6) (hB : BR M g l) (hg : BG g l) (hq : q ≤ l) (ht : TR M g l q) (hr : RS M A h) (hb : BS A h) (h3 : L = 0 → h 3 = 1) (hR : nlS g l L 200 0 q A h = R) : ∃ r, f_X8_readLineOf_43 (nI L) M = some r ∧ MR M r g l q L R := by
  have h6 : L = 0 ∨ L = 1 ∨ L = 2 ∨ L = 3 ∨ L = 4 ∨ L = 5 := by omega
  rcases h6 with rfl | rfl | rfl | rfl | rfl | rfl
  · exact rl_0 hB hg hq ht hr hb (h3 rfl) hR
  · exact rl_1 hB hg hq ht hr hb hR
  · exact rl_2 hB hg hq ht hr hb hR
  · exact rl_3 hB hg hq ht hr hb hR
  · exact rl_4 hB hg hq ht hr hb hR
  · exact rl_5 hB hg hq ht hr hb hR
def flg (a v c : Int32) : Int32 := if a = 0 then (if v = c then 1 else 0) else 1
theorem flg_01 (a v c : Int32) : flg a v c = 0 ∨ flg a v c = 1 := by
  unfold flg
  split
  · split
    · exact Or.inr rfl
    · exact Or.inl rfl
  · exact Or.inr rfl
def flX (X : am_M) (v : Int32) : am_M := am_up (am_up (am_up X 43 4 (flg (X 43 4) v 0)) 43 5 (flg (X 43 5) v 3)) 43 6 (flg (X 43 6) v 4)
theorem rest_r (X : am_M) (v3 : Int32) (K : am_M → Option am_M) : (bl (if (X 43 4) = 0 then (if v3 = 0 then 1 else 0) else 1) (fun (v21 : Int32) => (if v21 = 0 ∨ v21 = 1 then (bl (am_up X 43 4 v21) (fun (M22 : am_M) => (bl (if (M22 43 5) = 0 then (if v3 = 3 then 1 else 0) else 1) (fun (v26 : Int32) => (if v26 = 0 ∨ v26 = 1 then (bl (am_up M22 43 5 v26) (fun (M27 : am_M) => (bl (if (M27 43 6) = 0 then (if v3 = 4 then 1 else 0) else 1) (fun (v31 : Int32) => (if v31 = 0 ∨ v31 = 1 then (bl (am_up M27 43 6 v31) (fun (M32 : am_M) => (K M32))) else none))))) else none))))) else none))) = K (flX X v3) := by
  rw [bl_s, if_pos (show (if X 43 4 = 0 then (if v3 = 0 then (1 : Int32) else 0) else 1) = 0 ∨ (if X 43 4 = 0 then (if v3 = 0 then (1 : Int32) else 0) else 1) = 1 from flg_01 _ _ _), bl_s, bl_s, up_k (j := 5) (by decide), if_pos (show (if X 43 5 = 0 then (if v3 = 3 then (1 : Int32) else 0) else 1) = 0 ∨ (if X 43 5 = 0 then (if v3 = 3 then (1 : Int32) else 0) else 1) = 1 from flg_01 _ _ _), bl_s, bl_s, up_k (j := 6) (by decide), up_k (j := 6) (by decide), if_pos (show (if X 43 6 = 0 then (if v3 = 4 then (1 : Int32) else 0) else 1) = 0 ∨ (if X 43 6 = 0 then (if v3 = 4 then (1 : Int32) else 0) else 1) = 1 from flg_01 _ _ _), bl_s]
  rfl
theorem flX_e {X : am_M} {v : Int32} : ∀ j, 13 ≤ j → j ≤ 18 → flX X v 43 j = X 43 j := fun j a b => by
  unfold flX
  rw [up_k (by omega), up_k (by omega), up_k (by omega)]
theorem flX_f {X : am_M} {v : Int32} : FR X (flX X v) := FR_t (FR_u (by omega)) (FR_t (FR_u (by omega)) (FR_u (by omega)))
/-- the reading ends in a fault -/
theorem flt_e {X : am_M} {f p : Nat} {v : Int32} (hF : FL X f p) (h1 : 1 ≤ f) (h6 : f ≤ 6) (Z : am_M → Option am_M) : ((f_X8_reads_43 (flX X v)).bind (fun q34 => (if (q34 43 17) ≤ 0 then Z q34 else (some q34)))) = some (flX X v) := by
  have hF' := FL_e hF (flX_e (v := v))
  obtain ⟨n1, n2⟩ := flt17 hF' h1 h6
  rw [reads_f n2, Option.bind_some, if_neg n2]
theorem rs_fl {M : am_M} {A h : Nat → Nat} {L : Nat} (hL : L < 6) (hr : RS M A h) (hb : BS A h) (ht : told h L ≠ 1) : RS (flX M (nI L)) A (stl h L) := by
  obtain ⟨r1, r2, r3, r4⟩ := hr
  have b8 := hb.2.2.2.2.2.2.2.1
  have e4 : flX M (nI L) 43 4 = flg (nI (h 3)) (nI L) 0 := by unfold flX; rw [up_k (by decide), up_k (by decide), up_s, r3.1]
  have e5 : flX M (nI L) 43 5 = flg (nI (h 4)) (nI L) 3 := by unfold flX; rw [up_k (by decide), up_s, r3.2.1]
  have e6 : flX M (nI L) 43 6 = flg (nI (h 5)) (nI L) 4 := by unfold flX; rw [up_s, r3.2.2]
  have eo : ∀ j, j ≠ 4 → j ≠ 5 → j ≠ 6 → flX M (nI L) 43 j = M 43 j := fun j a b c => by unfold flX; rw [up_k c, up_k b, up_k a]
  have hfl : ∀ a, a ≤ 1 → ∀ c, flg (nI a) (nI L) c = if nI L = c then 1 else nI a := by
    intro a ha c
    unfold flg
    have : a = 0 ∨ a = 1 := by omega
    rcases this with rfl | rfl
    · rw [if_pos (c := nI 0 = 0) rfl]; rfl
    · rw [if_neg (c := nI 1 = 0) (by decide)]
      split <;> rfl
  have s3 : stl h L 3 = if L = 0 then 1 else h 3 := by
    unfold stl
    by_cases e : L = 0
    · rw [if_pos e, if_pos e, nr_s]
    · rw [if_neg e, if_neg e]
      split
      · rw [nr_o (by decide)]
      · split
        · rw [nr_o (by decide)]
        · rfl
  have s4 : stl h L 4 = if L = 3 then 1 else h 4 := by
    unfold stl
    by_cases e : L = 3
    · rw [if_neg (by omega), if_pos e, if_pos e, nr_s]
    · rw [if_neg e, if_neg e]
      split
      · rw [nr_o (by decide)]
      · split
        · rw [nr_o (by decide)]
        · rfl
  have s5 : stl h L 5 = if L = 4 then 1 else h 5 := by
    unfold stl
    by_cases e : L = 4
    · rw [if_neg (by omega), if_neg (by omega), if_pos e, if_pos e, nr_s]
    · rw [if_neg e, if_neg e]
      split
      · rw [nr_o (by decide)]
      · split
        · rw [nr_o (by decide)]
        · rfl
  have so : ∀ j, j ≠ 3 → j ≠ 4 → j ≠ 5 → stl h L j = h j := fun j a b c => by
    unfold stl
    split
    · rw [nr_o a]
    · split
      · rw [nr_o b]
      · split
        · rw [nr_o c]
        · rfl
  have hLe : ∀ c, c < 2 ^ 31 → (nI L = nI c ↔ L = c) := fun c hc => nI_eq (by omega) hc
  refine ⟨fun j hj => ?_, ?_, ⟨?_, ?_, ?_⟩, ?_⟩
  · unfold flX
    rw [up_p (by decide), up_p (by decide), up_p (by decide)]
    exact r1 j hj
  · rw [eo 7 (by decide) (by decide) (by decide), eo 8 (by decide) (by decide) (by decide), eo 9 (by decide) (by decide) (by decide), so 0 (by decide) (by decide) (by decide), so 1 (by decide) (by decide) (by decide), so 2 (by decide) (by decide) (by decide)]
    exact r2
  · rw [e4, hfl _ b8.1, s3]
    by_cases e : L = 0
    · rw [if_pos (by rw [e]; rfl), if_pos e]; rfl
    · rw [if_neg (c := nI L = 0) (fun q => e ((hLe 0 (by omega)).mp q)), if_neg e]
  · rw [e5, hfl _ b8.2.1, s4]
    by_cases e : L = 3
    · rw [if_pos (by rw [e]; rfl), if_pos e]; rfl
    · rw [if_neg (c := nI L = 3) (fun q => e ((hLe 3 (by omega)).mp q)), if_neg e]
  · rw [e6, hfl _ b8.2.2, s5]
    by_cases e : L = 4
    · rw [if_pos (by rw [e]; rfl), if_pos e]; rfl
    · rw [if_neg (c := nI L = 4) (fun q => e ((hLe 4 (by omega)).mp q)), if_neg e]
  · rw [eo 10 (by decide) (by decide) (by decide), so 0 (by decide) (by decide) (by decide)]
    exact r4
theorem readLine_r {M : am_M} {g : Nat → Nat} {l q : Nat} {A h : Nat → Nat} (hB : BR M g l) (hg : BG g l) (hq : q ≤ l) (ht : TR M g l q) (hk0 : kd g l q ≠ 0) (hr : RS M A h) (hb : BS A h) : ∃ r, f_X8_readLine_43 M = some r ∧ LR M r g l q (stp g l q A h) := by
  have hk4 := kd_le (g := g) (l := l) (q := q)
  have henb := en_b (g := g) (l := l) (q := q) hq
  have hskb := sk_b (g := g) (l := l) (p := en g l q) henb.2.1
  have hl6 := lineOf_6 (g := g) (l := l) (q := q)
  have b8 := hb.2.2.2.2.2.2.2.1
  rcases ht with ⟨-, t17, t14, t13, t15, t16⟩ | ⟨t0, -⟩
  · unfold f_X8_readLine_43
    rw [bl_s]
    by_cases e0 : kd g l q ≠ 1 ∨ lineOf g l q = 6
    · have hv : ∀ j44 : Int32 → Option am_M, (if (M 43 15) = 1 then ((f_X8_lineNow_43 M).bind (fun v2 => (j44 v2))) else (j44 (-4))) = j44 (-4) := by
        intro j44
        by_cases e1 : M 43 15 = 1
        · rw [if_pos e1, line_r hB hg hq t14 t13, Option.bind_some, if_pos]
          apply Decidable.byContradiction
          intro e6
          apply e6
          have hk1 : kd g l q = 1 := by
            rw [t15] at e1
            revert e1
            unfold kr
            split
            · intro e1; exact absurd e1 (by decide)
            · intro e1; exact (nI_eq (b := 1) (by omega) (by omega)).mp e1
          omega
        · rw [if_neg e1]
      rw [hv, bl_s, if_pos rfl, req_0 t17, Option.bind_some, t14]
      have hF : FL (am_up (am_up M 43 17 2) 43 18 (nI q)) 2 q := ⟨by rw [up_k (by decide), up_s]; rfl, up_s⟩
      rw [bl_s, if_neg (c := (-4 : Int32) = 0) (by decide), req_1 (by decide), Option.bind_some, bl_s, if_neg (c := (-4 : Int32) = 3) (by decide), req_1 (by decide), Option.bind_some, bl_s, if_neg (c := (-4 : Int32) = 4) (by decide), req_1 (by decide), Option.bind_some, rest_r, flt_e hF (by omega) (by omega)]
      refine ⟨_, rfl, FR_t (FR_t (FR_u (by omega)) (FR_u (by omega))) flX_f, Or.inl ⟨2, q, ?_, by omega, by omega, FL_e hF flX_e⟩⟩
      unfold stp
      rw [if_pos e0, if_neg hk0]
    · have e1 : kd g l q = 1 := by omega
      have e2 : lineOf g l q < 6 := by omega
      have hlt := henb.2.2 (kd_lt (by rw [e1]; decide))
      have hst : stp g l q A h = if told h (lineOf g l q) = 1 then .inl (4, q) else nlS g l (lineOf g l q) 200 0 (sk g l (en g l q)) A (stl h (lineOf g l q)) := by
        unfold stp
        rw [if_neg e0]
      rw [if_pos (show M 43 15 = 1 by rw [t15, e1]; rfl), line_r hB hg hq t14 t13, Option.bind_some, if_neg (by omega)]
      rw [hst]
      generalize lineOf g l q = L at *
      have hne4 : ¬ nI L = -4 := nI_m4 (by omega)
      have hc0 : ∀ c, c < 2 ^ 31 → (nI L = nI c ↔ L = c) := fun c hc => nI_eq (by omega) hc
      dsimp only
      rw [bl_s, if_neg hne4, req_1 (by decide), Option.bind_some]
      have hF : FL (am_up (am_up M 43 17 4) 43 18 (nI q)) 4 q := ⟨by rw [up_k (by decide), up_s]; rfl, up_s⟩
      have hflt : told h L = 1 → LR M (flX (am_up (am_up M 43 17 4) 43 18 (nI q)) (nI L)) g l q (if told h L = 1 then .inl (4, q) else nlS g l L 200 0 (sk g l (en g l q)) A (stl h L)) := fun e => by
        rw [if_pos e]
        exact ⟨FR_t (FR_t (FR_u (by omega)) (FR_u (by omega))) flX_f, Or.inl ⟨4, q, rfl, by omega, by omega, FL_e hF flX_e⟩⟩
      have r3 := hr.2.2.1
      have hX4 : ∀ j, j < 13 → am_up (am_up M 43 17 4) 43 18 (nI q) 43 j = M 43 j := fun j hj => by rw [up_k (by omega), up_k (by omega)]
      by_cases et : told h L = 1
      · have hLL : (L = 0 ∧ h 3 = 1) ∨ (L = 3 ∧ h 4 = 1) ∨ (L = 4 ∧ h 5 = 1) := by
          unfold told at et
          by_cases l0 : L = 0
          · rw [if_pos l0] at et; exact Or.inl ⟨l0, et⟩
          · rw [if_neg l0] at et
            by_cases l3 : L = 3
            · rw [if_pos l3] at et; exact Or.inr (Or.inl ⟨l3, et⟩)
            · rw [if_neg l3] at et
              by_cases l4 : L = 4
              · rw [if_pos l4] at et; exact Or.inr (Or.inr ⟨l4, et⟩)
              · rw [if_neg l4] at et; omega
        rcases hLL with ⟨rfl, eh⟩ | ⟨rfl, eh⟩ | ⟨rfl, eh⟩
        · rw [bl_s, if_pos (c := nI 0 = 0) rfl, if_neg (show ¬ M 43 4 = 0 by rw [r3.1, eh]; decide), req_0 t17, Option.bind_some, t14, bl_s, if_neg (c := nI 0 = 3) (by decide), req_1 (by decide), Option.bind_some, bl_s, if_neg (c := nI 0 = 4) (by decide), req_1 (by decide), Option.bind_some, rest_r, flt_e hF (by omega) (by omega)]
          exact ⟨_, rfl, hflt et⟩
        · rw [bl_s, if_neg (c := nI 3 = 0) (by decide), req_1 (by decide), Option.bind_some, bl_s, if_pos (c := nI 3 = 3) rfl, if_neg (show ¬ M 43 5 = 0 by rw [r3.2.1, eh]; decide), req_0 t17, Option.bind_some, t14, bl_s, if_neg (c := nI 3 = 4) (by decide), req_1 (by decide), Option.bind_some, rest_r, flt_e hF (by omega) (by omega)]
          exact ⟨_, rfl, hflt et⟩
        · rw [bl_s, if_neg (c := nI 4 = 0) (by decide), req_1 (by decide), Option.bind_some, bl_s, if_neg (c := nI 4 = 3) (by decide), req_1 (by decide), Option.bind_some, bl_s, if_pos (c := nI 4 = 4) rfl, if_neg (show ¬ M 43 6 = 0 by rw [r3.2.2, eh]; decide), req_0 t17, Option.bind_some, t14, rest_r, flt_e hF (by omega) (by omega)]
          exact ⟨_, rfl, hflt et⟩
      · have v1 : (if nI L = 0 then (if M 43 4 = 0 then (1 : Int32) else 0) else 1) = 1 := by
          by_cases l0 : L = 0
          · have : h 3 = 0 := by
              unfold told at et
              rw [if_pos l0] at et
              omega
            rw [if_pos (by rw [l0]; rfl), if_pos (by rw [r3.1, this]; rfl)]
          · rw [if_neg (c := nI L = 0) (fun q => l0 ((hc0 0 (by omega)).mp q))]
        have v2 : (if nI L = 3 then (if M 43 5 = 0 then (1 : Int32) else 0) else 1) = 1 := by
          by_cases l0 : L = 3
          · have : h 4 = 0 := by
              unfold told at et
              rw [if_neg (by omega), if_pos l0] at et
              omega
            rw [if_pos (by rw [l0]; rfl), if_pos (by rw [r3.2.1, this]; rfl)]
          · rw [if_neg (c := nI L = 3) (fun q => l0 ((hc0 3 (by omega)).mp q))]
        have v3 : (if nI L = 4 then (if M 43 6 = 0 then (1 : Int32) else 0) else 1) = 1 := by
          by_cases l0 : L = 4
          · have : h 5 = 0 := by
              unfold told at et
              rw [if_neg (by omega), if_neg (by omega), if_pos l0] at et
              omega
            rw [if_pos (by rw [l0]; rfl), if_pos (by rw [r3.2.2, this]; rfl)]
          · rw [if_neg (c := nI L = 4) (fun q => l0 ((hc0 4 (by omega)).mp q))]
        rw [v1, bl_s, req_1 (by decide), Option.bind_some, v2, bl_s, req_1 (by decide), Option.bind_some, v3, bl_s, req_1 (by decide), Option.bind_some, rest_r, if_neg et]
        have hRS := rs_fl e2 hr hb et
        obtain ⟨X, eX, x1, x2⟩ := reads_r (M := flX M (nI L)) (p := en g l q) (BR_r hB flX_f) hg henb.2.1 (by rw [flX_e 13 (by omega) (by omega)]; exact t13) (by rw [flX_e 17 (by omega) (by omega)]; exact t17)
        rw [eX, Option.bind_some]
        have hfX := FR_t (flX_f (X := M) (v := nI L)) (FR_43 x2)
        by_cases ek : kd g l (sk g l (en g l q)) = 0
        · rcases x1 with ⟨z, -⟩ | ⟨z1, z2, z3⟩
          · exact absurd ek z
          · have hFX : FL X 1 (sk g l (en g l q)) := ⟨z2, z3⟩
            rw [if_neg (flt17 hFX (by omega) (by omega)).2]
            refine ⟨X, rfl, hfX, Or.inl ⟨1, sk g l (en g l q), ?_, by omega, by omega, hFX⟩⟩
            have hls : 0 < ls L := by
              have : ∀ L, L < 6 → 0 < ls L := by decide
              exact this L e2
            rw [nlS_u, if_pos (Or.inr (by omega)), if_pos (Or.inl hls), if_pos ek]
        · have x17 : X 43 17 = 0 := by
            rcases x1 with ⟨_, z, _⟩ | ⟨z, _⟩
            · exact z
            · exact absurd z ek
          rw [if_pos (show X 43 17 ≤ 0 by rw [x17]; decide)]
          have h3 : L = 0 → stl h L 3 = 1 := fun e => by
            unfold stl
            rw [if_pos e, nr_s]
          obtain ⟨r1, er1, m1⟩ := rl_all e2 (BR_r hB hfX) hg hskb.2 x1 (RS_43 hRS x2) (bs_t hb) h3 rfl
          obtain ⟨r, er, m2⟩ := tail_s (BR_r hB hfX) hg m1
          rw [er1, Option.bind_some, er]
          refine ⟨r, rfl, FR_t hfX m2.1, m2.2.imp id ?_⟩
          rintro ⟨q', A', h', y1, y2, y3, y4, y5, y6⟩
          exact ⟨q', A', h', y1, y2, y3, y4, by omega, y6⟩
  · exact absurd t0 hk0
theorem in_7 {j : Nat} (hj : j < 151) : f_X8_in (nI j).toInt64 7 134 = if 7 ≤ j ∧ j ≤ 134 then 1 else 0 := by
  rw [in_l (b := nI 7) (c := nI 134) (nI j) (by decide) (by decide)]
  by_cases e : 7 ≤ j ∧ j ≤ 134
  · rw [if_pos e, if_pos ⟨(ni_le (by omega) (by omega)).mpr e.1, (ni_le (by omega) (by omega)).mpr e.2⟩]
  · rw [if_neg e, if_neg (fun q => e ⟨(ni_le (by omega) (by omega)).mp q.1, (ni_le (by omega) (by omega)).mp q.2⟩)]
theorem draft_r (M : am_M) (c7 c8 : Nat) : ∃ r, f_X8_firstDraft_43 M = some r ∧ (RS r A0 (H0 c7 c8) ∧ FR M r ∧ ∀ j, 13 ≤ j → j ≤ 18 → r 43 j = M 43 j) := by
  unfold f_X8_firstDraft_43
  refine lp_bnd (fun r => r) (fun i s => ∃ M', s = (nI i, M') ∧ (∀ x, x ≠ 47 → M' x = M x) ∧ ∀ j, j < i → M' 47 j = if 7 ≤ j ∧ j ≤ 134 then 2 else 0) (fun q => ∃ y M', q = (y, M') ∧ (∀ x, x ≠ 47 → M' x = M x) ∧ ∀ j, j < 151 → M' 47 j = if 7 ≤ j ∧ j ≤ 134 then 2 else 0) (n := 151) (lpF (by omega)) ⟨_, rfl, fun x _ => rfl, fun j hj => by omega⟩ ?_ ?_ ?_
  · rintro i s hi ⟨M', rfl, h1, h2⟩
    dsimp only
    rw [if_neg (c := 151 ≤ nI i) (nle_n (n := 151) hi (by omega)), in_7 hi, if_pos (db_ok hi (by omega)), if_pos (db_ok hi (by omega)), nI_clamp (by omega), bl_s, bl_s, nI_s]
    by_cases e : 7 ≤ i ∧ i ≤ 134
    · rw [if_pos e, if_neg (c := (1 : Int32) = 0) (by decide)]
      refine Or.inl ⟨_, rfl, _, rfl, fun x hx => by rw [am_up_ne hx, h1 x hx], fun j hj => ?_⟩
      by_cases ej : j = i
      · subst ej; rw [up_s, if_pos e]
      · rw [up_k ej, h2 j (by omega)]
    · rw [if_neg e, if_pos (c := (0 : Int32) = 0) rfl]
      refine Or.inl ⟨_, rfl, _, rfl, fun x hx => by rw [am_up_ne hx, h1 x hx], fun j hj => ?_⟩
      by_cases ej : j = i
      · subst ej; rw [up_s, if_neg e]
      · rw [up_k ej, h2 j (by omega)]
  · rintro s ⟨M', rfl, h⟩
    dsimp only
    rw [if_pos (c := 151 ≤ nI 151) (by decide)]
    exact ⟨_, rfl, _, M', rfl, h⟩
  · rintro q ⟨y, M', rfl, h1, h2⟩
    dsimp only
    rw [clamp4, clamp5, clamp6, bl_s, bl_s, bl_s, bl_s, bl_s, bl_s, bl_s, bl_s, bl_s, bl_s]
    generalize hY : am_up (am_up (am_up M' 47 4 4) 47 5 1) 47 6 1 = Y
    have y47 : ∀ j, j < 143 → Y 47 j = nI (A0 j) := by
      intro j hj
      rw [← hY, up_i, up_i, up_i, h2 j (by omega)]
      unfold A0
      by_cases e4 : j = 4
      · subst e4; rfl
      · by_cases e5 : j = 5
        · subst e5; rfl
        · by_cases e6 : j = 6
          · subst e6; rfl
          · rw [if_neg (fun q => e6 q.2), if_neg (fun q => e5 q.2), if_neg (fun q => e4 q.2), if_neg e4, if_neg e5, if_neg e6]
            split <;> rfl
    have yo : ∀ x, x ≠ 47 → Y x = M x := fun x hx => by rw [← hY, am_up_ne hx, am_up_ne hx, am_up_ne hx, h1 x hx]
    refine ⟨_, rfl, ⟨fun j hj => ?_, ⟨?_, ?_, ?_⟩, ⟨?_, ?_, ?_⟩, Or.inl ?_⟩, ⟨fun x a b => ?_, fun j hj => ?_⟩, fun j a b => ?_⟩
    · rw [up_p (by decide), up_p (by decide), up_p (by decide), up_p (by decide), up_p (by decide), up_p (by decide), up_p (by decide), y47 j hj]
    · rw [up_k (by decide), up_k (by decide), up_s]; show (-1 : Int32) = nI 0 - 1; decide
    · rw [up_k (by decide), up_s]; show (-1 : Int32) = nI 0 - 1; decide
    · rw [up_s]; show (-1 : Int32) = nI 0 - 1; decide
    · rw [up_k (by decide), up_k (by decide), up_k (by decide), up_k (by decide), up_k (by decide), up_k (by decide), up_s]; rfl
    · rw [up_k (by decide), up_k (by decide), up_k (by decide), up_k (by decide), up_k (by decide), up_s]; rfl
    · rw [up_k (by decide), up_k (by decide), up_k (by decide), up_k (by decide), up_s]; rfl
    · rw [up_k (by decide), up_k (by decide), up_k (by decide), up_s]
    · rw [am_up_ne a, am_up_ne a, am_up_ne a, am_up_ne a, am_up_ne a, am_up_ne a, am_up_ne a, yo x b]
    · rw [up_k (by omega), up_k (by omega), up_k (by omega), up_k (by omega), up_k (by omega), up_k (by omega), up_k (by omega), yo 43 (by decide)]
    · rw [up_k (by omega), up_k (by omega), up_k (by omega), up_k (by omega), up_k (by omega), up_k (by omega), up_k (by omega), yo 43 (by decide)]
theorem le_m1 : ∀ a, a < 9 → ∀ b, b < 9 → (nI a ≤ nI b - 1 ↔ a < b) := by decide
theorem whole_r {M : am_M} {A h : Nat → Nat} (hr : RS M A h) (hb : BS A h) : (wh A h → f_X8_isWhole_43 M = 1) ∧ (¬ wh A h → f_X8_isWhole_43 M = 0) := by
  obtain ⟨r1, r2, r3, r4⟩ := hr
  obtain ⟨b1, b2, b3, b4, b5, b6, b7, b8, b9⟩ := hb
  unfold f_X8_isWhole_43 wh
  rw [clamp0, clamp1, clamp2, clamp4, clamp5, clamp6, r1 0 (by omega), r1 1 (by omega), r1 2 (by omega), r1 4 (by omega), r1 5 (by omega), r1 6 (by omega), r2.1, r2.2.1, r2.2.2, r3.1, r3.2.2, n_shr (by omega) (by omega), n_shr (by omega) (by omega)]
  have hd5 : A 5 / 2 ^ (A 4) ≤ A 5 := Nat.div_le_self _ _
  have hd6 : A 6 / 2 ^ (A 2) ≤ A 6 := Nat.div_le_self _ _
  have l0 := le_m1 (A 0) (by omega) (h 0) (by omega)
  have l1 := le_m1 (A 1) (by omega) (h 1) (by omega)
  have l2 := le_m1 (A 2) (by omega) (h 2) (by omega)
  rw [bl_s]
  by_cases e3 : (if nI (h 3) = 0 then (if M 43 10 = 0 then (1 : Int32) else 0) else 1) = 0
  · rw [if_pos e3, bl_s, if_pos (c := (0 : Int32) = 0) rfl, bl_s, if_pos (c := (0 : Int32) = 0) rfl]
    refine ⟨fun w => ?_, fun _ => rfl⟩
    exfalso
    by_cases e4 : nI (h 3) = 0
    · rw [if_pos e4] at e3
      by_cases e5 : M 43 10 = 0
      · rw [if_pos e5] at e3; exact absurd e3 (by decide)
      · have h3 : h 3 = 0 := (nI_eq (b := 0) (by omega) (by omega)).mp e4
        have := b9 h3
        have := r4.resolve_left e5
        omega
    · rw [if_neg e4] at e3; exact absurd e3 (by decide)
  · rw [if_neg e3]
    by_cases e0 : h 0 ≤ A 0
    · rw [if_neg (c := nI (A 0) ≤ nI (h 0) - 1) (fun q => by have := l0.mp q; omega)]
      by_cases e1 : h 1 ≤ A 1
      · rw [if_neg (c := nI (A 1) ≤ nI (h 1) - 1) (fun q => by have := l1.mp q; omega)]
        by_cases e2 : h 2 ≤ A 2
        · rw [if_neg (c := nI (A 2) ≤ nI (h 2) - 1) (fun q => by have := l2.mp q; omega), bl_s, if_neg (c := (1 : Int32) = 0) (by decide)]
          by_cases e5 : A 5 / 2 ^ (A 4) = 0
          · rw [if_pos (c := nI (A 5 / 2 ^ (A 4)) = 0) (by rw [e5]; rfl), bl_s, if_neg (c := (1 : Int32) = 0) (by decide)]
            by_cases e6 : h 5 = 1
            · rw [if_neg (c := nI (h 5) = 0) (by rw [e6]; decide)]
              by_cases e7 : A 6 / 2 ^ (A 2) = 0
              · rw [if_pos (by rw [e7]; rfl)]
                exact ⟨fun _ => rfl, fun q => absurd ⟨e0, e1, e2, e5, fun _ => e7⟩ q⟩
              · rw [if_neg (c := nI (A 6 / 2 ^ (A 2)) = 0) (nI_ne (b := 0) (by omega) (by omega) e7)]
                exact ⟨fun q => absurd (q.2.2.2.2 e6) e7, fun _ => rfl⟩
            · have e6' : h 5 = 0 := by omega
              rw [if_pos (c := nI (h 5) = 0) (by rw [e6']; rfl)]
              exact ⟨fun _ => rfl, fun q => absurd ⟨e0, e1, e2, e5, fun e => absurd e e6⟩ q⟩
          · rw [if_neg (c := nI (A 5 / 2 ^ (A 4)) = 0) (nI_ne (b := 0) (by omega) (by omega) e5), bl_s, if_pos (c := (0 : Int32) = 0) rfl]
            exact ⟨fun q => absurd q.2.2.2.1 e5, fun _ => rfl⟩
        · rw [if_pos (c := nI (A 2) ≤ nI (h 2) - 1) (l2.mpr (by omega)), bl_s, if_pos (c := (0 : Int32) = 0) rfl, bl_s, if_pos (c := (0 : Int32) = 0) rfl]
          exact ⟨fun q => absurd q.2.2.1 e2, fun _ => rfl⟩
      · rw [if_pos (c := nI (A 1) ≤ nI (h 1) - 1) (l1.mpr (by omega)), bl_s, if_pos (c := (0 : Int32) = 0) rfl, bl_s, if_pos (c := (0 : Int32) = 0) rfl]
        exact ⟨fun q => absurd q.2.1 e1, fun _ => rfl⟩
    · rw [if_pos (c := nI (A 0) ≤ nI (h 0) - 1) (l0.mpr (by omega)), bl_s, if_pos (c := (0 : Int32) = 0) rfl, bl_s, if_pos (c := (0 : Int32) = 0) rfl]
      exact ⟨fun q => absurd q.1 e0, fun _ => rfl⟩
