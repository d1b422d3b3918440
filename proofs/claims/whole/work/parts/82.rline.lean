/-! THE REFERENCE READS LINES -/
def MR (M r : am_M) (g : Nat → Nat) (l q0 L : Nat) (R : (Nat × Nat) ⊕ (Nat × (Nat → Nat) × (Nat → Nat))) : Prop := FR M r ∧ ((∃ f p, R = .inl (f, p) ∧ 1 ≤ f ∧ f ≤ 6 ∧ FL r f p) ∨ (∃ f k q' A' h', nlS g l L (f + 1) k q' A' h' = R ∧ ls L ≤ k ∧ (mx L ≤ k ∨ kd g l q' ≠ 2) ∧ TR r g l q' ∧ RS r A' h' ∧ BS A' h' ∧ q0 ≤ q' ∧ q' ≤ l))
def LR (M r : am_M) (g : Nat → Nat) (l q0 : Nat) (R : (Nat × Nat) ⊕ (Nat × (Nat → Nat) × (Nat → Nat))) : Prop := FR M r ∧ ((∃ f p, R = .inl (f, p) ∧ 1 ≤ f ∧ f ≤ 6 ∧ FL r f p) ∨ (∃ q' A' h', R = .inr (q', A', h') ∧ TR r g l q' ∧ RS r A' h' ∧ BS A' h' ∧ q0 < q' ∧ q' ≤ l))
theorem flu7 {M : am_M} {f p k : Nat} {v : Int32} (h : FL M f p) : FL (am_up M 47 k v) f p := FL_e h e47
theorem flu8 {M : am_M} {f p : Nat} {v : Int32} (h : FL M f p) : FL (am_up M 43 8 v) f p := FL_e h (e43 (by omega))
theorem rl_0 {M : am_M} {g : Nat → Nat} {l q : Nat} {A h : Nat → Nat} {R : (Nat × Nat) ⊕ (Nat × (Nat → Nat) × (Nat → Nat))} (hB : BR M g l) (hg : BG g l) (hq : q ≤ l) (ht : TR M g l q) (hr : RS M A h) (hb : BS A h) (h3 : h 3 = 1) (hR : nlS g l 0 200 0 q A h = R) : ∃ r, f_X8_readLineOf_43 (nI 0) M = some r ∧ MR M r g l q 0 R := by
  unfold f_X8_readLineOf_43
  rw [if_pos (c := nI 0 = 0) rfl, clamp0, clamp1, clamp2]
  have bad : ∀ (X : am_M) (f p : Nat), 1 ≤ f → f ≤ 6 → FL X f p → ∀ a b, f_X8_readNumber_43 a b X = some (0, X) := fun X f p h1 h6 hf a b => rdn_f hf h1 h6 a b
  obtain ⟨r1, e1, f1, s1⟩ := num_s (L := 0) (k := 0) (f := 199) (by omega) hB hg hq ht hr hb ⟨fun h => by omega, fun h => by omega⟩ (fun _ => h3) (by decide) (Or.inl (by decide)) hR
  rw [show f_X8_readNumber_43 1 8 M = some r1 from e1, Option.bind_some, bl_s]
  rcases s1 with ⟨u1, u2, u3, u4, u5, u6, u7, u8, u9, u10⟩ | ⟨u1, f', p, u2, u3, u4, u5⟩
  · rw [u1]
    have hB1 := BR_r (BR_f hB f1) (FR_7 (k := 0) (v := nI (vl g l q)))
    obtain ⟨r2, e2, f2, s2⟩ := num_s (L := 0) (k := 1) (f := 198) (by omega) hB1 hg u6 (TR_e u3 e47) (rs_47 (v := vl g l q) u4) u8 u9 u10 (by decide) (Or.inl (by decide)) u7
    rw [show f_X8_readNumber_43 1 8 (am_up r1.2 47 0 (nI (vl g l q))) = some r2 from e2, Option.bind_some, bl_s]
    rcases s2 with ⟨v1, v2, v3, v4, v5, v6, v7, v8, v9, v10⟩ | ⟨v1, f', p, v2, v3, v4, v5⟩
    · rw [v1]
      have hB2 := BR_r (BR_f hB1 f2) (FR_7 (k := 1) (v := nI (vl g l (sk g l (en g l q)))))
      obtain ⟨r3, e3, f3, s3⟩ := num_s (L := 0) (k := 2) (f := 197) (by omega) hB2 hg v6 (TR_e v3 e47) (rs_47 (v := vl g l (sk g l (en g l q))) v4) v8 v9 v10 (by decide) (Or.inl (by decide)) v7
      rw [show f_X8_readNumber_43 1 8 (am_up r2.2 47 1 (nI (vl g l (sk g l (en g l q))))) = some r3 from e3, Option.bind_some, bl_s]
      have hfr := FR_t (FR_43 f1) (FR_t FR_7 (FR_t (FR_43 f2) (FR_t FR_7 (FR_43 f3))))
      rcases s3 with ⟨w1, w2, w3, w4, w5, w6, w7, w8, w9, w10⟩ | ⟨w1, f', p, w2, w3, w4, w5⟩
      · rw [w1]
        exact ⟨_, rfl, FR_t hfr FR_7, Or.inr ⟨196, 3, _, _, _, w7, by decide, Or.inl (by decide), TR_e w3 e47, rs_47 w4, w8, by omega, w6⟩⟩
      · exact ⟨_, rfl, FR_t hfr FR_7, Or.inl ⟨f', p, w2, w3, w4, flu7 w5⟩⟩
    · rw [bad _ f' p v3 v4 (flu7 v5), Option.bind_some, bl_s]
      exact ⟨_, rfl, FR_t (FR_43 f1) (FR_t FR_7 (FR_t (FR_43 f2) (FR_t FR_7 FR_7))), Or.inl ⟨f', p, v2, v3, v4, flu7 (flu7 v5)⟩⟩
  · rw [bad _ f' p u3 u4 (flu7 u5), Option.bind_some, bl_s]
    rw [bad _ f' p u3 u4 (flu7 (flu7 u5)), Option.bind_some, bl_s]
    exact ⟨_, rfl, FR_t (FR_43 f1) (FR_t FR_7 (FR_t FR_7 FR_7)), Or.inl ⟨f', p, u2, u3, u4, flu7 (flu7 (flu7 u5))⟩⟩
theorem rl_3 {M : am_M} {g : Nat → Nat} {l q : Nat} {A h : Nat → Nat} {R : (Nat × Nat) ⊕ (Nat × (Nat → Nat) × (Nat → Nat))} (hB : BR M g l) (hg : BG g l) (hq : q ≤ l) (ht : TR M g l q) (hr : RS M A h) (hb : BS A h) (hR : nlS g l 3 200 0 q A h = R) : ∃ r, f_X8_readLineOf_43 (nI 3) M = some r ∧ MR M r g l q 3 R := by
  unfold f_X8_readLineOf_43
  rw [if_neg (c := nI 3 = 0) (by decide), if_neg (c := nI 3 = 1) (by decide), if_neg (c := nI 3 = 2) (by decide), if_pos (c := nI 3 = 3) rfl, clamp4, clamp5]
  obtain ⟨r1, e1, f1, s1⟩ := num_s (L := 3) (k := 0) (f := 199) (by omega) hB hg hq ht hr hb ⟨fun h => by omega, fun h => by omega⟩ (fun h => by omega) (by decide) (Or.inl (by decide)) hR
  rw [show f_X8_readNumber_43 1 12 M = some r1 from e1, Option.bind_some, bl_s]
  rcases s1 with ⟨u1, u2, u3, u4, u5, u6, u7, u8, u9, u10⟩ | ⟨u1, f', p, u2, u3, u4, u5⟩
  · rw [u1]
    have hB1 := BR_r (BR_f hB f1) (FR_7 (k := 4) (v := nI (vl g l q)))
    obtain ⟨r2, e2, f2, s2⟩ := num_s (L := 3) (k := 1) (f := 198) (by omega) hB1 hg u6 (TR_e u3 e47) (rs_47 (v := vl g l q) u4) u8 u9 u10 (by decide) (Or.inl (by decide)) u7
    rw [show f_X8_readNumber_43 0 4095 (am_up r1.2 47 4 (nI (vl g l q))) = some r2 from e2, Option.bind_some, bl_s]
    have hfr := FR_t (FR_43 f1) (FR_t FR_7 (FR_43 f2))
    rcases s2 with ⟨w1, w2, w3, w4, w5, w6, w7, w8, w9, w10⟩ | ⟨w1, f', p, w2, w3, w4, w5⟩
    · rw [w1]
      exact ⟨_, rfl, FR_t hfr FR_7, Or.inr ⟨197, 2, _, _, _, w7, by decide, Or.inl (by decide), TR_e w3 e47, rs_47 w4, w8, by omega, w6⟩⟩
    · exact ⟨_, rfl, FR_t hfr FR_7, Or.inl ⟨f', p, w2, w3, w4, flu7 w5⟩⟩
  · rw [rdn_f (flu7 u5) u3 u4, Option.bind_some, bl_s]
    exact ⟨_, rfl, FR_t (FR_43 f1) (FR_t FR_7 FR_7), Or.inl ⟨f', p, u2, u3, u4, flu7 (flu7 u5)⟩⟩
theorem rl_4 {M : am_M} {g : Nat → Nat} {l q : Nat} {A h : Nat → Nat} {R : (Nat × Nat) ⊕ (Nat × (Nat → Nat) × (Nat → Nat))} (hB : BR M g l) (hg : BG g l) (hq : q ≤ l) (ht : TR M g l q) (hr : RS M A h) (hb : BS A h) (hR : nlS g l 4 200 0 q A h = R) : ∃ r, f_X8_readLineOf_43 (nI 4) M = some r ∧ MR M r g l q 4 R := by
  unfold f_X8_readLineOf_43
  rw [if_neg (c := nI 4 = 0) (by decide), if_neg (c := nI 4 = 1) (by decide), if_neg (c := nI 4 = 2) (by decide), if_neg (c := nI 4 = 3) (by decide), if_pos (c := nI 4 = 4) rfl, clamp6]
  obtain ⟨r1, e1, f1, s1⟩ := num_s (L := 4) (k := 0) (f := 199) (by omega) hB hg hq ht hr hb ⟨fun h => by omega, fun h => by omega⟩ (fun h => by omega) (by decide) (Or.inl (by decide)) hR
  rw [show f_X8_readNumber_43 0 255 M = some r1 from e1, Option.bind_some, bl_s]
  rcases s1 with ⟨w1, w2, w3, w4, w5, w6, w7, w8, w9, w10⟩ | ⟨w1, f', p, w2, w3, w4, w5⟩
  · rw [w1]
    exact ⟨_, rfl, FR_t (FR_43 f1) FR_7, Or.inr ⟨198, 1, _, _, _, w7, by decide, Or.inl (by decide), TR_e w3 e47, rs_47 w4, w8, by omega, w6⟩⟩
  · exact ⟨_, rfl, FR_t (FR_43 f1) FR_7, Or.inl ⟨f', p, w2, w3, w4, flu7 w5⟩⟩
theorem a_7' (c t : Nat) : ((7 : Int32) + (8 : Int32) * nI c) + nI t = nI (7 + (8 * c + t)) := by
  rw [a_7]
  congr 1
  omega
theorem rl_5 {M : am_M} {g : Nat → Nat} {l q : Nat} {A h : Nat → Nat} {R : (Nat × Nat) ⊕ (Nat × (Nat → Nat) × (Nat → Nat))} (hB : BR M g l) (hg : BG g l) (hq : q ≤ l) (ht : TR M g l q) (hr : RS M A h) (hb : BS A h) (hR : nlS g l 5 200 0 q A h = R) : ∃ r, f_X8_readLineOf_43 (nI 5) M = some r ∧ MR M r g l q 5 R := by
  unfold f_X8_readLineOf_43 f_X8_readCell_43
  rw [if_neg (c := nI 5 = 0) (by decide), if_neg (c := nI 5 = 1) (by decide), if_neg (c := nI 5 = 2) (by decide), if_neg (c := nI 5 = 3) (by decide), if_neg (c := nI 5 = 4) (by decide)]
  have b7 := hb.2.2.2.2.2.2.1
  obtain ⟨r1, e1, f1, s1⟩ := num_s (L := 5) (k := 0) (f := 199) (by omega) hB hg hq ht hr hb ⟨fun _ h => by omega, fun _ h => by omega⟩ (fun h => by omega) (by decide) (Or.inl (by decide)) hR
  obtain ⟨c1, ec, cf, ce, cr⟩ := chain_s (show f_X8_readNumber_43 0 7 M = some r1 from e1)
  rw [ec, Option.bind_some]
  dsimp only
  have hfr1 := FR_t (FR_43 f1) cf
  rcases s1 with ⟨u1, u2, u3, u4, u5, u6, u7, u8, u9, u10⟩ | ⟨u1, f', p, u2, u3, u4, u5⟩
  · have u2' : vl g l q ≤ 7 := u2
    rw [u1]
    have hB1 := BR_r hB hfr1
    obtain ⟨r2, e2, f2, s2⟩ := num_s (L := 5) (k := 1) (f := 198) (by omega) hB1 hg u6 (TR_e u3 ce) (cr A h _ u4 u1 u2' b7.1) u8 u9 u10 (by decide) (Or.inl (by decide)) u7
    rw [show f_X8_readNumber_43 0 7 c1 = some r2 from e2, Option.bind_some]
    generalize hX : (if r2.1 ≤ r2.2 43 8 then r2.2 43 8 else r2.1) = X
    rw [bl_s, bl_s]
    rcases s2 with ⟨v1, v2, v3, v4, v5, v6, v7, v8, v9, v10⟩ | ⟨v1, f', p, v2, v3, v4, v5⟩
    · have v2' : vl g l (sk g l (en g l q)) ≤ 7 := v2
      have b7' : tch (vl g l q) h 1 ≤ 8 := u8.2.2.2.2.2.2.1.2.1
      have hRS := rs_h1 (v := vl g l (sk g l (en g l q))) v4
      have hXe : X = nI (max (tch (vl g l q) h 1) (vl g l (sk g l (en g l q)) + 1)) - 1 := by
        rw [← hX, v1, v4.2.1.2.1]
        have hm := max_1 b7' v2'
        by_cases e : nI (vl g l (sk g l (en g l q))) ≤ nI (tch (vl g l q) h 1) - 1
        · rw [if_pos e]; exact hm.1 e
        · rw [if_neg e]; exact hm.2 e
      rw [← hXe] at hRS
      have hB2 := BR_r (BR_f hB1 f2) (FR_u (k := 8) (v := X) (by omega))
      obtain ⟨r3, e3, f3, s3⟩ := num_s (L := 5) (k := 2) (f := 197) (by omega) hB2 hg v6 (TR_e v3 (e43 (by omega))) hRS v8 v9 v10 (by decide) (Or.inl (by decide)) v7
      rw [show f_X8_readNumber_43 0 2 (am_up r2.2 43 8 X) = some r3 from e3, Option.bind_some, v1, a_7', if_pos (db_ok (by omega) (by omega)), nI_clamp (by omega), bl_s]
      have hfr := FR_t hfr1 (FR_t (FR_43 f2) (FR_t (FR_u (by omega)) (FR_43 f3)))
      rcases s3 with ⟨w1, w2, w3, w4, w5, w6, w7, w8, w9, w10⟩ | ⟨w1, f', p, w2, w3, w4, w5⟩
      · rw [w1]
        exact ⟨_, rfl, FR_t hfr FR_7, Or.inr ⟨196, 3, _, _, _, w7, by decide, Or.inl (by decide), TR_e w3 e47, rs_47 w4, w8, by omega, w6⟩⟩
      · exact ⟨_, rfl, FR_t hfr FR_7, Or.inl ⟨f', p, w2, w3, w4, flu7 w5⟩⟩
    · rw [rdn_f (flu8 v5) v3 v4, Option.bind_some, v1, show (0 : Int32) = nI 0 from rfl, a_7', if_pos (db_ok (by omega) (by omega)), nI_clamp (by omega), bl_s]
      exact ⟨_, rfl, FR_t hfr1 (FR_t (FR_43 f2) (FR_t (FR_u (by omega)) FR_7)), Or.inl ⟨f', p, v2, v3, v4, flu7 (flu8 v5)⟩⟩
  · have hF1 := FL_e u5 ce
    rw [u1, rdn_f hF1 u3 u4, Option.bind_some]
    generalize hX : (if (0 : Int32) ≤ c1 43 8 then c1 43 8 else 0) = X
    rw [bl_s, bl_s, rdn_f (flu8 hF1) u3 u4, Option.bind_some, if_pos (c := am_dbin (((7 : Int32) + (8 : Int32) * 0) + 0) 151 = true) (by decide), bl_s]
    exact ⟨_, rfl, FR_t hfr1 (FR_t (FR_u (by omega)) FR_7), Or.inl ⟨f', p, u2, u3, u4, flu7 (flu8 hF1)⟩⟩
theorem tr_0 {M : am_M} {g : Nat → Nat} {l q : Nat} (ht : TR M g l q) (h : kd g l q = 2) : M 43 17 = 0 ∧ M 43 15 = 2 := by
  rcases ht with ⟨_, t17, _, _, t15, _⟩ | ⟨t0, _⟩
  · rw [h] at t15
    exact ⟨t17, t15⟩
  · omega
theorem tr_n {M : am_M} {g : Nat → Nat} {l q : Nat} (ht : TR M g l q) (h : kd g l q ≠ 2) : ¬ (M 43 17 = 0 ∧ M 43 15 = 2) := by
  have hk4 := kd_le (g := g) (l := l) (q := q)
  rcases ht with ⟨_, t17, _, _, t15, _⟩ | ⟨t0, t17, _⟩
  · rintro ⟨_, e⟩
    rw [t15] at e
    revert e
    unfold kr
    split
    · decide
    · exact nI_ne (b := 2) (by omega) (by omega) h
  · rintro ⟨e, _⟩
    rw [t17] at e
    exact absurd e (by decide)
theorem rl_2 {M : am_M} {g : Nat → Nat} {l q : Nat} {A h : Nat → Nat} {R : (Nat × Nat) ⊕ (Nat × (Nat → Nat) × (Nat → Nat))} (hB : BR M g l) (hg : BG g l) (hq : q ≤ l) (ht : TR M g l q) (hr : RS M A h) (hb : BS A h) (hR : nlS g l 2 200 0 q A h = R) : ∃ r, f_X8_readLineOf_43 (nI 2) M = some r ∧ MR M r g l q 2 R := by
  have hl := hg.1
  unfold f_X8_readLineOf_43 f_X8_readOuts_43
  rw [if_neg (c := nI 2 = 0) (by decide), if_neg (c := nI 2 = 1) (by decide), if_pos (c := nI 2 = 2) rfl]
  obtain ⟨r1, e1, f1, s1⟩ := num_s (L := 2) (k := 0) (f := 199) (by omega) hB hg hq ht hr hb ⟨fun h => by omega, fun h => by omega⟩ (fun h => by omega) (by decide) (Or.inl (by decide)) hR
  obtain ⟨c1, ec, cf, ce, cr⟩ := chain_s (show f_X8_readNumber_43 0 7 M = some r1 from e1)
  rw [ec, Option.bind_some]
  dsimp only
  rw [clamp3, bl_s]
  have hfr1 := FR_t (FR_43 f1) cf
  -- the loop
  have loop : ∀ X : am_M, FR M X → ((∃ f p, R = .inl (f, p) ∧ 1 ≤ f ∧ f ≤ 6 ∧ FL X f p) ∨ (∃ q' A' h', TR X g l q' ∧ RS X A' h' ∧ BS A' h' ∧ 1 ≤ q' ∧ q ≤ q' ∧ q' ≤ l ∧ nlS g l 2 199 1 q' A' h' = R)) → ∃ r, ((((lp (σ := am_M) (ρ := am_M) (fun M6 => (if (M6 43 17) = 0 then (if (M6 43 15) = 2 then ((f_X8_readChain_43 M6).bind (fun q10 => (bl (am_up q10.2 47 (3 : Int32).toNatClampNeg ((M6 47 (3 : Int32).toNatClampNeg) ||| ((1 : Int32) <<< (q10.1 &&& 31)))) (fun (M12 : am_M) => (some (.inl M12)))))) else (some (.inr M6))) else (some (.inr M6)))) lp_F X).bind (fun M14 => (some M14))).bind (fun q11 => (some q11)))) = some r ∧ MR M r g l q 2 R := by
    intro X hfX hX
    suffices hS : ∃ r, ((lp (σ := am_M) (ρ := am_M) (fun M6 => (if (M6 43 17) = 0 then (if (M6 43 15) = 2 then ((f_X8_readChain_43 M6).bind (fun q10 => (bl (am_up q10.2 47 (3 : Int32).toNatClampNeg ((M6 47 (3 : Int32).toNatClampNeg) ||| ((1 : Int32) <<< (q10.1 &&& 31)))) (fun (M12 : am_M) => (some (.inl M12)))))) else (some (.inr M6))) else (some (.inr M6)))) lp_F X).bind (fun M14 => (some M14))) = some r ∧ MR M r g l q 2 R by
      obtain ⟨r, a, b⟩ := hS
      exact ⟨r, by rw [a]; rfl, b⟩
    refine lp_bnd (fun r => r) (fun i s => FR M s ∧ ((∃ f p, R = .inl (f, p) ∧ 1 ≤ f ∧ f ≤ 6 ∧ FL s f p) ∨ (∃ q' A' h', TR s g l q' ∧ RS s A' h' ∧ BS A' h' ∧ i + 1 ≤ q' ∧ q ≤ q' ∧ q' ≤ l ∧ nlS g l 2 (199 - i) (i + 1) q' A' h' = R))) (fun s => MR M s g l q 2 R) (n := 162) (lpF (by omega)) ⟨hfX, hX⟩ ?_ ?_ ?_
    · rintro i s hi162 ⟨k0, ⟨f, p, k1, k2, k3, k4⟩ | ⟨q', A', h', k1, k2, k3, k4, k5, k6, k7⟩⟩
      · rw [if_neg (flt17 k4 k2 k3).1]
        exact Or.inr ⟨_, rfl, k0, Or.inl ⟨f, p, k1, k2, k3, k4⟩⟩
      · by_cases e : kd g l q' = 2
        · have hql : q' < l := kd_lt (by rw [e]; decide)
          have b7 := k3.2.2.2.2.2.2.1
          rw [show 199 - i = (198 - i) + 1 by omega] at k7
          obtain ⟨r2, e2, f2, s2⟩ := num_s (L := 2) (k := i + 1) (f := 198 - i) (by omega) (BR_r hB k0) hg k6 k1 k2 k3 ⟨fun h => by omega, fun h => by omega⟩ (fun h => by omega) (show i + 1 < 160 by omega) (Or.inr e) k7
          obtain ⟨c2, ec2, cf2, ce2, cr2⟩ := chain_s (show f_X8_readNumber_43 0 7 s = some r2 from e2)
          obtain ⟨t1, t2⟩ := tr_0 k1 e
          rw [if_pos t1, if_pos t2, ec2, Option.bind_some]
          dsimp only
          rw [clamp3, bl_s]
          have hfr := FR_t k0 (FR_t (FR_43 f2) cf2)
          rcases s2 with ⟨w1, w2, w3, w4, w5, w6, w7, w8, w9, w10⟩ | ⟨w1, f', p, w2, w3, w4, w5⟩
          · have w2' : vl g l q' ≤ 7 := w2
            rw [w1, k2.1 3 (by omega), shl_v (by omega), n_or]
            exact Or.inl ⟨_, rfl, FR_t hfr FR_7, Or.inr ⟨_, _, _, TR_e (TR_e w3 ce2) e47, rs_47 (cr2 A' h' _ w4 w1 w2' b7.1), w8, by omega, by omega, w6, by rw [show 199 - (i + 1) = 198 - i by omega]; exact w7⟩⟩
          · exact Or.inl ⟨_, rfl, FR_t hfr FR_7, Or.inl ⟨f', p, w2, w3, w4, flu7 (FL_e w5 ce2)⟩⟩
        · have hn := tr_n k1 e
          have hex : (if (s 43 17) = 0 then (if (s 43 15) = 2 then ((f_X8_readChain_43 s).bind (fun q10 => (bl (am_up q10.2 47 (3 : Int32).toNatClampNeg ((s 47 (3 : Int32).toNatClampNeg) ||| ((1 : Int32) <<< (q10.1 &&& 31)))) (fun (M12 : am_M) => (some (.inl M12) : Option (am_M ⊕ am_M)))))) else (some (.inr s))) else (some (.inr s))) = some (.inr s) := by
            by_cases e1 : s 43 17 = 0
            · rw [if_pos e1, if_neg (fun e2 => hn ⟨e1, e2⟩)]
            · rw [if_neg e1]
          rw [hex]
          exact Or.inr ⟨_, rfl, k0, Or.inr ⟨198 - i, i + 1, q', A', h', by rw [show 198 - i + 1 = 199 - i by omega]; exact k7, show 1 ≤ i + 1 by omega, Or.inr e, k1, k2, k3, k5, k6⟩⟩
    · rintro s ⟨k0, ⟨f, p, k1, k2, k3, k4⟩ | ⟨q', A', h', k1, k2, k3, k4, k5, k6, k7⟩⟩
      · rw [if_neg (flt17 k4 k2 k3).1]
        exact ⟨_, rfl, k0, Or.inl ⟨f, p, k1, k2, k3, k4⟩⟩
      · omega
    · rintro s hs
      exact ⟨s, rfl, hs⟩
  have b7 := hb.2.2.2.2.2.2.1
  rcases s1 with ⟨u1, u2, u3, u4, u5, u6, u7, u8, u9, u10⟩ | ⟨u1, f', p, u2, u3, u4, u5⟩
  · have u2' : vl g l q ≤ 7 := u2
    rw [u1, hr.1 3 (by omega), shl_v (by omega), n_or]
    exact loop _ (FR_t hfr1 FR_7) (Or.inr ⟨_, _, _, TR_e (TR_e u3 ce) e47, rs_47 (cr A h _ u4 u1 u2' b7.1), u8, by omega, by omega, u6, u7⟩)
  · exact loop _ (FR_t hfr1 FR_7) (Or.inl ⟨f', p, u2, u3, u4, flu7 (FL_e u5 ce)⟩)
theorem ta_1 {k v : Nat} {A h : Nat → Nat} (hk : k ≠ 0) : tA 1 k v A h = (nr A (135 + h 7) (A (135 + h 7) ||| 2 ^ v), nr h 2 (max (h 2) (v + 1))) := by
  unfold tA
  rw [if_neg (by decide), if_pos rfl, if_neg hk]
theorem rl_1 {M : am_M} {g : Nat → Nat} {l q : Nat} {A h : Nat → Nat} {R : (Nat × Nat) ⊕ (Nat × (Nat → Nat) × (Nat → Nat))} (hB : BR M g l) (hg : BG g l) (hq : q ≤ l) (ht : TR M g l q) (hr : RS M A h) (hb : BS A h) (hR : nlS g l 1 200 0 q A h = R) : ∃ r, f_X8_readLineOf_43 (nI 1) M = some r ∧ MR M r g l q 1 R := by
  have hl := hg.1
  unfold f_X8_readLineOf_43 f_X8_readColumn_43
  rw [if_neg (c := nI 1 = 0) (by decide), if_pos (c := nI 1 = 1) rfl]
  obtain ⟨r1, e1, f1, s1⟩ := num_s (L := 1) (k := 0) (f := 199) (by omega) hB hg hq ht hr hb ⟨fun _ h => by omega, fun h => by omega⟩ (fun h => by omega) (by decide) (Or.inl (by decide)) hR
  obtain ⟨c1, ec, cf, ce, cr⟩ := chain_s (show f_X8_readNumber_43 0 7 M = some r1 from e1)
  rw [ec, Option.bind_some]
  dsimp only
  have hfr1 := FR_t (FR_43 f1) cf
  have loop : ∀ (c : Nat) (X : am_M), c ≤ 7 → FR M X → ((∃ f p, R = .inl (f, p) ∧ 1 ≤ f ∧ f ≤ 6 ∧ FL X f p) ∨ (∃ q' A' h', TR X g l q' ∧ RS X A' h' ∧ BS A' h' ∧ h' 7 = c ∧ 2 ≤ q' ∧ q ≤ q' ∧ q' ≤ l ∧ nlS g l 1 198 2 q' A' h' = R)) → ∃ r, ((lp (σ := am_M) (ρ := am_M) (fun M7 => (if (M7 43 17) = 0 then (if (M7 43 15) = 2 then (if am_dbin (nI (135 + c)) 151 = true then ((f_X8_readOutput_43 M7).bind (fun q11 => (if am_dbin (nI (135 + c)) 151 = true then (bl (am_up q11.2 47 (135 + c) ((M7 47 (135 + c)) ||| ((1 : Int32) <<< (q11.1 &&& 31)))) (fun (M13 : am_M) => (some (.inl M13)))) else none))) else none) else (some (.inr M7))) else (some (.inr M7)))) lp_F X).bind (fun M15 => (some M15))) = some r ∧ MR M r g l q 1 R := by
    intro c X hc hfX hX
    refine lp_bnd (fun r => r) (fun i s => FR M s ∧ ((∃ f p, R = .inl (f, p) ∧ 1 ≤ f ∧ f ≤ 6 ∧ FL s f p) ∨ (∃ q' A' h', TR s g l q' ∧ RS s A' h' ∧ BS A' h' ∧ h' 7 = c ∧ i + 2 ≤ q' ∧ q ≤ q' ∧ q' ≤ l ∧ nlS g l 1 (198 - i) (i + 2) q' A' h' = R))) (fun s => MR M s g l q 1 R) (n := 162) (lpF (by omega)) ⟨hfX, hX⟩ ?_ ?_ ?_
    · rintro i s hi162 ⟨k0, ⟨f, p, k1, k2, k3, k4⟩ | ⟨q', A', h', k1, k2, k3, kc, k4, k5, k6, k7⟩⟩
      · rw [if_neg (flt17 k4 k2 k3).1]
        exact Or.inr ⟨_, rfl, k0, Or.inl ⟨f, p, k1, k2, k3, k4⟩⟩
      · by_cases e : kd g l q' = 2
        · have hql : q' < l := kd_lt (by rw [e]; decide)
          have b7 := k3.2.2.2.2.2.2.1
          rw [show 198 - i = (197 - i) + 1 by omega] at k7
          obtain ⟨r2, e2, f2, s2⟩ := num_s (L := 1) (k := i + 2) (f := 197 - i) (by omega) (BR_r hB k0) hg k6 k1 k2 k3 ⟨fun _ _ => by omega, fun h => by omega⟩ (fun h => by omega) (show i + 2 < 160 by omega) (Or.inr e) k7
          obtain ⟨c2, ec2, cf2, cx2, ce2, cr2⟩ := output_s (show f_X8_readNumber_43 0 7 s = some r2 from e2)
          obtain ⟨t1, t2⟩ := tr_0 k1 e
          rw [if_pos t1, if_pos t2, if_pos (db_ok (by omega) (by omega)), ec2, Option.bind_some, if_pos (db_ok (by omega) (by omega))]
          dsimp only
          rw [bl_s]
          have hfr := FR_t k0 (FR_t (FR_43 f2) cf2)
          rcases s2 with ⟨w1, w2, w3, w4, w5, w6, w7, w8, w9, w10⟩ | ⟨w1, f', p, w2, w3, w4, w5⟩
          · have w2' : vl g l q' ≤ 7 := w2
            rw [ta_1 (by omega), kc] at w7 w8
            rw [w1, k2.1 _ (by omega), shl_v (by omega), n_or]
            refine Or.inl ⟨_, rfl, FR_t hfr FR_7, Or.inr ⟨_, _, _, TR_e (TR_e w3 ce2) e47, rs_47 (cr2 A' h' _ w4 w1 w2' b7.2.2), w8, ?_, by omega, by omega, w6, by rw [show 198 - (i + 1) = 197 - i by omega]; exact w7⟩⟩
            rw [nr_o (by decide)]; exact kc
          · exact Or.inl ⟨_, rfl, FR_t hfr FR_7, Or.inl ⟨f', p, w2, w3, w4, flu7 (FL_e w5 ce2)⟩⟩
        · have hn := tr_n k1 e
          have hex : (if (s 43 17) = 0 then (if (s 43 15) = 2 then (if am_dbin (nI (135 + c)) 151 = true then ((f_X8_readOutput_43 s).bind (fun q11 => (if am_dbin (nI (135 + c)) 151 = true then (bl (am_up q11.2 47 (135 + c) ((s 47 (135 + c)) ||| ((1 : Int32) <<< (q11.1 &&& 31)))) (fun (M13 : am_M) => (some (.inl M13) : Option (am_M ⊕ am_M)))) else none))) else none) else (some (.inr s))) else (some (.inr s))) = some (.inr s) := by
            by_cases e1 : s 43 17 = 0
            · rw [if_pos e1, if_neg (fun e2 => hn ⟨e1, e2⟩)]
            · rw [if_neg e1]
          rw [hex]
          exact Or.inr ⟨_, rfl, k0, Or.inr ⟨197 - i, i + 2, q', A', h', by rw [show 197 - i + 1 = 198 - i by omega]; exact k7, show 2 ≤ i + 2 by omega, Or.inr e, k1, k2, k3, k5, k6⟩⟩
    · rintro s ⟨k0, ⟨f, p, k1, k2, k3, k4⟩ | ⟨q', A', h', k1, k2, k3, kc, k4, k5, k6, k7⟩⟩
      · rw [if_neg (flt17 k4 k2 k3).1]
        exact ⟨_, rfl, k0, Or.inl ⟨f, p, k1, k2, k3, k4⟩⟩
      · omega
    · rintro s hs
      exact ⟨s, rfl, hs⟩
  have b7 := hb.2.2.2.2.2.2.1
  rcases s1 with ⟨u1, u2, u3, u4, u5, u6, u7, u8, u9, u10⟩ | ⟨u1, f', p, u2, u3, u4, u5⟩
  · have u2' : vl g l q ≤ 7 := u2
    have hRS := cr A h _ u4 u1 u2' b7.1
    rw [u1, a_135, if_pos (db_ok (by omega) (by omega)), nI_clamp (by omega)]
    obtain ⟨r2, e2, f2, s2⟩ := num_s (L := 1) (k := 1) (f := 198) (by omega) (BR_r hB hfr1) hg u6 (TR_e u3 ce) hRS u8 u9 u10 (by decide) (Or.inl (by decide)) u7
    obtain ⟨c2, ec2, cf2, cx2, ce2, cr2⟩ := output_s (show f_X8_readNumber_43 0 7 c1 = some r2 from e2)
    rw [ec2, Option.bind_some, if_pos (db_ok (by omega) (by omega))]
    dsimp only
    rw [bl_s]
    have hfr := FR_t hfr1 (FR_t (FR_43 f2) cf2)
    rcases s2 with ⟨w1, w2, w3, w4, w5, w6, w7, w8, w9, w10⟩ | ⟨w1, f', p, w2, w3, w4, w5⟩
    · have w2' : vl g l (sk g l (en g l q)) ≤ 7 := w2
      have b7' := u8.2.2.2.2.2.2.1
      have hc7 : tch (vl g l q) h 7 = vl g l q := by unfold tch; rw [nr_s]
      rw [ta_1 (by omega), hc7] at w7 w8
      rw [w1, hRS.1 _ (by omega), shl_v (by omega), n_or]
      obtain ⟨r, er, hr⟩ := loop (vl g l q) _ u2' (FR_t hfr FR_7) (Or.inr ⟨_, _, _, TR_e (TR_e w3 ce2) e47, rs_47 (j := 135 + vl g l q) (v := A (135 + vl g l q) ||| 2 ^ vl g l (sk g l (en g l q))) (cr2 A (tch (vl g l q) h) _ w4 w1 w2' b7'.2.2), w8, by rw [nr_o (by decide)]; exact hc7, by omega, by omega, w6, w7⟩)
      exact ⟨r, by rw [er]; rfl, hr⟩
    · obtain ⟨r, er, hr⟩ := loop (vl g l q) _ u2' (FR_t hfr FR_7) (Or.inl ⟨f', p, w2, w3, w4, flu7 (k := 135 + vl g l q) (v := c1 47 (135 + vl g l q) ||| (1 : Int32) <<< (r2.1 &&& 31)) (FL_e w5 ce2)⟩)
      exact ⟨r, by rw [er]; rfl, hr⟩
  · have hF1 := FL_e u5 ce
    rw [u1, show (135 : Int32) + 0 = nI (135 + 0) from a_135 0, if_pos (db_ok (by omega) (by omega)), nI_clamp (by omega)]
    obtain ⟨c2, ec2, cf2, cx2, ce2, cr2⟩ := output_s (show f_X8_readNumber_43 0 7 c1 = some (0, c1) from rdn_f hF1 u3 u4 _ _)
    rw [ec2, Option.bind_some, if_pos (db_ok (by omega) (by omega))]
    dsimp only
    rw [bl_s]
    obtain ⟨r, er, hr⟩ := loop 0 _ (by omega) (FR_t hfr1 (FR_t cf2 FR_7)) (Or.inl ⟨f', p, u2, u3, u4, flu7 (k := 135 + 0) (v := c1 47 (135 + 0) ||| (1 : Int32) <<< ((0 : Int32) &&& 31)) (FL_e hF1 ce2)⟩)
    exact ⟨r, by rw [er]; rfl, hr⟩
/-- the end of a line -/
theorem tail_s {M X : am_M} {g : Nat → Nat} {l q0 L : Nat} {R : (Nat × Nat) ⊕ (Nat × (Nat → Nat) × (Nat → Nat))} (hB : BR M g l) (hg : BG g l) (hm : MR M X g l q0 L R) : ∃ r, (bl (fun (M41 : am_M) => (((f_X8_reads_43 M41).bind (fun q42 => (some q42))) : Option am_M)) (fun (j43 : am_M → Option am_M) => (if (X 43 17) = 0 then (bl (if (X 43 15) = 3 then 1 else 0) (fun (v39 : Int32) => ((f_X8_requires_43 v39 2 X).bind (fun q40 => (j43 q40))))) else (j43 X)))) = some r ∧ LR M r g l q0 R := by
  obtain ⟨hf, ⟨f, p, k1, k2, k3, k4⟩ | ⟨f, k, q', A', h', k1, k2, k3, k4, k5, k6, k7, k8⟩⟩ := hm
  · obtain ⟨n1, n2⟩ := flt17 k4 k2 k3
    rw [bl_s, if_neg n1]
    dsimp only
    rw [reads_f n2]
    exact ⟨X, rfl, hf, Or.inl ⟨f, p, k1, k2, k3, k4⟩⟩
  · have hk4 := kd_le (g := g) (l := l) (q := q')
    have henb := en_b (g := g) (l := l) (q := q') k8
    have hskb := sk_b (g := g) (l := l) (p := en g l q') henb.2.1
    rw [nlS_u, if_pos k3] at k1
    rcases k4 with ⟨t0, t17, t14, t13, t15, t16⟩ | ⟨t0, t17, t18⟩
    · rw [bl_s, if_pos t17, bl_s, t15]
      by_cases e : kd g l q' = 3
      · have hlt := henb.2.2 (kd_lt (by rw [e]; decide))
        rw [if_neg (by omega)] at k1
        rw [if_pos (c := nI (kr (kd g l q')) = 3) (by rw [e]; rfl), req_1 (by decide), Option.bind_some]
        dsimp only
        obtain ⟨r, er, r1, r2⟩ := reads_r (BR_r hB hf) hg henb.2.1 t13 t17
        rw [er]
        exact ⟨r, rfl, FR_t hf (FR_43 r2), Or.inr ⟨_, _, _, k1.symm, r1, RS_43 k5 r2, k6, by omega, by omega⟩⟩
      · have hkr : ¬ nI (kr (kd g l q')) = 3 := by
          unfold kr
          split
          · decide
          · exact nI_ne (b := 3) (by omega) (by omega) e
        rw [if_pos (Or.inr e), if_neg t0] at k1
        rw [if_neg hkr, req_0 t17, Option.bind_some, t14]
        have h17 : am_up (am_up X 43 17 2) 43 18 (nI q') 43 17 = 2 := by rw [up_k (by decide), up_s]
        dsimp only
        rw [reads_f (show ¬ am_up (am_up X 43 17 2) 43 18 (nI q') 43 17 ≤ 0 by rw [h17]; decide)]
        exact ⟨_, rfl, FR_t hf (FR_t (FR_u (by omega)) (FR_u (by omega))), Or.inl ⟨2, q', k1.symm, by omega, by omega, h17, up_s⟩⟩
    · have hF : FL X 1 q' := ⟨t17, t18⟩
      obtain ⟨n1, n2⟩ := flt17 hF (by omega) (by omega)
      rw [if_pos (Or.inr (by omega)), if_pos t0] at k1
      rw [bl_s, if_neg n1]
      dsimp only
      rw [reads_f n2]
      exact ⟨X, rfl, hf, Or.inl ⟨1, q', k1.symm, by omega, by omega, hF⟩⟩
