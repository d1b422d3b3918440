/-! FUNCTIONS -/
def f_X5_append_2 (a0 : Int32) (M : am_M) : Option (Int32 × am_M) := (if (M 2 1) < 160 then (if am_dbin (M 2 1) 160 = true then (bl (am_up M 3 (M 2 1).toNatClampNeg (vp_nar .byte (a0.toInt8.toInt32))) (fun (M3 : am_M) => (bl (am_up M3 2 1 ((M3 2 1) + 1)) (fun (M4 : am_M) => (some (1, M4)))))) else none) else (some (0, M)))
set_option maxRecDepth 20000 in
theorem t_X5_append_2 {LN : Nat} {xs : Nat → Int32} {a0 : Int32} {M : am_M} {t : Int32 × am_M} (h : f_X5_append_2 a0 M = some t) : oo LN xs 0 0 57 0 [some (.ref 2), some (.int a0)] [] M (some (.int t.1), t.2) := by
  unfold f_X5_append_2 at h
  refine o_aload_n k57_0 rfl ?_
  refine o_gf k57_1 (gf_2_1 _) ?_
  refine o_sipush (v := 160) k57_4 (by decide) ?_
  refine o_icmp_lt k57_7 (fun hc1 => ?_) (fun hc1 => ?_)
  · rw [if_pos hc1] at h
    refine o_aload_n k57_12 rfl ?_
    refine o_gf k57_13 (gf_2_0 _) ?_
    refine o_aload_n k57_16 rfl ?_
    refine o_gf k57_17 (gf_2_1 _) ?_
    refine o_iload_n k57_20 rfl ?_
    refine o_i2b k57_21 ?_
    obtain ⟨hc2, h⟩ := ck_i h
    refine bl_i h (fun M3 eM3 h => ?_)
    refine o_bast (M' := M3) k57_22 eM3 ba_3 hc2 ?_
    refine o_aload_n k57_23 rfl ?_
    refine o_dupr k57_24 ?_
    refine o_gf k57_25 (gf_2_1 _) ?_
    refine o_iconst (v := 1) k57_28 (by decide) ?_
    refine o_iadd k57_29 ?_
    refine bl_i h (fun M4 eM4 h => ?_)
    refine o_pf (M' := M4) k57_30 (pf_2_1 eM4) ?_
    refine o_iconst (v := 1) k57_33 (by decide) ?_
    have h9 := Option.some.inj h
    subst h9
    exact o_iret pj_57 k57_34 rfl (nr_z (by decide))
  · rw [if_neg hc1] at h
    refine o_iconst (v := 0) k57_10 (by decide) ?_
    have h9 := Option.some.inj h
    subst h9
    exact o_iret pj_57 k57_11 rfl (nr_z (by decide))
def f_X7_feed_0 (a0 : Int32) (M : am_M) : Option (Int32 × am_M) := (if a0 < 0 then (some ((-1), M)) else (if a0 ≤ 127 then ((f_X5_append_2 a0 M).bind (fun q3 => (if q3.1 = 0 then (some ((-3), q3.2)) else (some ((q3.2 2 1), q3.2))))) else (some ((-1), M))))
set_option maxRecDepth 20000 in
theorem t_X7_feed_0 {LN : Nat} {xs : Nat → Int32} {a0 : Int32} {M : am_M} {t : Int32 × am_M} (h : f_X7_feed_0 a0 M = some t) : oo LN xs 0 0 82 0 [some (.ref 0), some (.int a0)] [] M (some (.int t.1), t.2) := by
  unfold f_X7_feed_0 at h
  refine o_iload_n k82_0 rfl ?_
  refine o_if_lt k82_1 (fun hc1 => ?_) (fun hc1 => ?_)
  · rw [if_pos hc1] at h
    refine o_iconst (v := (-1)) k82_10 (by decide) ?_
    have h9 := Option.some.inj h
    subst h9
    exact o_iret pj_82 k82_11 rfl nr_i
  · rw [if_neg hc1] at h
    refine o_iload_n k82_4 rfl ?_
    refine o_bipush (v := 127) k82_5 (by decide) ?_
    refine o_icmp_le k82_7 (fun hc2 => ?_) (fun hc2 => ?_)
    · rw [if_pos hc2] at h
      refine o_aload_n k82_12 rfl ?_
      refine o_gf k82_13 (gf_0_0 _) ?_
      refine o_gf k82_16 (gf_1_0 _) ?_
      refine o_iload_n k82_19 rfl ?_
      refine bd_i h (fun q3 hq3 h => ?_)
      refine o_call k82_20 pj_57 (fun _ => rfl) (by decide) rfl (as := [.ref 2, .int a0]) (rest := []) rfl (L0 := [some (.ref 2), some (.int a0)]) rfl (t_X5_append_2 hq3) ?_
      refine o_if_eq k82_23 (fun hc4 => ?_) (fun hc4 => ?_)
      · rw [if_pos hc4] at h
        refine o_bipush (v := (-3)) k82_39 (by decide) ?_
        have h9 := Option.some.inj h
        subst h9
        exact o_iret pj_82 k82_41 rfl nr_i
      · rw [if_neg hc4] at h
        refine o_aload_n k82_26 rfl ?_
        refine o_gf k82_27 (gf_0_0 _) ?_
        refine o_gf k82_30 (gf_1_0 _) ?_
        refine o_gf k82_33 (gf_2_1 _) ?_
        refine o_goto k82_36 ?_
        have h9 := Option.some.inj h
        subst h9
        exact o_iret pj_82 k82_41 rfl nr_i
    · rw [if_neg hc2] at h
      refine o_iconst (v := (-1)) k82_10 (by decide) ?_
      have h9 := Option.some.inj h
      subst h9
      exact o_iret pj_82 k82_11 rfl nr_i
def f_X8_in (a0 : Int64) (a1 : Int64) (a2 : Int64) : Int32 := (if (lg_cmp a0 a1) < 0 then 0 else (if 0 < (lg_cmp a0 a2) then 0 else 1))
set_option maxRecDepth 20000 in
theorem t_X8_in {LN : Nat} {xs : Nat → Int32} {a0 : Int64} {a1 : Int64} {a2 : Int64} {M : am_M} {t : Int32} (h : f_X8_in a0 a1 a2 = t) : oo LN xs 0 0 125 0 [some (.long a0), none, some (.long a1), none, some (.long a2), none] [] M (some (.int t), M) := by
  unfold f_X8_in at h
  refine o_lload_n k125_0 rfl ?_
  refine o_lload_n k125_1 rfl ?_
  refine o_lcmp k125_2 ?_
  refine o_if_lt k125_3 (fun hc1 => ?_) (fun hc1 => ?_)
  · rw [if_pos hc1] at h
    refine o_iconst (v := 0) k125_17 (by decide) ?_
    subst h
    exact o_iret pj_125 k125_18 rfl (nr_z (by decide))
  · rw [if_neg hc1] at h
    refine o_lload_n k125_6 rfl ?_
    refine o_lload k125_7 rfl ?_
    refine o_lcmp k125_9 ?_
    refine o_if_gt k125_10 (fun hc2 => ?_) (fun hc2 => ?_)
    · rw [if_pos hc2] at h
      refine o_iconst (v := 0) k125_17 (by decide) ?_
      subst h
      exact o_iret pj_125 k125_18 rfl (nr_z (by decide))
    · rw [if_neg hc2] at h
      refine o_iconst (v := 1) k125_13 (by decide) ?_
      refine o_goto k125_14 ?_
      subst h
      exact o_iret pj_125 k125_18 rfl (nr_z (by decide))
def f_X8_feed_43 (a0 : Int32) (M : am_M) : Option (Int32 × am_M) := (if (f_X8_in a0.toInt64 0 127) = 0 then (some ((-1), M)) else (if (M 43 12) = 160 then (some ((-3), M)) else (if am_dbin (M 43 12) 160 = true then (bl (am_up M 48 (M 43 12).toNatClampNeg a0) (fun (M4 : am_M) => (bl (am_up M4 43 12 ((M4 43 12) + 1)) (fun (M5 : am_M) => (some ((M5 43 12), M5)))))) else none)))
set_option maxRecDepth 20000 in
theorem t_X8_feed_43 {LN : Nat} {xs : Nat → Int32} {a0 : Int32} {M : am_M} {t : Int32 × am_M} (h : f_X8_feed_43 a0 M = some t) : oo LN xs 0 0 132 0 [some (.ref 43), some (.int a0)] [] M (some (.int t.1), t.2) := by
  unfold f_X8_feed_43 at h
  refine o_iload_n k132_0 rfl ?_
  refine o_i2l k132_1 ?_
  refine o_lconst (v := 0) k132_2 (by decide) ?_
  refine o_ldc2_w k132_3 ?_
  refine o_call k132_6 pj_125 (fun _ => rfl) (by decide) rfl (as := [.long a0.toInt64, .long 0, .long 127]) (rest := []) rfl (L0 := [some (.long a0.toInt64), none, some (.long 0), none, some (.long 127), none]) rfl (t_X8_in (M := M) (a0 := a0.toInt64) (a1 := 0) (a2 := 127) rfl) ?_
  refine o_if_ne k132_9 (fun hc1 => ?_) (fun hc1 => ?_)
  · rw [if_neg hc1] at h
    refine o_aload_n k132_14 rfl ?_
    refine o_gf k132_15 (gf_43_12 _) ?_
    refine o_sipush (v := 160) k132_18 (by decide) ?_
    refine o_icmp_ne k132_21 (fun hc2 => ?_) (fun hc2 => ?_)
    · rw [if_neg hc2] at h
      refine o_aload_n k132_27 rfl ?_
      refine o_gf k132_28 (gf_43_11 _) ?_
      refine o_aload_n k132_31 rfl ?_
      refine o_gf k132_32 (gf_43_12 _) ?_
      refine o_iload_n k132_35 rfl ?_
      obtain ⟨hc3, h⟩ := ck_i h
      refine bl_i h (fun M4 eM4 h => ?_)
      refine o_iast (M' := M4) k132_36 eM4 ia_48 hc3 ?_
      refine o_aload_n k132_37 rfl ?_
      refine o_dupr k132_38 ?_
      refine o_gf k132_39 (gf_43_12 _) ?_
      refine o_iconst (v := 1) k132_42 (by decide) ?_
      refine o_iadd k132_43 ?_
      refine bl_i h (fun M5 eM5 h => ?_)
      refine o_pf (M' := M5) k132_44 (pf_43_12 eM5) ?_
      refine o_aload_n k132_47 rfl ?_
      refine o_gf k132_48 (gf_43_12 _) ?_
      have h9 := Option.some.inj h
      subst h9
      exact o_iret pj_132 k132_51 rfl nr_i
    · rw [if_pos hc2] at h
      refine o_bipush (v := (-3)) k132_24 (by decide) ?_
      have h9 := Option.some.inj h
      subst h9
      exact o_iret pj_132 k132_26 rfl nr_i
  · rw [if_pos hc1] at h
    refine o_iconst (v := (-1)) k132_12 (by decide) ?_
    have h9 := Option.some.inj h
    subst h9
    exact o_iret pj_132 k132_13 rfl nr_i
def f_X7_end_0 (a0 : Int32) (M : am_M) : Option (Int32 × am_M) := (if a0 < 0 then (some ((-1), M)) else (if a0 ≤ (M 2 1) then (bl (am_up M 2 1 a0) (fun (M3 : am_M) => (some ((M 2 1), M3)))) else (some ((-1), M))))
set_option maxRecDepth 20000 in
theorem t_X7_end_0 {LN : Nat} {xs : Nat → Int32} {a0 : Int32} {M : am_M} {t : Int32 × am_M} (h : f_X7_end_0 a0 M = some t) : oo LN xs 0 0 83 0 [some (.ref 0), some (.int a0), none] [] M (some (.int t.1), t.2) := by
  unfold f_X7_end_0 at h
  refine o_aload_n k83_0 rfl ?_
  refine o_gf k83_1 (gf_0_0 _) ?_
  refine o_gf k83_4 (gf_1_0 _) ?_
  refine o_gf k83_7 (gf_2_1 _) ?_
  refine o_istore_n (v := (M 2 1)) (L' := [some (.ref 0), some (.int a0), some (.int (M 2 1))]) k83_10 rfl rfl ?_
  refine o_iload_n k83_11 rfl ?_
  refine o_if_lt k83_12 (fun hc1 => ?_) (fun hc1 => ?_)
  · rw [if_pos hc1] at h
    refine o_iconst (v := (-1)) k83_20 (by decide) ?_
    have h9 := Option.some.inj h
    subst h9
    exact o_iret pj_83 k83_21 rfl nr_i
  · rw [if_neg hc1] at h
    refine o_iload_n k83_15 rfl ?_
    refine o_iload_n k83_16 rfl ?_
    refine o_icmp_le k83_17 (fun hc2 => ?_) (fun hc2 => ?_)
    · rw [if_pos hc2] at h
      refine o_aload_n k83_22 rfl ?_
      refine o_gf k83_23 (gf_0_0 _) ?_
      refine o_gf k83_26 (gf_1_0 _) ?_
      refine o_iload_n k83_29 rfl ?_
      refine bl_i h (fun M3 eM3 h => ?_)
      refine o_pf (M' := M3) k83_30 (pf_2_1 eM3) ?_
      refine o_iload_n k83_33 rfl ?_
      have h9 := Option.some.inj h
      subst h9
      exact o_iret pj_83 k83_34 rfl nr_i
    · rw [if_neg hc2] at h
      refine o_iconst (v := (-1)) k83_20 (by decide) ?_
      have h9 := Option.some.inj h
      subst h9
      exact o_iret pj_83 k83_21 rfl nr_i
def f_X8_end_43 (a0 : Int32) (M : am_M) : Option (Int32 × am_M) := (if (f_X8_in a0.toInt64 0 ((M 43 12).toInt64)) = 0 then (some ((-1), M)) else (bl (am_up M 43 12 a0) (fun (M2 : am_M) => (some ((M 43 12), M2)))))
set_option maxRecDepth 20000 in
theorem t_X8_end_43 {LN : Nat} {xs : Nat → Int32} {a0 : Int32} {M : am_M} {t : Int32 × am_M} (h : f_X8_end_43 a0 M = some t) : oo LN xs 0 0 133 0 [some (.ref 43), some (.int a0), none] [] M (some (.int t.1), t.2) := by
  unfold f_X8_end_43 at h
  refine o_iload_n k133_0 rfl ?_
  refine o_i2l k133_1 ?_
  refine o_lconst (v := 0) k133_2 (by decide) ?_
  refine o_aload_n k133_3 rfl ?_
  refine o_gf k133_4 (gf_43_12 _) ?_
  refine o_i2l k133_7 ?_
  refine o_call k133_8 pj_125 (fun _ => rfl) (by decide) rfl (as := [.long a0.toInt64, .long 0, .long ((M 43 12).toInt64)]) (rest := []) rfl (L0 := [some (.long a0.toInt64), none, some (.long 0), none, some (.long ((M 43 12).toInt64)), none]) rfl (t_X8_in (M := M) (a0 := a0.toInt64) (a1 := 0) (a2 := ((M 43 12).toInt64)) rfl) ?_
  refine o_if_ne k133_11 (fun hc1 => ?_) (fun hc1 => ?_)
  · rw [if_neg hc1] at h
    refine o_aload_n k133_16 rfl ?_
    refine o_gf k133_17 (gf_43_12 _) ?_
    refine o_istore_n (v := (M 43 12)) (L' := [some (.ref 43), some (.int a0), some (.int (M 43 12))]) k133_20 rfl rfl ?_
    refine o_aload_n k133_21 rfl ?_
    refine o_iload_n k133_22 rfl ?_
    refine bl_i h (fun M2 eM2 h => ?_)
    refine o_pf (M' := M2) k133_23 (pf_43_12 eM2) ?_
    refine o_iload_n k133_26 rfl ?_
    have h9 := Option.some.inj h
    subst h9
    exact o_iret pj_133 k133_27 rfl nr_i
  · rw [if_pos hc1] at h
    refine o_iconst (v := (-1)) k133_14 (by decide) ?_
    have h9 := Option.some.inj h
    subst h9
    exact o_iret pj_133 k133_15 rfl nr_i
def f_J7_fill_53178_5 (a0 : Int32) (M : am_M) : Option am_M := ((lp (σ := Int32 × am_M) (ρ := Int32 × am_M) (fun (s1 : Int32 × am_M) => match s1 with | (x2, M3) => (if 64 ≤ x2 then (some (.inr (x2, M3))) else (if am_dbin x2 64 = true then (bl (am_up M3 5 x2.toNatClampNeg a0) (fun (M6 : am_M) => (some (.inl ((x2 + 1), M6))))) else none))) lp_F (0, M)).bind (fun (s7 : Int32 × am_M) => match s7 with | (x8, M9) => (some M9)))
set_option maxRecDepth 20000 in
theorem t_J7_fill_53178_5 {LN : Nat} {xs : Nat → Int32} {a0 : Int32} {M : am_M} {t : am_M} (h : f_J7_fill_53178_5 a0 M = some t) : oo LN xs 0 0 219 0 [some (.ref 5), some (.int a0), none, none] [] M (none, t) := by
  unfold f_J7_fill_53178_5 at h
  refine o_iconst (v := 0) k219_0 (by decide) ?_
  refine o_istore_n (v := 0) (L' := [some (.ref 5), some (.int a0), some (.int 0), none]) k219_1 rfl rfl ?_
  refine o_aload_n k219_2 rfl ?_
  refine o_alen (v := 64) k219_3 rfl (by decide) ?_
  refine o_istore_n (v := 64) (L' := [some (.ref 5), some (.int a0), some (.int 0), some (.int 64)]) k219_4 rfl rfl ?_
  refine bd_i h (fun s7 hs7 h => ?_)
  refine lp_o (fun (s1 : Int32 × am_M) => match s1 with | (x2, M3) => oo LN xs 0 0 219 5 [some (.ref 5), some (.int a0), some (.int x2), some (.int 64)] [] M3 (none, t)) (fun (s7 : Int32 × am_M) => match s7 with | (x8, M9) => oo LN xs 0 0 219 20 [some (.ref 5), some (.int a0), some (.int x8), some (.int 64)] [] M9 (none, t)) ?_ hs7 ?_
  · rintro ⟨x2, M3⟩ ws1 h hK
    dsimp only at h
    show oo LN xs 0 0 219 5 [some (.ref 5), some (.int a0), some (.int x2), some (.int 64)] [] M3 (none, t)
    refine o_iload_n k219_5 rfl ?_
    refine o_iload_n k219_6 rfl ?_
    refine o_icmp_ge k219_7 (fun hc4 => ?_) (fun hc4 => ?_)
    · rw [if_pos hc4] at h
      have h9 := Option.some.inj h
      subst h9
      exact hK
    · rw [if_neg hc4] at h
      refine o_aload_n k219_10 rfl ?_
      refine o_iload_n k219_11 rfl ?_
      refine o_iload_n k219_12 rfl ?_
      obtain ⟨hc5, h⟩ := ck_i h
      refine bl_i h (fun M6 eM6 h => ?_)
      refine o_iast (M' := M6) k219_13 eM6 ia_5 hc5 ?_
      refine o_iinc (k := 1) (L' := [some (.ref 5), some (.int a0), some (.int (x2 + 1)), some (.int 64)]) k219_14 rfl (by decide) rfl ?_
      refine o_goto k219_17 ?_
      have h9 := Option.some.inj h
      subst h9
      exact hK
  · obtain ⟨x8, M9⟩ := s7
    show oo LN xs 0 0 219 20 [some (.ref 5), some (.int a0), some (.int x8), some (.int 64)] [] M9 (none, t)
    dsimp only at h
    have h9 := Option.some.inj h
    subst h9
    exact o_vret pj_219 k219_20 rfl
def f_J7_fill_53178_6 (a0 : Int32) (M : am_M) : Option am_M := ((lp (σ := Int32 × am_M) (ρ := Int32 × am_M) (fun (s1 : Int32 × am_M) => match s1 with | (x2, M3) => (if 64 ≤ x2 then (some (.inr (x2, M3))) else (if am_dbin x2 64 = true then (bl (am_up M3 6 x2.toNatClampNeg a0) (fun (M6 : am_M) => (some (.inl ((x2 + 1), M6))))) else none))) lp_F (0, M)).bind (fun (s7 : Int32 × am_M) => match s7 with | (x8, M9) => (some M9)))
set_option maxRecDepth 20000 in
theorem t_J7_fill_53178_6 {LN : Nat} {xs : Nat → Int32} {a0 : Int32} {M : am_M} {t : am_M} (h : f_J7_fill_53178_6 a0 M = some t) : oo LN xs 0 0 219 0 [some (.ref 6), some (.int a0), none, none] [] M (none, t) := by
  unfold f_J7_fill_53178_6 at h
  refine o_iconst (v := 0) k219_0 (by decide) ?_
  refine o_istore_n (v := 0) (L' := [some (.ref 6), some (.int a0), some (.int 0), none]) k219_1 rfl rfl ?_
  refine o_aload_n k219_2 rfl ?_
  refine o_alen (v := 64) k219_3 rfl (by decide) ?_
  refine o_istore_n (v := 64) (L' := [some (.ref 6), some (.int a0), some (.int 0), some (.int 64)]) k219_4 rfl rfl ?_
  refine bd_i h (fun s7 hs7 h => ?_)
  refine lp_o (fun (s1 : Int32 × am_M) => match s1 with | (x2, M3) => oo LN xs 0 0 219 5 [some (.ref 6), some (.int a0), some (.int x2), some (.int 64)] [] M3 (none, t)) (fun (s7 : Int32 × am_M) => match s7 with | (x8, M9) => oo LN xs 0 0 219 20 [some (.ref 6), some (.int a0), some (.int x8), some (.int 64)] [] M9 (none, t)) ?_ hs7 ?_
  · rintro ⟨x2, M3⟩ ws1 h hK
    dsimp only at h
    show oo LN xs 0 0 219 5 [some (.ref 6), some (.int a0), some (.int x2), some (.int 64)] [] M3 (none, t)
    refine o_iload_n k219_5 rfl ?_
    refine o_iload_n k219_6 rfl ?_
    refine o_icmp_ge k219_7 (fun hc4 => ?_) (fun hc4 => ?_)
    · rw [if_pos hc4] at h
      have h9 := Option.some.inj h
      subst h9
      exact hK
    · rw [if_neg hc4] at h
      refine o_aload_n k219_10 rfl ?_
      refine o_iload_n k219_11 rfl ?_
      refine o_iload_n k219_12 rfl ?_
      obtain ⟨hc5, h⟩ := ck_i h
      refine bl_i h (fun M6 eM6 h => ?_)
      refine o_iast (M' := M6) k219_13 eM6 ia_6 hc5 ?_
      refine o_iinc (k := 1) (L' := [some (.ref 6), some (.int a0), some (.int (x2 + 1)), some (.int 64)]) k219_14 rfl (by decide) rfl ?_
      refine o_goto k219_17 ?_
      have h9 := Option.some.inj h
      subst h9
      exact hK
  · obtain ⟨x8, M9⟩ := s7
    show oo LN xs 0 0 219 20 [some (.ref 6), some (.int a0), some (.int x8), some (.int 64)] [] M9 (none, t)
    dsimp only at h
    have h9 := Option.some.inj h
    subst h9
    exact o_vret pj_219 k219_20 rfl
def f_J7_fill_53178_7 (a0 : Int32) (M : am_M) : Option am_M := ((lp (σ := Int32 × am_M) (ρ := Int32 × am_M) (fun (s1 : Int32 × am_M) => match s1 with | (x2, M3) => (if 8 ≤ x2 then (some (.inr (x2, M3))) else (if am_dbin x2 8 = true then (bl (am_up M3 7 x2.toNatClampNeg a0) (fun (M6 : am_M) => (some (.inl ((x2 + 1), M6))))) else none))) lp_F (0, M)).bind (fun (s7 : Int32 × am_M) => match s7 with | (x8, M9) => (some M9)))
set_option maxRecDepth 20000 in
theorem t_J7_fill_53178_7 {LN : Nat} {xs : Nat → Int32} {a0 : Int32} {M : am_M} {t : am_M} (h : f_J7_fill_53178_7 a0 M = some t) : oo LN xs 0 0 219 0 [some (.ref 7), some (.int a0), none, none] [] M (none, t) := by
  unfold f_J7_fill_53178_7 at h
  refine o_iconst (v := 0) k219_0 (by decide) ?_
  refine o_istore_n (v := 0) (L' := [some (.ref 7), some (.int a0), some (.int 0), none]) k219_1 rfl rfl ?_
  refine o_aload_n k219_2 rfl ?_
  refine o_alen (v := 8) k219_3 rfl (by decide) ?_
  refine o_istore_n (v := 8) (L' := [some (.ref 7), some (.int a0), some (.int 0), some (.int 8)]) k219_4 rfl rfl ?_
  refine bd_i h (fun s7 hs7 h => ?_)
  refine lp_o (fun (s1 : Int32 × am_M) => match s1 with | (x2, M3) => oo LN xs 0 0 219 5 [some (.ref 7), some (.int a0), some (.int x2), some (.int 8)] [] M3 (none, t)) (fun (s7 : Int32 × am_M) => match s7 with | (x8, M9) => oo LN xs 0 0 219 20 [some (.ref 7), some (.int a0), some (.int x8), some (.int 8)] [] M9 (none, t)) ?_ hs7 ?_
  · rintro ⟨x2, M3⟩ ws1 h hK
    dsimp only at h
    show oo LN xs 0 0 219 5 [some (.ref 7), some (.int a0), some (.int x2), some (.int 8)] [] M3 (none, t)
    refine o_iload_n k219_5 rfl ?_
    refine o_iload_n k219_6 rfl ?_
    refine o_icmp_ge k219_7 (fun hc4 => ?_) (fun hc4 => ?_)
    · rw [if_pos hc4] at h
      have h9 := Option.some.inj h
      subst h9
      exact hK
    · rw [if_neg hc4] at h
      refine o_aload_n k219_10 rfl ?_
      refine o_iload_n k219_11 rfl ?_
      refine o_iload_n k219_12 rfl ?_
      obtain ⟨hc5, h⟩ := ck_i h
      refine bl_i h (fun M6 eM6 h => ?_)
      refine o_iast (M' := M6) k219_13 eM6 ia_7 hc5 ?_
      refine o_iinc (k := 1) (L' := [some (.ref 7), some (.int a0), some (.int (x2 + 1)), some (.int 8)]) k219_14 rfl (by decide) rfl ?_
      refine o_goto k219_17 ?_
      have h9 := Option.some.inj h
      subst h9
      exact hK
  · obtain ⟨x8, M9⟩ := s7
    show oo LN xs 0 0 219 20 [some (.ref 7), some (.int a0), some (.int x8), some (.int 8)] [] M9 (none, t)
    dsimp only at h
    have h9 := Option.some.inj h
    subst h9
    exact o_vret pj_219 k219_20 rfl
def f_X0_forget_4 (M : am_M) : Option am_M := (bl (am_up M 4 0 0) (fun (M1 : am_M) => (bl (am_up M1 4 1 0) (fun (M2 : am_M) => (bl (am_up M2 4 2 0) (fun (M3 : am_M) => (bl (am_up M3 4 3 0) (fun (M4 : am_M) => (bl (am_up M4 4 4 4) (fun (M5 : am_M) => (bl (am_up M5 4 5 1) (fun (M6 : am_M) => (bl (am_up M6 4 6 1) (fun (M7 : am_M) => ((f_J7_fill_53178_5 2 M7).bind (fun q8 => ((f_J7_fill_53178_6 2 q8).bind (fun q9 => ((f_J7_fill_53178_7 0 q9).bind (fun q10 => (some q10)))))))))))))))))))))
set_option maxRecDepth 20000 in
theorem t_X0_forget_4 {LN : Nat} {xs : Nat → Int32} {M : am_M} {t : am_M} (h : f_X0_forget_4 M = some t) : oo LN xs 0 0 2 0 [some (.ref 4)] [] M (none, t) := by
  unfold f_X0_forget_4 at h
  refine o_aload_n k2_0 rfl ?_
  refine o_iconst (v := 0) k2_1 (by decide) ?_
  refine bl_i h (fun M1 eM1 h => ?_)
  refine o_pf (M' := M1) k2_2 (pf_4_0 eM1) ?_
  refine o_aload_n k2_5 rfl ?_
  refine o_iconst (v := 0) k2_6 (by decide) ?_
  refine bl_i h (fun M2 eM2 h => ?_)
  refine o_pf (M' := M2) k2_7 (pf_4_1 eM2) ?_
  refine o_aload_n k2_10 rfl ?_
  refine o_iconst (v := 0) k2_11 (by decide) ?_
  refine bl_i h (fun M3 eM3 h => ?_)
  refine o_pf (M' := M3) k2_12 (pf_4_2 eM3) ?_
  refine o_aload_n k2_15 rfl ?_
  refine o_iconst (v := 0) k2_16 (by decide) ?_
  refine bl_i h (fun M4 eM4 h => ?_)
  refine o_pf (M' := M4) k2_17 (pf_4_3 eM4) ?_
  refine o_aload_n k2_20 rfl ?_
  refine o_iconst (v := 4) k2_21 (by decide) ?_
  refine bl_i h (fun M5 eM5 h => ?_)
  refine o_pf (M' := M5) k2_22 (pf_4_4 eM5) ?_
  refine o_aload_n k2_25 rfl ?_
  refine o_iconst (v := 1) k2_26 (by decide) ?_
  refine bl_i h (fun M6 eM6 h => ?_)
  refine o_pf (M' := M6) k2_27 (pf_4_5 eM6) ?_
  refine o_aload_n k2_30 rfl ?_
  refine o_iconst (v := 1) k2_31 (by decide) ?_
  refine bl_i h (fun M7 eM7 h => ?_)
  refine o_pf (M' := M7) k2_32 (pf_4_6 eM7) ?_
  refine o_aload_n k2_35 rfl ?_
  refine o_gf k2_36 (gf_4_7 _) ?_
  refine o_iconst (v := 2) k2_39 (by decide) ?_
  refine bd_i h (fun q8 hq8 h => ?_)
  refine o_call k2_40 pj_219 (fun _ => rfl) (by decide) rfl (as := [.ref 5, .int 2]) (rest := []) rfl (L0 := [some (.ref 5), some (.int 2), none, none]) rfl (t_J7_fill_53178_5 hq8) ?_
  refine o_aload_n k2_43 rfl ?_
  refine o_gf k2_44 (gf_4_8 _) ?_
  refine o_iconst (v := 2) k2_47 (by decide) ?_
  refine bd_i h (fun q9 hq9 h => ?_)
  refine o_call k2_48 pj_219 (fun _ => rfl) (by decide) rfl (as := [.ref 6, .int 2]) (rest := []) rfl (L0 := [some (.ref 6), some (.int 2), none, none]) rfl (t_J7_fill_53178_6 hq9) ?_
  refine o_aload_n k2_51 rfl ?_
  refine o_gf k2_52 (gf_4_9 _) ?_
  refine o_iconst (v := 0) k2_55 (by decide) ?_
  refine bd_i h (fun q10 hq10 h => ?_)
  refine o_call k2_56 pj_219 (fun _ => rfl) (by decide) rfl (as := [.ref 7, .int 0]) (rest := []) rfl (L0 := [some (.ref 7), some (.int 0), none, none]) rfl (t_J7_fill_53178_7 hq10) ?_
  have h9 := Option.some.inj h
  subst h9
  exact o_vret pj_2 k2_59 rfl
def f_X5_isLetter_2 (a0 : Int32) (M : am_M) : Option Int32 := (if am_dbin a0 160 = true then (if (M 3 a0.toNatClampNeg) < 97 then (some 0) else (if am_dbin a0 160 = true then (if 122 < (M 3 a0.toNatClampNeg) then (some 0) else (some 1)) else none)) else none)
set_option maxRecDepth 20000 in
theorem t_X5_isLetter_2 {LN : Nat} {xs : Nat → Int32} {a0 : Int32} {M : am_M} {t : Int32} (h : f_X5_isLetter_2 a0 M = some t) : oo LN xs 0 0 60 0 [some (.ref 2), some (.int a0)] [] M (some (.int t), M) := by
  unfold f_X5_isLetter_2 at h
  refine o_aload_n k60_0 rfl ?_
  refine o_gf k60_1 (gf_2_0 _) ?_
  refine o_iload_n k60_4 rfl ?_
  obtain ⟨hc1, h⟩ := ck_i h
  refine o_bald k60_5 ba_3 hc1 ?_
  refine o_bipush (v := 97) k60_6 (by decide) ?_
  refine o_icmp_lt k60_8 (fun hc2 => ?_) (fun hc2 => ?_)
  · rw [if_pos hc2] at h
    refine o_iconst (v := 0) k60_26 (by decide) ?_
    have h9 := Option.some.inj h
    subst h9
    exact o_iret pj_60 k60_27 rfl (nr_z (by decide))
  · rw [if_neg hc2] at h
    refine o_aload_n k60_11 rfl ?_
    refine o_gf k60_12 (gf_2_0 _) ?_
    refine o_iload_n k60_15 rfl ?_
    obtain ⟨hc3, h⟩ := ck_i h
    refine o_bald k60_16 ba_3 hc3 ?_
    refine o_bipush (v := 122) k60_17 (by decide) ?_
    refine o_icmp_gt k60_19 (fun hc4 => ?_) (fun hc4 => ?_)
    · rw [if_pos hc4] at h
      refine o_iconst (v := 0) k60_26 (by decide) ?_
      have h9 := Option.some.inj h
      subst h9
      exact o_iret pj_60 k60_27 rfl (nr_z (by decide))
    · rw [if_neg hc4] at h
      refine o_iconst (v := 1) k60_22 (by decide) ?_
      refine o_goto k60_23 ?_
      have h9 := Option.some.inj h
      subst h9
      exact o_iret pj_60 k60_27 rfl (nr_z (by decide))
def f_X5_isFigure_2 (a0 : Int32) (M : am_M) : Option Int32 := (if am_dbin a0 160 = true then (if (M 3 a0.toNatClampNeg) < 48 then (some 0) else (if am_dbin a0 160 = true then (if 57 < (M 3 a0.toNatClampNeg) then (some 0) else (some 1)) else none)) else none)
set_option maxRecDepth 20000 in
theorem t_X5_isFigure_2 {LN : Nat} {xs : Nat → Int32} {a0 : Int32} {M : am_M} {t : Int32} (h : f_X5_isFigure_2 a0 M = some t) : oo LN xs 0 0 61 0 [some (.ref 2), some (.int a0)] [] M (some (.int t), M) := by
  unfold f_X5_isFigure_2 at h
  refine o_aload_n k61_0 rfl ?_
  refine o_gf k61_1 (gf_2_0 _) ?_
  refine o_iload_n k61_4 rfl ?_
  obtain ⟨hc1, h⟩ := ck_i h
  refine o_bald k61_5 ba_3 hc1 ?_
  refine o_bipush (v := 48) k61_6 (by decide) ?_
  refine o_icmp_lt k61_8 (fun hc2 => ?_) (fun hc2 => ?_)
  · rw [if_pos hc2] at h
    refine o_iconst (v := 0) k61_26 (by decide) ?_
    have h9 := Option.some.inj h
    subst h9
    exact o_iret pj_61 k61_27 rfl (nr_z (by decide))
  · rw [if_neg hc2] at h
    refine o_aload_n k61_11 rfl ?_
    refine o_gf k61_12 (gf_2_0 _) ?_
    refine o_iload_n k61_15 rfl ?_
    obtain ⟨hc3, h⟩ := ck_i h
    refine o_bald k61_16 ba_3 hc3 ?_
    refine o_bipush (v := 57) k61_17 (by decide) ?_
    refine o_icmp_gt k61_19 (fun hc4 => ?_) (fun hc4 => ?_)
    · rw [if_pos hc4] at h
      refine o_iconst (v := 0) k61_26 (by decide) ?_
      have h9 := Option.some.inj h
      subst h9
      exact o_iret pj_61 k61_27 rfl (nr_z (by decide))
    · rw [if_neg hc4] at h
      refine o_iconst (v := 1) k61_22 (by decide) ?_
      refine o_goto k61_23 ?_
      have h9 := Option.some.inj h
      subst h9
      exact o_iret pj_61 k61_27 rfl (nr_z (by decide))
def f_X5_takeNumber_2 (M : am_M) : Option am_M := (bl (am_up M 2 5 0) (fun (M1 : am_M) => ((lp (σ := am_M) (ρ := am_M) (fun M3 => (if (M3 2 1) ≤ (M3 2 2) then (some (.inr M3)) else ((f_X5_isFigure_2 (M3 2 2) M3).bind (fun v5 => (if v5 = 0 then (some (.inr M3)) else (bl (fun (M10 : am_M) => ((bl (am_up M10 2 2 ((M10 2 2) + 1)) (fun (M11 : am_M) => (some (.inl M11)))) : Option ((am_M) ⊕ (am_M)))) (fun (j12 : am_M → Option ((am_M) ⊕ (am_M))) => (if 4 ≤ ((M3 2 2) - (M3 2 4)) then (j12 M3) else (if am_dbin (M3 2 2) 160 = true then (bl (am_up M3 2 5 ((((10 : Int32) * (M3 2 5)) + (M3 3 (M3 2 2).toNatClampNeg)) - 48)) (fun (M9 : am_M) => (j12 M9))) else none))))))))) lp_F M1).bind (fun M14 => (if ((M14 2 2) - (M14 2 4)) ≤ 4 then (bl (am_up M14 2 3 2) (fun (M16 : am_M) => (some M16))) else (bl (am_up M14 2 3 0) (fun (M17 : am_M) => (some M17))))))))
set_option maxRecDepth 20000 in
theorem t_X5_takeNumber_2 {LN : Nat} {xs : Nat → Int32} {M : am_M} {t : am_M} (h : f_X5_takeNumber_2 M = some t) : oo LN xs 0 0 63 0 [some (.ref 2)] [] M (none, t) := by
  unfold f_X5_takeNumber_2 at h
  refine o_aload_n k63_0 rfl ?_
  refine o_iconst (v := 0) k63_1 (by decide) ?_
  refine bl_i h (fun M1 eM1 h => ?_)
  refine o_pf (M' := M1) k63_2 (pf_2_5 eM1) ?_
  refine bd_i h (fun s13 hs13 h => ?_)
  refine lp_o (fun M3 => oo LN xs 0 0 63 5 [some (.ref 2)] [] M3 (none, t)) (fun M14 => oo LN xs 0 0 63 77 [some (.ref 2)] [] M14 (none, t)) ?_ hs13 ?_
  · rintro M3 ws2 h hK
    show oo LN xs 0 0 63 5 [some (.ref 2)] [] M3 (none, t)
    refine o_aload_n k63_5 rfl ?_
    refine o_gf k63_6 (gf_2_2 _) ?_
    refine o_aload_n k63_9 rfl ?_
    refine o_gf k63_10 (gf_2_1 _) ?_
    refine o_icmp_ge k63_13 (fun hc4 => ?_) (fun hc4 => ?_)
    · rw [if_pos hc4] at h
      have h9 := Option.some.inj h
      subst h9
      exact hK
    · rw [if_neg hc4] at h
      refine o_aload_n k63_16 rfl ?_
      refine o_aload_n k63_17 rfl ?_
      refine o_gf k63_18 (gf_2_2 _) ?_
      refine bd_i h (fun v5 hv5 h => ?_)
      refine o_call k63_21 pj_61 (fun _ => rfl) (by decide) rfl (as := [.ref 2, .int (M3 2 2)]) (rest := []) rfl (L0 := [some (.ref 2), some (.int (M3 2 2))]) rfl (t_X5_isFigure_2 hv5) ?_
      refine o_if_eq k63_24 (fun hc6 => ?_) (fun hc6 => ?_)
      · rw [if_pos hc6] at h
        have h9 := Option.some.inj h
        subst h9
        exact hK
      · rw [if_neg hc6] at h
        refine o_aload_n k63_27 rfl ?_
        refine o_gf k63_28 (gf_2_2 _) ?_
        refine o_aload_n k63_31 rfl ?_
        refine o_gf k63_32 (gf_2_4 _) ?_
        refine o_isub k63_35 ?_
        refine o_iconst (v := 4) k63_36 (by decide) ?_
        refine bl_i h (fun j12 ej12 h => ?_)
        have hJ64 : ∀ (M10 : am_M), j12 M10 = some ws2 → oo LN xs 0 0 63 64 [some (.ref 2)] [] M10 (none, t) := by
          intro M10 h
          rw [ej12] at h
          dsimp only at h
          refine o_aload_n k63_64 rfl ?_
          refine o_dupr k63_65 ?_
          refine o_gf k63_66 (gf_2_2 _) ?_
          refine o_iconst (v := 1) k63_69 (by decide) ?_
          refine o_iadd k63_70 ?_
          refine bl_i h (fun M11 eM11 h => ?_)
          refine o_pf (M' := M11) k63_71 (pf_2_2 eM11) ?_
          refine o_goto k63_74 ?_
          have h9 := Option.some.inj h
          subst h9
          exact hK
        refine o_icmp_ge k63_37 (fun hc7 => ?_) (fun hc7 => ?_)
        · rw [if_pos hc7] at h
          exact hJ64 _ h
        · rw [if_neg hc7] at h
          refine o_aload_n k63_40 rfl ?_
          refine o_bipush (v := 10) k63_41 (by decide) ?_
          refine o_aload_n k63_43 rfl ?_
          refine o_gf k63_44 (gf_2_5 _) ?_
          refine o_imul k63_47 ?_
          refine o_aload_n k63_48 rfl ?_
          refine o_gf k63_49 (gf_2_0 _) ?_
          refine o_aload_n k63_52 rfl ?_
          refine o_gf k63_53 (gf_2_2 _) ?_
          obtain ⟨hc8, h⟩ := ck_i h
          refine o_bald k63_56 ba_3 hc8 ?_
          refine o_iadd k63_57 ?_
          refine o_bipush (v := 48) k63_58 (by decide) ?_
          refine o_isub k63_60 ?_
          refine bl_i h (fun M9 eM9 h => ?_)
          refine o_pf (M' := M9) k63_61 (pf_2_5 eM9) ?_
          exact hJ64 _ h
  · obtain ⟨M14, rfl⟩ : ∃ z, z = s13 := ⟨_, rfl⟩
    show oo LN xs 0 0 63 77 [some (.ref 2)] [] M14 (none, t)
    refine o_aload_n k63_77 rfl ?_
    refine o_aload_n k63_78 rfl ?_
    refine o_gf k63_79 (gf_2_2 _) ?_
    refine o_aload_n k63_82 rfl ?_
    refine o_gf k63_83 (gf_2_4 _) ?_
    refine o_isub k63_86 ?_
    refine o_iconst (v := 4) k63_87 (by decide) ?_
    refine o_icmp_le k63_88 (fun hc15 => ?_) (fun hc15 => ?_)
    · rw [if_pos hc15] at h
      refine o_iconst (v := 2) k63_95 (by decide) ?_
      refine bl_i h (fun M16 eM16 h => ?_)
      refine o_pf (M' := M16) k63_96 (pf_2_3 eM16) ?_
      have h9 := Option.some.inj h
      subst h9
      exact o_vret pj_63 k63_99 rfl
    · rw [if_neg hc15] at h
      refine o_iconst (v := 0) k63_91 (by decide) ?_
      refine o_goto k63_92 ?_
      refine bl_i h (fun M17 eM17 h => ?_)
      refine o_pf (M' := M17) k63_96 (pf_2_3 eM17) ?_
      have h9 := Option.some.inj h
      subst h9
      exact o_vret pj_63 k63_99 rfl
def f_X5_takeName_2 (M : am_M) : Option am_M := (bl (am_up M 2 3 1) (fun (M1 : am_M) => ((lp (σ := am_M) (ρ := am_M) (fun M3 => (if (M3 2 1) ≤ (M3 2 2) then (some (.inr M3)) else ((f_X5_isLetter_2 (M3 2 2) M3).bind (fun v5 => (if v5 = 0 then (some (.inr M3)) else (bl (am_up M3 2 2 ((M3 2 2) + 1)) (fun (M7 : am_M) => (some (.inl M7))))))))) lp_F M1).bind (fun M9 => (some M9)))))
set_option maxRecDepth 20000 in
theorem t_X5_takeName_2 {LN : Nat} {xs : Nat → Int32} {M : am_M} {t : am_M} (h : f_X5_takeName_2 M = some t) : oo LN xs 0 0 62 0 [some (.ref 2)] [] M (none, t) := by
  unfold f_X5_takeName_2 at h
  refine o_aload_n k62_0 rfl ?_
  refine o_iconst (v := 1) k62_1 (by decide) ?_
  refine bl_i h (fun M1 eM1 h => ?_)
  refine o_pf (M' := M1) k62_2 (pf_2_3 eM1) ?_
  refine bd_i h (fun s8 hs8 h => ?_)
  refine lp_o (fun M3 => oo LN xs 0 0 62 5 [some (.ref 2)] [] M3 (none, t)) (fun M9 => oo LN xs 0 0 62 40 [some (.ref 2)] [] M9 (none, t)) ?_ hs8 ?_
  · rintro M3 ws2 h hK
    show oo LN xs 0 0 62 5 [some (.ref 2)] [] M3 (none, t)
    refine o_aload_n k62_5 rfl ?_
    refine o_gf k62_6 (gf_2_2 _) ?_
    refine o_aload_n k62_9 rfl ?_
    refine o_gf k62_10 (gf_2_1 _) ?_
    refine o_icmp_ge k62_13 (fun hc4 => ?_) (fun hc4 => ?_)
    · rw [if_pos hc4] at h
      have h9 := Option.some.inj h
      subst h9
      exact hK
    · rw [if_neg hc4] at h
      refine o_aload_n k62_16 rfl ?_
      refine o_aload_n k62_17 rfl ?_
      refine o_gf k62_18 (gf_2_2 _) ?_
      refine bd_i h (fun v5 hv5 h => ?_)
      refine o_call k62_21 pj_60 (fun _ => rfl) (by decide) rfl (as := [.ref 2, .int (M3 2 2)]) (rest := []) rfl (L0 := [some (.ref 2), some (.int (M3 2 2))]) rfl (t_X5_isLetter_2 hv5) ?_
      refine o_if_eq k62_24 (fun hc6 => ?_) (fun hc6 => ?_)
      · rw [if_pos hc6] at h
        have h9 := Option.some.inj h
        subst h9
        exact hK
      · rw [if_neg hc6] at h
        refine o_aload_n k62_27 rfl ?_
        refine o_dupr k62_28 ?_
        refine o_gf k62_29 (gf_2_2 _) ?_
        refine o_iconst (v := 1) k62_32 (by decide) ?_
        refine o_iadd k62_33 ?_
        refine bl_i h (fun M7 eM7 h => ?_)
        refine o_pf (M' := M7) k62_34 (pf_2_2 eM7) ?_
        refine o_goto k62_37 ?_
        have h9 := Option.some.inj h
        subst h9
        exact hK
  · obtain ⟨M9, rfl⟩ : ∃ z, z = s8 := ⟨_, rfl⟩
    show oo LN xs 0 0 62 40 [some (.ref 2)] [] M9 (none, t)
    have h9 := Option.some.inj h
    subst h9
    exact o_vret pj_62 k62_40 rfl
def f_X5_advance_2 (M : am_M) : Option am_M := (bl (am_up M 2 4 (M 2 2)) (fun (M1 : am_M) => ((lp (σ := am_M) (ρ := am_M) (fun M3 => (if (M3 2 1) ≤ (M3 2 4) then (some (.inr M3)) else (if am_dbin (M3 2 4) 160 = true then (if (M3 3 (M3 2 4).toNatClampNeg) = 32 then (bl (am_up M3 2 4 ((M3 2 4) + 1)) (fun (M7 : am_M) => (some (.inl M7)))) else (some (.inr M3))) else none))) lp_F M1).bind (fun M9 => (bl (am_up M9 2 2 (M9 2 4)) (fun (M10 : am_M) => (if (M10 2 4) < (M10 2 1) then ((f_X5_isLetter_2 (M10 2 4) M10).bind (fun v12 => (if v12 = 0 then ((f_X5_isFigure_2 (M10 2 4) M10).bind (fun v14 => (if v14 = 0 then (if am_dbin (M10 2 4) 160 = true then (if (M10 3 (M10 2 4).toNatClampNeg) = 59 then (bl (am_up M10 2 3 3) (fun (M20 : am_M) => (bl (am_up M20 2 2 ((M20 2 4) + 1)) (fun (M21 : am_M) => (some M21))))) else (bl (am_up M10 2 3 0) (fun (M18 : am_M) => (bl (am_up M18 2 2 ((M18 2 4) + 1)) (fun (M19 : am_M) => (some M19)))))) else none) else ((f_X5_takeNumber_2 M10).bind (fun q22 => (some q22)))))) else ((f_X5_takeName_2 M10).bind (fun q23 => (some q23)))))) else (bl (am_up M10 2 3 4) (fun (M24 : am_M) => (some M24))))))))))
set_option maxRecDepth 20000 in
theorem t_X5_advance_2 {LN : Nat} {xs : Nat → Int32} {M : am_M} {t : am_M} (h : f_X5_advance_2 M = some t) : oo LN xs 0 0 59 0 [some (.ref 2)] [] M (none, t) := by
  unfold f_X5_advance_2 at h
  refine o_aload_n k59_0 rfl ?_
  refine o_aload_n k59_1 rfl ?_
  refine o_gf k59_2 (gf_2_2 _) ?_
  refine bl_i h (fun M1 eM1 h => ?_)
  refine o_pf (M' := M1) k59_5 (pf_2_4 eM1) ?_
  refine bd_i h (fun s8 hs8 h => ?_)
  refine lp_o (fun M3 => oo LN xs 0 0 59 8 [some (.ref 2)] [] M3 (none, t)) (fun M9 => oo LN xs 0 0 59 46 [some (.ref 2)] [] M9 (none, t)) ?_ hs8 ?_
  · rintro M3 ws2 h hK
    show oo LN xs 0 0 59 8 [some (.ref 2)] [] M3 (none, t)
    refine o_aload_n k59_8 rfl ?_
    refine o_gf k59_9 (gf_2_4 _) ?_
    refine o_aload_n k59_12 rfl ?_
    refine o_gf k59_13 (gf_2_1 _) ?_
    refine o_icmp_ge k59_16 (fun hc4 => ?_) (fun hc4 => ?_)
    · rw [if_pos hc4] at h
      have h9 := Option.some.inj h
      subst h9
      exact hK
    · rw [if_neg hc4] at h
      refine o_aload_n k59_19 rfl ?_
      refine o_gf k59_20 (gf_2_0 _) ?_
      refine o_aload_n k59_23 rfl ?_
      refine o_gf k59_24 (gf_2_4 _) ?_
      obtain ⟨hc5, h⟩ := ck_i h
      refine o_bald k59_27 ba_3 hc5 ?_
      refine o_bipush (v := 32) k59_28 (by decide) ?_
      refine o_icmp_ne k59_30 (fun hc6 => ?_) (fun hc6 => ?_)
      · rw [if_neg hc6] at h
        have h9 := Option.some.inj h
        subst h9
        exact hK
      · rw [if_pos hc6] at h
        refine o_aload_n k59_33 rfl ?_
        refine o_dupr k59_34 ?_
        refine o_gf k59_35 (gf_2_4 _) ?_
        refine o_iconst (v := 1) k59_38 (by decide) ?_
        refine o_iadd k59_39 ?_
        refine bl_i h (fun M7 eM7 h => ?_)
        refine o_pf (M' := M7) k59_40 (pf_2_4 eM7) ?_
        refine o_goto k59_43 ?_
        have h9 := Option.some.inj h
        subst h9
        exact hK
  · obtain ⟨M9, rfl⟩ : ∃ z, z = s8 := ⟨_, rfl⟩
    show oo LN xs 0 0 59 46 [some (.ref 2)] [] M9 (none, t)
    refine o_aload_n k59_46 rfl ?_
    refine o_aload_n k59_47 rfl ?_
    refine o_gf k59_48 (gf_2_4 _) ?_
    refine bl_i h (fun M10 eM10 h => ?_)
    refine o_pf (M' := M10) k59_51 (pf_2_2 eM10) ?_
    refine o_aload_n k59_54 rfl ?_
    refine o_gf k59_55 (gf_2_4 _) ?_
    refine o_aload_n k59_58 rfl ?_
    refine o_gf k59_59 (gf_2_1 _) ?_
    refine o_icmp_lt k59_62 (fun hc11 => ?_) (fun hc11 => ?_)
    · rw [if_pos hc11] at h
      refine o_aload_n k59_73 rfl ?_
      refine o_aload_n k59_74 rfl ?_
      refine o_gf k59_75 (gf_2_4 _) ?_
      refine bd_i h (fun v12 hv12 h => ?_)
      refine o_call k59_78 pj_60 (fun _ => rfl) (by decide) rfl (as := [.ref 2, .int (M10 2 4)]) (rest := []) rfl (L0 := [some (.ref 2), some (.int (M10 2 4))]) rfl (t_X5_isLetter_2 hv12) ?_
      refine o_if_eq k59_81 (fun hc13 => ?_) (fun hc13 => ?_)
      · rw [if_pos hc13] at h
        refine o_aload_n k59_91 rfl ?_
        refine o_aload_n k59_92 rfl ?_
        refine o_gf k59_93 (gf_2_4 _) ?_
        refine bd_i h (fun v14 hv14 h => ?_)
        refine o_call k59_96 pj_61 (fun _ => rfl) (by decide) rfl (as := [.ref 2, .int (M10 2 4)]) (rest := []) rfl (L0 := [some (.ref 2), some (.int (M10 2 4))]) rfl (t_X5_isFigure_2 hv14) ?_
        refine o_if_eq k59_99 (fun hc15 => ?_) (fun hc15 => ?_)
        · rw [if_pos hc15] at h
          refine o_aload_n k59_109 rfl ?_
          refine o_aload_n k59_110 rfl ?_
          refine o_gf k59_111 (gf_2_0 _) ?_
          refine o_aload_n k59_114 rfl ?_
          refine o_gf k59_115 (gf_2_4 _) ?_
          obtain ⟨hc16, h⟩ := ck_i h
          refine o_bald k59_118 ba_3 hc16 ?_
          refine o_bipush (v := 59) k59_119 (by decide) ?_
          refine o_icmp_ne k59_121 (fun hc17 => ?_) (fun hc17 => ?_)
          · rw [if_neg hc17] at h
            refine o_iconst (v := 0) k59_128 (by decide) ?_
            refine bl_i h (fun M18 eM18 h => ?_)
            refine o_pf (M' := M18) k59_129 (pf_2_3 eM18) ?_
            refine o_aload_n k59_132 rfl ?_
            refine o_aload_n k59_133 rfl ?_
            refine o_gf k59_134 (gf_2_4 _) ?_
            refine o_iconst (v := 1) k59_137 (by decide) ?_
            refine o_iadd k59_138 ?_
            refine bl_i h (fun M19 eM19 h => ?_)
            refine o_pf (M' := M19) k59_139 (pf_2_2 eM19) ?_
            have h9 := Option.some.inj h
            subst h9
            exact o_vret pj_59 k59_142 rfl
          · rw [if_pos hc17] at h
            refine o_iconst (v := 3) k59_124 (by decide) ?_
            refine o_goto k59_125 ?_
            refine bl_i h (fun M20 eM20 h => ?_)
            refine o_pf (M' := M20) k59_129 (pf_2_3 eM20) ?_
            refine o_aload_n k59_132 rfl ?_
            refine o_aload_n k59_133 rfl ?_
            refine o_gf k59_134 (gf_2_4 _) ?_
            refine o_iconst (v := 1) k59_137 (by decide) ?_
            refine o_iadd k59_138 ?_
            refine bl_i h (fun M21 eM21 h => ?_)
            refine o_pf (M' := M21) k59_139 (pf_2_2 eM21) ?_
            have h9 := Option.some.inj h
            subst h9
            exact o_vret pj_59 k59_142 rfl
        · rw [if_neg hc15] at h
          refine o_aload_n k59_102 rfl ?_
          refine bd_i h (fun q22 hq22 h => ?_)
          refine o_call k59_103 pj_63 (fun _ => rfl) (by decide) rfl (as := [.ref 2]) (rest := []) rfl (L0 := [some (.ref 2)]) rfl (t_X5_takeNumber_2 hq22) ?_
          refine o_goto k59_106 ?_
          have h9 := Option.some.inj h
          subst h9
          exact o_vret pj_59 k59_142 rfl
      · rw [if_neg hc13] at h
        refine o_aload_n k59_84 rfl ?_
        refine bd_i h (fun q23 hq23 h => ?_)
        refine o_call k59_85 pj_62 (fun _ => rfl) (by decide) rfl (as := [.ref 2]) (rest := []) rfl (L0 := [some (.ref 2)]) rfl (t_X5_takeName_2 hq23) ?_
        refine o_goto k59_88 ?_
        have h9 := Option.some.inj h
        subst h9
        exact o_vret pj_59 k59_142 rfl
    · rw [if_neg hc11] at h
      refine o_aload_n k59_65 rfl ?_
      refine o_iconst (v := 4) k59_66 (by decide) ?_
      refine bl_i h (fun M24 eM24 h => ?_)
      refine o_pf (M' := M24) k59_67 (pf_2_3 eM24) ?_
      refine o_goto k59_70 ?_
      have h9 := Option.some.inj h
      subst h9
      exact o_vret pj_59 k59_142 rfl
def f_X5_begin_2 (M : am_M) : Option am_M := (bl (am_up M 2 2 0) (fun (M1 : am_M) => ((f_X5_advance_2 M1).bind (fun q2 => (some q2)))))
set_option maxRecDepth 20000 in
theorem t_X5_begin_2 {LN : Nat} {xs : Nat → Int32} {M : am_M} {t : am_M} (h : f_X5_begin_2 M = some t) : oo LN xs 0 0 58 0 [some (.ref 2)] [] M (none, t) := by
  unfold f_X5_begin_2 at h
  refine o_aload_n k58_0 rfl ?_
  refine o_iconst (v := 0) k58_1 (by decide) ?_
  refine bl_i h (fun M1 eM1 h => ?_)
  refine o_pf (M' := M1) k58_2 (pf_2_2 eM1) ?_
  refine o_aload_n k58_5 rfl ?_
  refine bd_i h (fun q2 hq2 h => ?_)
  refine o_call k58_6 pj_59 (fun _ => rfl) (by decide) rfl (as := [.ref 2]) (rest := []) rfl (L0 := [some (.ref 2)]) rfl (t_X5_advance_2 hq2) ?_
  have h9 := Option.some.inj h
  subst h9
  exact o_vret pj_58 k58_9 rfl
def f_J0_coder_7d493_1001 : Option Int32 := (some 0)
set_option maxRecDepth 20000 in
theorem t_J0_coder_7d493_1001 {LN : Nat} {xs : Nat → Int32} {M : am_M} {t : Int32} (h : f_J0_coder_7d493_1001 = some t) : oo LN xs 0 0 215 0 [some (.ref 1001)] [] M (some (.int t), M) := by
  unfold f_J0_coder_7d493_1001 at h
  refine o_getstatic k215_0 ?_
  refine o_if_eq k215_3 (fun hc => absurd hc (by decide)) (fun _ => ?_)
  refine o_aload_n k215_6 rfl ?_
  refine o_gf (v := .int 0) k215_7 rfl ?_
  refine o_goto k215_10 ?_
  have h9 := Option.some.inj h
  subst h9
  exact o_iret pj_215 k215_14 rfl (nr_b rfl)
def f_J0_length_8abf5_1001 : Option Int32 := ((f_J0_coder_7d493_1001).bind (fun v1 => (some ((4 : Int32) >>> (v1 &&& 31)))))
set_option maxRecDepth 20000 in
theorem t_J0_length_8abf5_1001 {LN : Nat} {xs : Nat → Int32} {M : am_M} {t : Int32} (h : f_J0_length_8abf5_1001 = some t) : oo LN xs 0 0 213 0 [some (.ref 1001)] [] M (some (.int t), M) := by
  unfold f_J0_length_8abf5_1001 at h
  refine o_aload_n k213_0 rfl ?_
  refine o_gf (v := .ref 1101) k213_1 rfl ?_
  refine o_alen (v := 4) k213_4 rfl (by decide) ?_
  refine o_aload_n k213_5 rfl ?_
  refine bd_i h (fun v1 hv1 h => ?_)
  refine o_call k213_6 pj_215 (fun _ => rfl) (by decide) rfl (as := [.ref 1001]) (rest := [.int 4]) rfl (L0 := [some (.ref 1001)]) rfl (t_J0_coder_7d493_1001 hv1) ?_
  refine o_ishr k213_9 ?_
  have h9 := Option.some.inj h
  subst h9
  exact o_iret pj_213 k213_10 rfl nr_i
def f_J0_isLatin1_aae02_1001 : Int32 := 1
set_option maxRecDepth 20000 in
theorem t_J0_isLatin1_aae02_1001 {LN : Nat} {xs : Nat → Int32} {M : am_M} {t : Int32} (h : f_J0_isLatin1_aae02_1001 = t) : oo LN xs 0 0 216 0 [some (.ref 1001)] [] M (some (.int t), M) := by
  unfold f_J0_isLatin1_aae02_1001 at h
  refine o_getstatic k216_0 ?_
  refine o_if_eq k216_3 (fun hc => absurd hc (by decide)) (fun _ => ?_)
  refine o_aload_n k216_6 rfl ?_
  refine o_gf (v := .int 0) k216_7 rfl ?_
  refine o_if_ne k216_10 (fun hc => absurd hc (by decide)) (fun _ => ?_)
  refine o_iconst (v := 1) k216_13 (by decide) ?_
  refine o_goto k216_14 ?_
  subst h
  exact o_iret pj_216 k216_18 rfl (nr_z (by decide))
def f_J3_checkIndex_8e157_1200 (a0 : Int32) (a1 : Int32) : Option Int32 := (if a0 < 0 then none else (if a0 < a1 then (some a0) else none))
set_option maxRecDepth 20000 in
theorem t_J3_checkIndex_8e157_1200 {LN : Nat} {xs : Nat → Int32} {a0 : Int32} {a1 : Int32} {M : am_M} {t : Int32} (h : f_J3_checkIndex_8e157_1200 a0 a1 = some t) : oo LN xs 0 0 220 0 [some (.int a0), some (.int a1), some (.ref 1200)] [] M (some (.int t), M) := by
  unfold f_J3_checkIndex_8e157_1200 at h
  refine o_iload_n k220_0 rfl ?_
  refine o_if_lt k220_1 (fun hc1 => ?_) (fun hc1 => ?_)
  · rw [if_pos hc1] at h
    refine o_aload_n k220_9 rfl ?_
    refine o_iload_n k220_10 rfl ?_
    refine o_iload_n k220_11 rfl ?_
    cases h
  · rw [if_neg hc1] at h
    refine o_iload_n k220_4 rfl ?_
    refine o_iload_n k220_5 rfl ?_
    refine o_icmp_lt k220_6 (fun hc2 => ?_) (fun hc2 => ?_)
    · rw [if_pos hc2] at h
      refine o_iload_n k220_16 rfl ?_
      have h9 := Option.some.inj h
      subst h9
      exact o_iret pj_220 k220_17 rfl nr_i
    · rw [if_neg hc2] at h
      refine o_aload_n k220_9 rfl ?_
      refine o_iload_n k220_10 rfl ?_
      refine o_iload_n k220_11 rfl ?_
      cases h
def f_J0_checkIndex_df160 (a0 : Int32) (a1 : Int32) : Option Unit := ((f_J3_checkIndex_8e157_1200 a0 a1).bind (fun v1 => (some ())))
set_option maxRecDepth 20000 in
theorem t_J0_checkIndex_df160 {LN : Nat} {xs : Nat → Int32} {a0 : Int32} {a1 : Int32} {M : am_M} {t : Unit} (h : f_J0_checkIndex_df160 a0 a1 = some t) : oo LN xs 0 0 217 0 [some (.int a0), some (.int a1)] [] M (none, M) := by
  unfold f_J0_checkIndex_df160 at h
  refine o_iload_n k217_0 rfl ?_
  refine o_iload_n k217_1 rfl ?_
  refine o_getstatic k217_2 ?_
  refine bd_i h (fun v1 hv1 h => ?_)
  refine o_call k217_5 pj_220 (fun _ => rfl) (by decide) rfl (as := [.int a0, .int a1, .ref 1200]) (rest := []) rfl (L0 := [some (.int a0), some (.int a1), some (.ref 1200)]) rfl (t_J3_checkIndex_8e157_1200 hv1) ?_
  refine o_pop k217_8 ?_
  have h9 := Option.some.inj h
  subst h9
  exact o_vret pj_217 k217_9 rfl
def f_J1_charAt_3b067_1101 (a0 : Int32) : Option Int32 := ((f_J0_checkIndex_df160 a0 4).bind (fun v1 => (if am_dbin a0 4 = true then (if narrow .char (.int ((((([99, 104, 105, 112] : List Int32).getD a0.toNatClampNeg 0) &&& 255).toUInt32 % 65536).toInt32)) = .int ((((([99, 104, 105, 112] : List Int32).getD a0.toNatClampNeg 0) &&& 255).toUInt32 % 65536).toInt32) then (some ((((([99, 104, 105, 112] : List Int32).getD a0.toNatClampNeg 0) &&& 255).toUInt32 % 65536).toInt32)) else none) else none)))
set_option maxRecDepth 20000 in
theorem t_J1_charAt_3b067_1101 {LN : Nat} {xs : Nat → Int32} {a0 : Int32} {M : am_M} {t : Int32} (h : f_J1_charAt_3b067_1101 a0 = some t) : oo LN xs 0 0 218 0 [some (.ref 1101), some (.int a0)] [] M (some (.int t), M) := by
  unfold f_J1_charAt_3b067_1101 at h
  refine o_iload_n k218_0 rfl ?_
  refine o_aload_n k218_1 rfl ?_
  refine o_alen (v := 4) k218_2 rfl (by decide) ?_
  refine bd_i h (fun v1 hv1 h => ?_)
  refine o_call k218_3 pj_217 (fun _ => rfl) (by decide) rfl (as := [.int a0, .int 4]) (rest := []) rfl (L0 := [some (.int a0), some (.int 4)]) rfl (t_J0_checkIndex_df160 hv1) ?_
  refine o_aload_n k218_6 rfl ?_
  refine o_iload_n k218_7 rfl ?_
  obtain ⟨hc2, h⟩ := ck_i h
  refine o_balS (v := (([99, 104, 105, 112] : List Int32).getD a0.toNatClampNeg 0)) k218_8 (bal_1101 hc2) ?_
  refine o_sipush (v := 255) k218_9 (by decide) ?_
  refine o_iand k218_12 ?_
  refine o_i2c k218_13 ?_
  obtain ⟨hc3, h⟩ := ck_i h
  have h9 := Option.some.inj h
  subst h9
  exact o_iret pj_218 k218_14 rfl (nr_c hc3)
def f_J0_charAt_5068e_1001 (a0 : Int32) : Option Int32 := ((f_J1_charAt_3b067_1101 a0).bind (fun v1 => (if narrow .char (.int v1) = .int v1 then (some v1) else none)))
set_option maxRecDepth 20000 in
theorem t_J0_charAt_5068e_1001 {LN : Nat} {xs : Nat → Int32} {a0 : Int32} {M : am_M} {t : Int32} (h : f_J0_charAt_5068e_1001 a0 = some t) : oo LN xs 0 0 214 0 [some (.ref 1001), some (.int a0)] [] M (some (.int t), M) := by
  unfold f_J0_charAt_5068e_1001 at h
  refine o_aload_n k214_0 rfl ?_
  refine o_call k214_1 pj_216 (fun _ => rfl) (by decide) rfl (as := [.ref 1001]) (rest := []) rfl (L0 := [some (.ref 1001)]) rfl (t_J0_isLatin1_aae02_1001 (M := M) (t := 1) rfl) ?_
  refine o_if_eq k214_4 (fun hc => absurd hc (by decide)) (fun _ => ?_)
  refine o_aload_n k214_7 rfl ?_
  refine o_gf (v := .ref 1101) k214_8 rfl ?_
  refine o_iload_n k214_11 rfl ?_
  refine bd_i h (fun v1 hv1 h => ?_)
  refine o_call k214_12 pj_218 (fun _ => rfl) (by decide) rfl (as := [.ref 1101, .int a0]) (rest := []) rfl (L0 := [some (.ref 1101), some (.int a0)]) rfl (t_J1_charAt_3b067_1101 hv1) ?_
  obtain ⟨hc2, h⟩ := ck_i h
  have h9 := Option.some.inj h
  subst h9
  exact o_iret pj_214 k214_15 rfl (nr_c hc2)
def f_X5_isName_2_1001 (M : am_M) : Option Int32 := (if (M 2 3) = 1 then ((f_J0_length_8abf5_1001).bind (fun v2 => (if ((M 2 2) - (M 2 4)) = v2 then ((lp (σ := Int32) (ρ := (Int32) ⊕ (Int32)) (fun x5 => ((f_J0_length_8abf5_1001).bind (fun v6 => (if v6 ≤ x5 then (some (.inr (.inr x5))) else (if am_dbin ((M 2 4) + x5) 160 = true then ((f_J0_charAt_5068e_1001 x5).bind (fun v9 => (if (M 3 ((M 2 4) + x5).toNatClampNeg) = v9 then (some (.inl (x5 + 1))) else (some (.inr (.inl 0)))))) else none))))) lp_F 0).bind (fun os11 => Sum.elim (fun u => (some u)) (fun x12 => (some 1)) os11)) else (some 0)))) else (some 0))
set_option maxRecDepth 20000 in
theorem t_X5_isName_2_1001 {LN : Nat} {xs : Nat → Int32} {M : am_M} {t : Int32} (h : f_X5_isName_2_1001 M = some t) : oo LN xs 0 0 64 0 [some (.ref 2), some (.ref 1001), none] [] M (some (.int t), M) := by
  unfold f_X5_isName_2_1001 at h
  refine o_aload_n k64_0 rfl ?_
  refine o_gf k64_1 (gf_2_3 _) ?_
  refine o_iconst (v := 1) k64_4 (by decide) ?_
  refine o_icmp_ne k64_5 (fun hc1 => ?_) (fun hc1 => ?_)
  · rw [if_neg hc1] at h
    refine o_iconst (v := 0) k64_24 (by decide) ?_
    have h9 := Option.some.inj h
    subst h9
    exact o_iret pj_64 k64_25 rfl (nr_z (by decide))
  · rw [if_pos hc1] at h
    refine o_aload_n k64_8 rfl ?_
    refine o_gf k64_9 (gf_2_2 _) ?_
    refine o_aload_n k64_12 rfl ?_
    refine o_gf k64_13 (gf_2_4 _) ?_
    refine o_isub k64_16 ?_
    refine o_aload_n k64_17 rfl ?_
    refine bd_i h (fun v2 hv2 h => ?_)
    refine o_call k64_18 pj_213 (fun _ => rfl) (by decide) rfl (as := [.ref 1001]) (rest := [.int ((M 2 2) - (M 2 4))]) rfl (L0 := [some (.ref 1001)]) rfl (t_J0_length_8abf5_1001 hv2) ?_
    refine o_icmp_eq k64_21 (fun hc3 => ?_) (fun hc3 => ?_)
    · rw [if_pos hc3] at h
      refine o_iconst (v := 0) k64_26 (by decide) ?_
      refine o_istore_n (v := 0) (L' := [some (.ref 2), some (.ref 1001), some (.int 0)]) k64_27 rfl rfl ?_
      refine bd_i h (fun Os11 hOs11 h => ?_)
      refine lp_o (fun x5 => oo LN xs 0 0 64 28 [some (.ref 2), some (.ref 1001), some (.int x5)] [] M (some (.int t), M)) (fun oq => Sum.elim (fun u => u = t) (fun x12 => oo LN xs 0 0 64 63 [some (.ref 2), some (.ref 1001), some (.int x12)] [] M (some (.int t), M)) oq) ?_ hOs11 ?_
      · rintro x5 ws4 h hK
        show oo LN xs 0 0 64 28 [some (.ref 2), some (.ref 1001), some (.int x5)] [] M (some (.int t), M)
        refine o_iload_n k64_28 rfl ?_
        refine o_aload_n k64_29 rfl ?_
        refine bd_i h (fun v6 hv6 h => ?_)
        refine o_call k64_30 pj_213 (fun _ => rfl) (by decide) rfl (as := [.ref 1001]) (rest := [.int x5]) rfl (L0 := [some (.ref 1001)]) rfl (t_J0_length_8abf5_1001 hv6) ?_
        refine o_icmp_ge k64_33 (fun hc7 => ?_) (fun hc7 => ?_)
        · rw [if_pos hc7] at h
          have h9 := Option.some.inj h
          subst h9
          exact hK
        · rw [if_neg hc7] at h
          refine o_aload_n k64_36 rfl ?_
          refine o_gf k64_37 (gf_2_0 _) ?_
          refine o_aload_n k64_40 rfl ?_
          refine o_gf k64_41 (gf_2_4 _) ?_
          refine o_iload_n k64_44 rfl ?_
          refine o_iadd k64_45 ?_
          obtain ⟨hc8, h⟩ := ck_i h
          refine o_bald k64_46 ba_3 hc8 ?_
          refine o_aload_n k64_47 rfl ?_
          refine o_iload_n k64_48 rfl ?_
          refine bd_i h (fun v9 hv9 h => ?_)
          refine o_call k64_49 pj_214 (fun _ => rfl) (by decide) rfl (as := [.ref 1001, .int x5]) (rest := [.int (M 3 ((M 2 4) + x5).toNatClampNeg)]) rfl (L0 := [some (.ref 1001), some (.int x5)]) rfl (t_J0_charAt_5068e_1001 hv9) ?_
          refine o_icmp_eq k64_52 (fun hc10 => ?_) (fun hc10 => ?_)
          · rw [if_pos hc10] at h
            refine o_iinc (k := 1) (L' := [some (.ref 2), some (.ref 1001), some (.int (x5 + 1))]) k64_57 rfl (by decide) rfl ?_
            refine o_goto k64_60 ?_
            have h9 := Option.some.inj h
            subst h9
            exact hK
          · rw [if_neg hc10] at h
            refine o_iconst (v := 0) k64_55 (by decide) ?_
            have h9 := Option.some.inj h
            subst h9
            have hK2 : 0 = t := hK
            subst hK2
            exact o_iret pj_64 k64_56 rfl (nr_z (by decide))
      · rcases Os11 with u | x12
        · exact Option.some.inj h
        · show oo LN xs 0 0 64 63 [some (.ref 2), some (.ref 1001), some (.int x12)] [] M (some (.int t), M)
          rw [el_r] at h
          refine o_iconst (v := 1) k64_63 (by decide) ?_
          have h9 := Option.some.inj h
          subst h9
          exact o_iret pj_64 k64_64 rfl (nr_z (by decide))
    · rw [if_neg hc3] at h
      refine o_iconst (v := 0) k64_24 (by decide) ?_
      have h9 := Option.some.inj h
      subst h9
      exact o_iret pj_64 k64_25 rfl (nr_z (by decide))
def f_J0_coder_7d493_1002 : Option Int32 := (some 0)
set_option maxRecDepth 20000 in
theorem t_J0_coder_7d493_1002 {LN : Nat} {xs : Nat → Int32} {M : am_M} {t : Int32} (h : f_J0_coder_7d493_1002 = some t) : oo LN xs 0 0 215 0 [some (.ref 1002)] [] M (some (.int t), M) := by
  unfold f_J0_coder_7d493_1002 at h
  refine o_getstatic k215_0 ?_
  refine o_if_eq k215_3 (fun hc => absurd hc (by decide)) (fun _ => ?_)
  refine o_aload_n k215_6 rfl ?_
  refine o_gf (v := .int 0) k215_7 rfl ?_
  refine o_goto k215_10 ?_
  have h9 := Option.some.inj h
  subst h9
  exact o_iret pj_215 k215_14 rfl (nr_b rfl)
def f_J0_length_8abf5_1002 : Option Int32 := ((f_J0_coder_7d493_1002).bind (fun v1 => (some ((6 : Int32) >>> (v1 &&& 31)))))
set_option maxRecDepth 20000 in
theorem t_J0_length_8abf5_1002 {LN : Nat} {xs : Nat → Int32} {M : am_M} {t : Int32} (h : f_J0_length_8abf5_1002 = some t) : oo LN xs 0 0 213 0 [some (.ref 1002)] [] M (some (.int t), M) := by
  unfold f_J0_length_8abf5_1002 at h
  refine o_aload_n k213_0 rfl ?_
  refine o_gf (v := .ref 1102) k213_1 rfl ?_
  refine o_alen (v := 6) k213_4 rfl (by decide) ?_
  refine o_aload_n k213_5 rfl ?_
  refine bd_i h (fun v1 hv1 h => ?_)
  refine o_call k213_6 pj_215 (fun _ => rfl) (by decide) rfl (as := [.ref 1002]) (rest := [.int 6]) rfl (L0 := [some (.ref 1002)]) rfl (t_J0_coder_7d493_1002 hv1) ?_
  refine o_ishr k213_9 ?_
  have h9 := Option.some.inj h
  subst h9
  exact o_iret pj_213 k213_10 rfl nr_i
def f_J0_isLatin1_aae02_1002 : Int32 := 1
set_option maxRecDepth 20000 in
theorem t_J0_isLatin1_aae02_1002 {LN : Nat} {xs : Nat → Int32} {M : am_M} {t : Int32} (h : f_J0_isLatin1_aae02_1002 = t) : oo LN xs 0 0 216 0 [some (.ref 1002)] [] M (some (.int t), M) := by
  unfold f_J0_isLatin1_aae02_1002 at h
  refine o_getstatic k216_0 ?_
  refine o_if_eq k216_3 (fun hc => absurd hc (by decide)) (fun _ => ?_)
  refine o_aload_n k216_6 rfl ?_
  refine o_gf (v := .int 0) k216_7 rfl ?_
  refine o_if_ne k216_10 (fun hc => absurd hc (by decide)) (fun _ => ?_)
  refine o_iconst (v := 1) k216_13 (by decide) ?_
  refine o_goto k216_14 ?_
  subst h
  exact o_iret pj_216 k216_18 rfl (nr_z (by decide))
def f_J1_charAt_3b067_1102 (a0 : Int32) : Option Int32 := ((f_J0_checkIndex_df160 a0 6).bind (fun v1 => (if am_dbin a0 6 = true then (if narrow .char (.int ((((([99, 111, 108, 117, 109, 110] : List Int32).getD a0.toNatClampNeg 0) &&& 255).toUInt32 % 65536).toInt32)) = .int ((((([99, 111, 108, 117, 109, 110] : List Int32).getD a0.toNatClampNeg 0) &&& 255).toUInt32 % 65536).toInt32) then (some ((((([99, 111, 108, 117, 109, 110] : List Int32).getD a0.toNatClampNeg 0) &&& 255).toUInt32 % 65536).toInt32)) else none) else none)))
set_option maxRecDepth 20000 in
theorem t_J1_charAt_3b067_1102 {LN : Nat} {xs : Nat → Int32} {a0 : Int32} {M : am_M} {t : Int32} (h : f_J1_charAt_3b067_1102 a0 = some t) : oo LN xs 0 0 218 0 [some (.ref 1102), some (.int a0)] [] M (some (.int t), M) := by
  unfold f_J1_charAt_3b067_1102 at h
  refine o_iload_n k218_0 rfl ?_
  refine o_aload_n k218_1 rfl ?_
  refine o_alen (v := 6) k218_2 rfl (by decide) ?_
  refine bd_i h (fun v1 hv1 h => ?_)
  refine o_call k218_3 pj_217 (fun _ => rfl) (by decide) rfl (as := [.int a0, .int 6]) (rest := []) rfl (L0 := [some (.int a0), some (.int 6)]) rfl (t_J0_checkIndex_df160 hv1) ?_
  refine o_aload_n k218_6 rfl ?_
  refine o_iload_n k218_7 rfl ?_
  obtain ⟨hc2, h⟩ := ck_i h
  refine o_balS (v := (([99, 111, 108, 117, 109, 110] : List Int32).getD a0.toNatClampNeg 0)) k218_8 (bal_1102 hc2) ?_
  refine o_sipush (v := 255) k218_9 (by decide) ?_
  refine o_iand k218_12 ?_
  refine o_i2c k218_13 ?_
  obtain ⟨hc3, h⟩ := ck_i h
  have h9 := Option.some.inj h
  subst h9
  exact o_iret pj_218 k218_14 rfl (nr_c hc3)
def f_J0_charAt_5068e_1002 (a0 : Int32) : Option Int32 := ((f_J1_charAt_3b067_1102 a0).bind (fun v1 => (if narrow .char (.int v1) = .int v1 then (some v1) else none)))
set_option maxRecDepth 20000 in
theorem t_J0_charAt_5068e_1002 {LN : Nat} {xs : Nat → Int32} {a0 : Int32} {M : am_M} {t : Int32} (h : f_J0_charAt_5068e_1002 a0 = some t) : oo LN xs 0 0 214 0 [some (.ref 1002), some (.int a0)] [] M (some (.int t), M) := by
  unfold f_J0_charAt_5068e_1002 at h
  refine o_aload_n k214_0 rfl ?_
  refine o_call k214_1 pj_216 (fun _ => rfl) (by decide) rfl (as := [.ref 1002]) (rest := []) rfl (L0 := [some (.ref 1002)]) rfl (t_J0_isLatin1_aae02_1002 (M := M) (t := 1) rfl) ?_
  refine o_if_eq k214_4 (fun hc => absurd hc (by decide)) (fun _ => ?_)
  refine o_aload_n k214_7 rfl ?_
  refine o_gf (v := .ref 1102) k214_8 rfl ?_
  refine o_iload_n k214_11 rfl ?_
  refine bd_i h (fun v1 hv1 h => ?_)
  refine o_call k214_12 pj_218 (fun _ => rfl) (by decide) rfl (as := [.ref 1102, .int a0]) (rest := []) rfl (L0 := [some (.ref 1102), some (.int a0)]) rfl (t_J1_charAt_3b067_1102 hv1) ?_
  obtain ⟨hc2, h⟩ := ck_i h
  have h9 := Option.some.inj h
  subst h9
  exact o_iret pj_214 k214_15 rfl (nr_c hc2)
def f_X5_isName_2_1002 (M : am_M) : Option Int32 := (if (M 2 3) = 1 then ((f_J0_length_8abf5_1002).bind (fun v2 => (if ((M 2 2) - (M 2 4)) = v2 then ((lp (σ := Int32) (ρ := (Int32) ⊕ (Int32)) (fun x5 => ((f_J0_length_8abf5_1002).bind (fun v6 => (if v6 ≤ x5 then (some (.inr (.inr x5))) else (if am_dbin ((M 2 4) + x5) 160 = true then ((f_J0_charAt_5068e_1002 x5).bind (fun v9 => (if (M 3 ((M 2 4) + x5).toNatClampNeg) = v9 then (some (.inl (x5 + 1))) else (some (.inr (.inl 0)))))) else none))))) lp_F 0).bind (fun os11 => Sum.elim (fun u => (some u)) (fun x12 => (some 1)) os11)) else (some 0)))) else (some 0))
set_option maxRecDepth 20000 in
theorem t_X5_isName_2_1002 {LN : Nat} {xs : Nat → Int32} {M : am_M} {t : Int32} (h : f_X5_isName_2_1002 M = some t) : oo LN xs 0 0 64 0 [some (.ref 2), some (.ref 1002), none] [] M (some (.int t), M) := by
  unfold f_X5_isName_2_1002 at h
  refine o_aload_n k64_0 rfl ?_
  refine o_gf k64_1 (gf_2_3 _) ?_
  refine o_iconst (v := 1) k64_4 (by decide) ?_
  refine o_icmp_ne k64_5 (fun hc1 => ?_) (fun hc1 => ?_)
  · rw [if_neg hc1] at h
    refine o_iconst (v := 0) k64_24 (by decide) ?_
    have h9 := Option.some.inj h
    subst h9
    exact o_iret pj_64 k64_25 rfl (nr_z (by decide))
  · rw [if_pos hc1] at h
    refine o_aload_n k64_8 rfl ?_
    refine o_gf k64_9 (gf_2_2 _) ?_
    refine o_aload_n k64_12 rfl ?_
    refine o_gf k64_13 (gf_2_4 _) ?_
    refine o_isub k64_16 ?_
    refine o_aload_n k64_17 rfl ?_
    refine bd_i h (fun v2 hv2 h => ?_)
    refine o_call k64_18 pj_213 (fun _ => rfl) (by decide) rfl (as := [.ref 1002]) (rest := [.int ((M 2 2) - (M 2 4))]) rfl (L0 := [some (.ref 1002)]) rfl (t_J0_length_8abf5_1002 hv2) ?_
    refine o_icmp_eq k64_21 (fun hc3 => ?_) (fun hc3 => ?_)
    · rw [if_pos hc3] at h
      refine o_iconst (v := 0) k64_26 (by decide) ?_
      refine o_istore_n (v := 0) (L' := [some (.ref 2), some (.ref 1002), some (.int 0)]) k64_27 rfl rfl ?_
      refine bd_i h (fun Os11 hOs11 h => ?_)
      refine lp_o (fun x5 => oo LN xs 0 0 64 28 [some (.ref 2), some (.ref 1002), some (.int x5)] [] M (some (.int t), M)) (fun oq => Sum.elim (fun u => u = t) (fun x12 => oo LN xs 0 0 64 63 [some (.ref 2), some (.ref 1002), some (.int x12)] [] M (some (.int t), M)) oq) ?_ hOs11 ?_
      · rintro x5 ws4 h hK
        show oo LN xs 0 0 64 28 [some (.ref 2), some (.ref 1002), some (.int x5)] [] M (some (.int t), M)
        refine o_iload_n k64_28 rfl ?_
        refine o_aload_n k64_29 rfl ?_
        refine bd_i h (fun v6 hv6 h => ?_)
        refine o_call k64_30 pj_213 (fun _ => rfl) (by decide) rfl (as := [.ref 1002]) (rest := [.int x5]) rfl (L0 := [some (.ref 1002)]) rfl (t_J0_length_8abf5_1002 hv6) ?_
        refine o_icmp_ge k64_33 (fun hc7 => ?_) (fun hc7 => ?_)
        · rw [if_pos hc7] at h
          have h9 := Option.some.inj h
          subst h9
          exact hK
        · rw [if_neg hc7] at h
          refine o_aload_n k64_36 rfl ?_
          refine o_gf k64_37 (gf_2_0 _) ?_
          refine o_aload_n k64_40 rfl ?_
          refine o_gf k64_41 (gf_2_4 _) ?_
          refine o_iload_n k64_44 rfl ?_
          refine o_iadd k64_45 ?_
          obtain ⟨hc8, h⟩ := ck_i h
          refine o_bald k64_46 ba_3 hc8 ?_
          refine o_aload_n k64_47 rfl ?_
          refine o_iload_n k64_48 rfl ?_
          refine bd_i h (fun v9 hv9 h => ?_)
          refine o_call k64_49 pj_214 (fun _ => rfl) (by decide) rfl (as := [.ref 1002, .int x5]) (rest := [.int (M 3 ((M 2 4) + x5).toNatClampNeg)]) rfl (L0 := [some (.ref 1002), some (.int x5)]) rfl (t_J0_charAt_5068e_1002 hv9) ?_
          refine o_icmp_eq k64_52 (fun hc10 => ?_) (fun hc10 => ?_)
          · rw [if_pos hc10] at h
            refine o_iinc (k := 1) (L' := [some (.ref 2), some (.ref 1002), some (.int (x5 + 1))]) k64_57 rfl (by decide) rfl ?_
            refine o_goto k64_60 ?_
            have h9 := Option.some.inj h
            subst h9
            exact hK
          · rw [if_neg hc10] at h
            refine o_iconst (v := 0) k64_55 (by decide) ?_
            have h9 := Option.some.inj h
            subst h9
            have hK2 : 0 = t := hK
            subst hK2
            exact o_iret pj_64 k64_56 rfl (nr_z (by decide))
      · rcases Os11 with u | x12
        · exact Option.some.inj h
        · show oo LN xs 0 0 64 63 [some (.ref 2), some (.ref 1002), some (.int x12)] [] M (some (.int t), M)
          rw [el_r] at h
          refine o_iconst (v := 1) k64_63 (by decide) ?_
          have h9 := Option.some.inj h
          subst h9
          exact o_iret pj_64 k64_64 rfl (nr_z (by decide))
    · rw [if_neg hc3] at h
      refine o_iconst (v := 0) k64_24 (by decide) ?_
      have h9 := Option.some.inj h
      subst h9
      exact o_iret pj_64 k64_25 rfl (nr_z (by decide))
def f_J0_coder_7d493_1003 : Option Int32 := (some 0)
set_option maxRecDepth 20000 in
theorem t_J0_coder_7d493_1003 {LN : Nat} {xs : Nat → Int32} {M : am_M} {t : Int32} (h : f_J0_coder_7d493_1003 = some t) : oo LN xs 0 0 215 0 [some (.ref 1003)] [] M (some (.int t), M) := by
  unfold f_J0_coder_7d493_1003 at h
  refine o_getstatic k215_0 ?_
  refine o_if_eq k215_3 (fun hc => absurd hc (by decide)) (fun _ => ?_)
  refine o_aload_n k215_6 rfl ?_
  refine o_gf (v := .int 0) k215_7 rfl ?_
  refine o_goto k215_10 ?_
  have h9 := Option.some.inj h
  subst h9
  exact o_iret pj_215 k215_14 rfl (nr_b rfl)
def f_J0_length_8abf5_1003 : Option Int32 := ((f_J0_coder_7d493_1003).bind (fun v1 => (some ((3 : Int32) >>> (v1 &&& 31)))))
set_option maxRecDepth 20000 in
theorem t_J0_length_8abf5_1003 {LN : Nat} {xs : Nat → Int32} {M : am_M} {t : Int32} (h : f_J0_length_8abf5_1003 = some t) : oo LN xs 0 0 213 0 [some (.ref 1003)] [] M (some (.int t), M) := by
  unfold f_J0_length_8abf5_1003 at h
  refine o_aload_n k213_0 rfl ?_
  refine o_gf (v := .ref 1103) k213_1 rfl ?_
  refine o_alen (v := 3) k213_4 rfl (by decide) ?_
  refine o_aload_n k213_5 rfl ?_
  refine bd_i h (fun v1 hv1 h => ?_)
  refine o_call k213_6 pj_215 (fun _ => rfl) (by decide) rfl (as := [.ref 1003]) (rest := [.int 3]) rfl (L0 := [some (.ref 1003)]) rfl (t_J0_coder_7d493_1003 hv1) ?_
  refine o_ishr k213_9 ?_
  have h9 := Option.some.inj h
  subst h9
  exact o_iret pj_213 k213_10 rfl nr_i
def f_J0_isLatin1_aae02_1003 : Int32 := 1
set_option maxRecDepth 20000 in
theorem t_J0_isLatin1_aae02_1003 {LN : Nat} {xs : Nat → Int32} {M : am_M} {t : Int32} (h : f_J0_isLatin1_aae02_1003 = t) : oo LN xs 0 0 216 0 [some (.ref 1003)] [] M (some (.int t), M) := by
  unfold f_J0_isLatin1_aae02_1003 at h
  refine o_getstatic k216_0 ?_
  refine o_if_eq k216_3 (fun hc => absurd hc (by decide)) (fun _ => ?_)
  refine o_aload_n k216_6 rfl ?_
  refine o_gf (v := .int 0) k216_7 rfl ?_
  refine o_if_ne k216_10 (fun hc => absurd hc (by decide)) (fun _ => ?_)
  refine o_iconst (v := 1) k216_13 (by decide) ?_
  refine o_goto k216_14 ?_
  subst h
  exact o_iret pj_216 k216_18 rfl (nr_z (by decide))
def f_J1_charAt_3b067_1103 (a0 : Int32) : Option Int32 := ((f_J0_checkIndex_df160 a0 3).bind (fun v1 => (if am_dbin a0 3 = true then (if narrow .char (.int ((((([111, 117, 116] : List Int32).getD a0.toNatClampNeg 0) &&& 255).toUInt32 % 65536).toInt32)) = .int ((((([111, 117, 116] : List Int32).getD a0.toNatClampNeg 0) &&& 255).toUInt32 % 65536).toInt32) then (some ((((([111, 117, 116] : List Int32).getD a0.toNatClampNeg 0) &&& 255).toUInt32 % 65536).toInt32)) else none) else none)))
set_option maxRecDepth 20000 in
theorem t_J1_charAt_3b067_1103 {LN : Nat} {xs : Nat → Int32} {a0 : Int32} {M : am_M} {t : Int32} (h : f_J1_charAt_3b067_1103 a0 = some t) : oo LN xs 0 0 218 0 [some (.ref 1103), some (.int a0)] [] M (some (.int t), M) := by
  unfold f_J1_charAt_3b067_1103 at h
  refine o_iload_n k218_0 rfl ?_
  refine o_aload_n k218_1 rfl ?_
  refine o_alen (v := 3) k218_2 rfl (by decide) ?_
  refine bd_i h (fun v1 hv1 h => ?_)
  refine o_call k218_3 pj_217 (fun _ => rfl) (by decide) rfl (as := [.int a0, .int 3]) (rest := []) rfl (L0 := [some (.int a0), some (.int 3)]) rfl (t_J0_checkIndex_df160 hv1) ?_
  refine o_aload_n k218_6 rfl ?_
  refine o_iload_n k218_7 rfl ?_
  obtain ⟨hc2, h⟩ := ck_i h
  refine o_balS (v := (([111, 117, 116] : List Int32).getD a0.toNatClampNeg 0)) k218_8 (bal_1103 hc2) ?_
  refine o_sipush (v := 255) k218_9 (by decide) ?_
  refine o_iand k218_12 ?_
  refine o_i2c k218_13 ?_
  obtain ⟨hc3, h⟩ := ck_i h
  have h9 := Option.some.inj h
  subst h9
  exact o_iret pj_218 k218_14 rfl (nr_c hc3)
def f_J0_charAt_5068e_1003 (a0 : Int32) : Option Int32 := ((f_J1_charAt_3b067_1103 a0).bind (fun v1 => (if narrow .char (.int v1) = .int v1 then (some v1) else none)))
set_option maxRecDepth 20000 in
theorem t_J0_charAt_5068e_1003 {LN : Nat} {xs : Nat → Int32} {a0 : Int32} {M : am_M} {t : Int32} (h : f_J0_charAt_5068e_1003 a0 = some t) : oo LN xs 0 0 214 0 [some (.ref 1003), some (.int a0)] [] M (some (.int t), M) := by
  unfold f_J0_charAt_5068e_1003 at h
  refine o_aload_n k214_0 rfl ?_
  refine o_call k214_1 pj_216 (fun _ => rfl) (by decide) rfl (as := [.ref 1003]) (rest := []) rfl (L0 := [some (.ref 1003)]) rfl (t_J0_isLatin1_aae02_1003 (M := M) (t := 1) rfl) ?_
  refine o_if_eq k214_4 (fun hc => absurd hc (by decide)) (fun _ => ?_)
  refine o_aload_n k214_7 rfl ?_
  refine o_gf (v := .ref 1103) k214_8 rfl ?_
  refine o_iload_n k214_11 rfl ?_
  refine bd_i h (fun v1 hv1 h => ?_)
  refine o_call k214_12 pj_218 (fun _ => rfl) (by decide) rfl (as := [.ref 1103, .int a0]) (rest := []) rfl (L0 := [some (.ref 1103), some (.int a0)]) rfl (t_J1_charAt_3b067_1103 hv1) ?_
  obtain ⟨hc2, h⟩ := ck_i h
  have h9 := Option.some.inj h
  subst h9
  exact o_iret pj_214 k214_15 rfl (nr_c hc2)
def f_X5_isName_2_1003 (M : am_M) : Option Int32 := (if (M 2 3) = 1 then ((f_J0_length_8abf5_1003).bind (fun v2 => (if ((M 2 2) - (M 2 4)) = v2 then ((lp (σ := Int32) (ρ := (Int32) ⊕ (Int32)) (fun x5 => ((f_J0_length_8abf5_1003).bind (fun v6 => (if v6 ≤ x5 then (some (.inr (.inr x5))) else (if am_dbin ((M 2 4) + x5) 160 = true then ((f_J0_charAt_5068e_1003 x5).bind (fun v9 => (if (M 3 ((M 2 4) + x5).toNatClampNeg) = v9 then (some (.inl (x5 + 1))) else (some (.inr (.inl 0)))))) else none))))) lp_F 0).bind (fun os11 => Sum.elim (fun u => (some u)) (fun x12 => (some 1)) os11)) else (some 0)))) else (some 0))
set_option maxRecDepth 20000 in
theorem t_X5_isName_2_1003 {LN : Nat} {xs : Nat → Int32} {M : am_M} {t : Int32} (h : f_X5_isName_2_1003 M = some t) : oo LN xs 0 0 64 0 [some (.ref 2), some (.ref 1003), none] [] M (some (.int t), M) := by
  unfold f_X5_isName_2_1003 at h
  refine o_aload_n k64_0 rfl ?_
  refine o_gf k64_1 (gf_2_3 _) ?_
  refine o_iconst (v := 1) k64_4 (by decide) ?_
  refine o_icmp_ne k64_5 (fun hc1 => ?_) (fun hc1 => ?_)
  · rw [if_neg hc1] at h
    refine o_iconst (v := 0) k64_24 (by decide) ?_
    have h9 := Option.some.inj h
    subst h9
    exact o_iret pj_64 k64_25 rfl (nr_z (by decide))
  · rw [if_pos hc1] at h
    refine o_aload_n k64_8 rfl ?_
    refine o_gf k64_9 (gf_2_2 _) ?_
    refine o_aload_n k64_12 rfl ?_
    refine o_gf k64_13 (gf_2_4 _) ?_
    refine o_isub k64_16 ?_
    refine o_aload_n k64_17 rfl ?_
    refine bd_i h (fun v2 hv2 h => ?_)
    refine o_call k64_18 pj_213 (fun _ => rfl) (by decide) rfl (as := [.ref 1003]) (rest := [.int ((M 2 2) - (M 2 4))]) rfl (L0 := [some (.ref 1003)]) rfl (t_J0_length_8abf5_1003 hv2) ?_
    refine o_icmp_eq k64_21 (fun hc3 => ?_) (fun hc3 => ?_)
    · rw [if_pos hc3] at h
      refine o_iconst (v := 0) k64_26 (by decide) ?_
      refine o_istore_n (v := 0) (L' := [some (.ref 2), some (.ref 1003), some (.int 0)]) k64_27 rfl rfl ?_
      refine bd_i h (fun Os11 hOs11 h => ?_)
      refine lp_o (fun x5 => oo LN xs 0 0 64 28 [some (.ref 2), some (.ref 1003), some (.int x5)] [] M (some (.int t), M)) (fun oq => Sum.elim (fun u => u = t) (fun x12 => oo LN xs 0 0 64 63 [some (.ref 2), some (.ref 1003), some (.int x12)] [] M (some (.int t), M)) oq) ?_ hOs11 ?_
      · rintro x5 ws4 h hK
        show oo LN xs 0 0 64 28 [some (.ref 2), some (.ref 1003), some (.int x5)] [] M (some (.int t), M)
        refine o_iload_n k64_28 rfl ?_
        refine o_aload_n k64_29 rfl ?_
        refine bd_i h (fun v6 hv6 h => ?_)
        refine o_call k64_30 pj_213 (fun _ => rfl) (by decide) rfl (as := [.ref 1003]) (rest := [.int x5]) rfl (L0 := [some (.ref 1003)]) rfl (t_J0_length_8abf5_1003 hv6) ?_
        refine o_icmp_ge k64_33 (fun hc7 => ?_) (fun hc7 => ?_)
        · rw [if_pos hc7] at h
          have h9 := Option.some.inj h
          subst h9
          exact hK
        · rw [if_neg hc7] at h
          refine o_aload_n k64_36 rfl ?_
          refine o_gf k64_37 (gf_2_0 _) ?_
          refine o_aload_n k64_40 rfl ?_
          refine o_gf k64_41 (gf_2_4 _) ?_
          refine o_iload_n k64_44 rfl ?_
          refine o_iadd k64_45 ?_
          obtain ⟨hc8, h⟩ := ck_i h
          refine o_bald k64_46 ba_3 hc8 ?_
          refine o_aload_n k64_47 rfl ?_
          refine o_iload_n k64_48 rfl ?_
          refine bd_i h (fun v9 hv9 h => ?_)
          refine o_call k64_49 pj_214 (fun _ => rfl) (by decide) rfl (as := [.ref 1003, .int x5]) (rest := [.int (M 3 ((M 2 4) + x5).toNatClampNeg)]) rfl (L0 := [some (.ref 1003), some (.int x5)]) rfl (t_J0_charAt_5068e_1003 hv9) ?_
          refine o_icmp_eq k64_52 (fun hc10 => ?_) (fun hc10 => ?_)
          · rw [if_pos hc10] at h
            refine o_iinc (k := 1) (L' := [some (.ref 2), some (.ref 1003), some (.int (x5 + 1))]) k64_57 rfl (by decide) rfl ?_
            refine o_goto k64_60 ?_
            have h9 := Option.some.inj h
            subst h9
            exact hK
          · rw [if_neg hc10] at h
            refine o_iconst (v := 0) k64_55 (by decide) ?_
            have h9 := Option.some.inj h
            subst h9
            have hK2 : 0 = t := hK
            subst hK2
            exact o_iret pj_64 k64_56 rfl (nr_z (by decide))
      · rcases Os11 with u | x12
        · exact Option.some.inj h
        · show oo LN xs 0 0 64 63 [some (.ref 2), some (.ref 1003), some (.int x12)] [] M (some (.int t), M)
          rw [el_r] at h
          refine o_iconst (v := 1) k64_63 (by decide) ?_
          have h9 := Option.some.inj h
          subst h9
          exact o_iret pj_64 k64_64 rfl (nr_z (by decide))
    · rw [if_neg hc3] at h
      refine o_iconst (v := 0) k64_24 (by decide) ?_
      have h9 := Option.some.inj h
      subst h9
      exact o_iret pj_64 k64_25 rfl (nr_z (by decide))
def f_J0_coder_7d493_1004 : Option Int32 := (some 0)
set_option maxRecDepth 20000 in
theorem t_J0_coder_7d493_1004 {LN : Nat} {xs : Nat → Int32} {M : am_M} {t : Int32} (h : f_J0_coder_7d493_1004 = some t) : oo LN xs 0 0 215 0 [some (.ref 1004)] [] M (some (.int t), M) := by
  unfold f_J0_coder_7d493_1004 at h
  refine o_getstatic k215_0 ?_
  refine o_if_eq k215_3 (fun hc => absurd hc (by decide)) (fun _ => ?_)
  refine o_aload_n k215_6 rfl ?_
  refine o_gf (v := .int 0) k215_7 rfl ?_
  refine o_goto k215_10 ?_
  have h9 := Option.some.inj h
  subst h9
  exact o_iret pj_215 k215_14 rfl (nr_b rfl)
def f_J0_length_8abf5_1004 : Option Int32 := ((f_J0_coder_7d493_1004).bind (fun v1 => (some ((8 : Int32) >>> (v1 &&& 31)))))
set_option maxRecDepth 20000 in
theorem t_J0_length_8abf5_1004 {LN : Nat} {xs : Nat → Int32} {M : am_M} {t : Int32} (h : f_J0_length_8abf5_1004 = some t) : oo LN xs 0 0 213 0 [some (.ref 1004)] [] M (some (.int t), M) := by
  unfold f_J0_length_8abf5_1004 at h
  refine o_aload_n k213_0 rfl ?_
  refine o_gf (v := .ref 1104) k213_1 rfl ?_
  refine o_alen (v := 8) k213_4 rfl (by decide) ?_
  refine o_aload_n k213_5 rfl ?_
  refine bd_i h (fun v1 hv1 h => ?_)
  refine o_call k213_6 pj_215 (fun _ => rfl) (by decide) rfl (as := [.ref 1004]) (rest := [.int 8]) rfl (L0 := [some (.ref 1004)]) rfl (t_J0_coder_7d493_1004 hv1) ?_
  refine o_ishr k213_9 ?_
  have h9 := Option.some.inj h
  subst h9
  exact o_iret pj_213 k213_10 rfl nr_i
def f_J0_isLatin1_aae02_1004 : Int32 := 1
set_option maxRecDepth 20000 in
theorem t_J0_isLatin1_aae02_1004 {LN : Nat} {xs : Nat → Int32} {M : am_M} {t : Int32} (h : f_J0_isLatin1_aae02_1004 = t) : oo LN xs 0 0 216 0 [some (.ref 1004)] [] M (some (.int t), M) := by
  unfold f_J0_isLatin1_aae02_1004 at h
  refine o_getstatic k216_0 ?_
  refine o_if_eq k216_3 (fun hc => absurd hc (by decide)) (fun _ => ?_)
  refine o_aload_n k216_6 rfl ?_
  refine o_gf (v := .int 0) k216_7 rfl ?_
  refine o_if_ne k216_10 (fun hc => absurd hc (by decide)) (fun _ => ?_)
  refine o_iconst (v := 1) k216_13 (by decide) ?_
  refine o_goto k216_14 ?_
  subst h
  exact o_iret pj_216 k216_18 rfl (nr_z (by decide))
def f_J1_charAt_3b067_1104 (a0 : Int32) : Option Int32 := ((f_J0_checkIndex_df160 a0 8).bind (fun v1 => (if am_dbin a0 8 = true then (if narrow .char (.int ((((([114, 101, 103, 105, 115, 116, 101, 114] : List Int32).getD a0.toNatClampNeg 0) &&& 255).toUInt32 % 65536).toInt32)) = .int ((((([114, 101, 103, 105, 115, 116, 101, 114] : List Int32).getD a0.toNatClampNeg 0) &&& 255).toUInt32 % 65536).toInt32) then (some ((((([114, 101, 103, 105, 115, 116, 101, 114] : List Int32).getD a0.toNatClampNeg 0) &&& 255).toUInt32 % 65536).toInt32)) else none) else none)))
set_option maxRecDepth 20000 in
theorem t_J1_charAt_3b067_1104 {LN : Nat} {xs : Nat → Int32} {a0 : Int32} {M : am_M} {t : Int32} (h : f_J1_charAt_3b067_1104 a0 = some t) : oo LN xs 0 0 218 0 [some (.ref 1104), some (.int a0)] [] M (some (.int t), M) := by
  unfold f_J1_charAt_3b067_1104 at h
  refine o_iload_n k218_0 rfl ?_
  refine o_aload_n k218_1 rfl ?_
  refine o_alen (v := 8) k218_2 rfl (by decide) ?_
  refine bd_i h (fun v1 hv1 h => ?_)
  refine o_call k218_3 pj_217 (fun _ => rfl) (by decide) rfl (as := [.int a0, .int 8]) (rest := []) rfl (L0 := [some (.int a0), some (.int 8)]) rfl (t_J0_checkIndex_df160 hv1) ?_
  refine o_aload_n k218_6 rfl ?_
  refine o_iload_n k218_7 rfl ?_
  obtain ⟨hc2, h⟩ := ck_i h
  refine o_balS (v := (([114, 101, 103, 105, 115, 116, 101, 114] : List Int32).getD a0.toNatClampNeg 0)) k218_8 (bal_1104 hc2) ?_
  refine o_sipush (v := 255) k218_9 (by decide) ?_
  refine o_iand k218_12 ?_
  refine o_i2c k218_13 ?_
  obtain ⟨hc3, h⟩ := ck_i h
  have h9 := Option.some.inj h
  subst h9
  exact o_iret pj_218 k218_14 rfl (nr_c hc3)
def f_J0_charAt_5068e_1004 (a0 : Int32) : Option Int32 := ((f_J1_charAt_3b067_1104 a0).bind (fun v1 => (if narrow .char (.int v1) = .int v1 then (some v1) else none)))
set_option maxRecDepth 20000 in
theorem t_J0_charAt_5068e_1004 {LN : Nat} {xs : Nat → Int32} {a0 : Int32} {M : am_M} {t : Int32} (h : f_J0_charAt_5068e_1004 a0 = some t) : oo LN xs 0 0 214 0 [some (.ref 1004), some (.int a0)] [] M (some (.int t), M) := by
  unfold f_J0_charAt_5068e_1004 at h
  refine o_aload_n k214_0 rfl ?_
  refine o_call k214_1 pj_216 (fun _ => rfl) (by decide) rfl (as := [.ref 1004]) (rest := []) rfl (L0 := [some (.ref 1004)]) rfl (t_J0_isLatin1_aae02_1004 (M := M) (t := 1) rfl) ?_
  refine o_if_eq k214_4 (fun hc => absurd hc (by decide)) (fun _ => ?_)
  refine o_aload_n k214_7 rfl ?_
  refine o_gf (v := .ref 1104) k214_8 rfl ?_
  refine o_iload_n k214_11 rfl ?_
  refine bd_i h (fun v1 hv1 h => ?_)
  refine o_call k214_12 pj_218 (fun _ => rfl) (by decide) rfl (as := [.ref 1104, .int a0]) (rest := []) rfl (L0 := [some (.ref 1104), some (.int a0)]) rfl (t_J1_charAt_3b067_1104 hv1) ?_
  obtain ⟨hc2, h⟩ := ck_i h
  have h9 := Option.some.inj h
  subst h9
  exact o_iret pj_214 k214_15 rfl (nr_c hc2)
def f_X5_isName_2_1004 (M : am_M) : Option Int32 := (if (M 2 3) = 1 then ((f_J0_length_8abf5_1004).bind (fun v2 => (if ((M 2 2) - (M 2 4)) = v2 then ((lp (σ := Int32) (ρ := (Int32) ⊕ (Int32)) (fun x5 => ((f_J0_length_8abf5_1004).bind (fun v6 => (if v6 ≤ x5 then (some (.inr (.inr x5))) else (if am_dbin ((M 2 4) + x5) 160 = true then ((f_J0_charAt_5068e_1004 x5).bind (fun v9 => (if (M 3 ((M 2 4) + x5).toNatClampNeg) = v9 then (some (.inl (x5 + 1))) else (some (.inr (.inl 0)))))) else none))))) lp_F 0).bind (fun os11 => Sum.elim (fun u => (some u)) (fun x12 => (some 1)) os11)) else (some 0)))) else (some 0))
set_option maxRecDepth 20000 in
theorem t_X5_isName_2_1004 {LN : Nat} {xs : Nat → Int32} {M : am_M} {t : Int32} (h : f_X5_isName_2_1004 M = some t) : oo LN xs 0 0 64 0 [some (.ref 2), some (.ref 1004), none] [] M (some (.int t), M) := by
  unfold f_X5_isName_2_1004 at h
  refine o_aload_n k64_0 rfl ?_
  refine o_gf k64_1 (gf_2_3 _) ?_
  refine o_iconst (v := 1) k64_4 (by decide) ?_
  refine o_icmp_ne k64_5 (fun hc1 => ?_) (fun hc1 => ?_)
  · rw [if_neg hc1] at h
    refine o_iconst (v := 0) k64_24 (by decide) ?_
    have h9 := Option.some.inj h
    subst h9
    exact o_iret pj_64 k64_25 rfl (nr_z (by decide))
  · rw [if_pos hc1] at h
    refine o_aload_n k64_8 rfl ?_
    refine o_gf k64_9 (gf_2_2 _) ?_
    refine o_aload_n k64_12 rfl ?_
    refine o_gf k64_13 (gf_2_4 _) ?_
    refine o_isub k64_16 ?_
    refine o_aload_n k64_17 rfl ?_
    refine bd_i h (fun v2 hv2 h => ?_)
    refine o_call k64_18 pj_213 (fun _ => rfl) (by decide) rfl (as := [.ref 1004]) (rest := [.int ((M 2 2) - (M 2 4))]) rfl (L0 := [some (.ref 1004)]) rfl (t_J0_length_8abf5_1004 hv2) ?_
    refine o_icmp_eq k64_21 (fun hc3 => ?_) (fun hc3 => ?_)
    · rw [if_pos hc3] at h
      refine o_iconst (v := 0) k64_26 (by decide) ?_
      refine o_istore_n (v := 0) (L' := [some (.ref 2), some (.ref 1004), some (.int 0)]) k64_27 rfl rfl ?_
      refine bd_i h (fun Os11 hOs11 h => ?_)
      refine lp_o (fun x5 => oo LN xs 0 0 64 28 [some (.ref 2), some (.ref 1004), some (.int x5)] [] M (some (.int t), M)) (fun oq => Sum.elim (fun u => u = t) (fun x12 => oo LN xs 0 0 64 63 [some (.ref 2), some (.ref 1004), some (.int x12)] [] M (some (.int t), M)) oq) ?_ hOs11 ?_
      · rintro x5 ws4 h hK
        show oo LN xs 0 0 64 28 [some (.ref 2), some (.ref 1004), some (.int x5)] [] M (some (.int t), M)
        refine o_iload_n k64_28 rfl ?_
        refine o_aload_n k64_29 rfl ?_
        refine bd_i h (fun v6 hv6 h => ?_)
        refine o_call k64_30 pj_213 (fun _ => rfl) (by decide) rfl (as := [.ref 1004]) (rest := [.int x5]) rfl (L0 := [some (.ref 1004)]) rfl (t_J0_length_8abf5_1004 hv6) ?_
        refine o_icmp_ge k64_33 (fun hc7 => ?_) (fun hc7 => ?_)
        · rw [if_pos hc7] at h
          have h9 := Option.some.inj h
          subst h9
          exact hK
        · rw [if_neg hc7] at h
          refine o_aload_n k64_36 rfl ?_
          refine o_gf k64_37 (gf_2_0 _) ?_
          refine o_aload_n k64_40 rfl ?_
          refine o_gf k64_41 (gf_2_4 _) ?_
          refine o_iload_n k64_44 rfl ?_
          refine o_iadd k64_45 ?_
          obtain ⟨hc8, h⟩ := ck_i h
          refine o_bald k64_46 ba_3 hc8 ?_
          refine o_aload_n k64_47 rfl ?_
          refine o_iload_n k64_48 rfl ?_
          refine bd_i h (fun v9 hv9 h => ?_)
          refine o_call k64_49 pj_214 (fun _ => rfl) (by decide) rfl (as := [.ref 1004, .int x5]) (rest := [.int (M 3 ((M 2 4) + x5).toNatClampNeg)]) rfl (L0 := [some (.ref 1004), some (.int x5)]) rfl (t_J0_charAt_5068e_1004 hv9) ?_
          refine o_icmp_eq k64_52 (fun hc10 => ?_) (fun hc10 => ?_)
          · rw [if_pos hc10] at h
            refine o_iinc (k := 1) (L' := [some (.ref 2), some (.ref 1004), some (.int (x5 + 1))]) k64_57 rfl (by decide) rfl ?_
            refine o_goto k64_60 ?_
            have h9 := Option.some.inj h
            subst h9
            exact hK
          · rw [if_neg hc10] at h
            refine o_iconst (v := 0) k64_55 (by decide) ?_
            have h9 := Option.some.inj h
            subst h9
            have hK2 : 0 = t := hK
            subst hK2
            exact o_iret pj_64 k64_56 rfl (nr_z (by decide))
      · rcases Os11 with u | x12
        · exact Option.some.inj h
        · show oo LN xs 0 0 64 63 [some (.ref 2), some (.ref 1004), some (.int x12)] [] M (some (.int t), M)
          rw [el_r] at h
          refine o_iconst (v := 1) k64_63 (by decide) ?_
          have h9 := Option.some.inj h
          subst h9
          exact o_iret pj_64 k64_64 rfl (nr_z (by decide))
    · rw [if_neg hc3] at h
      refine o_iconst (v := 0) k64_24 (by decide) ?_
      have h9 := Option.some.inj h
      subst h9
      exact o_iret pj_64 k64_25 rfl (nr_z (by decide))
def f_J0_coder_7d493_1005 : Option Int32 := (some 0)
set_option maxRecDepth 20000 in
theorem t_J0_coder_7d493_1005 {LN : Nat} {xs : Nat → Int32} {M : am_M} {t : Int32} (h : f_J0_coder_7d493_1005 = some t) : oo LN xs 0 0 215 0 [some (.ref 1005)] [] M (some (.int t), M) := by
  unfold f_J0_coder_7d493_1005 at h
  refine o_getstatic k215_0 ?_
  refine o_if_eq k215_3 (fun hc => absurd hc (by decide)) (fun _ => ?_)
  refine o_aload_n k215_6 rfl ?_
  refine o_gf (v := .int 0) k215_7 rfl ?_
  refine o_goto k215_10 ?_
  have h9 := Option.some.inj h
  subst h9
  exact o_iret pj_215 k215_14 rfl (nr_b rfl)
def f_J0_length_8abf5_1005 : Option Int32 := ((f_J0_coder_7d493_1005).bind (fun v1 => (some ((4 : Int32) >>> (v1 &&& 31)))))
set_option maxRecDepth 20000 in
theorem t_J0_length_8abf5_1005 {LN : Nat} {xs : Nat → Int32} {M : am_M} {t : Int32} (h : f_J0_length_8abf5_1005 = some t) : oo LN xs 0 0 213 0 [some (.ref 1005)] [] M (some (.int t), M) := by
  unfold f_J0_length_8abf5_1005 at h
  refine o_aload_n k213_0 rfl ?_
  refine o_gf (v := .ref 1105) k213_1 rfl ?_
  refine o_alen (v := 4) k213_4 rfl (by decide) ?_
  refine o_aload_n k213_5 rfl ?_
  refine bd_i h (fun v1 hv1 h => ?_)
  refine o_call k213_6 pj_215 (fun _ => rfl) (by decide) rfl (as := [.ref 1005]) (rest := [.int 4]) rfl (L0 := [some (.ref 1005)]) rfl (t_J0_coder_7d493_1005 hv1) ?_
  refine o_ishr k213_9 ?_
  have h9 := Option.some.inj h
  subst h9
  exact o_iret pj_213 k213_10 rfl nr_i
def f_J0_isLatin1_aae02_1005 : Int32 := 1
set_option maxRecDepth 20000 in
theorem t_J0_isLatin1_aae02_1005 {LN : Nat} {xs : Nat → Int32} {M : am_M} {t : Int32} (h : f_J0_isLatin1_aae02_1005 = t) : oo LN xs 0 0 216 0 [some (.ref 1005)] [] M (some (.int t), M) := by
  unfold f_J0_isLatin1_aae02_1005 at h
  refine o_getstatic k216_0 ?_
  refine o_if_eq k216_3 (fun hc => absurd hc (by decide)) (fun _ => ?_)
  refine o_aload_n k216_6 rfl ?_
  refine o_gf (v := .int 0) k216_7 rfl ?_
  refine o_if_ne k216_10 (fun hc => absurd hc (by decide)) (fun _ => ?_)
  refine o_iconst (v := 1) k216_13 (by decide) ?_
  refine o_goto k216_14 ?_
  subst h
  exact o_iret pj_216 k216_18 rfl (nr_z (by decide))
def f_J1_charAt_3b067_1105 (a0 : Int32) : Option Int32 := ((f_J0_checkIndex_df160 a0 4).bind (fun v1 => (if am_dbin a0 4 = true then (if narrow .char (.int ((((([112, 111, 108, 121] : List Int32).getD a0.toNatClampNeg 0) &&& 255).toUInt32 % 65536).toInt32)) = .int ((((([112, 111, 108, 121] : List Int32).getD a0.toNatClampNeg 0) &&& 255).toUInt32 % 65536).toInt32) then (some ((((([112, 111, 108, 121] : List Int32).getD a0.toNatClampNeg 0) &&& 255).toUInt32 % 65536).toInt32)) else none) else none)))
set_option maxRecDepth 20000 in
theorem t_J1_charAt_3b067_1105 {LN : Nat} {xs : Nat → Int32} {a0 : Int32} {M : am_M} {t : Int32} (h : f_J1_charAt_3b067_1105 a0 = some t) : oo LN xs 0 0 218 0 [some (.ref 1105), some (.int a0)] [] M (some (.int t), M) := by
  unfold f_J1_charAt_3b067_1105 at h
  refine o_iload_n k218_0 rfl ?_
  refine o_aload_n k218_1 rfl ?_
  refine o_alen (v := 4) k218_2 rfl (by decide) ?_
  refine bd_i h (fun v1 hv1 h => ?_)
  refine o_call k218_3 pj_217 (fun _ => rfl) (by decide) rfl (as := [.int a0, .int 4]) (rest := []) rfl (L0 := [some (.int a0), some (.int 4)]) rfl (t_J0_checkIndex_df160 hv1) ?_
  refine o_aload_n k218_6 rfl ?_
  refine o_iload_n k218_7 rfl ?_
  obtain ⟨hc2, h⟩ := ck_i h
  refine o_balS (v := (([112, 111, 108, 121] : List Int32).getD a0.toNatClampNeg 0)) k218_8 (bal_1105 hc2) ?_
  refine o_sipush (v := 255) k218_9 (by decide) ?_
  refine o_iand k218_12 ?_
  refine o_i2c k218_13 ?_
  obtain ⟨hc3, h⟩ := ck_i h
  have h9 := Option.some.inj h
  subst h9
  exact o_iret pj_218 k218_14 rfl (nr_c hc3)
def f_J0_charAt_5068e_1005 (a0 : Int32) : Option Int32 := ((f_J1_charAt_3b067_1105 a0).bind (fun v1 => (if narrow .char (.int v1) = .int v1 then (some v1) else none)))
set_option maxRecDepth 20000 in
theorem t_J0_charAt_5068e_1005 {LN : Nat} {xs : Nat → Int32} {a0 : Int32} {M : am_M} {t : Int32} (h : f_J0_charAt_5068e_1005 a0 = some t) : oo LN xs 0 0 214 0 [some (.ref 1005), some (.int a0)] [] M (some (.int t), M) := by
  unfold f_J0_charAt_5068e_1005 at h
  refine o_aload_n k214_0 rfl ?_
  refine o_call k214_1 pj_216 (fun _ => rfl) (by decide) rfl (as := [.ref 1005]) (rest := []) rfl (L0 := [some (.ref 1005)]) rfl (t_J0_isLatin1_aae02_1005 (M := M) (t := 1) rfl) ?_
  refine o_if_eq k214_4 (fun hc => absurd hc (by decide)) (fun _ => ?_)
  refine o_aload_n k214_7 rfl ?_
  refine o_gf (v := .ref 1105) k214_8 rfl ?_
  refine o_iload_n k214_11 rfl ?_
  refine bd_i h (fun v1 hv1 h => ?_)
  refine o_call k214_12 pj_218 (fun _ => rfl) (by decide) rfl (as := [.ref 1105, .int a0]) (rest := []) rfl (L0 := [some (.ref 1105), some (.int a0)]) rfl (t_J1_charAt_3b067_1105 hv1) ?_
  obtain ⟨hc2, h⟩ := ck_i h
  have h9 := Option.some.inj h
  subst h9
  exact o_iret pj_214 k214_15 rfl (nr_c hc2)
def f_X5_isName_2_1005 (M : am_M) : Option Int32 := (if (M 2 3) = 1 then ((f_J0_length_8abf5_1005).bind (fun v2 => (if ((M 2 2) - (M 2 4)) = v2 then ((lp (σ := Int32) (ρ := (Int32) ⊕ (Int32)) (fun x5 => ((f_J0_length_8abf5_1005).bind (fun v6 => (if v6 ≤ x5 then (some (.inr (.inr x5))) else (if am_dbin ((M 2 4) + x5) 160 = true then ((f_J0_charAt_5068e_1005 x5).bind (fun v9 => (if (M 3 ((M 2 4) + x5).toNatClampNeg) = v9 then (some (.inl (x5 + 1))) else (some (.inr (.inl 0)))))) else none))))) lp_F 0).bind (fun os11 => Sum.elim (fun u => (some u)) (fun x12 => (some 1)) os11)) else (some 0)))) else (some 0))
set_option maxRecDepth 20000 in
theorem t_X5_isName_2_1005 {LN : Nat} {xs : Nat → Int32} {M : am_M} {t : Int32} (h : f_X5_isName_2_1005 M = some t) : oo LN xs 0 0 64 0 [some (.ref 2), some (.ref 1005), none] [] M (some (.int t), M) := by
  unfold f_X5_isName_2_1005 at h
  refine o_aload_n k64_0 rfl ?_
  refine o_gf k64_1 (gf_2_3 _) ?_
  refine o_iconst (v := 1) k64_4 (by decide) ?_
  refine o_icmp_ne k64_5 (fun hc1 => ?_) (fun hc1 => ?_)
  · rw [if_neg hc1] at h
    refine o_iconst (v := 0) k64_24 (by decide) ?_
    have h9 := Option.some.inj h
    subst h9
    exact o_iret pj_64 k64_25 rfl (nr_z (by decide))
  · rw [if_pos hc1] at h
    refine o_aload_n k64_8 rfl ?_
    refine o_gf k64_9 (gf_2_2 _) ?_
    refine o_aload_n k64_12 rfl ?_
    refine o_gf k64_13 (gf_2_4 _) ?_
    refine o_isub k64_16 ?_
    refine o_aload_n k64_17 rfl ?_
    refine bd_i h (fun v2 hv2 h => ?_)
    refine o_call k64_18 pj_213 (fun _ => rfl) (by decide) rfl (as := [.ref 1005]) (rest := [.int ((M 2 2) - (M 2 4))]) rfl (L0 := [some (.ref 1005)]) rfl (t_J0_length_8abf5_1005 hv2) ?_
    refine o_icmp_eq k64_21 (fun hc3 => ?_) (fun hc3 => ?_)
    · rw [if_pos hc3] at h
      refine o_iconst (v := 0) k64_26 (by decide) ?_
      refine o_istore_n (v := 0) (L' := [some (.ref 2), some (.ref 1005), some (.int 0)]) k64_27 rfl rfl ?_
      refine bd_i h (fun Os11 hOs11 h => ?_)
      refine lp_o (fun x5 => oo LN xs 0 0 64 28 [some (.ref 2), some (.ref 1005), some (.int x5)] [] M (some (.int t), M)) (fun oq => Sum.elim (fun u => u = t) (fun x12 => oo LN xs 0 0 64 63 [some (.ref 2), some (.ref 1005), some (.int x12)] [] M (some (.int t), M)) oq) ?_ hOs11 ?_
      · rintro x5 ws4 h hK
        show oo LN xs 0 0 64 28 [some (.ref 2), some (.ref 1005), some (.int x5)] [] M (some (.int t), M)
        refine o_iload_n k64_28 rfl ?_
        refine o_aload_n k64_29 rfl ?_
        refine bd_i h (fun v6 hv6 h => ?_)
        refine o_call k64_30 pj_213 (fun _ => rfl) (by decide) rfl (as := [.ref 1005]) (rest := [.int x5]) rfl (L0 := [some (.ref 1005)]) rfl (t_J0_length_8abf5_1005 hv6) ?_
        refine o_icmp_ge k64_33 (fun hc7 => ?_) (fun hc7 => ?_)
        · rw [if_pos hc7] at h
          have h9 := Option.some.inj h
          subst h9
          exact hK
        · rw [if_neg hc7] at h
          refine o_aload_n k64_36 rfl ?_
          refine o_gf k64_37 (gf_2_0 _) ?_
          refine o_aload_n k64_40 rfl ?_
          refine o_gf k64_41 (gf_2_4 _) ?_
          refine o_iload_n k64_44 rfl ?_
          refine o_iadd k64_45 ?_
          obtain ⟨hc8, h⟩ := ck_i h
          refine o_bald k64_46 ba_3 hc8 ?_
          refine o_aload_n k64_47 rfl ?_
          refine o_iload_n k64_48 rfl ?_
          refine bd_i h (fun v9 hv9 h => ?_)
          refine o_call k64_49 pj_214 (fun _ => rfl) (by decide) rfl (as := [.ref 1005, .int x5]) (rest := [.int (M 3 ((M 2 4) + x5).toNatClampNeg)]) rfl (L0 := [some (.ref 1005), some (.int x5)]) rfl (t_J0_charAt_5068e_1005 hv9) ?_
          refine o_icmp_eq k64_52 (fun hc10 => ?_) (fun hc10 => ?_)
          · rw [if_pos hc10] at h
            refine o_iinc (k := 1) (L' := [some (.ref 2), some (.ref 1005), some (.int (x5 + 1))]) k64_57 rfl (by decide) rfl ?_
            refine o_goto k64_60 ?_
            have h9 := Option.some.inj h
            subst h9
            exact hK
          · rw [if_neg hc10] at h
            refine o_iconst (v := 0) k64_55 (by decide) ?_
            have h9 := Option.some.inj h
            subst h9
            have hK2 : 0 = t := hK
            subst hK2
            exact o_iret pj_64 k64_56 rfl (nr_z (by decide))
      · rcases Os11 with u | x12
        · exact Option.some.inj h
        · show oo LN xs 0 0 64 63 [some (.ref 2), some (.ref 1005), some (.int x12)] [] M (some (.int t), M)
          rw [el_r] at h
          refine o_iconst (v := 1) k64_63 (by decide) ?_
          have h9 := Option.some.inj h
          subst h9
          exact o_iret pj_64 k64_64 rfl (nr_z (by decide))
    · rw [if_neg hc3] at h
      refine o_iconst (v := 0) k64_24 (by decide) ?_
      have h9 := Option.some.inj h
      subst h9
      exact o_iret pj_64 k64_25 rfl (nr_z (by decide))
def f_J0_coder_7d493_1006 : Option Int32 := (some 0)
set_option maxRecDepth 20000 in
theorem t_J0_coder_7d493_1006 {LN : Nat} {xs : Nat → Int32} {M : am_M} {t : Int32} (h : f_J0_coder_7d493_1006 = some t) : oo LN xs 0 0 215 0 [some (.ref 1006)] [] M (some (.int t), M) := by
  unfold f_J0_coder_7d493_1006 at h
  refine o_getstatic k215_0 ?_
  refine o_if_eq k215_3 (fun hc => absurd hc (by decide)) (fun _ => ?_)
  refine o_aload_n k215_6 rfl ?_
  refine o_gf (v := .int 0) k215_7 rfl ?_
  refine o_goto k215_10 ?_
  have h9 := Option.some.inj h
  subst h9
  exact o_iret pj_215 k215_14 rfl (nr_b rfl)
def f_J0_length_8abf5_1006 : Option Int32 := ((f_J0_coder_7d493_1006).bind (fun v1 => (some ((4 : Int32) >>> (v1 &&& 31)))))
set_option maxRecDepth 20000 in
theorem t_J0_length_8abf5_1006 {LN : Nat} {xs : Nat → Int32} {M : am_M} {t : Int32} (h : f_J0_length_8abf5_1006 = some t) : oo LN xs 0 0 213 0 [some (.ref 1006)] [] M (some (.int t), M) := by
  unfold f_J0_length_8abf5_1006 at h
  refine o_aload_n k213_0 rfl ?_
  refine o_gf (v := .ref 1106) k213_1 rfl ?_
  refine o_alen (v := 4) k213_4 rfl (by decide) ?_
  refine o_aload_n k213_5 rfl ?_
  refine bd_i h (fun v1 hv1 h => ?_)
  refine o_call k213_6 pj_215 (fun _ => rfl) (by decide) rfl (as := [.ref 1006]) (rest := [.int 4]) rfl (L0 := [some (.ref 1006)]) rfl (t_J0_coder_7d493_1006 hv1) ?_
  refine o_ishr k213_9 ?_
  have h9 := Option.some.inj h
  subst h9
  exact o_iret pj_213 k213_10 rfl nr_i
def f_J0_isLatin1_aae02_1006 : Int32 := 1
set_option maxRecDepth 20000 in
theorem t_J0_isLatin1_aae02_1006 {LN : Nat} {xs : Nat → Int32} {M : am_M} {t : Int32} (h : f_J0_isLatin1_aae02_1006 = t) : oo LN xs 0 0 216 0 [some (.ref 1006)] [] M (some (.int t), M) := by
  unfold f_J0_isLatin1_aae02_1006 at h
  refine o_getstatic k216_0 ?_
  refine o_if_eq k216_3 (fun hc => absurd hc (by decide)) (fun _ => ?_)
  refine o_aload_n k216_6 rfl ?_
  refine o_gf (v := .int 0) k216_7 rfl ?_
  refine o_if_ne k216_10 (fun hc => absurd hc (by decide)) (fun _ => ?_)
  refine o_iconst (v := 1) k216_13 (by decide) ?_
  refine o_goto k216_14 ?_
  subst h
  exact o_iret pj_216 k216_18 rfl (nr_z (by decide))
def f_J1_charAt_3b067_1106 (a0 : Int32) : Option Int32 := ((f_J0_checkIndex_df160 a0 4).bind (fun v1 => (if am_dbin a0 4 = true then (if narrow .char (.int ((((([99, 101, 108, 108] : List Int32).getD a0.toNatClampNeg 0) &&& 255).toUInt32 % 65536).toInt32)) = .int ((((([99, 101, 108, 108] : List Int32).getD a0.toNatClampNeg 0) &&& 255).toUInt32 % 65536).toInt32) then (some ((((([99, 101, 108, 108] : List Int32).getD a0.toNatClampNeg 0) &&& 255).toUInt32 % 65536).toInt32)) else none) else none)))
set_option maxRecDepth 20000 in
theorem t_J1_charAt_3b067_1106 {LN : Nat} {xs : Nat → Int32} {a0 : Int32} {M : am_M} {t : Int32} (h : f_J1_charAt_3b067_1106 a0 = some t) : oo LN xs 0 0 218 0 [some (.ref 1106), some (.int a0)] [] M (some (.int t), M) := by
  unfold f_J1_charAt_3b067_1106 at h
  refine o_iload_n k218_0 rfl ?_
  refine o_aload_n k218_1 rfl ?_
  refine o_alen (v := 4) k218_2 rfl (by decide) ?_
  refine bd_i h (fun v1 hv1 h => ?_)
  refine o_call k218_3 pj_217 (fun _ => rfl) (by decide) rfl (as := [.int a0, .int 4]) (rest := []) rfl (L0 := [some (.int a0), some (.int 4)]) rfl (t_J0_checkIndex_df160 hv1) ?_
  refine o_aload_n k218_6 rfl ?_
  refine o_iload_n k218_7 rfl ?_
  obtain ⟨hc2, h⟩ := ck_i h
  refine o_balS (v := (([99, 101, 108, 108] : List Int32).getD a0.toNatClampNeg 0)) k218_8 (bal_1106 hc2) ?_
  refine o_sipush (v := 255) k218_9 (by decide) ?_
  refine o_iand k218_12 ?_
  refine o_i2c k218_13 ?_
  obtain ⟨hc3, h⟩ := ck_i h
  have h9 := Option.some.inj h
  subst h9
  exact o_iret pj_218 k218_14 rfl (nr_c hc3)
def f_J0_charAt_5068e_1006 (a0 : Int32) : Option Int32 := ((f_J1_charAt_3b067_1106 a0).bind (fun v1 => (if narrow .char (.int v1) = .int v1 then (some v1) else none)))
set_option maxRecDepth 20000 in
theorem t_J0_charAt_5068e_1006 {LN : Nat} {xs : Nat → Int32} {a0 : Int32} {M : am_M} {t : Int32} (h : f_J0_charAt_5068e_1006 a0 = some t) : oo LN xs 0 0 214 0 [some (.ref 1006), some (.int a0)] [] M (some (.int t), M) := by
  unfold f_J0_charAt_5068e_1006 at h
  refine o_aload_n k214_0 rfl ?_
  refine o_call k214_1 pj_216 (fun _ => rfl) (by decide) rfl (as := [.ref 1006]) (rest := []) rfl (L0 := [some (.ref 1006)]) rfl (t_J0_isLatin1_aae02_1006 (M := M) (t := 1) rfl) ?_
  refine o_if_eq k214_4 (fun hc => absurd hc (by decide)) (fun _ => ?_)
  refine o_aload_n k214_7 rfl ?_
  refine o_gf (v := .ref 1106) k214_8 rfl ?_
  refine o_iload_n k214_11 rfl ?_
  refine bd_i h (fun v1 hv1 h => ?_)
  refine o_call k214_12 pj_218 (fun _ => rfl) (by decide) rfl (as := [.ref 1106, .int a0]) (rest := []) rfl (L0 := [some (.ref 1106), some (.int a0)]) rfl (t_J1_charAt_3b067_1106 hv1) ?_
  obtain ⟨hc2, h⟩ := ck_i h
  have h9 := Option.some.inj h
  subst h9
  exact o_iret pj_214 k214_15 rfl (nr_c hc2)
def f_X5_isName_2_1006 (M : am_M) : Option Int32 := (if (M 2 3) = 1 then ((f_J0_length_8abf5_1006).bind (fun v2 => (if ((M 2 2) - (M 2 4)) = v2 then ((lp (σ := Int32) (ρ := (Int32) ⊕ (Int32)) (fun x5 => ((f_J0_length_8abf5_1006).bind (fun v6 => (if v6 ≤ x5 then (some (.inr (.inr x5))) else (if am_dbin ((M 2 4) + x5) 160 = true then ((f_J0_charAt_5068e_1006 x5).bind (fun v9 => (if (M 3 ((M 2 4) + x5).toNatClampNeg) = v9 then (some (.inl (x5 + 1))) else (some (.inr (.inl 0)))))) else none))))) lp_F 0).bind (fun os11 => Sum.elim (fun u => (some u)) (fun x12 => (some 1)) os11)) else (some 0)))) else (some 0))
set_option maxRecDepth 20000 in
theorem t_X5_isName_2_1006 {LN : Nat} {xs : Nat → Int32} {M : am_M} {t : Int32} (h : f_X5_isName_2_1006 M = some t) : oo LN xs 0 0 64 0 [some (.ref 2), some (.ref 1006), none] [] M (some (.int t), M) := by
  unfold f_X5_isName_2_1006 at h
  refine o_aload_n k64_0 rfl ?_
  refine o_gf k64_1 (gf_2_3 _) ?_
  refine o_iconst (v := 1) k64_4 (by decide) ?_
  refine o_icmp_ne k64_5 (fun hc1 => ?_) (fun hc1 => ?_)
  · rw [if_neg hc1] at h
    refine o_iconst (v := 0) k64_24 (by decide) ?_
    have h9 := Option.some.inj h
    subst h9
    exact o_iret pj_64 k64_25 rfl (nr_z (by decide))
  · rw [if_pos hc1] at h
    refine o_aload_n k64_8 rfl ?_
    refine o_gf k64_9 (gf_2_2 _) ?_
    refine o_aload_n k64_12 rfl ?_
    refine o_gf k64_13 (gf_2_4 _) ?_
    refine o_isub k64_16 ?_
    refine o_aload_n k64_17 rfl ?_
    refine bd_i h (fun v2 hv2 h => ?_)
    refine o_call k64_18 pj_213 (fun _ => rfl) (by decide) rfl (as := [.ref 1006]) (rest := [.int ((M 2 2) - (M 2 4))]) rfl (L0 := [some (.ref 1006)]) rfl (t_J0_length_8abf5_1006 hv2) ?_
    refine o_icmp_eq k64_21 (fun hc3 => ?_) (fun hc3 => ?_)
    · rw [if_pos hc3] at h
      refine o_iconst (v := 0) k64_26 (by decide) ?_
      refine o_istore_n (v := 0) (L' := [some (.ref 2), some (.ref 1006), some (.int 0)]) k64_27 rfl rfl ?_
      refine bd_i h (fun Os11 hOs11 h => ?_)
      refine lp_o (fun x5 => oo LN xs 0 0 64 28 [some (.ref 2), some (.ref 1006), some (.int x5)] [] M (some (.int t), M)) (fun oq => Sum.elim (fun u => u = t) (fun x12 => oo LN xs 0 0 64 63 [some (.ref 2), some (.ref 1006), some (.int x12)] [] M (some (.int t), M)) oq) ?_ hOs11 ?_
      · rintro x5 ws4 h hK
        show oo LN xs 0 0 64 28 [some (.ref 2), some (.ref 1006), some (.int x5)] [] M (some (.int t), M)
        refine o_iload_n k64_28 rfl ?_
        refine o_aload_n k64_29 rfl ?_
        refine bd_i h (fun v6 hv6 h => ?_)
        refine o_call k64_30 pj_213 (fun _ => rfl) (by decide) rfl (as := [.ref 1006]) (rest := [.int x5]) rfl (L0 := [some (.ref 1006)]) rfl (t_J0_length_8abf5_1006 hv6) ?_
        refine o_icmp_ge k64_33 (fun hc7 => ?_) (fun hc7 => ?_)
        · rw [if_pos hc7] at h
          have h9 := Option.some.inj h
          subst h9
          exact hK
        · rw [if_neg hc7] at h
          refine o_aload_n k64_36 rfl ?_
          refine o_gf k64_37 (gf_2_0 _) ?_
          refine o_aload_n k64_40 rfl ?_
          refine o_gf k64_41 (gf_2_4 _) ?_
          refine o_iload_n k64_44 rfl ?_
          refine o_iadd k64_45 ?_
          obtain ⟨hc8, h⟩ := ck_i h
          refine o_bald k64_46 ba_3 hc8 ?_
          refine o_aload_n k64_47 rfl ?_
          refine o_iload_n k64_48 rfl ?_
          refine bd_i h (fun v9 hv9 h => ?_)
          refine o_call k64_49 pj_214 (fun _ => rfl) (by decide) rfl (as := [.ref 1006, .int x5]) (rest := [.int (M 3 ((M 2 4) + x5).toNatClampNeg)]) rfl (L0 := [some (.ref 1006), some (.int x5)]) rfl (t_J0_charAt_5068e_1006 hv9) ?_
          refine o_icmp_eq k64_52 (fun hc10 => ?_) (fun hc10 => ?_)
          · rw [if_pos hc10] at h
            refine o_iinc (k := 1) (L' := [some (.ref 2), some (.ref 1006), some (.int (x5 + 1))]) k64_57 rfl (by decide) rfl ?_
            refine o_goto k64_60 ?_
            have h9 := Option.some.inj h
            subst h9
            exact hK
          · rw [if_neg hc10] at h
            refine o_iconst (v := 0) k64_55 (by decide) ?_
            have h9 := Option.some.inj h
            subst h9
            have hK2 : 0 = t := hK
            subst hK2
            exact o_iret pj_64 k64_56 rfl (nr_z (by decide))
      · rcases Os11 with u | x12
        · exact Option.some.inj h
        · show oo LN xs 0 0 64 63 [some (.ref 2), some (.ref 1006), some (.int x12)] [] M (some (.int t), M)
          rw [el_r] at h
          refine o_iconst (v := 1) k64_63 (by decide) ?_
          have h9 := Option.some.inj h
          subst h9
          exact o_iret pj_64 k64_64 rfl (nr_z (by decide))
    · rw [if_neg hc3] at h
      refine o_iconst (v := 0) k64_24 (by decide) ?_
      have h9 := Option.some.inj h
      subst h9
      exact o_iret pj_64 k64_25 rfl (nr_z (by decide))
def f_X6_lineOfName_1 (M : am_M) : Option Int32 := ((f_X5_isName_2_1001 M).bind (fun v1 => (if v1 = 0 then ((f_X5_isName_2_1002 M).bind (fun v3 => (if v3 = 0 then ((f_X5_isName_2_1003 M).bind (fun v5 => (if v5 = 0 then ((f_X5_isName_2_1004 M).bind (fun v7 => (if v7 = 0 then ((f_X5_isName_2_1005 M).bind (fun v9 => (if v9 = 0 then ((f_X5_isName_2_1006 M).bind (fun v11 => (if v11 = 0 then (some 6) else (some 5)))) else (some 4)))) else (some 3)))) else (some 2)))) else (some 1)))) else (some 0))))
set_option maxRecDepth 20000 in
theorem t_X6_lineOfName_1 {LN : Nat} {xs : Nat → Int32} {M : am_M} {t : Int32} (h : f_X6_lineOfName_1 M = some t) : oo LN xs 0 0 69 0 [some (.ref 1)] [] M (some (.int t), M) := by
  unfold f_X6_lineOfName_1 at h
  refine o_aload_n k69_0 rfl ?_
  refine o_gf k69_1 (gf_1_0 _) ?_
  refine o_ldc k69_4 ?_
  refine bd_i h (fun v1 hv1 h => ?_)
  refine o_call k69_6 pj_64 (fun _ => rfl) (by decide) rfl (as := [.ref 2, .ref 1001]) (rest := []) rfl (L0 := [some (.ref 2), some (.ref 1001), none]) rfl (t_X5_isName_2_1001 hv1) ?_
  refine o_if_eq k69_9 (fun hc2 => ?_) (fun hc2 => ?_)
  · rw [if_pos hc2] at h
    refine o_aload_n k69_14 rfl ?_
    refine o_gf k69_15 (gf_1_0 _) ?_
    refine o_ldc k69_18 ?_
    refine bd_i h (fun v3 hv3 h => ?_)
    refine o_call k69_20 pj_64 (fun _ => rfl) (by decide) rfl (as := [.ref 2, .ref 1002]) (rest := []) rfl (L0 := [some (.ref 2), some (.ref 1002), none]) rfl (t_X5_isName_2_1002 hv3) ?_
    refine o_if_eq k69_23 (fun hc4 => ?_) (fun hc4 => ?_)
    · rw [if_pos hc4] at h
      refine o_aload_n k69_28 rfl ?_
      refine o_gf k69_29 (gf_1_0 _) ?_
      refine o_ldc k69_32 ?_
      refine bd_i h (fun v5 hv5 h => ?_)
      refine o_call k69_34 pj_64 (fun _ => rfl) (by decide) rfl (as := [.ref 2, .ref 1003]) (rest := []) rfl (L0 := [some (.ref 2), some (.ref 1003), none]) rfl (t_X5_isName_2_1003 hv5) ?_
      refine o_if_eq k69_37 (fun hc6 => ?_) (fun hc6 => ?_)
      · rw [if_pos hc6] at h
        refine o_aload_n k69_42 rfl ?_
        refine o_gf k69_43 (gf_1_0 _) ?_
        refine o_ldc k69_46 ?_
        refine bd_i h (fun v7 hv7 h => ?_)
        refine o_call k69_48 pj_64 (fun _ => rfl) (by decide) rfl (as := [.ref 2, .ref 1004]) (rest := []) rfl (L0 := [some (.ref 2), some (.ref 1004), none]) rfl (t_X5_isName_2_1004 hv7) ?_
        refine o_if_eq k69_51 (fun hc8 => ?_) (fun hc8 => ?_)
        · rw [if_pos hc8] at h
          refine o_aload_n k69_56 rfl ?_
          refine o_gf k69_57 (gf_1_0 _) ?_
          refine o_ldc k69_60 ?_
          refine bd_i h (fun v9 hv9 h => ?_)
          refine o_call k69_62 pj_64 (fun _ => rfl) (by decide) rfl (as := [.ref 2, .ref 1005]) (rest := []) rfl (L0 := [some (.ref 2), some (.ref 1005), none]) rfl (t_X5_isName_2_1005 hv9) ?_
          refine o_if_eq k69_65 (fun hc10 => ?_) (fun hc10 => ?_)
          · rw [if_pos hc10] at h
            refine o_aload_n k69_70 rfl ?_
            refine o_gf k69_71 (gf_1_0 _) ?_
            refine o_ldc k69_74 ?_
            refine bd_i h (fun v11 hv11 h => ?_)
            refine o_call k69_76 pj_64 (fun _ => rfl) (by decide) rfl (as := [.ref 2, .ref 1006]) (rest := []) rfl (L0 := [some (.ref 2), some (.ref 1006), none]) rfl (t_X5_isName_2_1006 hv11) ?_
            refine o_if_eq k69_79 (fun hc12 => ?_) (fun hc12 => ?_)
            · rw [if_pos hc12] at h
              refine o_bipush (v := 6) k69_86 (by decide) ?_
              have h9 := Option.some.inj h
              subst h9
              exact o_iret pj_69 k69_88 rfl nr_i
            · rw [if_neg hc12] at h
              refine o_iconst (v := 5) k69_82 (by decide) ?_
              refine o_goto k69_83 ?_
              have h9 := Option.some.inj h
              subst h9
              exact o_iret pj_69 k69_88 rfl nr_i
          · rw [if_neg hc10] at h
            refine o_iconst (v := 4) k69_68 (by decide) ?_
            have h9 := Option.some.inj h
            subst h9
            exact o_iret pj_69 k69_69 rfl nr_i
        · rw [if_neg hc8] at h
          refine o_iconst (v := 3) k69_54 (by decide) ?_
          have h9 := Option.some.inj h
          subst h9
          exact o_iret pj_69 k69_55 rfl nr_i
      · rw [if_neg hc6] at h
        refine o_iconst (v := 2) k69_40 (by decide) ?_
        have h9 := Option.some.inj h
        subst h9
        exact o_iret pj_69 k69_41 rfl nr_i
    · rw [if_neg hc4] at h
      refine o_iconst (v := 1) k69_26 (by decide) ?_
      have h9 := Option.some.inj h
      subst h9
      exact o_iret pj_69 k69_27 rfl nr_i
  · rw [if_neg hc2] at h
    refine o_iconst (v := 0) k69_12 (by decide) ?_
    have h9 := Option.some.inj h
    subst h9
    exact o_iret pj_69 k69_13 rfl nr_i
def f_X6_leastNumbers (a0 : Int32) : Int32 := (if a0 = 1 then 2 else (if a0 = 2 then 1 else (if a0 = 3 then 2 else (if a0 = 4 then 1 else 3))))
set_option maxRecDepth 20000 in
theorem t_X6_leastNumbers {LN : Nat} {xs : Nat → Int32} {a0 : Int32} {M : am_M} {t : Int32} (h : f_X6_leastNumbers a0 = t) : oo LN xs 0 0 71 0 [some (.int a0)] [] M (some (.int t), M) := by
  unfold f_X6_leastNumbers at h
  refine o_iload_n k71_0 rfl ?_
  by_cases hx1_1 : a0 = 1
  · rw [if_pos hx1_1] at h
    refine o_tswI (tgt := 32) (off := 31) k71_1 (by rw [hx1_1]; decide) (by rw [hx1_1]; decide) (by rw [hx1_1]; decide) (by decide) ?_
    refine o_iconst (v := 2) k71_32 (by decide) ?_
    subst h
    exact o_iret pj_71 k71_33 rfl nr_i
  rw [if_neg hx1_1] at h
  by_cases hx1_2 : a0 = 2
  · rw [if_pos hx1_2] at h
    refine o_tswI (tgt := 34) (off := 33) k71_1 (by rw [hx1_2]; decide) (by rw [hx1_2]; decide) (by rw [hx1_2]; decide) (by decide) ?_
    refine o_iconst (v := 1) k71_34 (by decide) ?_
    subst h
    exact o_iret pj_71 k71_35 rfl nr_i
  rw [if_neg hx1_2] at h
  by_cases hx1_3 : a0 = 3
  · rw [if_pos hx1_3] at h
    refine o_tswI (tgt := 32) (off := 31) k71_1 (by rw [hx1_3]; decide) (by rw [hx1_3]; decide) (by rw [hx1_3]; decide) (by decide) ?_
    refine o_iconst (v := 2) k71_32 (by decide) ?_
    subst h
    exact o_iret pj_71 k71_33 rfl nr_i
  rw [if_neg hx1_3] at h
  by_cases hx1_4 : a0 = 4
  · rw [if_pos hx1_4] at h
    refine o_tswI (tgt := 34) (off := 33) k71_1 (by rw [hx1_4]; decide) (by rw [hx1_4]; decide) (by rw [hx1_4]; decide) (by decide) ?_
    refine o_iconst (v := 1) k71_34 (by decide) ?_
    subst h
    exact o_iret pj_71 k71_35 rfl nr_i
  rw [if_neg hx1_4] at h
  refine o_tswD (tgt := 36) k71_1 (by have n0 := ne_lit (k := 1) 1 (by decide) hx1_1; have n1 := ne_lit (k := 2) 2 (by decide) hx1_2; have n2 := ne_lit (k := 3) 3 (by decide) hx1_3; have n3 := ne_lit (k := 4) 4 (by decide) hx1_4; omega) (by decide) ?_
  refine o_iconst (v := 3) k71_36 (by decide) ?_
  subst h
  exact o_iret pj_71 k71_37 rfl nr_i
def f_X6_lowest (a0 : Int32) (a1 : Int32) : Int32 := (if a0 = 0 then 1 else (if a0 = 3 then (if a1 = 0 then 1 else 0) else 0))
set_option maxRecDepth 20000 in
theorem t_X6_lowest {LN : Nat} {xs : Nat → Int32} {a0 : Int32} {a1 : Int32} {M : am_M} {t : Int32} (h : f_X6_lowest a0 a1 = t) : oo LN xs 0 0 72 0 [some (.int a0), some (.int a1)] [] M (some (.int t), M) := by
  unfold f_X6_lowest at h
  refine o_iload_n k72_0 rfl ?_
  refine o_if_eq k72_1 (fun hc1 => ?_) (fun hc1 => ?_)
  · rw [if_pos hc1] at h
    refine o_iconst (v := 1) k72_13 (by decide) ?_
    refine o_goto k72_14 ?_
    subst h
    exact o_iret pj_72 k72_18 rfl nr_i
  · rw [if_neg hc1] at h
    refine o_iload_n k72_4 rfl ?_
    refine o_iconst (v := 3) k72_5 (by decide) ?_
    refine o_icmp_ne k72_6 (fun hc2 => ?_) (fun hc2 => ?_)
    · rw [if_neg hc2] at h
      refine o_iconst (v := 0) k72_17 (by decide) ?_
      subst h
      exact o_iret pj_72 k72_18 rfl nr_i
    · rw [if_pos hc2] at h
      refine o_iload_n k72_9 rfl ?_
      refine o_if_ne k72_10 (fun hc3 => ?_) (fun hc3 => ?_)
      · rw [if_neg hc3] at h
        refine o_iconst (v := 0) k72_17 (by decide) ?_
        subst h
        exact o_iret pj_72 k72_18 rfl nr_i
      · rw [if_pos hc3] at h
        refine o_iconst (v := 1) k72_13 (by decide) ?_
        refine o_goto k72_14 ?_
        subst h
        exact o_iret pj_72 k72_18 rfl nr_i
def f_X6_refuse_1 (a0 : Int32) (M : am_M) : Option am_M := (if (M 2 3) = 0 then (bl (am_up M 1 2 1) (fun (M4 : am_M) => (bl (am_up M4 1 3 (M4 2 4)) (fun (M5 : am_M) => (some M5))))) else (bl (am_up M 1 2 a0) (fun (M2 : am_M) => (bl (am_up M2 1 3 (M2 2 4)) (fun (M3 : am_M) => (some M3))))))
set_option maxRecDepth 20000 in
theorem t_X6_refuse_1 {LN : Nat} {xs : Nat → Int32} {a0 : Int32} {M : am_M} {t : am_M} (h : f_X6_refuse_1 a0 M = some t) : oo LN xs 0 0 67 0 [some (.ref 1), some (.int a0)] [] M (none, t) := by
  unfold f_X6_refuse_1 at h
  refine o_aload_n k67_0 rfl ?_
  refine o_aload_n k67_1 rfl ?_
  refine o_gf k67_2 (gf_1_0 _) ?_
  refine o_gf k67_5 (gf_2_3 _) ?_
  refine o_if_ne k67_8 (fun hc1 => ?_) (fun hc1 => ?_)
  · rw [if_neg hc1] at h
    refine o_iload_n k67_15 rfl ?_
    refine bl_i h (fun M2 eM2 h => ?_)
    refine o_pf (M' := M2) k67_16 (pf_1_2 eM2) ?_
    refine o_aload_n k67_19 rfl ?_
    refine o_aload_n k67_20 rfl ?_
    refine o_gf k67_21 (gf_1_0 _) ?_
    refine o_gf k67_24 (gf_2_4 _) ?_
    refine bl_i h (fun M3 eM3 h => ?_)
    refine o_pf (M' := M3) k67_27 (pf_1_3 eM3) ?_
    have h9 := Option.some.inj h
    subst h9
    exact o_vret pj_67 k67_30 rfl
  · rw [if_pos hc1] at h
    refine o_iconst (v := 1) k67_11 (by decide) ?_
    refine o_goto k67_12 ?_
    refine bl_i h (fun M4 eM4 h => ?_)
    refine o_pf (M' := M4) k67_16 (pf_1_2 eM4) ?_
    refine o_aload_n k67_19 rfl ?_
    refine o_aload_n k67_20 rfl ?_
    refine o_gf k67_21 (gf_1_0 _) ?_
    refine o_gf k67_24 (gf_2_4 _) ?_
    refine bl_i h (fun M5 eM5 h => ?_)
    refine o_pf (M' := M5) k67_27 (pf_1_3 eM5) ?_
    have h9 := Option.some.inj h
    subst h9
    exact o_vret pj_67 k67_30 rfl
def f_X6_highest (a0 : Int32) (a1 : Int32) : Int32 := (if a0 = 0 then 8 else (if a0 = 1 then 7 else (if a0 = 2 then 7 else (if a0 = 3 then (if a1 = 0 then 12 else 4095) else (if a0 = 4 then 255 else (if a0 = 5 then (if a1 = 2 then 2 else 7) else 7))))))
set_option maxRecDepth 20000 in
theorem t_X6_highest {LN : Nat} {xs : Nat → Int32} {a0 : Int32} {a1 : Int32} {M : am_M} {t : Int32} (h : f_X6_highest a0 a1 = t) : oo LN xs 0 0 73 0 [some (.int a0), some (.int a1)] [] M (some (.int t), M) := by
  unfold f_X6_highest at h
  refine o_iload_n k73_0 rfl ?_
  by_cases hx1_0 : a0 = 0
  · rw [if_pos hx1_0] at h
    refine o_tswI (tgt := 40) (off := 39) k73_1 (by rw [hx1_0]; decide) (by rw [hx1_0]; decide) (by rw [hx1_0]; decide) (by decide) ?_
    refine o_bipush (v := 8) k73_40 (by decide) ?_
    subst h
    exact o_iret pj_73 k73_42 rfl nr_i
  rw [if_neg hx1_0] at h
  by_cases hx1_1 : a0 = 1
  · rw [if_pos hx1_1] at h
    refine o_tswI (tgt := 72) (off := 71) k73_1 (by rw [hx1_1]; decide) (by rw [hx1_1]; decide) (by rw [hx1_1]; decide) (by decide) ?_
    refine o_bipush (v := 7) k73_72 (by decide) ?_
    subst h
    exact o_iret pj_73 k73_74 rfl nr_i
  rw [if_neg hx1_1] at h
  by_cases hx1_2 : a0 = 2
  · rw [if_pos hx1_2] at h
    refine o_tswI (tgt := 72) (off := 71) k73_1 (by rw [hx1_2]; decide) (by rw [hx1_2]; decide) (by rw [hx1_2]; decide) (by decide) ?_
    refine o_bipush (v := 7) k73_72 (by decide) ?_
    subst h
    exact o_iret pj_73 k73_74 rfl nr_i
  rw [if_neg hx1_2] at h
  by_cases hx1_3 : a0 = 3
  · rw [if_pos hx1_3] at h
    refine o_tswI (tgt := 43) (off := 42) k73_1 (by rw [hx1_3]; decide) (by rw [hx1_3]; decide) (by rw [hx1_3]; decide) (by decide) ?_
    refine o_iload_n k73_43 rfl ?_
    refine o_if_ne k73_44 (fun hc1 => ?_) (fun hc1 => ?_)
    · rw [if_neg hc1] at h
      refine o_sipush (v := 4095) k73_52 (by decide) ?_
      subst h
      exact o_iret pj_73 k73_55 rfl nr_i
    · rw [if_pos hc1] at h
      refine o_bipush (v := 12) k73_47 (by decide) ?_
      refine o_goto k73_49 ?_
      subst h
      exact o_iret pj_73 k73_55 rfl nr_i
  rw [if_neg hx1_3] at h
  by_cases hx1_4 : a0 = 4
  · rw [if_pos hx1_4] at h
    refine o_tswI (tgt := 56) (off := 55) k73_1 (by rw [hx1_4]; decide) (by rw [hx1_4]; decide) (by rw [hx1_4]; decide) (by decide) ?_
    refine o_sipush (v := 255) k73_56 (by decide) ?_
    subst h
    exact o_iret pj_73 k73_59 rfl nr_i
  rw [if_neg hx1_4] at h
  by_cases hx1_5 : a0 = 5
  · rw [if_pos hx1_5] at h
    refine o_tswI (tgt := 60) (off := 59) k73_1 (by rw [hx1_5]; decide) (by rw [hx1_5]; decide) (by rw [hx1_5]; decide) (by decide) ?_
    refine o_iload_n k73_60 rfl ?_
    refine o_iconst (v := 2) k73_61 (by decide) ?_
    refine o_icmp_ne k73_62 (fun hc2 => ?_) (fun hc2 => ?_)
    · rw [if_neg hc2] at h
      refine o_bipush (v := 7) k73_69 (by decide) ?_
      subst h
      exact o_iret pj_73 k73_71 rfl nr_i
    · rw [if_pos hc2] at h
      refine o_iconst (v := 2) k73_65 (by decide) ?_
      refine o_goto k73_66 ?_
      subst h
      exact o_iret pj_73 k73_71 rfl nr_i
  rw [if_neg hx1_5] at h
  refine o_tswD (tgt := 72) k73_1 (by have n0 := ne_lit (k := 0) 0 (by decide) hx1_0; have n1 := ne_lit (k := 1) 1 (by decide) hx1_1; have n2 := ne_lit (k := 2) 2 (by decide) hx1_2; have n3 := ne_lit (k := 3) 3 (by decide) hx1_3; have n4 := ne_lit (k := 4) 4 (by decide) hx1_4; have n5 := ne_lit (k := 5) 5 (by decide) hx1_5; omega) (by decide) ?_
  refine o_bipush (v := 7) k73_72 (by decide) ?_
  subst h
  exact o_iret pj_73 k73_74 rfl nr_i
def f_X6_tellChain_1 (a0 : Int32) (M : am_M) : Option am_M := (bl (am_up M 1 7 (imax (M 1 7) (a0 + 1))) (fun (M1 : am_M) => (bl (am_up M1 1 5 a0) (fun (M2 : am_M) => (some M2)))))
set_option maxRecDepth 20000 in
theorem t_X6_tellChain_1 {LN : Nat} {xs : Nat → Int32} {a0 : Int32} {M : am_M} {t : am_M} (h : f_X6_tellChain_1 a0 M = some t) : oo LN xs 0 0 75 0 [some (.ref 1), some (.int a0)] [] M (none, t) := by
  unfold f_X6_tellChain_1 at h
  refine o_aload_n k75_0 rfl ?_
  refine o_aload_n k75_1 rfl ?_
  refine o_gf k75_2 (gf_1_7 _) ?_
  refine o_iload_n k75_5 rfl ?_
  refine o_iconst (v := 1) k75_6 (by decide) ?_
  refine o_iadd k75_7 ?_
  refine o_max k75_8 (by decide) ?_
  refine bl_i h (fun M1 eM1 h => ?_)
  refine o_pf (M' := M1) k75_11 (pf_1_7 eM1) ?_
  refine o_aload_n k75_14 rfl ?_
  refine o_iload_n k75_15 rfl ?_
  refine bl_i h (fun M2 eM2 h => ?_)
  refine o_pf (M' := M2) k75_16 (pf_1_5 eM2) ?_
  have h9 := Option.some.inj h
  subst h9
  exact o_vret pj_75 k75_19 rfl
def f_X6_tellChip_1 (a0 : Int32) (a1 : Int32) (M : am_M) : Option am_M := (if a0 = 0 then (bl (am_up M 4 0 a1) (fun (M1 : am_M) => (some M1))) else (if a0 = 1 then (bl (am_up M 4 1 a1) (fun (M2 : am_M) => (some M2))) else (bl (am_up M 4 2 a1) (fun (M3 : am_M) => (some M3)))))
set_option maxRecDepth 20000 in
theorem t_X6_tellChip_1 {LN : Nat} {xs : Nat → Int32} {a0 : Int32} {a1 : Int32} {M : am_M} {t : am_M} (h : f_X6_tellChip_1 a0 a1 M = some t) : oo LN xs 0 0 76 0 [some (.ref 1), some (.int a0), some (.int a1)] [] M (none, t) := by
  unfold f_X6_tellChip_1 at h
  refine o_iload_n k76_0 rfl ?_
  by_cases hx1_0 : a0 = 0
  · rw [if_pos hx1_0] at h
    refine o_lsw (tgt := 28) (off := 27) k76_1 (by rw [hx1_0]; decide) (by decide) ?_
    refine o_aload_n k76_28 rfl ?_
    refine o_gf k76_29 (gf_1_1 _) ?_
    refine o_iload_n k76_32 rfl ?_
    refine bl_i h (fun M1 eM1 h => ?_)
    refine o_pf (M' := M1) k76_33 (pf_4_0 eM1) ?_
    refine o_goto k76_36 ?_
    have h9 := Option.some.inj h
    subst h9
    exact o_vret pj_76 k76_58 rfl
  rw [if_neg hx1_0] at h
  by_cases hx1_1 : a0 = 1
  · rw [if_pos hx1_1] at h
    refine o_lsw (tgt := 39) (off := 38) k76_1 (by rw [hx1_1]; decide) (by decide) ?_
    refine o_aload_n k76_39 rfl ?_
    refine o_gf k76_40 (gf_1_1 _) ?_
    refine o_iload_n k76_43 rfl ?_
    refine bl_i h (fun M2 eM2 h => ?_)
    refine o_pf (M' := M2) k76_44 (pf_4_1 eM2) ?_
    refine o_goto k76_47 ?_
    have h9 := Option.some.inj h
    subst h9
    exact o_vret pj_76 k76_58 rfl
  rw [if_neg hx1_1] at h
  refine o_lsw (tgt := 50) (off := 49) k76_1 (by have n0 := ne_lit (k := 0) 0 (by decide) hx1_0; have n1 := ne_lit (k := 1) 1 (by decide) hx1_1; simp [Op.lookupswitch.offset, n0, Ne.symm n0, n1, Ne.symm n1]) (by decide) ?_
  refine o_aload_n k76_50 rfl ?_
  refine o_gf k76_51 (gf_1_1 _) ?_
  refine o_iload_n k76_54 rfl ?_
  refine bl_i h (fun M3 eM3 h => ?_)
  refine o_pf (M' := M3) k76_55 (pf_4_2 eM3) ?_
  have h9 := Option.some.inj h
  subst h9
  exact o_vret pj_76 k76_58 rfl
def f_X6_tellColumn_1 (a0 : Int32) (a1 : Int32) (M : am_M) : Option am_M := (if a0 ≤ 0 then (some M) else (bl (am_up M 1 9 (imax (M 1 9) (a1 + 1))) (fun (M2 : am_M) => (if am_dbin (M2 1 5) 8 = true then (if am_dbin (M2 1 5) 8 = true then (bl (am_up M2 7 (M2 1 5).toNatClampNeg ((M2 7 (M2 1 5).toNatClampNeg) ||| ((1 : Int32) <<< (a1 &&& 31)))) (fun (M5 : am_M) => (some M5))) else none) else none))))
set_option maxRecDepth 20000 in
theorem t_X6_tellColumn_1 {LN : Nat} {xs : Nat → Int32} {a0 : Int32} {a1 : Int32} {M : am_M} {t : am_M} (h : f_X6_tellColumn_1 a0 a1 M = some t) : oo LN xs 0 0 77 0 [some (.ref 1), some (.int a0), some (.int a1)] [] M (none, t) := by
  unfold f_X6_tellColumn_1 at h
  refine o_iload_n k77_0 rfl ?_
  refine o_if_le k77_1 (fun hc1 => ?_) (fun hc1 => ?_)
  · rw [if_pos hc1] at h
    have h9 := Option.some.inj h
    subst h9
    exact o_vret pj_77 k77_36 rfl
  · rw [if_neg hc1] at h
    refine o_aload_n k77_4 rfl ?_
    refine o_aload_n k77_5 rfl ?_
    refine o_gf k77_6 (gf_1_9 _) ?_
    refine o_iload_n k77_9 rfl ?_
    refine o_iconst (v := 1) k77_10 (by decide) ?_
    refine o_iadd k77_11 ?_
    refine o_max k77_12 (by decide) ?_
    refine bl_i h (fun M2 eM2 h => ?_)
    refine o_pf (M' := M2) k77_15 (pf_1_9 eM2) ?_
    refine o_aload_n k77_18 rfl ?_
    refine o_gf k77_19 (gf_1_1 _) ?_
    refine o_gf k77_22 (gf_4_9 _) ?_
    refine o_aload_n k77_25 rfl ?_
    refine o_gf k77_26 (gf_1_5 _) ?_
    refine o_dup2 k77_29 ?_
    obtain ⟨hc3, h⟩ := ck_i h
    refine o_iald k77_30 rfl ia_7 hc3 ?_
    refine o_iconst (v := 1) k77_31 (by decide) ?_
    refine o_iload_n k77_32 rfl ?_
    refine o_ishl k77_33 ?_
    refine o_ior k77_34 ?_
    obtain ⟨hc4, h⟩ := ck_i h
    refine bl_i h (fun M5 eM5 h => ?_)
    refine o_iast (M' := M5) k77_35 eM5 ia_7 hc4 ?_
    have h9 := Option.some.inj h
    subst h9
    exact o_vret pj_77 k77_36 rfl
