/-! FUNCTIONS, on -/
def f_X6_tellRegister_1 (a0 : Int32) (a1 : Int32) (M : am_M) : Option am_M := (if a0 = 0 then (bl (am_up M 4 4 a1) (fun (M3 : am_M) => (some M3))) else (bl (am_up M 4 5 a1) (fun (M2 : am_M) => (some M2))))
set_option maxRecDepth 20000 in
theorem t_X6_tellRegister_1 {LN : Nat} {xs : Nat → Int32} {a0 : Int32} {a1 : Int32} {M : am_M} {t : am_M} (h : f_X6_tellRegister_1 a0 a1 M = some t) : oo LN xs 0 0 78 0 [some (.ref 1), some (.int a0), some (.int a1)] [] M (none, t) := by
  unfold f_X6_tellRegister_1 at h
  refine o_iload_n k78_0 rfl ?_
  refine o_if_ne k78_1 (fun hc1 => ?_) (fun hc1 => ?_)
  · rw [if_neg hc1] at h
    refine o_aload_n k78_15 rfl ?_
    refine o_gf k78_16 (gf_1_1 _) ?_
    refine o_iload_n k78_19 rfl ?_
    refine bl_i h (fun M2 eM2 h => ?_)
    refine o_pf (M' := M2) k78_20 (pf_4_5 eM2) ?_
    have h9 := Option.some.inj h
    subst h9
    exact o_vret pj_78 k78_23 rfl
  · rw [if_pos hc1] at h
    refine o_aload_n k78_4 rfl ?_
    refine o_gf k78_5 (gf_1_1 _) ?_
    refine o_iload_n k78_8 rfl ?_
    refine bl_i h (fun M3 eM3 h => ?_)
    refine o_pf (M' := M3) k78_9 (pf_4_4 eM3) ?_
    refine o_goto k78_12 ?_
    have h9 := Option.some.inj h
    subst h9
    exact o_vret pj_78 k78_23 rfl
def f_X0_at (a0 : Int32) (a1 : Int32) : Int32 := (((8 : Int32) * a0) + a1)
set_option maxRecDepth 20000 in
theorem t_X0_at {LN : Nat} {xs : Nat → Int32} {a0 : Int32} {a1 : Int32} {M : am_M} {t : Int32} (h : f_X0_at a0 a1 = t) : oo LN xs 0 0 5 0 [some (.int a0), some (.int a1)] [] M (some (.int t), M) := by
  unfold f_X0_at at h
  refine o_bipush (v := 8) k5_0 (by decide) ?_
  refine o_iload_n k5_2 rfl ?_
  refine o_imul k5_3 ?_
  refine o_iload_n k5_4 rfl ?_
  refine o_iadd k5_5 ?_
  subst h
  exact o_iret pj_5 k5_6 rfl nr_i
def f_X6_tellCell_1 (a0 : Int32) (a1 : Int32) (M : am_M) : Option am_M := (if a0 = 1 then (bl (am_up M 1 8 (imax (M 1 8) (a1 + 1))) (fun (M5 : am_M) => (bl (am_up M5 1 6 a1) (fun (M6 : am_M) => (some M6))))) else (if a0 = 2 then (if am_dbin (f_X0_at (M 1 5) (M 1 6)) 64 = true then (bl (am_up M 5 (f_X0_at (M 1 5) (M 1 6)).toNatClampNeg a1) (fun (M4 : am_M) => (some M4))) else none) else (some M)))
set_option maxRecDepth 20000 in
theorem t_X6_tellCell_1 {LN : Nat} {xs : Nat → Int32} {a0 : Int32} {a1 : Int32} {M : am_M} {t : am_M} (h : f_X6_tellCell_1 a0 a1 M = some t) : oo LN xs 0 0 79 0 [some (.ref 1), some (.int a0), some (.int a1)] [] M (none, t) := by
  unfold f_X6_tellCell_1 at h
  refine o_iload_n k79_0 rfl ?_
  refine o_iconst (v := 1) k79_1 (by decide) ?_
  refine o_icmp_ne k79_2 (fun hc1 => ?_) (fun hc1 => ?_)
  · rw [if_neg hc1] at h
    refine o_iload_n k79_27 rfl ?_
    refine o_iconst (v := 2) k79_28 (by decide) ?_
    refine o_icmp_ne k79_29 (fun hc2 => ?_) (fun hc2 => ?_)
    · rw [if_neg hc2] at h
      have h9 := Option.some.inj h
      subst h9
      exact o_vret pj_79 k79_52 rfl
    · rw [if_pos hc2] at h
      refine o_aload_n k79_32 rfl ?_
      refine o_gf k79_33 (gf_1_1 _) ?_
      refine o_gf k79_36 (gf_4_7 _) ?_
      refine o_aload_n k79_39 rfl ?_
      refine o_gf k79_40 (gf_1_5 _) ?_
      refine o_aload_n k79_43 rfl ?_
      refine o_gf k79_44 (gf_1_6 _) ?_
      refine o_call k79_47 pj_5 (fun _ => rfl) (by decide) rfl (as := [.int (M 1 5), .int (M 1 6)]) (rest := [.ref 5]) rfl (L0 := [some (.int (M 1 5)), some (.int (M 1 6))]) rfl (t_X0_at (M := M) (a0 := (M 1 5)) (a1 := (M 1 6)) rfl) ?_
      refine o_iload_n k79_50 rfl ?_
      obtain ⟨hc3, h⟩ := ck_i h
      refine bl_i h (fun M4 eM4 h => ?_)
      refine o_iast (M' := M4) k79_51 eM4 ia_5 hc3 ?_
      have h9 := Option.some.inj h
      subst h9
      exact o_vret pj_79 k79_52 rfl
  · rw [if_pos hc1] at h
    refine o_aload_n k79_5 rfl ?_
    refine o_aload_n k79_6 rfl ?_
    refine o_gf k79_7 (gf_1_8 _) ?_
    refine o_iload_n k79_10 rfl ?_
    refine o_iconst (v := 1) k79_11 (by decide) ?_
    refine o_iadd k79_12 ?_
    refine o_max k79_13 (by decide) ?_
    refine bl_i h (fun M5 eM5 h => ?_)
    refine o_pf (M' := M5) k79_16 (pf_1_8 eM5) ?_
    refine o_aload_n k79_19 rfl ?_
    refine o_iload_n k79_20 rfl ?_
    refine bl_i h (fun M6 eM6 h => ?_)
    refine o_pf (M' := M6) k79_21 (pf_1_6 eM6) ?_
    refine o_goto k79_24 ?_
    have h9 := Option.some.inj h
    subst h9
    exact o_vret pj_79 k79_52 rfl
def f_X6_tell_1 (a0 : Int32) (a1 : Int32) (a2 : Int32) (M : am_M) : Option am_M := (bl (fun (M8 : am_M) => ((if a0 = 0 then ((f_X6_tellChip_1 a1 a2 M8).bind (fun q9 => (some q9))) else (if a0 = 1 then ((f_X6_tellColumn_1 a1 a2 M8).bind (fun q10 => (some q10))) else (if a0 = 2 then (bl (am_up M8 4 3 ((M8 4 3) ||| ((1 : Int32) <<< (a2 &&& 31)))) (fun (M11 : am_M) => (some M11))) else (if a0 = 3 then ((f_X6_tellRegister_1 a1 a2 M8).bind (fun q12 => (some q12))) else (if a0 = 4 then (bl (am_up M8 4 6 a2) (fun (M13 : am_M) => (some M13))) else ((f_X6_tellCell_1 a1 a2 M8).bind (fun q14 => (some q14)))))))) : Option am_M)) (fun (j15 : am_M → Option am_M) => (if a0 = 2 then ((f_X6_tellChain_1 a2 M).bind (fun q2 => (j15 q2))) else (if a1 = 0 then (if a0 = 1 then ((f_X6_tellChain_1 a2 M).bind (fun q5 => (j15 q5))) else (if a0 = 5 then ((f_X6_tellChain_1 a2 M).bind (fun q7 => (j15 q7))) else (j15 M))) else (j15 M)))))
set_option maxRecDepth 20000 in
theorem t_X6_tell_1 {LN : Nat} {xs : Nat → Int32} {a0 : Int32} {a1 : Int32} {a2 : Int32} {M : am_M} {t : am_M} (h : f_X6_tell_1 a0 a1 a2 M = some t) : oo LN xs 0 0 74 0 [some (.ref 1), some (.int a0), some (.int a1), some (.int a2)] [] M (none, t) := by
  unfold f_X6_tell_1 at h
  refine o_iload_n k74_0 rfl ?_
  refine o_iconst (v := 2) k74_1 (by decide) ?_
  refine bl_i h (fun j15 ej15 h => ?_)
  have hJ24 : ∀ (M8 : am_M), j15 M8 = some t → oo LN xs 0 0 74 24 [some (.ref 1), some (.int a0), some (.int a1), some (.int a2)] [] M8 (none, t) := by
    intro M8 h
    rw [ej15] at h
    dsimp only at h
    refine o_iload_n k74_24 rfl ?_
    by_cases hx25_0 : a0 = 0
    · rw [if_pos hx25_0] at h
      refine o_tswI (tgt := 60) (off := 35) k74_25 (by rw [hx25_0]; decide) (by rw [hx25_0]; decide) (by rw [hx25_0]; decide) (by decide) ?_
      refine o_aload_n k74_60 rfl ?_
      refine o_iload_n k74_61 rfl ?_
      refine o_iload_n k74_62 rfl ?_
      refine bd_i h (fun q9 hq9 h => ?_)
      refine o_call k74_63 pj_76 (fun _ => rfl) (by decide) rfl (as := [.ref 1, .int a1, .int a2]) (rest := []) rfl (L0 := [some (.ref 1), some (.int a1), some (.int a2)]) rfl (t_X6_tellChip_1 hq9) ?_
      refine o_goto k74_66 ?_
      have h9 := Option.some.inj h
      subst h9
      exact o_vret pj_74 k74_122 rfl
    rw [if_neg hx25_0] at h
    by_cases hx25_1 : a0 = 1
    · rw [if_pos hx25_1] at h
      refine o_tswI (tgt := 69) (off := 44) k74_25 (by rw [hx25_1]; decide) (by rw [hx25_1]; decide) (by rw [hx25_1]; decide) (by decide) ?_
      refine o_aload_n k74_69 rfl ?_
      refine o_iload_n k74_70 rfl ?_
      refine o_iload_n k74_71 rfl ?_
      refine bd_i h (fun q10 hq10 h => ?_)
      refine o_call k74_72 pj_77 (fun _ => rfl) (by decide) rfl (as := [.ref 1, .int a1, .int a2]) (rest := []) rfl (L0 := [some (.ref 1), some (.int a1), some (.int a2)]) rfl (t_X6_tellColumn_1 hq10) ?_
      refine o_goto k74_75 ?_
      have h9 := Option.some.inj h
      subst h9
      exact o_vret pj_74 k74_122 rfl
    rw [if_neg hx25_1] at h
    by_cases hx25_2 : a0 = 2
    · rw [if_pos hx25_2] at h
      refine o_tswI (tgt := 78) (off := 53) k74_25 (by rw [hx25_2]; decide) (by rw [hx25_2]; decide) (by rw [hx25_2]; decide) (by decide) ?_
      refine o_aload_n k74_78 rfl ?_
      refine o_gf k74_79 (gf_1_1 _) ?_
      refine o_dupr k74_82 ?_
      refine o_gf k74_83 (gf_4_3 _) ?_
      refine o_iconst (v := 1) k74_86 (by decide) ?_
      refine o_iload_n k74_87 rfl ?_
      refine o_ishl k74_88 ?_
      refine o_ior k74_89 ?_
      refine bl_i h (fun M11 eM11 h => ?_)
      refine o_pf (M' := M11) k74_90 (pf_4_3 eM11) ?_
      refine o_goto k74_93 ?_
      have h9 := Option.some.inj h
      subst h9
      exact o_vret pj_74 k74_122 rfl
    rw [if_neg hx25_2] at h
    by_cases hx25_3 : a0 = 3
    · rw [if_pos hx25_3] at h
      refine o_tswI (tgt := 96) (off := 71) k74_25 (by rw [hx25_3]; decide) (by rw [hx25_3]; decide) (by rw [hx25_3]; decide) (by decide) ?_
      refine o_aload_n k74_96 rfl ?_
      refine o_iload_n k74_97 rfl ?_
      refine o_iload_n k74_98 rfl ?_
      refine bd_i h (fun q12 hq12 h => ?_)
      refine o_call k74_99 pj_78 (fun _ => rfl) (by decide) rfl (as := [.ref 1, .int a1, .int a2]) (rest := []) rfl (L0 := [some (.ref 1), some (.int a1), some (.int a2)]) rfl (t_X6_tellRegister_1 hq12) ?_
      refine o_goto k74_102 ?_
      have h9 := Option.some.inj h
      subst h9
      exact o_vret pj_74 k74_122 rfl
    rw [if_neg hx25_3] at h
    by_cases hx25_4 : a0 = 4
    · rw [if_pos hx25_4] at h
      refine o_tswI (tgt := 105) (off := 80) k74_25 (by rw [hx25_4]; decide) (by rw [hx25_4]; decide) (by rw [hx25_4]; decide) (by decide) ?_
      refine o_aload_n k74_105 rfl ?_
      refine o_gf k74_106 (gf_1_1 _) ?_
      refine o_iload_n k74_109 rfl ?_
      refine bl_i h (fun M13 eM13 h => ?_)
      refine o_pf (M' := M13) k74_110 (pf_4_6 eM13) ?_
      refine o_goto k74_113 ?_
      have h9 := Option.some.inj h
      subst h9
      exact o_vret pj_74 k74_122 rfl
    rw [if_neg hx25_4] at h
    refine o_tswD (tgt := 116) k74_25 (by have n0 := ne_lit (k := 0) 0 (by decide) hx25_0; have n1 := ne_lit (k := 1) 1 (by decide) hx25_1; have n2 := ne_lit (k := 2) 2 (by decide) hx25_2; have n3 := ne_lit (k := 3) 3 (by decide) hx25_3; have n4 := ne_lit (k := 4) 4 (by decide) hx25_4; omega) (by decide) ?_
    refine o_aload_n k74_116 rfl ?_
    refine o_iload_n k74_117 rfl ?_
    refine o_iload_n k74_118 rfl ?_
    refine bd_i h (fun q14 hq14 h => ?_)
    refine o_call k74_119 pj_79 (fun _ => rfl) (by decide) rfl (as := [.ref 1, .int a1, .int a2]) (rest := []) rfl (L0 := [some (.ref 1), some (.int a1), some (.int a2)]) rfl (t_X6_tellCell_1 hq14) ?_
    have h9 := Option.some.inj h
    subst h9
    exact o_vret pj_74 k74_122 rfl
  refine o_icmp_eq k74_2 (fun hc1 => ?_) (fun hc1 => ?_)
  · rw [if_pos hc1] at h
    refine o_aload_n k74_19 rfl ?_
    refine o_iload_n k74_20 rfl ?_
    refine bd_i h (fun q2 hq2 h => ?_)
    refine o_call k74_21 pj_75 (fun _ => rfl) (by decide) rfl (as := [.ref 1, .int a2]) (rest := []) rfl (L0 := [some (.ref 1), some (.int a2)]) rfl (t_X6_tellChain_1 hq2) ?_
    exact hJ24 _ h
  · rw [if_neg hc1] at h
    refine o_iload_n k74_5 rfl ?_
    refine o_if_ne k74_6 (fun hc3 => ?_) (fun hc3 => ?_)
    · rw [if_neg hc3] at h
      exact hJ24 _ h
    · rw [if_pos hc3] at h
      refine o_iload_n k74_9 rfl ?_
      refine o_iconst (v := 1) k74_10 (by decide) ?_
      refine o_icmp_eq k74_11 (fun hc4 => ?_) (fun hc4 => ?_)
      · rw [if_pos hc4] at h
        refine o_aload_n k74_19 rfl ?_
        refine o_iload_n k74_20 rfl ?_
        refine bd_i h (fun q5 hq5 h => ?_)
        refine o_call k74_21 pj_75 (fun _ => rfl) (by decide) rfl (as := [.ref 1, .int a2]) (rest := []) rfl (L0 := [some (.ref 1), some (.int a2)]) rfl (t_X6_tellChain_1 hq5) ?_
        exact hJ24 _ h
      · rw [if_neg hc4] at h
        refine o_iload_n k74_14 rfl ?_
        refine o_iconst (v := 5) k74_15 (by decide) ?_
        refine o_icmp_ne k74_16 (fun hc6 => ?_) (fun hc6 => ?_)
        · rw [if_neg hc6] at h
          exact hJ24 _ h
        · rw [if_pos hc6] at h
          refine o_aload_n k74_19 rfl ?_
          refine o_iload_n k74_20 rfl ?_
          refine bd_i h (fun q7 hq7 h => ?_)
          refine o_call k74_21 pj_75 (fun _ => rfl) (by decide) rfl (as := [.ref 1, .int a2]) (rest := []) rfl (L0 := [some (.ref 1), some (.int a2)]) rfl (t_X6_tellChain_1 hq7) ?_
          exact hJ24 _ h
def f_X6_takeNumbers_1 (a0 : Int32) (M : am_M) : Option am_M := (bl (if a0 = 1 then 160 else (if a0 = 2 then 160 else (f_X6_leastNumbers a0))) (fun (v3 : Int32) => ((lp (σ := Int32 × am_M) (ρ := Int32 × am_M) (fun (s4 : Int32 × am_M) => match s4 with | (x5, M6) => (if v3 ≤ x5 then (some (.inr (x5, M6))) else (if (M6 1 2) = 0 then (if (M6 2 3) = 2 then (if (M6 2 5) < (f_X6_lowest a0 x5) then ((f_X6_refuse_1 3 M6).bind (fun q11 => (some (.inl ((x5 + 1), q11))))) else (if (M6 2 5) ≤ (f_X6_highest a0 x5) then ((f_X6_tell_1 a0 x5 (M6 2 5) M6).bind (fun q13 => ((f_X5_advance_2 q13).bind (fun q14 => (some (.inl ((x5 + 1), q14))))))) else ((f_X6_refuse_1 3 M6).bind (fun q15 => (some (.inl ((x5 + 1), q15))))))) else (some (.inr (x5, M6)))) else (some (.inr (x5, M6)))))) lp_F (0, M)).bind (fun (s16 : Int32 × am_M) => match s16 with | (x17, M18) => (if (M18 1 2) = 0 then (if x17 < (f_X6_leastNumbers a0) then ((f_X6_refuse_1 2 M18).bind (fun q21 => (some q21))) else (if (M18 2 3) = 3 then ((f_X5_advance_2 M18).bind (fun q23 => (some q23))) else ((f_X6_refuse_1 2 M18).bind (fun q24 => (some q24))))) else (some M18))))))
set_option maxRecDepth 20000 in
theorem t_X6_takeNumbers_1 {LN : Nat} {xs : Nat → Int32} {a0 : Int32} {M : am_M} {t : am_M} (h : f_X6_takeNumbers_1 a0 M = some t) : oo LN xs 0 0 70 0 [some (.ref 1), some (.int a0), none, none, none] [] M (none, t) := by
  unfold f_X6_takeNumbers_1 at h
  refine o_iload_n k70_0 rfl ?_
  refine o_call k70_1 pj_71 (fun _ => rfl) (by decide) rfl (as := [.int a0]) (rest := []) rfl (L0 := [some (.int a0)]) rfl (t_X6_leastNumbers (M := M) (a0 := a0) rfl) ?_
  refine o_istore_n (v := (f_X6_leastNumbers a0)) (L' := [some (.ref 1), some (.int a0), some (.int (f_X6_leastNumbers a0)), none, none]) k70_4 rfl rfl ?_
  refine o_iload_n k70_5 rfl ?_
  refine o_iconst (v := 1) k70_6 (by decide) ?_
  refine bl_i h (fun v3 ev3 h => ?_)
  have hJ22 : ∀ (yv3 : Int32), yv3 = v3 → oo LN xs 0 0 70 22 [some (.ref 1), some (.int a0), some (.int (f_X6_leastNumbers a0)), none, none] [.int yv3] M (none, t) := by
    intro yv3 hyv3
    rw [hyv3]
    refine o_istore_n (v := v3) (L' := [some (.ref 1), some (.int a0), some (.int (f_X6_leastNumbers a0)), some (.int v3), none]) k70_22 rfl rfl ?_
    refine o_iconst (v := 0) k70_23 (by decide) ?_
    refine o_istore (v := 0) (L' := [some (.ref 1), some (.int a0), some (.int (f_X6_leastNumbers a0)), some (.int v3), some (.int 0)]) k70_24 rfl rfl ?_
    refine bd_i h (fun s16 hs16 h => ?_)
    refine lp_o (fun (s4 : Int32 × am_M) => match s4 with | (x5, M6) => oo LN xs 0 0 70 26 [some (.ref 1), some (.int a0), some (.int (f_X6_leastNumbers a0)), some (.int v3), some (.int x5)] [] M6 (none, t)) (fun (s16 : Int32 × am_M) => match s16 with | (x17, M18) => oo LN xs 0 0 70 117 [some (.ref 1), some (.int a0), some (.int (f_X6_leastNumbers a0)), some (.int v3), some (.int x17)] [] M18 (none, t)) ?_ hs16 ?_
    · rintro ⟨x5, M6⟩ ws4 h hK
      dsimp only at h
      show oo LN xs 0 0 70 26 [some (.ref 1), some (.int a0), some (.int (f_X6_leastNumbers a0)), some (.int v3), some (.int x5)] [] M6 (none, t)
      refine o_iload k70_26 rfl ?_
      refine o_iload_n k70_28 rfl ?_
      refine o_icmp_ge k70_29 (fun hc7 => ?_) (fun hc7 => ?_)
      · rw [if_pos hc7] at h
        have h9 := Option.some.inj h
        subst h9
        exact hK
      · rw [if_neg hc7] at h
        refine o_aload_n k70_32 rfl ?_
        refine o_gf k70_33 (gf_1_2 _) ?_
        refine o_if_ne k70_36 (fun hc8 => ?_) (fun hc8 => ?_)
        · rw [if_neg hc8] at h
          have h9 := Option.some.inj h
          subst h9
          exact hK
        · rw [if_pos hc8] at h
          refine o_aload_n k70_39 rfl ?_
          refine o_gf k70_40 (gf_1_0 _) ?_
          refine o_gf k70_43 (gf_2_3 _) ?_
          refine o_iconst (v := 2) k70_46 (by decide) ?_
          refine o_icmp_ne k70_47 (fun hc9 => ?_) (fun hc9 => ?_)
          · rw [if_neg hc9] at h
            have h9 := Option.some.inj h
            subst h9
            exact hK
          · rw [if_pos hc9] at h
            refine o_aload_n k70_50 rfl ?_
            refine o_gf k70_51 (gf_1_0 _) ?_
            refine o_gf k70_54 (gf_2_5 _) ?_
            refine o_iload_n k70_57 rfl ?_
            refine o_iload k70_58 rfl ?_
            refine o_call k70_60 pj_72 (fun _ => rfl) (by decide) rfl (as := [.int a0, .int x5]) (rest := [.int (M6 2 5)]) rfl (L0 := [some (.int a0), some (.int x5)]) rfl (t_X6_lowest (M := M6) (a0 := a0) (a1 := x5) rfl) ?_
            refine o_icmp_lt k70_63 (fun hc10 => ?_) (fun hc10 => ?_)
            · rw [if_pos hc10] at h
              refine o_aload_n k70_82 rfl ?_
              refine o_iconst (v := 3) k70_83 (by decide) ?_
              refine bd_i h (fun q11 hq11 h => ?_)
              refine o_call k70_84 pj_67 (fun _ => rfl) (by decide) rfl (as := [.ref 1, .int 3]) (rest := []) rfl (L0 := [some (.ref 1), some (.int 3)]) rfl (t_X6_refuse_1 hq11) ?_
              refine o_goto k70_87 ?_
              refine o_iinc (k := 1) (L' := [some (.ref 1), some (.int a0), some (.int (f_X6_leastNumbers a0)), some (.int v3), some (.int (x5 + 1))]) k70_111 rfl (by decide) rfl ?_
              refine o_goto k70_114 ?_
              have h9 := Option.some.inj h
              subst h9
              exact hK
            · rw [if_neg hc10] at h
              refine o_aload_n k70_66 rfl ?_
              refine o_gf k70_67 (gf_1_0 _) ?_
              refine o_gf k70_70 (gf_2_5 _) ?_
              refine o_iload_n k70_73 rfl ?_
              refine o_iload k70_74 rfl ?_
              refine o_call k70_76 pj_73 (fun _ => rfl) (by decide) rfl (as := [.int a0, .int x5]) (rest := [.int (M6 2 5)]) rfl (L0 := [some (.int a0), some (.int x5)]) rfl (t_X6_highest (M := M6) (a0 := a0) (a1 := x5) rfl) ?_
              refine o_icmp_le k70_79 (fun hc12 => ?_) (fun hc12 => ?_)
              · rw [if_pos hc12] at h
                refine o_aload_n k70_90 rfl ?_
                refine o_iload_n k70_91 rfl ?_
                refine o_iload k70_92 rfl ?_
                refine o_aload_n k70_94 rfl ?_
                refine o_gf k70_95 (gf_1_0 _) ?_
                refine o_gf k70_98 (gf_2_5 _) ?_
                refine bd_i h (fun q13 hq13 h => ?_)
                refine o_call k70_101 pj_74 (fun _ => rfl) (by decide) rfl (as := [.ref 1, .int a0, .int x5, .int (M6 2 5)]) (rest := []) rfl (L0 := [some (.ref 1), some (.int a0), some (.int x5), some (.int (M6 2 5))]) rfl (t_X6_tell_1 hq13) ?_
                refine o_aload_n k70_104 rfl ?_
                refine o_gf k70_105 (gf_1_0 _) ?_
                refine bd_i h (fun q14 hq14 h => ?_)
                refine o_call k70_108 pj_59 (fun _ => rfl) (by decide) rfl (as := [.ref 2]) (rest := []) rfl (L0 := [some (.ref 2)]) rfl (t_X5_advance_2 hq14) ?_
                refine o_iinc (k := 1) (L' := [some (.ref 1), some (.int a0), some (.int (f_X6_leastNumbers a0)), some (.int v3), some (.int (x5 + 1))]) k70_111 rfl (by decide) rfl ?_
                refine o_goto k70_114 ?_
                have h9 := Option.some.inj h
                subst h9
                exact hK
              · rw [if_neg hc12] at h
                refine o_aload_n k70_82 rfl ?_
                refine o_iconst (v := 3) k70_83 (by decide) ?_
                refine bd_i h (fun q15 hq15 h => ?_)
                refine o_call k70_84 pj_67 (fun _ => rfl) (by decide) rfl (as := [.ref 1, .int 3]) (rest := []) rfl (L0 := [some (.ref 1), some (.int 3)]) rfl (t_X6_refuse_1 hq15) ?_
                refine o_goto k70_87 ?_
                refine o_iinc (k := 1) (L' := [some (.ref 1), some (.int a0), some (.int (f_X6_leastNumbers a0)), some (.int v3), some (.int (x5 + 1))]) k70_111 rfl (by decide) rfl ?_
                refine o_goto k70_114 ?_
                have h9 := Option.some.inj h
                subst h9
                exact hK
    · obtain ⟨x17, M18⟩ := s16
      show oo LN xs 0 0 70 117 [some (.ref 1), some (.int a0), some (.int (f_X6_leastNumbers a0)), some (.int v3), some (.int x17)] [] M18 (none, t)
      dsimp only at h
      refine o_aload_n k70_117 rfl ?_
      refine o_gf k70_118 (gf_1_2 _) ?_
      refine o_if_ne k70_121 (fun hc19 => ?_) (fun hc19 => ?_)
      · rw [if_neg hc19] at h
        have h9 := Option.some.inj h
        subst h9
        exact o_vret pj_70 k70_156 rfl
      · rw [if_pos hc19] at h
        refine o_iload k70_124 rfl ?_
        refine o_iload_n k70_126 rfl ?_
        refine o_icmp_lt k70_127 (fun hc20 => ?_) (fun hc20 => ?_)
        · rw [if_pos hc20] at h
          refine o_aload_n k70_141 rfl ?_
          refine o_iconst (v := 2) k70_142 (by decide) ?_
          refine bd_i h (fun q21 hq21 h => ?_)
          refine o_call k70_143 pj_67 (fun _ => rfl) (by decide) rfl (as := [.ref 1, .int 2]) (rest := []) rfl (L0 := [some (.ref 1), some (.int 2)]) rfl (t_X6_refuse_1 hq21) ?_
          refine o_goto k70_146 ?_
          have h9 := Option.some.inj h
          subst h9
          exact o_vret pj_70 k70_156 rfl
        · rw [if_neg hc20] at h
          refine o_aload_n k70_130 rfl ?_
          refine o_gf k70_131 (gf_1_0 _) ?_
          refine o_gf k70_134 (gf_2_3 _) ?_
          refine o_iconst (v := 3) k70_137 (by decide) ?_
          refine o_icmp_eq k70_138 (fun hc22 => ?_) (fun hc22 => ?_)
          · rw [if_pos hc22] at h
            refine o_aload_n k70_149 rfl ?_
            refine o_gf k70_150 (gf_1_0 _) ?_
            refine bd_i h (fun q23 hq23 h => ?_)
            refine o_call k70_153 pj_59 (fun _ => rfl) (by decide) rfl (as := [.ref 2]) (rest := []) rfl (L0 := [some (.ref 2)]) rfl (t_X5_advance_2 hq23) ?_
            have h9 := Option.some.inj h
            subst h9
            exact o_vret pj_70 k70_156 rfl
          · rw [if_neg hc22] at h
            refine o_aload_n k70_141 rfl ?_
            refine o_iconst (v := 2) k70_142 (by decide) ?_
            refine bd_i h (fun q24 hq24 h => ?_)
            refine o_call k70_143 pj_67 (fun _ => rfl) (by decide) rfl (as := [.ref 1, .int 2]) (rest := []) rfl (L0 := [some (.ref 1), some (.int 2)]) rfl (t_X6_refuse_1 hq24) ?_
            refine o_goto k70_146 ?_
            have h9 := Option.some.inj h
            subst h9
            exact o_vret pj_70 k70_156 rfl
  refine o_icmp_eq k70_7 (fun hc1 => ?_) (fun hc1 => ?_)
  · skip
    refine o_sipush (v := 160) k70_15 (by decide) ?_
    refine o_goto k70_18 ?_
    exact hJ22 _ (by simp only [ev3, if_pos hc1])
  · skip
    refine o_iload_n k70_10 rfl ?_
    refine o_iconst (v := 2) k70_11 (by decide) ?_
    refine o_icmp_ne k70_12 (fun hc2 => ?_) (fun hc2 => ?_)
    · skip
      refine o_iload_n k70_21 rfl ?_
      exact hJ22 _ (by simp only [ev3, if_neg hc1, if_neg hc2])
    · skip
      refine o_sipush (v := 160) k70_15 (by decide) ?_
      refine o_goto k70_18 ?_
      exact hJ22 _ (by simp only [ev3, if_neg hc1, if_pos hc2])
def f_X6_takeLine_1 (M : am_M) : Option am_M := ((f_X6_lineOfName_1 M).bind (fun v1 => (if v1 = 6 then ((f_X6_refuse_1 2 M).bind (fun q15 => (some q15))) else (if (((M 1 4) >>> (v1 &&& 31)) &&& 1) = 1 then ((f_X6_refuse_1 4 M).bind (fun q14 => (some q14))) else (bl (fun (M10 : am_M) => (((f_X5_advance_2 M10).bind (fun q11 => ((f_X6_takeNumbers_1 v1 q11).bind (fun q12 => (some q12))))) : Option am_M)) (fun (j13 : am_M → Option am_M) => (if v1 = 0 then (bl (am_up M 1 4 ((M 1 4) ||| ((1 : Int32) <<< (v1 &&& 31)))) (fun (M5 : am_M) => (j13 M5))) else (if v1 = 3 then (bl (am_up M 1 4 ((M 1 4) ||| ((1 : Int32) <<< (v1 &&& 31)))) (fun (M7 : am_M) => (j13 M7))) else (if v1 = 4 then (bl (am_up M 1 4 ((M 1 4) ||| ((1 : Int32) <<< (v1 &&& 31)))) (fun (M9 : am_M) => (j13 M9))) else (j13 M))))))))))
set_option maxRecDepth 20000 in
theorem t_X6_takeLine_1 {LN : Nat} {xs : Nat → Int32} {M : am_M} {t : am_M} (h : f_X6_takeLine_1 M = some t) : oo LN xs 0 0 68 0 [some (.ref 1), none] [] M (none, t) := by
  unfold f_X6_takeLine_1 at h
  refine o_aload_n k68_0 rfl ?_
  refine bd_i h (fun v1 hv1 h => ?_)
  refine o_call k68_1 pj_69 (fun _ => rfl) (by decide) rfl (as := [.ref 1]) (rest := []) rfl (L0 := [some (.ref 1)]) rfl (t_X6_lineOfName_1 hv1) ?_
  refine o_istore_n (v := v1) (L' := [some (.ref 1), some (.int v1)]) k68_4 rfl rfl ?_
  refine o_iload_n k68_5 rfl ?_
  refine o_bipush (v := 6) k68_6 (by decide) ?_
  refine o_icmp_ne k68_8 (fun hc2 => ?_) (fun hc2 => ?_)
  · rw [if_neg hc2] at h
    refine o_aload_n k68_19 rfl ?_
    refine o_gf k68_20 (gf_1_4 _) ?_
    refine o_iload_n k68_23 rfl ?_
    refine o_ishr k68_24 ?_
    refine o_iconst (v := 1) k68_25 (by decide) ?_
    refine o_iand k68_26 ?_
    refine o_iconst (v := 1) k68_27 (by decide) ?_
    refine o_icmp_ne k68_28 (fun hc3 => ?_) (fun hc3 => ?_)
    · rw [if_neg hc3] at h
      refine o_iload_n k68_39 rfl ?_
      refine bl_i h (fun j13 ej13 h => ?_)
      have hJ65 : ∀ (M10 : am_M), j13 M10 = some t → oo LN xs 0 0 68 65 [some (.ref 1), some (.int v1)] [] M10 (none, t) := by
        intro M10 h
        rw [ej13] at h
        dsimp only at h
        refine o_aload_n k68_65 rfl ?_
        refine o_gf k68_66 (gf_1_0 _) ?_
        refine bd_i h (fun q11 hq11 h => ?_)
        refine o_call k68_69 pj_59 (fun _ => rfl) (by decide) rfl (as := [.ref 2]) (rest := []) rfl (L0 := [some (.ref 2)]) rfl (t_X5_advance_2 hq11) ?_
        refine o_aload_n k68_72 rfl ?_
        refine o_iload_n k68_73 rfl ?_
        refine bd_i h (fun q12 hq12 h => ?_)
        refine o_call k68_74 pj_70 (fun _ => rfl) (by decide) rfl (as := [.ref 1, .int v1]) (rest := []) rfl (L0 := [some (.ref 1), some (.int v1), none, none, none]) rfl (t_X6_takeNumbers_1 hq12) ?_
        have h9 := Option.some.inj h
        subst h9
        exact o_vret pj_68 k68_77 rfl
      refine o_if_eq k68_40 (fun hc4 => ?_) (fun hc4 => ?_)
      · rw [if_pos hc4] at h
        refine o_aload_n k68_53 rfl ?_
        refine o_dupr k68_54 ?_
        refine o_gf k68_55 (gf_1_4 _) ?_
        refine o_iconst (v := 1) k68_58 (by decide) ?_
        refine o_iload_n k68_59 rfl ?_
        refine o_ishl k68_60 ?_
        refine o_ior k68_61 ?_
        refine bl_i h (fun M5 eM5 h => ?_)
        refine o_pf (M' := M5) k68_62 (pf_1_4 eM5) ?_
        exact hJ65 _ h
      · rw [if_neg hc4] at h
        refine o_iload_n k68_43 rfl ?_
        refine o_iconst (v := 3) k68_44 (by decide) ?_
        refine o_icmp_eq k68_45 (fun hc6 => ?_) (fun hc6 => ?_)
        · rw [if_pos hc6] at h
          refine o_aload_n k68_53 rfl ?_
          refine o_dupr k68_54 ?_
          refine o_gf k68_55 (gf_1_4 _) ?_
          refine o_iconst (v := 1) k68_58 (by decide) ?_
          refine o_iload_n k68_59 rfl ?_
          refine o_ishl k68_60 ?_
          refine o_ior k68_61 ?_
          refine bl_i h (fun M7 eM7 h => ?_)
          refine o_pf (M' := M7) k68_62 (pf_1_4 eM7) ?_
          exact hJ65 _ h
        · rw [if_neg hc6] at h
          refine o_iload_n k68_48 rfl ?_
          refine o_iconst (v := 4) k68_49 (by decide) ?_
          refine o_icmp_ne k68_50 (fun hc8 => ?_) (fun hc8 => ?_)
          · rw [if_neg hc8] at h
            exact hJ65 _ h
          · rw [if_pos hc8] at h
            refine o_aload_n k68_53 rfl ?_
            refine o_dupr k68_54 ?_
            refine o_gf k68_55 (gf_1_4 _) ?_
            refine o_iconst (v := 1) k68_58 (by decide) ?_
            refine o_iload_n k68_59 rfl ?_
            refine o_ishl k68_60 ?_
            refine o_ior k68_61 ?_
            refine bl_i h (fun M9 eM9 h => ?_)
            refine o_pf (M' := M9) k68_62 (pf_1_4 eM9) ?_
            exact hJ65 _ h
    · rw [if_pos hc3] at h
      refine o_aload_n k68_31 rfl ?_
      refine o_iconst (v := 4) k68_32 (by decide) ?_
      refine bd_i h (fun q14 hq14 h => ?_)
      refine o_call k68_33 pj_67 (fun _ => rfl) (by decide) rfl (as := [.ref 1, .int 4]) (rest := []) rfl (L0 := [some (.ref 1), some (.int 4)]) rfl (t_X6_refuse_1 hq14) ?_
      refine o_goto k68_36 ?_
      have h9 := Option.some.inj h
      subst h9
      exact o_vret pj_68 k68_77 rfl
  · rw [if_pos hc2] at h
    refine o_aload_n k68_11 rfl ?_
    refine o_iconst (v := 2) k68_12 (by decide) ?_
    refine bd_i h (fun q15 hq15 h => ?_)
    refine o_call k68_13 pj_67 (fun _ => rfl) (by decide) rfl (as := [.ref 1, .int 2]) (rest := []) rfl (L0 := [some (.ref 1), some (.int 2)]) rfl (t_X6_refuse_1 hq15) ?_
    refine o_goto k68_16 ?_
    have h9 := Option.some.inj h
    subst h9
    exact o_vret pj_68 k68_77 rfl
def f_X0_allOutputs_4 (M : am_M) : Int32 := (((1 : Int32) <<< ((M 4 2) &&& 31)) - 1)
set_option maxRecDepth 20000 in
theorem t_X0_allOutputs_4 {LN : Nat} {xs : Nat → Int32} {M : am_M} {t : Int32} (h : f_X0_allOutputs_4 M = t) : oo LN xs 0 0 11 0 [some (.ref 4)] [] M (some (.int t), M) := by
  unfold f_X0_allOutputs_4 at h
  refine o_iconst (v := 1) k11_0 (by decide) ?_
  refine o_aload_n k11_1 rfl ?_
  refine o_gf k11_2 (gf_4_2 _) ?_
  refine o_ishl k11_5 ?_
  refine o_iconst (v := 1) k11_6 (by decide) ?_
  refine o_isub k11_7 ?_
  subst h
  exact o_iret pj_11 k11_8 rfl nr_i
def f_X6_tellsWhatIsNotThere_1 (M : am_M) : Int32 := (bl (if (((M 1 4) >>> ((4 : Int32) &&& 31)) &&& 1) = 1 then 1 else 0) (fun (v2 : Int32) => (if (M 4 0) < (M 1 7) then 1 else (if (M 4 1) < (M 1 8) then 1 else (if (M 4 2) < (M 1 9) then 1 else (if ((M 4 5) >>> ((M 4 4) &&& 31)) = 0 then (if v2 = 0 then 0 else (if ((M 4 6) &&& ((f_X0_allOutputs_4 M) ^^^ (-1))) = 0 then 0 else 1)) else 1))))))
set_option maxRecDepth 20000 in
theorem t_X6_tellsWhatIsNotThere_1 {LN : Nat} {xs : Nat → Int32} {M : am_M} {t : Int32} (h : f_X6_tellsWhatIsNotThere_1 M = t) : oo LN xs 0 0 80 0 [some (.ref 1), none] [] M (some (.int t), M) := by
  unfold f_X6_tellsWhatIsNotThere_1 at h
  refine o_aload_n k80_0 rfl ?_
  refine o_gf k80_1 (gf_1_4 _) ?_
  refine o_iconst (v := 4) k80_4 (by decide) ?_
  refine o_ishr k80_5 ?_
  refine o_iconst (v := 1) k80_6 (by decide) ?_
  refine o_iand k80_7 ?_
  refine o_iconst (v := 1) k80_8 (by decide) ?_
  refine bl_i h (fun v2 ev2 h => ?_)
  have hJ17 : ∀ (yv2 : Int32), yv2 = v2 → oo LN xs 0 0 80 17 [some (.ref 1), none] [.int yv2] M (some (.int t), M) := by
    intro yv2 hyv2
    rw [hyv2]
    refine o_istore_n (v := v2) (L' := [some (.ref 1), some (.int v2)]) k80_17 rfl rfl ?_
    refine o_aload_n k80_18 rfl ?_
    refine o_gf k80_19 (gf_1_7 _) ?_
    refine o_aload_n k80_22 rfl ?_
    refine o_gf k80_23 (gf_1_1 _) ?_
    refine o_gf k80_26 (gf_4_0 _) ?_
    refine o_icmp_gt k80_29 (fun hc3 => ?_) (fun hc3 => ?_)
    · rw [if_pos hc3] at h
      refine o_iconst (v := 1) k80_102 (by decide) ?_
      refine o_goto k80_103 ?_
      subst h
      exact o_iret pj_80 k80_107 rfl (nr_z (by decide))
    · rw [if_neg hc3] at h
      refine o_aload_n k80_32 rfl ?_
      refine o_gf k80_33 (gf_1_8 _) ?_
      refine o_aload_n k80_36 rfl ?_
      refine o_gf k80_37 (gf_1_1 _) ?_
      refine o_gf k80_40 (gf_4_1 _) ?_
      refine o_icmp_gt k80_43 (fun hc4 => ?_) (fun hc4 => ?_)
      · rw [if_pos hc4] at h
        refine o_iconst (v := 1) k80_102 (by decide) ?_
        refine o_goto k80_103 ?_
        subst h
        exact o_iret pj_80 k80_107 rfl (nr_z (by decide))
      · rw [if_neg hc4] at h
        refine o_aload_n k80_46 rfl ?_
        refine o_gf k80_47 (gf_1_9 _) ?_
        refine o_aload_n k80_50 rfl ?_
        refine o_gf k80_51 (gf_1_1 _) ?_
        refine o_gf k80_54 (gf_4_2 _) ?_
        refine o_icmp_gt k80_57 (fun hc5 => ?_) (fun hc5 => ?_)
        · rw [if_pos hc5] at h
          refine o_iconst (v := 1) k80_102 (by decide) ?_
          refine o_goto k80_103 ?_
          subst h
          exact o_iret pj_80 k80_107 rfl (nr_z (by decide))
        · rw [if_neg hc5] at h
          refine o_aload_n k80_60 rfl ?_
          refine o_gf k80_61 (gf_1_1 _) ?_
          refine o_gf k80_64 (gf_4_5 _) ?_
          refine o_aload_n k80_67 rfl ?_
          refine o_gf k80_68 (gf_1_1 _) ?_
          refine o_gf k80_71 (gf_4_4 _) ?_
          refine o_ishr k80_74 ?_
          refine o_if_ne k80_75 (fun hc6 => ?_) (fun hc6 => ?_)
          · rw [if_neg hc6] at h
            refine o_iconst (v := 1) k80_102 (by decide) ?_
            refine o_goto k80_103 ?_
            subst h
            exact o_iret pj_80 k80_107 rfl (nr_z (by decide))
          · rw [if_pos hc6] at h
            refine o_iload_n k80_78 rfl ?_
            refine o_if_eq k80_79 (fun hc7 => ?_) (fun hc7 => ?_)
            · rw [if_pos hc7] at h
              refine o_iconst (v := 0) k80_106 (by decide) ?_
              subst h
              exact o_iret pj_80 k80_107 rfl (nr_z (by decide))
            · rw [if_neg hc7] at h
              refine o_aload_n k80_82 rfl ?_
              refine o_gf k80_83 (gf_1_1 _) ?_
              refine o_gf k80_86 (gf_4_6 _) ?_
              refine o_aload_n k80_89 rfl ?_
              refine o_gf k80_90 (gf_1_1 _) ?_
              refine o_call k80_93 pj_11 (fun _ => rfl) (by decide) rfl (as := [.ref 4]) (rest := [.int (M 4 6)]) rfl (L0 := [some (.ref 4)]) rfl (t_X0_allOutputs_4 (M := M) rfl) ?_
              refine o_iconst (v := (-1)) k80_96 (by decide) ?_
              refine o_ixor k80_97 ?_
              refine o_iand k80_98 ?_
              refine o_if_eq k80_99 (fun hc8 => ?_) (fun hc8 => ?_)
              · rw [if_pos hc8] at h
                refine o_iconst (v := 0) k80_106 (by decide) ?_
                subst h
                exact o_iret pj_80 k80_107 rfl (nr_z (by decide))
              · rw [if_neg hc8] at h
                refine o_iconst (v := 1) k80_102 (by decide) ?_
                refine o_goto k80_103 ?_
                subst h
                exact o_iret pj_80 k80_107 rfl (nr_z (by decide))
  refine o_icmp_ne k80_9 (fun hc1 => ?_) (fun hc1 => ?_)
  · skip
    refine o_iconst (v := 0) k80_16 (by decide) ?_
    exact hJ17 _ (by simp only [ev2, if_neg hc1])
  · skip
    refine o_iconst (v := 1) k80_12 (by decide) ?_
    refine o_goto k80_13 ?_
    exact hJ17 _ (by simp only [ev2, if_pos hc1])
def f_X0_allSuspicions_4 (M : am_M) : Int32 := ((65536 : Int32) ||| (((1 : Int32) <<< (((2 : Int32) * (M 4 1)) &&& 31)) - 1))
set_option maxRecDepth 20000 in
theorem t_X0_allSuspicions_4 {LN : Nat} {xs : Nat → Int32} {M : am_M} {t : Int32} (h : f_X0_allSuspicions_4 M = t) : oo LN xs 0 0 27 0 [some (.ref 4)] [] M (some (.int t), M) := by
  unfold f_X0_allSuspicions_4 at h
  refine o_ldc k27_0 ?_
  refine o_iconst (v := 1) k27_2 (by decide) ?_
  refine o_iconst (v := 2) k27_3 (by decide) ?_
  refine o_aload_n k27_4 rfl ?_
  refine o_gf k27_5 (gf_4_1 _) ?_
  refine o_imul k27_8 ?_
  refine o_ishl k27_9 ?_
  refine o_iconst (v := 1) k27_10 (by decide) ?_
  refine o_isub k27_11 ?_
  refine o_ior k27_12 ?_
  subst h
  exact o_iret pj_27 k27_13 rfl nr_i
def f_J7_fill_53178_8 (a0 : Int32) (M : am_M) : Option am_M := ((lp (σ := Int32 × am_M) (ρ := Int32 × am_M) (fun (s1 : Int32 × am_M) => match s1 with | (x2, M3) => (if 8 ≤ x2 then (some (.inr (x2, M3))) else (if am_dbin x2 8 = true then (bl (am_up M3 8 x2.toNatClampNeg a0) (fun (M6 : am_M) => (some (.inl ((x2 + 1), M6))))) else none))) lp_F (0, M)).bind (fun (s7 : Int32 × am_M) => match s7 with | (x8, M9) => (some M9)))
set_option maxRecDepth 20000 in
theorem t_J7_fill_53178_8 {LN : Nat} {xs : Nat → Int32} {a0 : Int32} {M : am_M} {t : am_M} (h : f_J7_fill_53178_8 a0 M = some t) : oo LN xs 0 0 219 0 [some (.ref 8), some (.int a0), none, none] [] M (none, t) := by
  unfold f_J7_fill_53178_8 at h
  refine o_iconst (v := 0) k219_0 (by decide) ?_
  refine o_istore_n (v := 0) (L' := [some (.ref 8), some (.int a0), some (.int 0), none]) k219_1 rfl rfl ?_
  refine o_aload_n k219_2 rfl ?_
  refine o_alen (v := 8) k219_3 rfl (by decide) ?_
  refine o_istore_n (v := 8) (L' := [some (.ref 8), some (.int a0), some (.int 0), some (.int 8)]) k219_4 rfl rfl ?_
  refine bd_i h (fun s7 hs7 h => ?_)
  refine lp_o (fun (s1 : Int32 × am_M) => match s1 with | (x2, M3) => oo LN xs 0 0 219 5 [some (.ref 8), some (.int a0), some (.int x2), some (.int 8)] [] M3 (none, t)) (fun (s7 : Int32 × am_M) => match s7 with | (x8, M9) => oo LN xs 0 0 219 20 [some (.ref 8), some (.int a0), some (.int x8), some (.int 8)] [] M9 (none, t)) ?_ hs7 ?_
  · rintro ⟨x2, M3⟩ ws1 h hK
    dsimp only at h
    show oo LN xs 0 0 219 5 [some (.ref 8), some (.int a0), some (.int x2), some (.int 8)] [] M3 (none, t)
    refine o_iload_n k219_5 rfl ?_
    refine o_iload_n k219_6 rfl ?_
    refine o_icmp_ge k219_7 (fun hc4 => ?_) (fun hc4 => ?_)
    · rw [if_pos hc4] at h
      have h9 := Option.some.inj h
      subst h9
      exact hK
    · rw [if_neg hc4] at h
      refine o_aload_n k219_10 rfl ?_
      refine o_iload_n k219_11 rfl ?_
      refine o_iload_n k219_12 rfl ?_
      obtain ⟨hc5, h⟩ := ck_i h
      refine bl_i h (fun M6 eM6 h => ?_)
      refine o_iast (M' := M6) k219_13 eM6 ia_8 hc5 ?_
      refine o_iinc (k := 1) (L' := [some (.ref 8), some (.int a0), some (.int (x2 + 1)), some (.int 8)]) k219_14 rfl (by decide) rfl ?_
      refine o_goto k219_17 ?_
      have h9 := Option.some.inj h
      subst h9
      exact hK
  · obtain ⟨x8, M9⟩ := s7
    show oo LN xs 0 0 219 20 [some (.ref 8), some (.int a0), some (.int x8), some (.int 8)] [] M9 (none, t)
    dsimp only at h
    have h9 := Option.some.inj h
    subst h9
    exact o_vret pj_219 k219_20 rfl
def f_X0_suspectAll_4 (M : am_M) : Option am_M := ((f_J7_fill_53178_8 (f_X0_allSuspicions_4 M) M).bind (fun q1 => (some q1)))
set_option maxRecDepth 20000 in
theorem t_X0_suspectAll_4 {LN : Nat} {xs : Nat → Int32} {M : am_M} {t : am_M} (h : f_X0_suspectAll_4 M = some t) : oo LN xs 0 0 3 0 [some (.ref 4)] [] M (none, t) := by
  unfold f_X0_suspectAll_4 at h
  refine o_aload_n k3_0 rfl ?_
  refine o_gf k3_1 (gf_4_10 _) ?_
  refine o_aload_n k3_4 rfl ?_
  refine o_call k3_5 pj_27 (fun _ => rfl) (by decide) rfl (as := [.ref 4]) (rest := [.ref 8]) rfl (L0 := [some (.ref 4)]) rfl (t_X0_allSuspicions_4 (M := M) rfl) ?_
  refine bd_i h (fun q1 hq1 h => ?_)
  refine o_call k3_8 pj_219 (fun _ => rfl) (by decide) rfl (as := [.ref 8, .int (f_X0_allSuspicions_4 M)]) (rest := []) rfl (L0 := [some (.ref 8), some (.int (f_X0_allSuspicions_4 M)), none, none]) rfl (t_J7_fill_53178_8 hq1) ?_
  have h9 := Option.some.inj h
  subst h9
  exact o_vret pj_3 k3_11 rfl
def f_X6_takeText_1 (M : am_M) : Option (Int32 × am_M) := ((f_X0_forget_4 M).bind (fun q1 => (bl (am_up q1 1 2 0) (fun (M2 : am_M) => (bl (am_up M2 1 4 0) (fun (M3 : am_M) => (bl (am_up M3 1 7 0) (fun (M4 : am_M) => (bl (am_up M4 1 8 0) (fun (M5 : am_M) => (bl (am_up M5 1 9 0) (fun (M6 : am_M) => ((f_X5_begin_2 M6).bind (fun q7 => ((lp (σ := Int32 × am_M) (ρ := Int32 × am_M) (fun (s8 : Int32 × am_M) => match s8 with | (x9, M10) => (if 160 ≤ x9 then (some (.inr (x9, M10))) else (if (M10 1 2) = 0 then (if (M10 2 3) = 4 then (some (.inr (x9, M10))) else ((f_X6_takeLine_1 M10).bind (fun q14 => (some (.inl ((x9 + 1), q14)))))) else (some (.inr (x9, M10)))))) lp_F (0, q7)).bind (fun (s15 : Int32 × am_M) => match s15 with | (x16, M17) => (bl (fun (M22 : am_M) => (((f_X0_suspectAll_4 M22).bind (fun q23 => (some (x16, q23)))) : Option (Int32 × am_M))) (fun (j24 : am_M → Option (Int32 × am_M)) => (if (M17 1 2) = 0 then (if (f_X6_tellsWhatIsNotThere_1 M17) = 0 then (j24 M17) else (bl (am_up M17 1 2 6) (fun (M20 : am_M) => (bl (am_up M20 1 3 (M20 2 1)) (fun (M21 : am_M) => (j24 M21)))))) else (j24 M17))))))))))))))))))))
set_option maxRecDepth 20000 in
theorem t_X6_takeText_1 {LN : Nat} {xs : Nat → Int32} {M : am_M} {t : Int32 × am_M} (h : f_X6_takeText_1 M = some t) : oo LN xs 0 0 66 0 [some (.ref 1), none] [] M (some (.int t.1), t.2) := by
  unfold f_X6_takeText_1 at h
  refine o_aload_n k66_0 rfl ?_
  refine o_gf k66_1 (gf_1_1 _) ?_
  refine bd_i h (fun q1 hq1 h => ?_)
  refine o_call k66_4 pj_2 (fun _ => rfl) (by decide) rfl (as := [.ref 4]) (rest := []) rfl (L0 := [some (.ref 4)]) rfl (t_X0_forget_4 hq1) ?_
  refine o_aload_n k66_7 rfl ?_
  refine o_iconst (v := 0) k66_8 (by decide) ?_
  refine bl_i h (fun M2 eM2 h => ?_)
  refine o_pf (M' := M2) k66_9 (pf_1_2 eM2) ?_
  refine o_aload_n k66_12 rfl ?_
  refine o_iconst (v := 0) k66_13 (by decide) ?_
  refine bl_i h (fun M3 eM3 h => ?_)
  refine o_pf (M' := M3) k66_14 (pf_1_4 eM3) ?_
  refine o_aload_n k66_17 rfl ?_
  refine o_iconst (v := 0) k66_18 (by decide) ?_
  refine bl_i h (fun M4 eM4 h => ?_)
  refine o_pf (M' := M4) k66_19 (pf_1_7 eM4) ?_
  refine o_aload_n k66_22 rfl ?_
  refine o_iconst (v := 0) k66_23 (by decide) ?_
  refine bl_i h (fun M5 eM5 h => ?_)
  refine o_pf (M' := M5) k66_24 (pf_1_8 eM5) ?_
  refine o_aload_n k66_27 rfl ?_
  refine o_iconst (v := 0) k66_28 (by decide) ?_
  refine bl_i h (fun M6 eM6 h => ?_)
  refine o_pf (M' := M6) k66_29 (pf_1_9 eM6) ?_
  refine o_iconst (v := 0) k66_32 (by decide) ?_
  refine o_istore_n (v := 0) (L' := [some (.ref 1), some (.int 0)]) k66_33 rfl rfl ?_
  refine o_aload_n k66_34 rfl ?_
  refine o_gf k66_35 (gf_1_0 _) ?_
  refine bd_i h (fun q7 hq7 h => ?_)
  refine o_call k66_38 pj_58 (fun _ => rfl) (by decide) rfl (as := [.ref 2]) (rest := []) rfl (L0 := [some (.ref 2)]) rfl (t_X5_begin_2 hq7) ?_
  refine bd_i h (fun s15 hs15 h => ?_)
  refine lp_o (fun (s8 : Int32 × am_M) => match s8 with | (x9, M10) => oo LN xs 0 0 66 41 [some (.ref 1), some (.int x9)] [] M10 (some (.int t.1), t.2)) (fun (s15 : Int32 × am_M) => match s15 with | (x16, M17) => oo LN xs 0 0 66 76 [some (.ref 1), some (.int x16)] [] M17 (some (.int t.1), t.2)) ?_ hs15 ?_
  · rintro ⟨x9, M10⟩ ws8 h hK
    dsimp only at h
    show oo LN xs 0 0 66 41 [some (.ref 1), some (.int x9)] [] M10 (some (.int t.1), t.2)
    refine o_iload_n k66_41 rfl ?_
    refine o_sipush (v := 160) k66_42 (by decide) ?_
    refine o_icmp_ge k66_45 (fun hc11 => ?_) (fun hc11 => ?_)
    · rw [if_pos hc11] at h
      have h9 := Option.some.inj h
      subst h9
      exact hK
    · rw [if_neg hc11] at h
      refine o_aload_n k66_48 rfl ?_
      refine o_gf k66_49 (gf_1_2 _) ?_
      refine o_if_ne k66_52 (fun hc12 => ?_) (fun hc12 => ?_)
      · rw [if_neg hc12] at h
        have h9 := Option.some.inj h
        subst h9
        exact hK
      · rw [if_pos hc12] at h
        refine o_aload_n k66_55 rfl ?_
        refine o_gf k66_56 (gf_1_0 _) ?_
        refine o_gf k66_59 (gf_2_3 _) ?_
        refine o_iconst (v := 4) k66_62 (by decide) ?_
        refine o_icmp_eq k66_63 (fun hc13 => ?_) (fun hc13 => ?_)
        · rw [if_pos hc13] at h
          have h9 := Option.some.inj h
          subst h9
          exact hK
        · rw [if_neg hc13] at h
          refine o_aload_n k66_66 rfl ?_
          refine bd_i h (fun q14 hq14 h => ?_)
          refine o_call k66_67 pj_68 (fun _ => rfl) (by decide) rfl (as := [.ref 1]) (rest := []) rfl (L0 := [some (.ref 1), none]) rfl (t_X6_takeLine_1 hq14) ?_
          refine o_iinc (k := 1) (L' := [some (.ref 1), some (.int (x9 + 1))]) k66_70 rfl (by decide) rfl ?_
          refine o_goto k66_73 ?_
          have h9 := Option.some.inj h
          subst h9
          exact hK
  · obtain ⟨x16, M17⟩ := s15
    show oo LN xs 0 0 66 76 [some (.ref 1), some (.int x16)] [] M17 (some (.int t.1), t.2)
    dsimp only at h
    refine o_aload_n k66_76 rfl ?_
    refine o_gf k66_77 (gf_1_2 _) ?_
    refine bl_i h (fun j24 ej24 h => ?_)
    have hJ107 : ∀ (M22 : am_M), j24 M22 = some t → oo LN xs 0 0 66 107 [some (.ref 1), some (.int x16)] [] M22 (some (.int t.1), t.2) := by
      intro M22 h
      rw [ej24] at h
      dsimp only at h
      refine o_aload_n k66_107 rfl ?_
      refine o_gf k66_108 (gf_1_1 _) ?_
      refine bd_i h (fun q23 hq23 h => ?_)
      refine o_call k66_111 pj_3 (fun _ => rfl) (by decide) rfl (as := [.ref 4]) (rest := []) rfl (L0 := [some (.ref 4)]) rfl (t_X0_suspectAll_4 hq23) ?_
      refine o_iload_n k66_114 rfl ?_
      have h9 := Option.some.inj h
      subst h9
      exact o_iret pj_66 k66_115 rfl nr_i
    refine o_if_ne k66_80 (fun hc18 => ?_) (fun hc18 => ?_)
    · rw [if_neg hc18] at h
      exact hJ107 _ h
    · rw [if_pos hc18] at h
      refine o_aload_n k66_83 rfl ?_
      refine o_call k66_84 pj_80 (fun _ => rfl) (by decide) rfl (as := [.ref 1]) (rest := []) rfl (L0 := [some (.ref 1), none]) rfl (t_X6_tellsWhatIsNotThere_1 (M := M17) rfl) ?_
      refine o_if_eq k66_87 (fun hc19 => ?_) (fun hc19 => ?_)
      · rw [if_pos hc19] at h
        exact hJ107 _ h
      · rw [if_neg hc19] at h
        refine o_aload_n k66_90 rfl ?_
        refine o_bipush (v := 6) k66_91 (by decide) ?_
        refine bl_i h (fun M20 eM20 h => ?_)
        refine o_pf (M' := M20) k66_93 (pf_1_2 eM20) ?_
        refine o_aload_n k66_96 rfl ?_
        refine o_aload_n k66_97 rfl ?_
        refine o_gf k66_98 (gf_1_0 _) ?_
        refine o_gf k66_101 (gf_2_1 _) ?_
        refine bl_i h (fun M21 eM21 h => ?_)
        refine o_pf (M' := M21) k66_104 (pf_1_3 eM21) ?_
        exact hJ107 _ h
def f_X0_becomeLike_9_4 (M : am_M) : Option am_M := (bl (am_up M 9 0 (M 4 0)) (fun (M1 : am_M) => (bl (am_up M1 9 1 (M1 4 1)) (fun (M2 : am_M) => (bl (am_up M2 9 2 (M2 4 2)) (fun (M3 : am_M) => (bl (am_up M3 9 3 (M3 4 3)) (fun (M4 : am_M) => (bl (am_up M4 9 4 (M4 4 4)) (fun (M5 : am_M) => (bl (am_up M5 9 5 (M5 4 5)) (fun (M6 : am_M) => (bl (am_up M6 9 6 (M6 4 6)) (fun (M7 : am_M) => (bl (am_wr M7 10 (va_cpy (M7 5) (M7 10) 0 0 64)) (fun (M8 : am_M) => (bl (am_wr M8 11 (va_cpy (M8 6) (M8 11) 0 0 64)) (fun (M9 : am_M) => (bl (am_wr M9 12 (va_cpy (M9 7) (M9 12) 0 0 8)) (fun (M10 : am_M) => (bl (am_wr M10 13 (va_cpy (M10 8) (M10 13) 0 0 8)) (fun (M11 : am_M) => (some M11)))))))))))))))))))))))
set_option maxRecDepth 20000 in
theorem t_X0_becomeLike_9_4 {LN : Nat} {xs : Nat → Int32} {M : am_M} {t : am_M} (h : f_X0_becomeLike_9_4 M = some t) : oo LN xs 0 0 4 0 [some (.ref 9), some (.ref 4)] [] M (none, t) := by
  unfold f_X0_becomeLike_9_4 at h
  refine o_aload_n k4_0 rfl ?_
  refine o_aload_n k4_1 rfl ?_
  refine o_gf k4_2 (gf_4_0 _) ?_
  refine bl_i h (fun M1 eM1 h => ?_)
  refine o_pf (M' := M1) k4_5 (pf_9_0 eM1) ?_
  refine o_aload_n k4_8 rfl ?_
  refine o_aload_n k4_9 rfl ?_
  refine o_gf k4_10 (gf_4_1 _) ?_
  refine bl_i h (fun M2 eM2 h => ?_)
  refine o_pf (M' := M2) k4_13 (pf_9_1 eM2) ?_
  refine o_aload_n k4_16 rfl ?_
  refine o_aload_n k4_17 rfl ?_
  refine o_gf k4_18 (gf_4_2 _) ?_
  refine bl_i h (fun M3 eM3 h => ?_)
  refine o_pf (M' := M3) k4_21 (pf_9_2 eM3) ?_
  refine o_aload_n k4_24 rfl ?_
  refine o_aload_n k4_25 rfl ?_
  refine o_gf k4_26 (gf_4_3 _) ?_
  refine bl_i h (fun M4 eM4 h => ?_)
  refine o_pf (M' := M4) k4_29 (pf_9_3 eM4) ?_
  refine o_aload_n k4_32 rfl ?_
  refine o_aload_n k4_33 rfl ?_
  refine o_gf k4_34 (gf_4_4 _) ?_
  refine bl_i h (fun M5 eM5 h => ?_)
  refine o_pf (M' := M5) k4_37 (pf_9_4 eM5) ?_
  refine o_aload_n k4_40 rfl ?_
  refine o_aload_n k4_41 rfl ?_
  refine o_gf k4_42 (gf_4_5 _) ?_
  refine bl_i h (fun M6 eM6 h => ?_)
  refine o_pf (M' := M6) k4_45 (pf_9_5 eM6) ?_
  refine o_aload_n k4_48 rfl ?_
  refine o_aload_n k4_49 rfl ?_
  refine o_gf k4_50 (gf_4_6 _) ?_
  refine bl_i h (fun M7 eM7 h => ?_)
  refine o_pf (M' := M7) k4_53 (pf_9_6 eM7) ?_
  refine o_aload_n k4_56 rfl ?_
  refine o_gf k4_57 (gf_4_7 _) ?_
  refine o_iconst (v := 0) k4_60 (by decide) ?_
  refine o_aload_n k4_61 rfl ?_
  refine o_gf k4_62 (gf_9_7 _) ?_
  refine o_iconst (v := 0) k4_65 (by decide) ?_
  refine o_bipush (v := 64) k4_66 (by decide) ?_
  refine bl_i h (fun M8 eM8 h => ?_)
  refine o_copy (M2 := M8) k4_68 eM8 (by decide) rfl ?_
  refine o_aload_n k4_71 rfl ?_
  refine o_gf k4_72 (gf_4_8 _) ?_
  refine o_iconst (v := 0) k4_75 (by decide) ?_
  refine o_aload_n k4_76 rfl ?_
  refine o_gf k4_77 (gf_9_8 _) ?_
  refine o_iconst (v := 0) k4_80 (by decide) ?_
  refine o_bipush (v := 64) k4_81 (by decide) ?_
  refine bl_i h (fun M9 eM9 h => ?_)
  refine o_copy (M2 := M9) k4_83 eM9 (by decide) rfl ?_
  refine o_aload_n k4_86 rfl ?_
  refine o_gf k4_87 (gf_4_9 _) ?_
  refine o_iconst (v := 0) k4_90 (by decide) ?_
  refine o_aload_n k4_91 rfl ?_
  refine o_gf k4_92 (gf_9_9 _) ?_
  refine o_iconst (v := 0) k4_95 (by decide) ?_
  refine o_bipush (v := 8) k4_96 (by decide) ?_
  refine bl_i h (fun M10 eM10 h => ?_)
  refine o_copy (M2 := M10) k4_98 eM10 (by decide) rfl ?_
  refine o_aload_n k4_101 rfl ?_
  refine o_gf k4_102 (gf_4_10 _) ?_
  refine o_iconst (v := 0) k4_105 (by decide) ?_
  refine o_aload_n k4_106 rfl ?_
  refine o_gf k4_107 (gf_9_10 _) ?_
  refine o_iconst (v := 0) k4_110 (by decide) ?_
  refine o_bipush (v := 8) k4_111 (by decide) ?_
  refine bl_i h (fun M11 eM11 h => ?_)
  refine o_copy (M2 := M11) k4_113 eM11 (by decide) rfl ?_
  have h9 := Option.some.inj h
  subst h9
  exact o_vret pj_4 k4_116 rfl
def f_X7_text_0 (M : am_M) : Option (Int32 × am_M) := ((f_X6_takeText_1 M).bind (fun q1 => (bl (am_up q1.2 2 1 0) (fun (M2 : am_M) => (bl (am_up M2 0 1 (M2 1 2)) (fun (M3 : am_M) => (if (M3 0 1) = 0 then ((f_X0_becomeLike_9_4 M3).bind (fun q5 => ((lp (σ := Int32 × am_M) (ρ := Int32 × am_M) (fun (s6 : Int32 × am_M) => match s6 with | (x7, M8) => (if 2 ≤ x7 then (some (.inr (x7, M8))) else (if am_dbin x7 2 = true then (bl (am_up M8 25 x7.toNatClampNeg (vp_nar .boolean 0)) (fun (M11 : am_M) => (some (.inl ((x7 + 1), M11))))) else none))) lp_F (0, q5)).bind (fun (s12 : Int32 × am_M) => match s12 with | (x13, M14) => (some (q1.1, M14)))))) else (some ((((-10) : Int32) - (M3 1 3)), M3)))))))))
set_option maxRecDepth 20000 in
theorem t_X7_text_0 {LN : Nat} {xs : Nat → Int32} {M : am_M} {t : Int32 × am_M} (h : f_X7_text_0 M = some t) : oo LN xs 0 0 84 0 [some (.ref 0), none, none] [] M (some (.int t.1), t.2) := by
  unfold f_X7_text_0 at h
  refine o_aload_n k84_0 rfl ?_
  refine o_gf k84_1 (gf_0_0 _) ?_
  refine bd_i h (fun q1 hq1 h => ?_)
  refine o_call k84_4 pj_66 (fun _ => rfl) (by decide) rfl (as := [.ref 1]) (rest := []) rfl (L0 := [some (.ref 1), none]) rfl (t_X6_takeText_1 hq1) ?_
  refine o_istore_n (v := q1.1) (L' := [some (.ref 0), some (.int q1.1), none]) k84_7 rfl rfl ?_
  refine o_aload_n k84_8 rfl ?_
  refine o_gf k84_9 (gf_0_0 _) ?_
  refine o_gf k84_12 (gf_1_0 _) ?_
  refine o_iconst (v := 0) k84_15 (by decide) ?_
  refine bl_i h (fun M2 eM2 h => ?_)
  refine o_pf (M' := M2) k84_16 (pf_2_1 eM2) ?_
  refine o_aload_n k84_19 rfl ?_
  refine o_aload_n k84_20 rfl ?_
  refine o_gf k84_21 (gf_0_0 _) ?_
  refine o_gf k84_24 (gf_1_2 _) ?_
  refine bl_i h (fun M3 eM3 h => ?_)
  refine o_pf (M' := M3) k84_27 (pf_0_1 eM3) ?_
  refine o_aload_n k84_30 rfl ?_
  refine o_gf k84_31 (gf_0_1 _) ?_
  refine o_if_eq k84_34 (fun hc4 => ?_) (fun hc4 => ?_)
  · rw [if_pos hc4] at h
    refine o_aload_n k84_48 rfl ?_
    refine o_gf k84_49 (gf_0_2 _) ?_
    refine o_aload_n k84_52 rfl ?_
    refine o_gf k84_53 (gf_0_0 _) ?_
    refine o_gf k84_56 (gf_1_1 _) ?_
    refine bd_i h (fun q5 hq5 h => ?_)
    refine o_call k84_59 pj_4 (fun _ => rfl) (by decide) rfl (as := [.ref 9, .ref 4]) (rest := []) rfl (L0 := [some (.ref 9), some (.ref 4)]) rfl (t_X0_becomeLike_9_4 hq5) ?_
    refine o_iconst (v := 0) k84_62 (by decide) ?_
    refine o_istore_n (v := 0) (L' := [some (.ref 0), some (.int q1.1), some (.int 0)]) k84_63 rfl rfl ?_
    refine bd_i h (fun s12 hs12 h => ?_)
    refine lp_o (fun (s6 : Int32 × am_M) => match s6 with | (x7, M8) => oo LN xs 0 0 84 64 [some (.ref 0), some (.int q1.1), some (.int x7)] [] M8 (some (.int t.1), t.2)) (fun (s12 : Int32 × am_M) => match s12 with | (x13, M14) => oo LN xs 0 0 84 82 [some (.ref 0), some (.int q1.1), some (.int x13)] [] M14 (some (.int t.1), t.2)) ?_ hs12 ?_
    · rintro ⟨x7, M8⟩ ws6 h hK
      dsimp only at h
      show oo LN xs 0 0 84 64 [some (.ref 0), some (.int q1.1), some (.int x7)] [] M8 (some (.int t.1), t.2)
      refine o_iload_n k84_64 rfl ?_
      refine o_iconst (v := 2) k84_65 (by decide) ?_
      refine o_icmp_ge k84_66 (fun hc9 => ?_) (fun hc9 => ?_)
      · rw [if_pos hc9] at h
        have h9 := Option.some.inj h
        subst h9
        exact hK
      · rw [if_neg hc9] at h
        refine o_aload_n k84_69 rfl ?_
        refine o_gf k84_70 (gf_0_4 _) ?_
        refine o_iload_n k84_73 rfl ?_
        refine o_iconst (v := 0) k84_74 (by decide) ?_
        obtain ⟨hc10, h⟩ := ck_i h
        refine bl_i h (fun M11 eM11 h => ?_)
        refine o_bast (M' := M11) k84_75 eM11 ba_25 hc10 ?_
        refine o_iinc (k := 1) (L' := [some (.ref 0), some (.int q1.1), some (.int (x7 + 1))]) k84_76 rfl (by decide) rfl ?_
        refine o_goto k84_79 ?_
        have h9 := Option.some.inj h
        subst h9
        exact hK
    · obtain ⟨x13, M14⟩ := s12
      show oo LN xs 0 0 84 82 [some (.ref 0), some (.int q1.1), some (.int x13)] [] M14 (some (.int t.1), t.2)
      dsimp only at h
      refine o_iload_n k84_82 rfl ?_
      have h9 := Option.some.inj h
      subst h9
      exact o_iret pj_84 k84_83 rfl nr_i
  · rw [if_neg hc4] at h
    refine o_bipush (v := (-10)) k84_37 (by decide) ?_
    refine o_aload_n k84_39 rfl ?_
    refine o_gf k84_40 (gf_0_0 _) ?_
    refine o_gf k84_43 (gf_1_3 _) ?_
    refine o_isub k84_46 ?_
    have h9 := Option.some.inj h
    subst h9
    exact o_iret pj_84 k84_47 rfl nr_i
def f_X8_firstDraft_43 (M : am_M) : Option am_M := ((lp (σ := Int32 × am_M) (ρ := Int32 × am_M) (fun (s1 : Int32 × am_M) => match s1 with | (x2, M3) => (if 151 ≤ x2 then (some (.inr (x2, M3))) else (if (f_X8_in x2.toInt64 7 134) = 0 then (if am_dbin x2 151 = true then (bl (am_up M3 47 x2.toNatClampNeg 0) (fun (M7 : am_M) => (some (.inl ((x2 + 1), M7))))) else none) else (if am_dbin x2 151 = true then (bl (am_up M3 47 x2.toNatClampNeg 2) (fun (M9 : am_M) => (some (.inl ((x2 + 1), M9))))) else none)))) lp_F (0, M)).bind (fun (s10 : Int32 × am_M) => match s10 with | (x11, M12) => (bl (am_up M12 47 (4 : Int32).toNatClampNeg 4) (fun (M14 : am_M) => (bl (am_up M14 47 (5 : Int32).toNatClampNeg 1) (fun (M16 : am_M) => (bl (am_up M16 47 (6 : Int32).toNatClampNeg 1) (fun (M18 : am_M) => (bl (am_up M18 43 4 0) (fun (M19 : am_M) => (bl (am_up M19 43 5 0) (fun (M20 : am_M) => (bl (am_up M20 43 6 0) (fun (M21 : am_M) => (bl (am_up M21 43 10 0) (fun (M22 : am_M) => (bl (am_up M22 43 7 (-1)) (fun (M23 : am_M) => (bl (am_up M23 43 8 (-1)) (fun (M24 : am_M) => (bl (am_up M24 43 9 (-1)) (fun (M25 : am_M) => (some M25)))))))))))))))))))))))
set_option maxRecDepth 20000 in
theorem t_X8_firstDraft_43 {LN : Nat} {xs : Nat → Int32} {M : am_M} {t : am_M} (h : f_X8_firstDraft_43 M = some t) : oo LN xs 0 0 129 0 [some (.ref 43), none] [] M (none, t) := by
  unfold f_X8_firstDraft_43 at h
  refine o_iconst (v := 0) k129_0 (by decide) ?_
  refine o_istore_n (v := 0) (L' := [some (.ref 43), some (.int 0)]) k129_1 rfl rfl ?_
  refine bd_i h (fun s10 hs10 h => ?_)
  refine lp_o (fun (s1 : Int32 × am_M) => match s1 with | (x2, M3) => oo LN xs 0 0 129 2 [some (.ref 43), some (.int x2)] [] M3 (none, t)) (fun (s10 : Int32 × am_M) => match s10 with | (x11, M12) => oo LN xs 0 0 129 40 [some (.ref 43), some (.int x11)] [] M12 (none, t)) ?_ hs10 ?_
  · rintro ⟨x2, M3⟩ ws1 h hK
    dsimp only at h
    show oo LN xs 0 0 129 2 [some (.ref 43), some (.int x2)] [] M3 (none, t)
    refine o_iload_n k129_2 rfl ?_
    refine o_sipush (v := 151) k129_3 (by decide) ?_
    refine o_icmp_ge k129_6 (fun hc4 => ?_) (fun hc4 => ?_)
    · rw [if_pos hc4] at h
      have h9 := Option.some.inj h
      subst h9
      exact hK
    · rw [if_neg hc4] at h
      refine o_aload_n k129_9 rfl ?_
      refine o_gf k129_10 (gf_43_3 _) ?_
      refine o_iload_n k129_13 rfl ?_
      refine o_iload_n k129_14 rfl ?_
      refine o_i2l k129_15 ?_
      refine o_ldc2_w k129_16 ?_
      refine o_ldc2_w k129_19 ?_
      refine o_call k129_22 pj_125 (fun _ => rfl) (by decide) rfl (as := [.long x2.toInt64, .long 7, .long 134]) (rest := [.int x2, .ref 47]) rfl (L0 := [some (.long x2.toInt64), none, some (.long 7), none, some (.long 134), none]) rfl (t_X8_in (M := M3) (a0 := x2.toInt64) (a1 := 7) (a2 := 134) rfl) ?_
      refine o_if_eq k129_25 (fun hc5 => ?_) (fun hc5 => ?_)
      · rw [if_pos hc5] at h
        refine o_iconst (v := 0) k129_32 (by decide) ?_
        obtain ⟨hc6, h⟩ := ck_i h
        refine bl_i h (fun M7 eM7 h => ?_)
        refine o_iast (M' := M7) k129_33 eM7 ia_47 hc6 ?_
        refine o_iinc (k := 1) (L' := [some (.ref 43), some (.int (x2 + 1))]) k129_34 rfl (by decide) rfl ?_
        refine o_goto k129_37 ?_
        have h9 := Option.some.inj h
        subst h9
        exact hK
      · rw [if_neg hc5] at h
        refine o_iconst (v := 2) k129_28 (by decide) ?_
        refine o_goto k129_29 ?_
        obtain ⟨hc8, h⟩ := ck_i h
        refine bl_i h (fun M9 eM9 h => ?_)
        refine o_iast (M' := M9) k129_33 eM9 ia_47 hc8 ?_
        refine o_iinc (k := 1) (L' := [some (.ref 43), some (.int (x2 + 1))]) k129_34 rfl (by decide) rfl ?_
        refine o_goto k129_37 ?_
        have h9 := Option.some.inj h
        subst h9
        exact hK
  · obtain ⟨x11, M12⟩ := s10
    show oo LN xs 0 0 129 40 [some (.ref 43), some (.int x11)] [] M12 (none, t)
    dsimp only at h
    refine o_aload_n k129_40 rfl ?_
    refine o_gf k129_41 (gf_43_3 _) ?_
    refine o_iconst (v := 4) k129_44 (by decide) ?_
    refine o_iconst (v := 4) k129_45 (by decide) ?_
    refine bl_i h (fun M14 eM14 h => ?_)
    refine o_iast (M' := M14) k129_46 eM14 ia_47 (by decide) ?_
    refine o_aload_n k129_47 rfl ?_
    refine o_gf k129_48 (gf_43_3 _) ?_
    refine o_iconst (v := 5) k129_51 (by decide) ?_
    refine o_iconst (v := 1) k129_52 (by decide) ?_
    refine bl_i h (fun M16 eM16 h => ?_)
    refine o_iast (M' := M16) k129_53 eM16 ia_47 (by decide) ?_
    refine o_aload_n k129_54 rfl ?_
    refine o_gf k129_55 (gf_43_3 _) ?_
    refine o_bipush (v := 6) k129_58 (by decide) ?_
    refine o_iconst (v := 1) k129_60 (by decide) ?_
    refine bl_i h (fun M18 eM18 h => ?_)
    refine o_iast (M' := M18) k129_61 eM18 ia_47 (by decide) ?_
    refine o_aload_n k129_62 rfl ?_
    refine o_iconst (v := 0) k129_63 (by decide) ?_
    refine bl_i h (fun M19 eM19 h => ?_)
    refine o_pf (M' := M19) k129_64 (pf_43_4 (by decide) eM19) ?_
    refine o_aload_n k129_67 rfl ?_
    refine o_iconst (v := 0) k129_68 (by decide) ?_
    refine bl_i h (fun M20 eM20 h => ?_)
    refine o_pf (M' := M20) k129_69 (pf_43_5 (by decide) eM20) ?_
    refine o_aload_n k129_72 rfl ?_
    refine o_iconst (v := 0) k129_73 (by decide) ?_
    refine bl_i h (fun M21 eM21 h => ?_)
    refine o_pf (M' := M21) k129_74 (pf_43_6 (by decide) eM21) ?_
    refine o_aload_n k129_77 rfl ?_
    refine o_iconst (v := 0) k129_78 (by decide) ?_
    refine bl_i h (fun M22 eM22 h => ?_)
    refine o_pf (M' := M22) k129_79 (pf_43_10 (by decide) eM22) ?_
    refine o_aload_n k129_82 rfl ?_
    refine o_iconst (v := (-1)) k129_83 (by decide) ?_
    refine bl_i h (fun M23 eM23 h => ?_)
    refine o_pf (M' := M23) k129_84 (pf_43_7 eM23) ?_
    refine o_aload_n k129_87 rfl ?_
    refine o_iconst (v := (-1)) k129_88 (by decide) ?_
    refine bl_i h (fun M24 eM24 h => ?_)
    refine o_pf (M' := M24) k129_89 (pf_43_8 eM24) ?_
    refine o_aload_n k129_92 rfl ?_
    refine o_iconst (v := (-1)) k129_93 (by decide) ?_
    refine bl_i h (fun M25 eM25 h => ?_)
    refine o_pf (M' := M25) k129_94 (pf_43_9 eM25) ?_
    have h9 := Option.some.inj h
    subst h9
    exact o_vret pj_129 k129_97 rfl
def f_X8_byteAt_43 (a0 : Int32) (M : am_M) : Option Int32 := (if (M 43 12) ≤ a0 then (some (-1)) else (if am_dbin a0 160 = true then (some (M 48 a0.toNatClampNeg)) else none))
set_option maxRecDepth 20000 in
theorem t_X8_byteAt_43 {LN : Nat} {xs : Nat → Int32} {a0 : Int32} {M : am_M} {t : Int32} (h : f_X8_byteAt_43 a0 M = some t) : oo LN xs 0 0 135 0 [some (.ref 43), some (.int a0)] [] M (some (.int t), M) := by
  unfold f_X8_byteAt_43 at h
  refine o_iload_n k135_0 rfl ?_
  refine o_aload_n k135_1 rfl ?_
  refine o_gf k135_2 (gf_43_12 _) ?_
  refine o_icmp_ge k135_5 (fun hc1 => ?_) (fun hc1 => ?_)
  · rw [if_pos hc1] at h
    refine o_iconst (v := (-1)) k135_17 (by decide) ?_
    have h9 := Option.some.inj h
    subst h9
    exact o_iret pj_135 k135_18 rfl nr_i
  · rw [if_neg hc1] at h
    refine o_aload_n k135_8 rfl ?_
    refine o_gf k135_9 (gf_43_11 _) ?_
    refine o_iload_n k135_12 rfl ?_
    obtain ⟨hc2, h⟩ := ck_i h
    refine o_iald k135_13 rfl ia_48 hc2 ?_
    refine o_goto k135_14 ?_
    have h9 := Option.some.inj h
    subst h9
    exact o_iret pj_135 k135_18 rfl nr_i
def f_X8_requires_43 (a0 : Int32) (a1 : Int32) (M : am_M) : Option am_M := (if a0 = 0 then (if (M 43 17) = 0 then (bl (am_up M 43 17 a1) (fun (M3 : am_M) => (bl (am_up M3 43 18 (M3 43 14)) (fun (M4 : am_M) => (some M4))))) else (some M)) else (some M))
set_option maxRecDepth 20000 in
theorem t_X8_requires_43 {LN : Nat} {xs : Nat → Int32} {a0 : Int32} {a1 : Int32} {M : am_M} {t : am_M} (h : f_X8_requires_43 a0 a1 M = some t) : oo LN xs 0 0 134 0 [some (.ref 43), some (.int a0), some (.int a1)] [] M (none, t) := by
  unfold f_X8_requires_43 at h
  refine o_iload_n k134_0 rfl ?_
  refine o_if_ne k134_1 (fun hc1 => ?_) (fun hc1 => ?_)
  · rw [if_neg hc1] at h
    have h9 := Option.some.inj h
    subst h9
    exact o_vret pj_134 k134_24 rfl
  · rw [if_pos hc1] at h
    refine o_aload_n k134_4 rfl ?_
    refine o_gf k134_5 (gf_43_17 _) ?_
    refine o_if_ne k134_8 (fun hc2 => ?_) (fun hc2 => ?_)
    · rw [if_neg hc2] at h
      have h9 := Option.some.inj h
      subst h9
      exact o_vret pj_134 k134_24 rfl
    · rw [if_pos hc2] at h
      refine o_aload_n k134_11 rfl ?_
      refine o_iload_n k134_12 rfl ?_
      refine bl_i h (fun M3 eM3 h => ?_)
      refine o_pf (M' := M3) k134_13 (pf_43_17 eM3) ?_
      refine o_aload_n k134_16 rfl ?_
      refine o_aload_n k134_17 rfl ?_
      refine o_gf k134_18 (gf_43_14 _) ?_
      refine bl_i h (fun M4 eM4 h => ?_)
      refine o_pf (M' := M4) k134_21 (pf_43_18 eM4) ?_
      have h9 := Option.some.inj h
      subst h9
      exact o_vret pj_134 k134_24 rfl
def f_X8_reads_43 (M : am_M) : Option am_M := (if (M 43 17) ≤ 0 then ((lp (σ := am_M) (ρ := am_M) (fun M3 => ((f_X8_byteAt_43 (M3 43 13) M3).bind (fun v4 => (if v4 = 32 then (bl (am_up M3 43 13 ((M3 43 13) + 1)) (fun (M6 : am_M) => (some (.inl M6)))) else (some (.inr M3)))))) lp_F M).bind (fun M8 => (bl (am_up M8 43 14 (M8 43 13)) (fun (M9 : am_M) => ((f_X8_byteAt_43 (M9 43 13) M9).bind (fun v10 => (if 0 ≤ v10 then (if (f_X8_in v10.toInt64 97 122) = 0 then (if (f_X8_in v10.toInt64 48 57) = 0 then (bl (am_up M9 43 15 3) (fun (M14 : am_M) => (bl (if v10 = 59 then 1 else 0) (fun (v16 : Int32) => ((f_X8_requires_43 v16 1 M14).bind (fun q17 => (bl (am_up q17 43 13 ((q17 43 13) + 1)) (fun (M18 : am_M) => (some M18))))))))) else (bl (am_up M9 43 15 2) (fun (M19 : am_M) => (bl (am_up M19 43 16 0) (fun (M20 : am_M) => ((lp (σ := am_M) (ρ := am_M) (fun M22 => ((f_X8_byteAt_43 (M22 43 13) M22).bind (fun v23 => (if (f_X8_in v23.toInt64 48 57) = 0 then (some (.inr M22)) else (bl (fun (v27 : Int32) => ((bl (am_up M22 43 16 v27) (fun (M28 : am_M) => (bl (am_up M28 43 13 ((M28 43 13) + 1)) (fun (M29 : am_M) => (some (.inl M29)))))) : Option ((am_M) ⊕ (am_M)))) (fun (j30 : Int32 → Option ((am_M) ⊕ (am_M))) => (if 4 ≤ ((M22 43 13) - (M22 43 14)) then (j30 (M22 43 16)) else ((f_X8_byteAt_43 (M22 43 13) M22).bind (fun v26 => (j30 ((((10 : Int32) * (M22 43 16)) + v26) - 48))))))))))) lp_F M20).bind (fun M32 => (bl (if 4 < ((M32 43 13) - (M32 43 14)) then 0 else 1) (fun (v34 : Int32) => ((f_X8_requires_43 v34 1 M32).bind (fun q35 => (some q35)))))))))))) else (bl (am_up M9 43 15 1) (fun (M36 : am_M) => ((lp (σ := am_M) (ρ := am_M) (fun M38 => ((f_X8_byteAt_43 (M38 43 13) M38).bind (fun v39 => (if (f_X8_in v39.toInt64 97 122) = 0 then (some (.inr M38)) else (bl (am_up M38 43 13 ((M38 43 13) + 1)) (fun (M41 : am_M) => (some (.inl M41)))))))) lp_F M36).bind (fun M43 => (some M43)))))) else (bl (am_up M9 43 15 0) (fun (M44 : am_M) => (some M44)))))))))) else (some M))
set_option maxRecDepth 20000 in
theorem t_X8_reads_43 {LN : Nat} {xs : Nat → Int32} {M : am_M} {t : am_M} (h : f_X8_reads_43 M = some t) : oo LN xs 0 0 139 0 [some (.ref 43), none] [] M (none, t) := by
  unfold f_X8_reads_43 at h
  refine o_aload_n k139_0 rfl ?_
  refine o_gf k139_1 (gf_43_17 _) ?_
  refine o_if_le k139_4 (fun hc1 => ?_) (fun hc1 => ?_)
  · rw [if_pos hc1] at h
    refine bd_i h (fun s7 hs7 h => ?_)
    refine lp_o (fun M3 => oo LN xs 0 0 139 8 [some (.ref 43), none] [] M3 (none, t)) (fun M8 => oo LN xs 0 0 139 34 [some (.ref 43), none] [] M8 (none, t)) ?_ hs7 ?_
    · rintro M3 ws2 h hK
      show oo LN xs 0 0 139 8 [some (.ref 43), none] [] M3 (none, t)
      refine o_aload_n k139_8 rfl ?_
      refine o_aload_n k139_9 rfl ?_
      refine o_gf k139_10 (gf_43_13 _) ?_
      refine bd_i h (fun v4 hv4 h => ?_)
      refine o_call k139_13 pj_135 (fun _ => rfl) (by decide) rfl (as := [.ref 43, .int (M3 43 13)]) (rest := []) rfl (L0 := [some (.ref 43), some (.int (M3 43 13))]) rfl (t_X8_byteAt_43 hv4) ?_
      refine o_bipush (v := 32) k139_16 (by decide) ?_
      refine o_icmp_ne k139_18 (fun hc5 => ?_) (fun hc5 => ?_)
      · rw [if_neg hc5] at h
        have h9 := Option.some.inj h
        subst h9
        exact hK
      · rw [if_pos hc5] at h
        refine o_aload_n k139_21 rfl ?_
        refine o_dupr k139_22 ?_
        refine o_gf k139_23 (gf_43_13 _) ?_
        refine o_iconst (v := 1) k139_26 (by decide) ?_
        refine o_iadd k139_27 ?_
        refine bl_i h (fun M6 eM6 h => ?_)
        refine o_pf (M' := M6) k139_28 (pf_43_13 eM6) ?_
        refine o_goto k139_31 ?_
        have h9 := Option.some.inj h
        subst h9
        exact hK
    · obtain ⟨M8, rfl⟩ : ∃ z, z = s7 := ⟨_, rfl⟩
      show oo LN xs 0 0 139 34 [some (.ref 43), none] [] M8 (none, t)
      refine o_aload_n k139_34 rfl ?_
      refine o_aload_n k139_35 rfl ?_
      refine o_gf k139_36 (gf_43_13 _) ?_
      refine bl_i h (fun M9 eM9 h => ?_)
      refine o_pf (M' := M9) k139_39 (pf_43_14 eM9) ?_
      refine o_aload_n k139_42 rfl ?_
      refine o_aload_n k139_43 rfl ?_
      refine o_gf k139_44 (gf_43_13 _) ?_
      refine bd_i h (fun v10 hv10 h => ?_)
      refine o_call k139_47 pj_135 (fun _ => rfl) (by decide) rfl (as := [.ref 43, .int (M9 43 13)]) (rest := []) rfl (L0 := [some (.ref 43), some (.int (M9 43 13))]) rfl (t_X8_byteAt_43 hv10) ?_
      refine o_istore_n (v := v10) (L' := [some (.ref 43), some (.int v10)]) k139_50 rfl rfl ?_
      refine o_iload_n k139_51 rfl ?_
      refine o_if_ge k139_52 (fun hc11 => ?_) (fun hc11 => ?_)
      · rw [if_pos hc11] at h
        refine o_iload_n k139_63 rfl ?_
        refine o_i2l k139_64 ?_
        refine o_ldc2_w k139_65 ?_
        refine o_ldc2_w k139_68 ?_
        refine o_call k139_71 pj_125 (fun _ => rfl) (by decide) rfl (as := [.long v10.toInt64, .long 97, .long 122]) (rest := []) rfl (L0 := [some (.long v10.toInt64), none, some (.long 97), none, some (.long 122), none]) rfl (t_X8_in (M := M9) (a0 := v10.toInt64) (a1 := 97) (a2 := 122) rfl) ?_
        refine o_if_eq k139_74 (fun hc12 => ?_) (fun hc12 => ?_)
        · rw [if_pos hc12] at h
          refine o_iload_n k139_116 rfl ?_
          refine o_i2l k139_117 ?_
          refine o_ldc2_w k139_118 ?_
          refine o_ldc2_w k139_121 ?_
          refine o_call k139_124 pj_125 (fun _ => rfl) (by decide) rfl (as := [.long v10.toInt64, .long 48, .long 57]) (rest := []) rfl (L0 := [some (.long v10.toInt64), none, some (.long 48), none, some (.long 57), none]) rfl (t_X8_in (M := M9) (a0 := v10.toInt64) (a1 := 48) (a2 := 57) rfl) ?_
          refine o_if_eq k139_127 (fun hc13 => ?_) (fun hc13 => ?_)
          · rw [if_pos hc13] at h
            refine o_aload_n k139_243 rfl ?_
            refine o_iconst (v := 3) k139_244 (by decide) ?_
            refine bl_i h (fun M14 eM14 h => ?_)
            refine o_pf (M' := M14) k139_245 (pf_43_15 eM14) ?_
            refine o_aload_n k139_248 rfl ?_
            refine o_iload_n k139_249 rfl ?_
            refine o_bipush (v := 59) k139_250 (by decide) ?_
            refine bl_i h (fun v16 ev16 h => ?_)
            have hJ260 : ∀ (yv16 : Int32), yv16 = v16 → oo LN xs 0 0 139 260 [some (.ref 43), some (.int v10)] [.int yv16, .ref 43] M14 (none, t) := by
              intro yv16 hyv16
              rw [hyv16]
              refine o_iconst (v := 1) k139_260 (by decide) ?_
              refine bd_i h (fun q17 hq17 h => ?_)
              refine o_call k139_261 pj_134 (fun _ => rfl) (by decide) rfl (as := [.ref 43, .int v16, .int 1]) (rest := []) rfl (L0 := [some (.ref 43), some (.int v16), some (.int 1)]) rfl (t_X8_requires_43 hq17) ?_
              refine o_aload_n k139_264 rfl ?_
              refine o_dupr k139_265 ?_
              refine o_gf k139_266 (gf_43_13 _) ?_
              refine o_iconst (v := 1) k139_269 (by decide) ?_
              refine o_iadd k139_270 ?_
              refine bl_i h (fun M18 eM18 h => ?_)
              refine o_pf (M' := M18) k139_271 (pf_43_13 eM18) ?_
              have h9 := Option.some.inj h
              subst h9
              exact o_vret pj_139 k139_274 rfl
            refine o_icmp_ne k139_252 (fun hc15 => ?_) (fun hc15 => ?_)
            · skip
              refine o_iconst (v := 0) k139_259 (by decide) ?_
              exact hJ260 _ (by simp only [ev16, if_neg hc15])
            · skip
              refine o_iconst (v := 1) k139_255 (by decide) ?_
              refine o_goto k139_256 ?_
              exact hJ260 _ (by simp only [ev16, if_pos hc15])
          · rw [if_neg hc13] at h
            refine o_aload_n k139_130 rfl ?_
            refine o_iconst (v := 2) k139_131 (by decide) ?_
            refine bl_i h (fun M19 eM19 h => ?_)
            refine o_pf (M' := M19) k139_132 (pf_43_15 eM19) ?_
            refine o_aload_n k139_135 rfl ?_
            refine o_iconst (v := 0) k139_136 (by decide) ?_
            refine bl_i h (fun M20 eM20 h => ?_)
            refine o_pf (M' := M20) k139_137 (pf_43_16 eM20) ?_
            refine bd_i h (fun s31 hs31 h => ?_)
            refine lp_o (fun M22 => oo LN xs 0 0 139 140 [some (.ref 43), some (.int v10)] [] M22 (none, t)) (fun M32 => oo LN xs 0 0 139 217 [some (.ref 43), some (.int v10)] [] M32 (none, t)) ?_ hs31 ?_
            · rintro M22 ws21 h hK
              show oo LN xs 0 0 139 140 [some (.ref 43), some (.int v10)] [] M22 (none, t)
              refine o_aload_n k139_140 rfl ?_
              refine o_aload_n k139_141 rfl ?_
              refine o_gf k139_142 (gf_43_13 _) ?_
              refine bd_i h (fun v23 hv23 h => ?_)
              refine o_call k139_145 pj_135 (fun _ => rfl) (by decide) rfl (as := [.ref 43, .int (M22 43 13)]) (rest := []) rfl (L0 := [some (.ref 43), some (.int (M22 43 13))]) rfl (t_X8_byteAt_43 hv23) ?_
              refine o_i2l k139_148 ?_
              refine o_ldc2_w k139_149 ?_
              refine o_ldc2_w k139_152 ?_
              refine o_call k139_155 pj_125 (fun _ => rfl) (by decide) rfl (as := [.long v23.toInt64, .long 48, .long 57]) (rest := []) rfl (L0 := [some (.long v23.toInt64), none, some (.long 48), none, some (.long 57), none]) rfl (t_X8_in (M := M22) (a0 := v23.toInt64) (a1 := 48) (a2 := 57) rfl) ?_
              refine o_if_eq k139_158 (fun hc24 => ?_) (fun hc24 => ?_)
              · rw [if_pos hc24] at h
                have h9 := Option.some.inj h
                subst h9
                exact hK
              · rw [if_neg hc24] at h
                refine o_aload_n k139_161 rfl ?_
                refine o_aload_n k139_162 rfl ?_
                refine o_gf k139_163 (gf_43_13 _) ?_
                refine o_aload_n k139_166 rfl ?_
                refine o_gf k139_167 (gf_43_14 _) ?_
                refine o_isub k139_170 ?_
                refine o_iconst (v := 4) k139_171 (by decide) ?_
                refine bl_i h (fun j30 ej30 h => ?_)
                have hJ201 : ∀ (v27 : Int32), j30 v27 = some ws21 → oo LN xs 0 0 139 201 [some (.ref 43), some (.int v10)] [.int v27, .ref 43] M22 (none, t) := by
                  intro v27 h
                  rw [ej30] at h
                  dsimp only at h
                  refine bl_i h (fun M28 eM28 h => ?_)
                  refine o_pf (M' := M28) k139_201 (pf_43_16 eM28) ?_
                  refine o_aload_n k139_204 rfl ?_
                  refine o_dupr k139_205 ?_
                  refine o_gf k139_206 (gf_43_13 _) ?_
                  refine o_iconst (v := 1) k139_209 (by decide) ?_
                  refine o_iadd k139_210 ?_
                  refine bl_i h (fun M29 eM29 h => ?_)
                  refine o_pf (M' := M29) k139_211 (pf_43_13 eM29) ?_
                  refine o_goto k139_214 ?_
                  have h9 := Option.some.inj h
                  subst h9
                  exact hK
                refine o_icmp_ge k139_172 (fun hc25 => ?_) (fun hc25 => ?_)
                · rw [if_pos hc25] at h
                  refine o_aload_n k139_197 rfl ?_
                  refine o_gf k139_198 (gf_43_16 _) ?_
                  exact hJ201 _ h
                · rw [if_neg hc25] at h
                  refine o_bipush (v := 10) k139_175 (by decide) ?_
                  refine o_aload_n k139_177 rfl ?_
                  refine o_gf k139_178 (gf_43_16 _) ?_
                  refine o_imul k139_181 ?_
                  refine o_aload_n k139_182 rfl ?_
                  refine o_aload_n k139_183 rfl ?_
                  refine o_gf k139_184 (gf_43_13 _) ?_
                  refine bd_i h (fun v26 hv26 h => ?_)
                  refine o_call k139_187 pj_135 (fun _ => rfl) (by decide) rfl (as := [.ref 43, .int (M22 43 13)]) (rest := [.int ((10 : Int32) * (M22 43 16)), .ref 43]) rfl (L0 := [some (.ref 43), some (.int (M22 43 13))]) rfl (t_X8_byteAt_43 hv26) ?_
                  refine o_iadd k139_190 ?_
                  refine o_bipush (v := 48) k139_191 (by decide) ?_
                  refine o_isub k139_193 ?_
                  refine o_goto k139_194 ?_
                  exact hJ201 _ h
            · obtain ⟨M32, rfl⟩ : ∃ z, z = s31 := ⟨_, rfl⟩
              show oo LN xs 0 0 139 217 [some (.ref 43), some (.int v10)] [] M32 (none, t)
              refine o_aload_n k139_217 rfl ?_
              refine o_aload_n k139_218 rfl ?_
              refine o_gf k139_219 (gf_43_13 _) ?_
              refine o_aload_n k139_222 rfl ?_
              refine o_gf k139_223 (gf_43_14 _) ?_
              refine o_isub k139_226 ?_
              refine o_iconst (v := 4) k139_227 (by decide) ?_
              refine bl_i h (fun v34 ev34 h => ?_)
              have hJ236 : ∀ (yv34 : Int32), yv34 = v34 → oo LN xs 0 0 139 236 [some (.ref 43), some (.int v10)] [.int yv34, .ref 43] M32 (none, t) := by
                intro yv34 hyv34
                rw [hyv34]
                refine o_iconst (v := 1) k139_236 (by decide) ?_
                refine bd_i h (fun q35 hq35 h => ?_)
                refine o_call k139_237 pj_134 (fun _ => rfl) (by decide) rfl (as := [.ref 43, .int v34, .int 1]) (rest := []) rfl (L0 := [some (.ref 43), some (.int v34), some (.int 1)]) rfl (t_X8_requires_43 hq35) ?_
                refine o_goto k139_240 ?_
                have h9 := Option.some.inj h
                subst h9
                exact o_vret pj_139 k139_274 rfl
              refine o_icmp_gt k139_228 (fun hc33 => ?_) (fun hc33 => ?_)
              · skip
                refine o_iconst (v := 0) k139_235 (by decide) ?_
                exact hJ236 _ (by simp only [ev34, if_pos hc33])
              · skip
                refine o_iconst (v := 1) k139_231 (by decide) ?_
                refine o_goto k139_232 ?_
                exact hJ236 _ (by simp only [ev34, if_neg hc33])
        · rw [if_neg hc12] at h
          refine o_aload_n k139_77 rfl ?_
          refine o_iconst (v := 1) k139_78 (by decide) ?_
          refine bl_i h (fun M36 eM36 h => ?_)
          refine o_pf (M' := M36) k139_79 (pf_43_15 eM36) ?_
          refine bd_i h (fun s42 hs42 h => ?_)
          refine lp_o (fun M38 => oo LN xs 0 0 139 82 [some (.ref 43), some (.int v10)] [] M38 (none, t)) (fun M43 => oo LN xs 0 0 139 274 [some (.ref 43), some (.int v10)] [] M43 (none, t)) ?_ hs42 ?_
          · rintro M38 ws37 h hK
            show oo LN xs 0 0 139 82 [some (.ref 43), some (.int v10)] [] M38 (none, t)
            refine o_aload_n k139_82 rfl ?_
            refine o_aload_n k139_83 rfl ?_
            refine o_gf k139_84 (gf_43_13 _) ?_
            refine bd_i h (fun v39 hv39 h => ?_)
            refine o_call k139_87 pj_135 (fun _ => rfl) (by decide) rfl (as := [.ref 43, .int (M38 43 13)]) (rest := []) rfl (L0 := [some (.ref 43), some (.int (M38 43 13))]) rfl (t_X8_byteAt_43 hv39) ?_
            refine o_i2l k139_90 ?_
            refine o_ldc2_w k139_91 ?_
            refine o_ldc2_w k139_94 ?_
            refine o_call k139_97 pj_125 (fun _ => rfl) (by decide) rfl (as := [.long v39.toInt64, .long 97, .long 122]) (rest := []) rfl (L0 := [some (.long v39.toInt64), none, some (.long 97), none, some (.long 122), none]) rfl (t_X8_in (M := M38) (a0 := v39.toInt64) (a1 := 97) (a2 := 122) rfl) ?_
            refine o_if_eq k139_100 (fun hc40 => ?_) (fun hc40 => ?_)
            · rw [if_pos hc40] at h
              have h9 := Option.some.inj h
              subst h9
              exact hK
            · rw [if_neg hc40] at h
              refine o_aload_n k139_103 rfl ?_
              refine o_dupr k139_104 ?_
              refine o_gf k139_105 (gf_43_13 _) ?_
              refine o_iconst (v := 1) k139_108 (by decide) ?_
              refine o_iadd k139_109 ?_
              refine bl_i h (fun M41 eM41 h => ?_)
              refine o_pf (M' := M41) k139_110 (pf_43_13 eM41) ?_
              refine o_goto k139_113 ?_
              have h9 := Option.some.inj h
              subst h9
              exact hK
          · obtain ⟨M43, rfl⟩ : ∃ z, z = s42 := ⟨_, rfl⟩
            show oo LN xs 0 0 139 274 [some (.ref 43), some (.int v10)] [] M43 (none, t)
            have h9 := Option.some.inj h
            subst h9
            exact o_vret pj_139 k139_274 rfl
      · rw [if_neg hc11] at h
        refine o_aload_n k139_55 rfl ?_
        refine o_iconst (v := 0) k139_56 (by decide) ?_
        refine bl_i h (fun M44 eM44 h => ?_)
        refine o_pf (M' := M44) k139_57 (pf_43_15 eM44) ?_
        refine o_goto k139_60 ?_
        have h9 := Option.some.inj h
        subst h9
        exact o_vret pj_139 k139_274 rfl
  · rw [if_neg hc1] at h
    have h9 := Option.some.inj h
    subst h9
    exact o_vret pj_139 k139_7 rfl
def f_X8_is_43 (a0 : Int32) (a1 : Int32) (a2 : Int32) (a3 : Int32) (M : am_M) : Option Int32 := (if ((M 43 13) - (M 43 14)) = a0 then ((f_X8_byteAt_43 (M 43 14) M).bind (fun v2 => (if v2 = a1 then ((f_X8_byteAt_43 ((M 43 14) + 1) M).bind (fun v4 => (if v4 = a2 then ((f_X8_byteAt_43 ((M 43 14) + 2) M).bind (fun v6 => (if v6 = a3 then (some 1) else (some 0)))) else (some 0)))) else (some 0)))) else (some 0))
set_option maxRecDepth 20000 in
theorem t_X8_is_43 {LN : Nat} {xs : Nat → Int32} {a0 : Int32} {a1 : Int32} {a2 : Int32} {a3 : Int32} {M : am_M} {t : Int32} (h : f_X8_is_43 a0 a1 a2 a3 M = some t) : oo LN xs 0 0 136 0 [some (.ref 43), some (.int a0), some (.int a1), some (.int a2), some (.int a3)] [] M (some (.int t), M) := by
  unfold f_X8_is_43 at h
  refine o_aload_n k136_0 rfl ?_
  refine o_gf k136_1 (gf_43_13 _) ?_
  refine o_aload_n k136_4 rfl ?_
  refine o_gf k136_5 (gf_43_14 _) ?_
  refine o_isub k136_8 ?_
  refine o_iload_n k136_9 rfl ?_
  refine o_icmp_ne k136_10 (fun hc1 => ?_) (fun hc1 => ?_)
  · rw [if_neg hc1] at h
    refine o_iconst (v := 0) k136_58 (by decide) ?_
    have h9 := Option.some.inj h
    subst h9
    exact o_iret pj_136 k136_59 rfl (nr_z (by decide))
  · rw [if_pos hc1] at h
    refine o_aload_n k136_13 rfl ?_
    refine o_aload_n k136_14 rfl ?_
    refine o_gf k136_15 (gf_43_14 _) ?_
    refine bd_i h (fun v2 hv2 h => ?_)
    refine o_call k136_18 pj_135 (fun _ => rfl) (by decide) rfl (as := [.ref 43, .int (M 43 14)]) (rest := []) rfl (L0 := [some (.ref 43), some (.int (M 43 14))]) rfl (t_X8_byteAt_43 hv2) ?_
    refine o_iload_n k136_21 rfl ?_
    refine o_icmp_ne k136_22 (fun hc3 => ?_) (fun hc3 => ?_)
    · rw [if_neg hc3] at h
      refine o_iconst (v := 0) k136_58 (by decide) ?_
      have h9 := Option.some.inj h
      subst h9
      exact o_iret pj_136 k136_59 rfl (nr_z (by decide))
    · rw [if_pos hc3] at h
      refine o_aload_n k136_25 rfl ?_
      refine o_aload_n k136_26 rfl ?_
      refine o_gf k136_27 (gf_43_14 _) ?_
      refine o_iconst (v := 1) k136_30 (by decide) ?_
      refine o_iadd k136_31 ?_
      refine bd_i h (fun v4 hv4 h => ?_)
      refine o_call k136_32 pj_135 (fun _ => rfl) (by decide) rfl (as := [.ref 43, .int ((M 43 14) + 1)]) (rest := []) rfl (L0 := [some (.ref 43), some (.int ((M 43 14) + 1))]) rfl (t_X8_byteAt_43 hv4) ?_
      refine o_iload_n k136_35 rfl ?_
      refine o_icmp_ne k136_36 (fun hc5 => ?_) (fun hc5 => ?_)
      · rw [if_neg hc5] at h
        refine o_iconst (v := 0) k136_58 (by decide) ?_
        have h9 := Option.some.inj h
        subst h9
        exact o_iret pj_136 k136_59 rfl (nr_z (by decide))
      · rw [if_pos hc5] at h
        refine o_aload_n k136_39 rfl ?_
        refine o_aload_n k136_40 rfl ?_
        refine o_gf k136_41 (gf_43_14 _) ?_
        refine o_iconst (v := 2) k136_44 (by decide) ?_
        refine o_iadd k136_45 ?_
        refine bd_i h (fun v6 hv6 h => ?_)
        refine o_call k136_46 pj_135 (fun _ => rfl) (by decide) rfl (as := [.ref 43, .int ((M 43 14) + 2)]) (rest := []) rfl (L0 := [some (.ref 43), some (.int ((M 43 14) + 2))]) rfl (t_X8_byteAt_43 hv6) ?_
        refine o_iload k136_49 rfl ?_
        refine o_icmp_ne k136_51 (fun hc7 => ?_) (fun hc7 => ?_)
        · rw [if_neg hc7] at h
          refine o_iconst (v := 0) k136_58 (by decide) ?_
          have h9 := Option.some.inj h
          subst h9
          exact o_iret pj_136 k136_59 rfl (nr_z (by decide))
        · rw [if_pos hc7] at h
          refine o_iconst (v := 1) k136_54 (by decide) ?_
          refine o_goto k136_55 ?_
          have h9 := Option.some.inj h
          subst h9
          exact o_iret pj_136 k136_59 rfl (nr_z (by decide))
def f_X8_goesOn_43 (a0 : Int32) (a1 : Int32) (a2 : Int32) (a3 : Int32) (M : am_M) : Option Int32 := ((f_X8_byteAt_43 ((M 43 14) + a0) M).bind (fun v1 => (if v1 = a1 then (if a2 = 0 then (if a3 = 0 then (some 1) else ((f_X8_byteAt_43 (((M 43 14) + a0) + 2) M).bind (fun v5 => (if v5 = a3 then (some 1) else (some 0))))) else ((f_X8_byteAt_43 (((M 43 14) + a0) + 1) M).bind (fun v7 => (if v7 = a2 then (if a3 = 0 then (some 1) else ((f_X8_byteAt_43 (((M 43 14) + a0) + 2) M).bind (fun v10 => (if v10 = a3 then (some 1) else (some 0))))) else (some 0))))) else (some 0))))
set_option maxRecDepth 20000 in
theorem t_X8_goesOn_43 {LN : Nat} {xs : Nat → Int32} {a0 : Int32} {a1 : Int32} {a2 : Int32} {a3 : Int32} {M : am_M} {t : Int32} (h : f_X8_goesOn_43 a0 a1 a2 a3 M = some t) : oo LN xs 0 0 137 0 [some (.ref 43), some (.int a0), some (.int a1), some (.int a2), some (.int a3)] [] M (some (.int t), M) := by
  unfold f_X8_goesOn_43 at h
  refine o_aload_n k137_0 rfl ?_
  refine o_aload_n k137_1 rfl ?_
  refine o_gf k137_2 (gf_43_14 _) ?_
  refine o_iload_n k137_5 rfl ?_
  refine o_iadd k137_6 ?_
  refine bd_i h (fun v1 hv1 h => ?_)
  refine o_call k137_7 pj_135 (fun _ => rfl) (by decide) rfl (as := [.ref 43, .int ((M 43 14) + a0)]) (rest := []) rfl (L0 := [some (.ref 43), some (.int ((M 43 14) + a0))]) rfl (t_X8_byteAt_43 hv1) ?_
  refine o_iload_n k137_10 rfl ?_
  refine o_icmp_ne k137_11 (fun hc2 => ?_) (fun hc2 => ?_)
  · rw [if_neg hc2] at h
    refine o_iconst (v := 0) k137_60 (by decide) ?_
    have h9 := Option.some.inj h
    subst h9
    exact o_iret pj_137 k137_61 rfl (nr_z (by decide))
  · rw [if_pos hc2] at h
    refine o_iload_n k137_14 rfl ?_
    refine o_if_eq k137_15 (fun hc3 => ?_) (fun hc3 => ?_)
    · rw [if_pos hc3] at h
      refine o_iload k137_34 rfl ?_
      refine o_if_eq k137_36 (fun hc4 => ?_) (fun hc4 => ?_)
      · rw [if_pos hc4] at h
        refine o_iconst (v := 1) k137_56 (by decide) ?_
        refine o_goto k137_57 ?_
        have h9 := Option.some.inj h
        subst h9
        exact o_iret pj_137 k137_61 rfl (nr_z (by decide))
      · rw [if_neg hc4] at h
        refine o_aload_n k137_39 rfl ?_
        refine o_aload_n k137_40 rfl ?_
        refine o_gf k137_41 (gf_43_14 _) ?_
        refine o_iload_n k137_44 rfl ?_
        refine o_iadd k137_45 ?_
        refine o_iconst (v := 2) k137_46 (by decide) ?_
        refine o_iadd k137_47 ?_
        refine bd_i h (fun v5 hv5 h => ?_)
        refine o_call k137_48 pj_135 (fun _ => rfl) (by decide) rfl (as := [.ref 43, .int (((M 43 14) + a0) + 2)]) (rest := []) rfl (L0 := [some (.ref 43), some (.int (((M 43 14) + a0) + 2))]) rfl (t_X8_byteAt_43 hv5) ?_
        refine o_iload k137_51 rfl ?_
        refine o_icmp_ne k137_53 (fun hc6 => ?_) (fun hc6 => ?_)
        · rw [if_neg hc6] at h
          refine o_iconst (v := 0) k137_60 (by decide) ?_
          have h9 := Option.some.inj h
          subst h9
          exact o_iret pj_137 k137_61 rfl (nr_z (by decide))
        · rw [if_pos hc6] at h
          refine o_iconst (v := 1) k137_56 (by decide) ?_
          refine o_goto k137_57 ?_
          have h9 := Option.some.inj h
          subst h9
          exact o_iret pj_137 k137_61 rfl (nr_z (by decide))
    · rw [if_neg hc3] at h
      refine o_aload_n k137_18 rfl ?_
      refine o_aload_n k137_19 rfl ?_
      refine o_gf k137_20 (gf_43_14 _) ?_
      refine o_iload_n k137_23 rfl ?_
      refine o_iadd k137_24 ?_
      refine o_iconst (v := 1) k137_25 (by decide) ?_
      refine o_iadd k137_26 ?_
      refine bd_i h (fun v7 hv7 h => ?_)
      refine o_call k137_27 pj_135 (fun _ => rfl) (by decide) rfl (as := [.ref 43, .int (((M 43 14) + a0) + 1)]) (rest := []) rfl (L0 := [some (.ref 43), some (.int (((M 43 14) + a0) + 1))]) rfl (t_X8_byteAt_43 hv7) ?_
      refine o_iload_n k137_30 rfl ?_
      refine o_icmp_ne k137_31 (fun hc8 => ?_) (fun hc8 => ?_)
      · rw [if_neg hc8] at h
        refine o_iconst (v := 0) k137_60 (by decide) ?_
        have h9 := Option.some.inj h
        subst h9
        exact o_iret pj_137 k137_61 rfl (nr_z (by decide))
      · rw [if_pos hc8] at h
        refine o_iload k137_34 rfl ?_
        refine o_if_eq k137_36 (fun hc9 => ?_) (fun hc9 => ?_)
        · rw [if_pos hc9] at h
          refine o_iconst (v := 1) k137_56 (by decide) ?_
          refine o_goto k137_57 ?_
          have h9 := Option.some.inj h
          subst h9
          exact o_iret pj_137 k137_61 rfl (nr_z (by decide))
        · rw [if_neg hc9] at h
          refine o_aload_n k137_39 rfl ?_
          refine o_aload_n k137_40 rfl ?_
          refine o_gf k137_41 (gf_43_14 _) ?_
          refine o_iload_n k137_44 rfl ?_
          refine o_iadd k137_45 ?_
          refine o_iconst (v := 2) k137_46 (by decide) ?_
          refine o_iadd k137_47 ?_
          refine bd_i h (fun v10 hv10 h => ?_)
          refine o_call k137_48 pj_135 (fun _ => rfl) (by decide) rfl (as := [.ref 43, .int (((M 43 14) + a0) + 2)]) (rest := []) rfl (L0 := [some (.ref 43), some (.int (((M 43 14) + a0) + 2))]) rfl (t_X8_byteAt_43 hv10) ?_
          refine o_iload k137_51 rfl ?_
          refine o_icmp_ne k137_53 (fun hc11 => ?_) (fun hc11 => ?_)
          · rw [if_neg hc11] at h
            refine o_iconst (v := 0) k137_60 (by decide) ?_
            have h9 := Option.some.inj h
            subst h9
            exact o_iret pj_137 k137_61 rfl (nr_z (by decide))
          · rw [if_pos hc11] at h
            refine o_iconst (v := 1) k137_56 (by decide) ?_
            refine o_goto k137_57 ?_
            have h9 := Option.some.inj h
            subst h9
            exact o_iret pj_137 k137_61 rfl (nr_z (by decide))
def f_X8_lineNow_43 (M : am_M) : Option Int32 := ((f_X8_is_43 4 99 104 105 M).bind (fun v1 => (if v1 = 0 then ((f_X8_is_43 6 99 111 108 M).bind (fun v3 => (if v3 = 0 then ((f_X8_is_43 3 111 117 116 M).bind (fun v5 => (if v5 = 0 then ((f_X8_is_43 8 114 101 103 M).bind (fun v7 => (if v7 = 0 then ((f_X8_is_43 4 112 111 108 M).bind (fun v9 => (if v9 = 0 then ((f_X8_is_43 4 99 101 108 M).bind (fun v11 => (if v11 = 0 then (some (-4)) else ((f_X8_goesOn_43 3 108 0 0 M).bind (fun v13 => (if v13 = 0 then (some (-4)) else (some 5))))))) else ((f_X8_goesOn_43 3 121 0 0 M).bind (fun v15 => (if v15 = 0 then ((f_X8_is_43 4 99 101 108 M).bind (fun v17 => (if v17 = 0 then (some (-4)) else ((f_X8_goesOn_43 3 108 0 0 M).bind (fun v19 => (if v19 = 0 then (some (-4)) else (some 5))))))) else (some 4))))))) else ((f_X8_goesOn_43 3 105 115 116 M).bind (fun v21 => (if v21 = 0 then ((f_X8_is_43 4 112 111 108 M).bind (fun v23 => (if v23 = 0 then ((f_X8_is_43 4 99 101 108 M).bind (fun v25 => (if v25 = 0 then (some (-4)) else ((f_X8_goesOn_43 3 108 0 0 M).bind (fun v27 => (if v27 = 0 then (some (-4)) else (some 5))))))) else ((f_X8_goesOn_43 3 121 0 0 M).bind (fun v29 => (if v29 = 0 then ((f_X8_is_43 4 99 101 108 M).bind (fun v31 => (if v31 = 0 then (some (-4)) else ((f_X8_goesOn_43 3 108 0 0 M).bind (fun v33 => (if v33 = 0 then (some (-4)) else (some 5))))))) else (some 4))))))) else ((f_X8_goesOn_43 6 101 114 0 M).bind (fun v35 => (if v35 = 0 then ((f_X8_is_43 4 112 111 108 M).bind (fun v37 => (if v37 = 0 then ((f_X8_is_43 4 99 101 108 M).bind (fun v39 => (if v39 = 0 then (some (-4)) else ((f_X8_goesOn_43 3 108 0 0 M).bind (fun v41 => (if v41 = 0 then (some (-4)) else (some 5))))))) else ((f_X8_goesOn_43 3 121 0 0 M).bind (fun v43 => (if v43 = 0 then ((f_X8_is_43 4 99 101 108 M).bind (fun v45 => (if v45 = 0 then (some (-4)) else ((f_X8_goesOn_43 3 108 0 0 M).bind (fun v47 => (if v47 = 0 then (some (-4)) else (some 5))))))) else (some 4))))))) else (some 3)))))))))) else (some 2)))) else ((f_X8_goesOn_43 3 117 109 110 M).bind (fun v49 => (if v49 = 0 then ((f_X8_is_43 3 111 117 116 M).bind (fun v51 => (if v51 = 0 then ((f_X8_is_43 8 114 101 103 M).bind (fun v53 => (if v53 = 0 then ((f_X8_is_43 4 112 111 108 M).bind (fun v55 => (if v55 = 0 then ((f_X8_is_43 4 99 101 108 M).bind (fun v57 => (if v57 = 0 then (some (-4)) else ((f_X8_goesOn_43 3 108 0 0 M).bind (fun v59 => (if v59 = 0 then (some (-4)) else (some 5))))))) else ((f_X8_goesOn_43 3 121 0 0 M).bind (fun v61 => (if v61 = 0 then ((f_X8_is_43 4 99 101 108 M).bind (fun v63 => (if v63 = 0 then (some (-4)) else ((f_X8_goesOn_43 3 108 0 0 M).bind (fun v65 => (if v65 = 0 then (some (-4)) else (some 5))))))) else (some 4))))))) else ((f_X8_goesOn_43 3 105 115 116 M).bind (fun v67 => (if v67 = 0 then ((f_X8_is_43 4 112 111 108 M).bind (fun v69 => (if v69 = 0 then ((f_X8_is_43 4 99 101 108 M).bind (fun v71 => (if v71 = 0 then (some (-4)) else ((f_X8_goesOn_43 3 108 0 0 M).bind (fun v73 => (if v73 = 0 then (some (-4)) else (some 5))))))) else ((f_X8_goesOn_43 3 121 0 0 M).bind (fun v75 => (if v75 = 0 then ((f_X8_is_43 4 99 101 108 M).bind (fun v77 => (if v77 = 0 then (some (-4)) else ((f_X8_goesOn_43 3 108 0 0 M).bind (fun v79 => (if v79 = 0 then (some (-4)) else (some 5))))))) else (some 4))))))) else ((f_X8_goesOn_43 6 101 114 0 M).bind (fun v81 => (if v81 = 0 then ((f_X8_is_43 4 112 111 108 M).bind (fun v83 => (if v83 = 0 then ((f_X8_is_43 4 99 101 108 M).bind (fun v85 => (if v85 = 0 then (some (-4)) else ((f_X8_goesOn_43 3 108 0 0 M).bind (fun v87 => (if v87 = 0 then (some (-4)) else (some 5))))))) else ((f_X8_goesOn_43 3 121 0 0 M).bind (fun v89 => (if v89 = 0 then ((f_X8_is_43 4 99 101 108 M).bind (fun v91 => (if v91 = 0 then (some (-4)) else ((f_X8_goesOn_43 3 108 0 0 M).bind (fun v93 => (if v93 = 0 then (some (-4)) else (some 5))))))) else (some 4))))))) else (some 3)))))))))) else (some 2)))) else (some 1))))))) else ((f_X8_goesOn_43 3 112 0 0 M).bind (fun v95 => (if v95 = 0 then ((f_X8_is_43 6 99 111 108 M).bind (fun v97 => (if v97 = 0 then ((f_X8_is_43 3 111 117 116 M).bind (fun v99 => (if v99 = 0 then ((f_X8_is_43 8 114 101 103 M).bind (fun v101 => (if v101 = 0 then ((f_X8_is_43 4 112 111 108 M).bind (fun v103 => (if v103 = 0 then ((f_X8_is_43 4 99 101 108 M).bind (fun v105 => (if v105 = 0 then (some (-4)) else ((f_X8_goesOn_43 3 108 0 0 M).bind (fun v107 => (if v107 = 0 then (some (-4)) else (some 5))))))) else ((f_X8_goesOn_43 3 121 0 0 M).bind (fun v109 => (if v109 = 0 then ((f_X8_is_43 4 99 101 108 M).bind (fun v111 => (if v111 = 0 then (some (-4)) else ((f_X8_goesOn_43 3 108 0 0 M).bind (fun v113 => (if v113 = 0 then (some (-4)) else (some 5))))))) else (some 4))))))) else ((f_X8_goesOn_43 3 105 115 116 M).bind (fun v115 => (if v115 = 0 then ((f_X8_is_43 4 112 111 108 M).bind (fun v117 => (if v117 = 0 then ((f_X8_is_43 4 99 101 108 M).bind (fun v119 => (if v119 = 0 then (some (-4)) else ((f_X8_goesOn_43 3 108 0 0 M).bind (fun v121 => (if v121 = 0 then (some (-4)) else (some 5))))))) else ((f_X8_goesOn_43 3 121 0 0 M).bind (fun v123 => (if v123 = 0 then ((f_X8_is_43 4 99 101 108 M).bind (fun v125 => (if v125 = 0 then (some (-4)) else ((f_X8_goesOn_43 3 108 0 0 M).bind (fun v127 => (if v127 = 0 then (some (-4)) else (some 5))))))) else (some 4))))))) else ((f_X8_goesOn_43 6 101 114 0 M).bind (fun v129 => (if v129 = 0 then ((f_X8_is_43 4 112 111 108 M).bind (fun v131 => (if v131 = 0 then ((f_X8_is_43 4 99 101 108 M).bind (fun v133 => (if v133 = 0 then (some (-4)) else ((f_X8_goesOn_43 3 108 0 0 M).bind (fun v135 => (if v135 = 0 then (some (-4)) else (some 5))))))) else ((f_X8_goesOn_43 3 121 0 0 M).bind (fun v137 => (if v137 = 0 then ((f_X8_is_43 4 99 101 108 M).bind (fun v139 => (if v139 = 0 then (some (-4)) else ((f_X8_goesOn_43 3 108 0 0 M).bind (fun v141 => (if v141 = 0 then (some (-4)) else (some 5))))))) else (some 4))))))) else (some 3)))))))))) else (some 2)))) else ((f_X8_goesOn_43 3 117 109 110 M).bind (fun v143 => (if v143 = 0 then ((f_X8_is_43 3 111 117 116 M).bind (fun v145 => (if v145 = 0 then ((f_X8_is_43 8 114 101 103 M).bind (fun v147 => (if v147 = 0 then ((f_X8_is_43 4 112 111 108 M).bind (fun v149 => (if v149 = 0 then ((f_X8_is_43 4 99 101 108 M).bind (fun v151 => (if v151 = 0 then (some (-4)) else ((f_X8_goesOn_43 3 108 0 0 M).bind (fun v153 => (if v153 = 0 then (some (-4)) else (some 5))))))) else ((f_X8_goesOn_43 3 121 0 0 M).bind (fun v155 => (if v155 = 0 then ((f_X8_is_43 4 99 101 108 M).bind (fun v157 => (if v157 = 0 then (some (-4)) else ((f_X8_goesOn_43 3 108 0 0 M).bind (fun v159 => (if v159 = 0 then (some (-4)) else (some 5))))))) else (some 4))))))) else ((f_X8_goesOn_43 3 105 115 116 M).bind (fun v161 => (if v161 = 0 then ((f_X8_is_43 4 112 111 108 M).bind (fun v163 => (if v163 = 0 then ((f_X8_is_43 4 99 101 108 M).bind (fun v165 => (if v165 = 0 then (some (-4)) else ((f_X8_goesOn_43 3 108 0 0 M).bind (fun v167 => (if v167 = 0 then (some (-4)) else (some 5))))))) else ((f_X8_goesOn_43 3 121 0 0 M).bind (fun v169 => (if v169 = 0 then ((f_X8_is_43 4 99 101 108 M).bind (fun v171 => (if v171 = 0 then (some (-4)) else ((f_X8_goesOn_43 3 108 0 0 M).bind (fun v173 => (if v173 = 0 then (some (-4)) else (some 5))))))) else (some 4))))))) else ((f_X8_goesOn_43 6 101 114 0 M).bind (fun v175 => (if v175 = 0 then ((f_X8_is_43 4 112 111 108 M).bind (fun v177 => (if v177 = 0 then ((f_X8_is_43 4 99 101 108 M).bind (fun v179 => (if v179 = 0 then (some (-4)) else ((f_X8_goesOn_43 3 108 0 0 M).bind (fun v181 => (if v181 = 0 then (some (-4)) else (some 5))))))) else ((f_X8_goesOn_43 3 121 0 0 M).bind (fun v183 => (if v183 = 0 then ((f_X8_is_43 4 99 101 108 M).bind (fun v185 => (if v185 = 0 then (some (-4)) else ((f_X8_goesOn_43 3 108 0 0 M).bind (fun v187 => (if v187 = 0 then (some (-4)) else (some 5))))))) else (some 4))))))) else (some 3)))))))))) else (some 2)))) else (some 1))))))) else (some 0)))))))
set_option maxRecDepth 20000 in
theorem t_X8_lineNow_43 {LN : Nat} {xs : Nat → Int32} {M : am_M} {t : Int32} (h : f_X8_lineNow_43 M = some t) : oo LN xs 0 0 138 0 [some (.ref 43)] [] M (some (.int t), M) := by
  unfold f_X8_lineNow_43 at h
  refine o_aload_n k138_0 rfl ?_
  refine o_iconst (v := 4) k138_1 (by decide) ?_
  refine o_bipush (v := 99) k138_2 (by decide) ?_
  refine o_bipush (v := 104) k138_4 (by decide) ?_
  refine o_bipush (v := 105) k138_6 (by decide) ?_
  refine bd_i h (fun v1 hv1 h => ?_)
  refine o_call k138_8 pj_136 (fun _ => rfl) (by decide) rfl (as := [.ref 43, .int 4, .int 99, .int 104, .int 105]) (rest := []) rfl (L0 := [some (.ref 43), some (.int 4), some (.int 99), some (.int 104), some (.int 105)]) rfl (t_X8_is_43 hv1) ?_
  refine o_if_eq k138_11 (fun hc2 => ?_) (fun hc2 => ?_)
  · rw [if_pos hc2] at h
    refine o_aload_n k138_28 rfl ?_
    refine o_bipush (v := 6) k138_29 (by decide) ?_
    refine o_bipush (v := 99) k138_31 (by decide) ?_
    refine o_bipush (v := 111) k138_33 (by decide) ?_
    refine o_bipush (v := 108) k138_35 (by decide) ?_
    refine bd_i h (fun v3 hv3 h => ?_)
    refine o_call k138_37 pj_136 (fun _ => rfl) (by decide) rfl (as := [.ref 43, .int 6, .int 99, .int 111, .int 108]) (rest := []) rfl (L0 := [some (.ref 43), some (.int 6), some (.int 99), some (.int 111), some (.int 108)]) rfl (t_X8_is_43 hv3) ?_
    refine o_if_eq k138_40 (fun hc4 => ?_) (fun hc4 => ?_)
    · rw [if_pos hc4] at h
      refine o_aload_n k138_59 rfl ?_
      refine o_iconst (v := 3) k138_60 (by decide) ?_
      refine o_bipush (v := 111) k138_61 (by decide) ?_
      refine o_bipush (v := 117) k138_63 (by decide) ?_
      refine o_bipush (v := 116) k138_65 (by decide) ?_
      refine bd_i h (fun v5 hv5 h => ?_)
      refine o_call k138_67 pj_136 (fun _ => rfl) (by decide) rfl (as := [.ref 43, .int 3, .int 111, .int 117, .int 116]) (rest := []) rfl (L0 := [some (.ref 43), some (.int 3), some (.int 111), some (.int 117), some (.int 116)]) rfl (t_X8_is_43 hv5) ?_
      refine o_if_eq k138_70 (fun hc6 => ?_) (fun hc6 => ?_)
      · rw [if_pos hc6] at h
        refine o_aload_n k138_75 rfl ?_
        refine o_bipush (v := 8) k138_76 (by decide) ?_
        refine o_bipush (v := 114) k138_78 (by decide) ?_
        refine o_bipush (v := 101) k138_80 (by decide) ?_
        refine o_bipush (v := 103) k138_82 (by decide) ?_
        refine bd_i h (fun v7 hv7 h => ?_)
        refine o_call k138_84 pj_136 (fun _ => rfl) (by decide) rfl (as := [.ref 43, .int 8, .int 114, .int 101, .int 103]) (rest := []) rfl (L0 := [some (.ref 43), some (.int 8), some (.int 114), some (.int 101), some (.int 103)]) rfl (t_X8_is_43 hv7) ?_
        refine o_if_eq k138_87 (fun hc8 => ?_) (fun hc8 => ?_)
        · rw [if_pos hc8] at h
          refine o_aload_n k138_120 rfl ?_
          refine o_iconst (v := 4) k138_121 (by decide) ?_
          refine o_bipush (v := 112) k138_122 (by decide) ?_
          refine o_bipush (v := 111) k138_124 (by decide) ?_
          refine o_bipush (v := 108) k138_126 (by decide) ?_
          refine bd_i h (fun v9 hv9 h => ?_)
          refine o_call k138_128 pj_136 (fun _ => rfl) (by decide) rfl (as := [.ref 43, .int 4, .int 112, .int 111, .int 108]) (rest := []) rfl (L0 := [some (.ref 43), some (.int 4), some (.int 112), some (.int 111), some (.int 108)]) rfl (t_X8_is_43 hv9) ?_
          refine o_if_eq k138_131 (fun hc10 => ?_) (fun hc10 => ?_)
          · rw [if_pos hc10] at h
            refine o_aload_n k138_150 rfl ?_
            refine o_iconst (v := 4) k138_151 (by decide) ?_
            refine o_bipush (v := 99) k138_152 (by decide) ?_
            refine o_bipush (v := 101) k138_154 (by decide) ?_
            refine o_bipush (v := 108) k138_156 (by decide) ?_
            refine bd_i h (fun v11 hv11 h => ?_)
            refine o_call k138_158 pj_136 (fun _ => rfl) (by decide) rfl (as := [.ref 43, .int 4, .int 99, .int 101, .int 108]) (rest := []) rfl (L0 := [some (.ref 43), some (.int 4), some (.int 99), some (.int 101), some (.int 108)]) rfl (t_X8_is_43 hv11) ?_
            refine o_if_eq k138_161 (fun hc12 => ?_) (fun hc12 => ?_)
            · rw [if_pos hc12] at h
              refine o_bipush (v := (-4)) k138_180 (by decide) ?_
              have h9 := Option.some.inj h
              subst h9
              exact o_iret pj_138 k138_182 rfl nr_i
            · rw [if_neg hc12] at h
              refine o_aload_n k138_164 rfl ?_
              refine o_iconst (v := 3) k138_165 (by decide) ?_
              refine o_bipush (v := 108) k138_166 (by decide) ?_
              refine o_iconst (v := 0) k138_168 (by decide) ?_
              refine o_iconst (v := 0) k138_169 (by decide) ?_
              refine bd_i h (fun v13 hv13 h => ?_)
              refine o_call k138_170 pj_137 (fun _ => rfl) (by decide) rfl (as := [.ref 43, .int 3, .int 108, .int 0, .int 0]) (rest := []) rfl (L0 := [some (.ref 43), some (.int 3), some (.int 108), some (.int 0), some (.int 0)]) rfl (t_X8_goesOn_43 hv13) ?_
              refine o_if_eq k138_173 (fun hc14 => ?_) (fun hc14 => ?_)
              · rw [if_pos hc14] at h
                refine o_bipush (v := (-4)) k138_180 (by decide) ?_
                have h9 := Option.some.inj h
                subst h9
                exact o_iret pj_138 k138_182 rfl nr_i
              · rw [if_neg hc14] at h
                refine o_iconst (v := 5) k138_176 (by decide) ?_
                refine o_goto k138_177 ?_
                have h9 := Option.some.inj h
                subst h9
                exact o_iret pj_138 k138_182 rfl nr_i
          · rw [if_neg hc10] at h
            refine o_aload_n k138_134 rfl ?_
            refine o_iconst (v := 3) k138_135 (by decide) ?_
            refine o_bipush (v := 121) k138_136 (by decide) ?_
            refine o_iconst (v := 0) k138_138 (by decide) ?_
            refine o_iconst (v := 0) k138_139 (by decide) ?_
            refine bd_i h (fun v15 hv15 h => ?_)
            refine o_call k138_140 pj_137 (fun _ => rfl) (by decide) rfl (as := [.ref 43, .int 3, .int 121, .int 0, .int 0]) (rest := []) rfl (L0 := [some (.ref 43), some (.int 3), some (.int 121), some (.int 0), some (.int 0)]) rfl (t_X8_goesOn_43 hv15) ?_
            refine o_if_eq k138_143 (fun hc16 => ?_) (fun hc16 => ?_)
            · rw [if_pos hc16] at h
              refine o_aload_n k138_150 rfl ?_
              refine o_iconst (v := 4) k138_151 (by decide) ?_
              refine o_bipush (v := 99) k138_152 (by decide) ?_
              refine o_bipush (v := 101) k138_154 (by decide) ?_
              refine o_bipush (v := 108) k138_156 (by decide) ?_
              refine bd_i h (fun v17 hv17 h => ?_)
              refine o_call k138_158 pj_136 (fun _ => rfl) (by decide) rfl (as := [.ref 43, .int 4, .int 99, .int 101, .int 108]) (rest := []) rfl (L0 := [some (.ref 43), some (.int 4), some (.int 99), some (.int 101), some (.int 108)]) rfl (t_X8_is_43 hv17) ?_
              refine o_if_eq k138_161 (fun hc18 => ?_) (fun hc18 => ?_)
              · rw [if_pos hc18] at h
                refine o_bipush (v := (-4)) k138_180 (by decide) ?_
                have h9 := Option.some.inj h
                subst h9
                exact o_iret pj_138 k138_182 rfl nr_i
              · rw [if_neg hc18] at h
                refine o_aload_n k138_164 rfl ?_
                refine o_iconst (v := 3) k138_165 (by decide) ?_
                refine o_bipush (v := 108) k138_166 (by decide) ?_
                refine o_iconst (v := 0) k138_168 (by decide) ?_
                refine o_iconst (v := 0) k138_169 (by decide) ?_
                refine bd_i h (fun v19 hv19 h => ?_)
                refine o_call k138_170 pj_137 (fun _ => rfl) (by decide) rfl (as := [.ref 43, .int 3, .int 108, .int 0, .int 0]) (rest := []) rfl (L0 := [some (.ref 43), some (.int 3), some (.int 108), some (.int 0), some (.int 0)]) rfl (t_X8_goesOn_43 hv19) ?_
                refine o_if_eq k138_173 (fun hc20 => ?_) (fun hc20 => ?_)
                · rw [if_pos hc20] at h
                  refine o_bipush (v := (-4)) k138_180 (by decide) ?_
                  have h9 := Option.some.inj h
                  subst h9
                  exact o_iret pj_138 k138_182 rfl nr_i
                · rw [if_neg hc20] at h
                  refine o_iconst (v := 5) k138_176 (by decide) ?_
                  refine o_goto k138_177 ?_
                  have h9 := Option.some.inj h
                  subst h9
                  exact o_iret pj_138 k138_182 rfl nr_i
            · rw [if_neg hc16] at h
              refine o_iconst (v := 4) k138_146 (by decide) ?_
              refine o_goto k138_147 ?_
              have h9 := Option.some.inj h
              subst h9
              exact o_iret pj_138 k138_182 rfl nr_i
        · rw [if_neg hc8] at h
          refine o_aload_n k138_90 rfl ?_
          refine o_iconst (v := 3) k138_91 (by decide) ?_
          refine o_bipush (v := 105) k138_92 (by decide) ?_
          refine o_bipush (v := 115) k138_94 (by decide) ?_
          refine o_bipush (v := 116) k138_96 (by decide) ?_
          refine bd_i h (fun v21 hv21 h => ?_)
          refine o_call k138_98 pj_137 (fun _ => rfl) (by decide) rfl (as := [.ref 43, .int 3, .int 105, .int 115, .int 116]) (rest := []) rfl (L0 := [some (.ref 43), some (.int 3), some (.int 105), some (.int 115), some (.int 116)]) rfl (t_X8_goesOn_43 hv21) ?_
          refine o_if_eq k138_101 (fun hc22 => ?_) (fun hc22 => ?_)
          · rw [if_pos hc22] at h
            refine o_aload_n k138_120 rfl ?_
            refine o_iconst (v := 4) k138_121 (by decide) ?_
            refine o_bipush (v := 112) k138_122 (by decide) ?_
            refine o_bipush (v := 111) k138_124 (by decide) ?_
            refine o_bipush (v := 108) k138_126 (by decide) ?_
            refine bd_i h (fun v23 hv23 h => ?_)
            refine o_call k138_128 pj_136 (fun _ => rfl) (by decide) rfl (as := [.ref 43, .int 4, .int 112, .int 111, .int 108]) (rest := []) rfl (L0 := [some (.ref 43), some (.int 4), some (.int 112), some (.int 111), some (.int 108)]) rfl (t_X8_is_43 hv23) ?_
            refine o_if_eq k138_131 (fun hc24 => ?_) (fun hc24 => ?_)
            · rw [if_pos hc24] at h
              refine o_aload_n k138_150 rfl ?_
              refine o_iconst (v := 4) k138_151 (by decide) ?_
              refine o_bipush (v := 99) k138_152 (by decide) ?_
              refine o_bipush (v := 101) k138_154 (by decide) ?_
              refine o_bipush (v := 108) k138_156 (by decide) ?_
              refine bd_i h (fun v25 hv25 h => ?_)
              refine o_call k138_158 pj_136 (fun _ => rfl) (by decide) rfl (as := [.ref 43, .int 4, .int 99, .int 101, .int 108]) (rest := []) rfl (L0 := [some (.ref 43), some (.int 4), some (.int 99), some (.int 101), some (.int 108)]) rfl (t_X8_is_43 hv25) ?_
              refine o_if_eq k138_161 (fun hc26 => ?_) (fun hc26 => ?_)
              · rw [if_pos hc26] at h
                refine o_bipush (v := (-4)) k138_180 (by decide) ?_
                have h9 := Option.some.inj h
                subst h9
                exact o_iret pj_138 k138_182 rfl nr_i
              · rw [if_neg hc26] at h
                refine o_aload_n k138_164 rfl ?_
                refine o_iconst (v := 3) k138_165 (by decide) ?_
                refine o_bipush (v := 108) k138_166 (by decide) ?_
                refine o_iconst (v := 0) k138_168 (by decide) ?_
                refine o_iconst (v := 0) k138_169 (by decide) ?_
                refine bd_i h (fun v27 hv27 h => ?_)
                refine o_call k138_170 pj_137 (fun _ => rfl) (by decide) rfl (as := [.ref 43, .int 3, .int 108, .int 0, .int 0]) (rest := []) rfl (L0 := [some (.ref 43), some (.int 3), some (.int 108), some (.int 0), some (.int 0)]) rfl (t_X8_goesOn_43 hv27) ?_
                refine o_if_eq k138_173 (fun hc28 => ?_) (fun hc28 => ?_)
                · rw [if_pos hc28] at h
                  refine o_bipush (v := (-4)) k138_180 (by decide) ?_
                  have h9 := Option.some.inj h
                  subst h9
                  exact o_iret pj_138 k138_182 rfl nr_i
                · rw [if_neg hc28] at h
                  refine o_iconst (v := 5) k138_176 (by decide) ?_
                  refine o_goto k138_177 ?_
                  have h9 := Option.some.inj h
                  subst h9
                  exact o_iret pj_138 k138_182 rfl nr_i
            · rw [if_neg hc24] at h
              refine o_aload_n k138_134 rfl ?_
              refine o_iconst (v := 3) k138_135 (by decide) ?_
              refine o_bipush (v := 121) k138_136 (by decide) ?_
              refine o_iconst (v := 0) k138_138 (by decide) ?_
              refine o_iconst (v := 0) k138_139 (by decide) ?_
              refine bd_i h (fun v29 hv29 h => ?_)
              refine o_call k138_140 pj_137 (fun _ => rfl) (by decide) rfl (as := [.ref 43, .int 3, .int 121, .int 0, .int 0]) (rest := []) rfl (L0 := [some (.ref 43), some (.int 3), some (.int 121), some (.int 0), some (.int 0)]) rfl (t_X8_goesOn_43 hv29) ?_
              refine o_if_eq k138_143 (fun hc30 => ?_) (fun hc30 => ?_)
              · rw [if_pos hc30] at h
                refine o_aload_n k138_150 rfl ?_
                refine o_iconst (v := 4) k138_151 (by decide) ?_
                refine o_bipush (v := 99) k138_152 (by decide) ?_
                refine o_bipush (v := 101) k138_154 (by decide) ?_
                refine o_bipush (v := 108) k138_156 (by decide) ?_
                refine bd_i h (fun v31 hv31 h => ?_)
                refine o_call k138_158 pj_136 (fun _ => rfl) (by decide) rfl (as := [.ref 43, .int 4, .int 99, .int 101, .int 108]) (rest := []) rfl (L0 := [some (.ref 43), some (.int 4), some (.int 99), some (.int 101), some (.int 108)]) rfl (t_X8_is_43 hv31) ?_
                refine o_if_eq k138_161 (fun hc32 => ?_) (fun hc32 => ?_)
                · rw [if_pos hc32] at h
                  refine o_bipush (v := (-4)) k138_180 (by decide) ?_
                  have h9 := Option.some.inj h
                  subst h9
                  exact o_iret pj_138 k138_182 rfl nr_i
                · rw [if_neg hc32] at h
                  refine o_aload_n k138_164 rfl ?_
                  refine o_iconst (v := 3) k138_165 (by decide) ?_
                  refine o_bipush (v := 108) k138_166 (by decide) ?_
                  refine o_iconst (v := 0) k138_168 (by decide) ?_
                  refine o_iconst (v := 0) k138_169 (by decide) ?_
                  refine bd_i h (fun v33 hv33 h => ?_)
                  refine o_call k138_170 pj_137 (fun _ => rfl) (by decide) rfl (as := [.ref 43, .int 3, .int 108, .int 0, .int 0]) (rest := []) rfl (L0 := [some (.ref 43), some (.int 3), some (.int 108), some (.int 0), some (.int 0)]) rfl (t_X8_goesOn_43 hv33) ?_
                  refine o_if_eq k138_173 (fun hc34 => ?_) (fun hc34 => ?_)
                  · rw [if_pos hc34] at h
                    refine o_bipush (v := (-4)) k138_180 (by decide) ?_
                    have h9 := Option.some.inj h
                    subst h9
                    exact o_iret pj_138 k138_182 rfl nr_i
                  · rw [if_neg hc34] at h
                    refine o_iconst (v := 5) k138_176 (by decide) ?_
                    refine o_goto k138_177 ?_
                    have h9 := Option.some.inj h
                    subst h9
                    exact o_iret pj_138 k138_182 rfl nr_i
              · rw [if_neg hc30] at h
                refine o_iconst (v := 4) k138_146 (by decide) ?_
                refine o_goto k138_147 ?_
                have h9 := Option.some.inj h
                subst h9
                exact o_iret pj_138 k138_182 rfl nr_i
          · rw [if_neg hc22] at h
            refine o_aload_n k138_104 rfl ?_
            refine o_bipush (v := 6) k138_105 (by decide) ?_
            refine o_bipush (v := 101) k138_107 (by decide) ?_
            refine o_bipush (v := 114) k138_109 (by decide) ?_
            refine o_iconst (v := 0) k138_111 (by decide) ?_
            refine bd_i h (fun v35 hv35 h => ?_)
            refine o_call k138_112 pj_137 (fun _ => rfl) (by decide) rfl (as := [.ref 43, .int 6, .int 101, .int 114, .int 0]) (rest := []) rfl (L0 := [some (.ref 43), some (.int 6), some (.int 101), some (.int 114), some (.int 0)]) rfl (t_X8_goesOn_43 hv35) ?_
            refine o_if_eq k138_115 (fun hc36 => ?_) (fun hc36 => ?_)
            · rw [if_pos hc36] at h
              refine o_aload_n k138_120 rfl ?_
              refine o_iconst (v := 4) k138_121 (by decide) ?_
              refine o_bipush (v := 112) k138_122 (by decide) ?_
              refine o_bipush (v := 111) k138_124 (by decide) ?_
              refine o_bipush (v := 108) k138_126 (by decide) ?_
              refine bd_i h (fun v37 hv37 h => ?_)
              refine o_call k138_128 pj_136 (fun _ => rfl) (by decide) rfl (as := [.ref 43, .int 4, .int 112, .int 111, .int 108]) (rest := []) rfl (L0 := [some (.ref 43), some (.int 4), some (.int 112), some (.int 111), some (.int 108)]) rfl (t_X8_is_43 hv37) ?_
              refine o_if_eq k138_131 (fun hc38 => ?_) (fun hc38 => ?_)
              · rw [if_pos hc38] at h
                refine o_aload_n k138_150 rfl ?_
                refine o_iconst (v := 4) k138_151 (by decide) ?_
                refine o_bipush (v := 99) k138_152 (by decide) ?_
                refine o_bipush (v := 101) k138_154 (by decide) ?_
                refine o_bipush (v := 108) k138_156 (by decide) ?_
                refine bd_i h (fun v39 hv39 h => ?_)
                refine o_call k138_158 pj_136 (fun _ => rfl) (by decide) rfl (as := [.ref 43, .int 4, .int 99, .int 101, .int 108]) (rest := []) rfl (L0 := [some (.ref 43), some (.int 4), some (.int 99), some (.int 101), some (.int 108)]) rfl (t_X8_is_43 hv39) ?_
                refine o_if_eq k138_161 (fun hc40 => ?_) (fun hc40 => ?_)
                · rw [if_pos hc40] at h
                  refine o_bipush (v := (-4)) k138_180 (by decide) ?_
                  have h9 := Option.some.inj h
                  subst h9
                  exact o_iret pj_138 k138_182 rfl nr_i
                · rw [if_neg hc40] at h
                  refine o_aload_n k138_164 rfl ?_
                  refine o_iconst (v := 3) k138_165 (by decide) ?_
                  refine o_bipush (v := 108) k138_166 (by decide) ?_
                  refine o_iconst (v := 0) k138_168 (by decide) ?_
                  refine o_iconst (v := 0) k138_169 (by decide) ?_
                  refine bd_i h (fun v41 hv41 h => ?_)
                  refine o_call k138_170 pj_137 (fun _ => rfl) (by decide) rfl (as := [.ref 43, .int 3, .int 108, .int 0, .int 0]) (rest := []) rfl (L0 := [some (.ref 43), some (.int 3), some (.int 108), some (.int 0), some (.int 0)]) rfl (t_X8_goesOn_43 hv41) ?_
                  refine o_if_eq k138_173 (fun hc42 => ?_) (fun hc42 => ?_)
                  · rw [if_pos hc42] at h
                    refine o_bipush (v := (-4)) k138_180 (by decide) ?_
                    have h9 := Option.some.inj h
                    subst h9
                    exact o_iret pj_138 k138_182 rfl nr_i
                  · rw [if_neg hc42] at h
                    refine o_iconst (v := 5) k138_176 (by decide) ?_
                    refine o_goto k138_177 ?_
                    have h9 := Option.some.inj h
                    subst h9
                    exact o_iret pj_138 k138_182 rfl nr_i
              · rw [if_neg hc38] at h
                refine o_aload_n k138_134 rfl ?_
                refine o_iconst (v := 3) k138_135 (by decide) ?_
                refine o_bipush (v := 121) k138_136 (by decide) ?_
                refine o_iconst (v := 0) k138_138 (by decide) ?_
                refine o_iconst (v := 0) k138_139 (by decide) ?_
                refine bd_i h (fun v43 hv43 h => ?_)
                refine o_call k138_140 pj_137 (fun _ => rfl) (by decide) rfl (as := [.ref 43, .int 3, .int 121, .int 0, .int 0]) (rest := []) rfl (L0 := [some (.ref 43), some (.int 3), some (.int 121), some (.int 0), some (.int 0)]) rfl (t_X8_goesOn_43 hv43) ?_
                refine o_if_eq k138_143 (fun hc44 => ?_) (fun hc44 => ?_)
                · rw [if_pos hc44] at h
                  refine o_aload_n k138_150 rfl ?_
                  refine o_iconst (v := 4) k138_151 (by decide) ?_
                  refine o_bipush (v := 99) k138_152 (by decide) ?_
                  refine o_bipush (v := 101) k138_154 (by decide) ?_
                  refine o_bipush (v := 108) k138_156 (by decide) ?_
                  refine bd_i h (fun v45 hv45 h => ?_)
                  refine o_call k138_158 pj_136 (fun _ => rfl) (by decide) rfl (as := [.ref 43, .int 4, .int 99, .int 101, .int 108]) (rest := []) rfl (L0 := [some (.ref 43), some (.int 4), some (.int 99), some (.int 101), some (.int 108)]) rfl (t_X8_is_43 hv45) ?_
                  refine o_if_eq k138_161 (fun hc46 => ?_) (fun hc46 => ?_)
                  · rw [if_pos hc46] at h
                    refine o_bipush (v := (-4)) k138_180 (by decide) ?_
                    have h9 := Option.some.inj h
                    subst h9
                    exact o_iret pj_138 k138_182 rfl nr_i
                  · rw [if_neg hc46] at h
                    refine o_aload_n k138_164 rfl ?_
                    refine o_iconst (v := 3) k138_165 (by decide) ?_
                    refine o_bipush (v := 108) k138_166 (by decide) ?_
                    refine o_iconst (v := 0) k138_168 (by decide) ?_
                    refine o_iconst (v := 0) k138_169 (by decide) ?_
                    refine bd_i h (fun v47 hv47 h => ?_)
                    refine o_call k138_170 pj_137 (fun _ => rfl) (by decide) rfl (as := [.ref 43, .int 3, .int 108, .int 0, .int 0]) (rest := []) rfl (L0 := [some (.ref 43), some (.int 3), some (.int 108), some (.int 0), some (.int 0)]) rfl (t_X8_goesOn_43 hv47) ?_
                    refine o_if_eq k138_173 (fun hc48 => ?_) (fun hc48 => ?_)
                    · rw [if_pos hc48] at h
                      refine o_bipush (v := (-4)) k138_180 (by decide) ?_
                      have h9 := Option.some.inj h
                      subst h9
                      exact o_iret pj_138 k138_182 rfl nr_i
                    · rw [if_neg hc48] at h
                      refine o_iconst (v := 5) k138_176 (by decide) ?_
                      refine o_goto k138_177 ?_
                      have h9 := Option.some.inj h
                      subst h9
                      exact o_iret pj_138 k138_182 rfl nr_i
                · rw [if_neg hc44] at h
                  refine o_iconst (v := 4) k138_146 (by decide) ?_
                  refine o_goto k138_147 ?_
                  have h9 := Option.some.inj h
                  subst h9
                  exact o_iret pj_138 k138_182 rfl nr_i
            · rw [if_neg hc36] at h
              refine o_iconst (v := 3) k138_118 (by decide) ?_
              have h9 := Option.some.inj h
              subst h9
              exact o_iret pj_138 k138_119 rfl nr_i
      · rw [if_neg hc6] at h
        refine o_iconst (v := 2) k138_73 (by decide) ?_
        have h9 := Option.some.inj h
        subst h9
        exact o_iret pj_138 k138_74 rfl nr_i
    · rw [if_neg hc4] at h
      refine o_aload_n k138_43 rfl ?_
      refine o_iconst (v := 3) k138_44 (by decide) ?_
      refine o_bipush (v := 117) k138_45 (by decide) ?_
      refine o_bipush (v := 109) k138_47 (by decide) ?_
      refine o_bipush (v := 110) k138_49 (by decide) ?_
      refine bd_i h (fun v49 hv49 h => ?_)
      refine o_call k138_51 pj_137 (fun _ => rfl) (by decide) rfl (as := [.ref 43, .int 3, .int 117, .int 109, .int 110]) (rest := []) rfl (L0 := [some (.ref 43), some (.int 3), some (.int 117), some (.int 109), some (.int 110)]) rfl (t_X8_goesOn_43 hv49) ?_
      refine o_if_eq k138_54 (fun hc50 => ?_) (fun hc50 => ?_)
      · rw [if_pos hc50] at h
        refine o_aload_n k138_59 rfl ?_
        refine o_iconst (v := 3) k138_60 (by decide) ?_
        refine o_bipush (v := 111) k138_61 (by decide) ?_
        refine o_bipush (v := 117) k138_63 (by decide) ?_
        refine o_bipush (v := 116) k138_65 (by decide) ?_
        refine bd_i h (fun v51 hv51 h => ?_)
        refine o_call k138_67 pj_136 (fun _ => rfl) (by decide) rfl (as := [.ref 43, .int 3, .int 111, .int 117, .int 116]) (rest := []) rfl (L0 := [some (.ref 43), some (.int 3), some (.int 111), some (.int 117), some (.int 116)]) rfl (t_X8_is_43 hv51) ?_
        refine o_if_eq k138_70 (fun hc52 => ?_) (fun hc52 => ?_)
        · rw [if_pos hc52] at h
          refine o_aload_n k138_75 rfl ?_
          refine o_bipush (v := 8) k138_76 (by decide) ?_
          refine o_bipush (v := 114) k138_78 (by decide) ?_
          refine o_bipush (v := 101) k138_80 (by decide) ?_
          refine o_bipush (v := 103) k138_82 (by decide) ?_
          refine bd_i h (fun v53 hv53 h => ?_)
          refine o_call k138_84 pj_136 (fun _ => rfl) (by decide) rfl (as := [.ref 43, .int 8, .int 114, .int 101, .int 103]) (rest := []) rfl (L0 := [some (.ref 43), some (.int 8), some (.int 114), some (.int 101), some (.int 103)]) rfl (t_X8_is_43 hv53) ?_
          refine o_if_eq k138_87 (fun hc54 => ?_) (fun hc54 => ?_)
          · rw [if_pos hc54] at h
            refine o_aload_n k138_120 rfl ?_
            refine o_iconst (v := 4) k138_121 (by decide) ?_
            refine o_bipush (v := 112) k138_122 (by decide) ?_
            refine o_bipush (v := 111) k138_124 (by decide) ?_
            refine o_bipush (v := 108) k138_126 (by decide) ?_
            refine bd_i h (fun v55 hv55 h => ?_)
            refine o_call k138_128 pj_136 (fun _ => rfl) (by decide) rfl (as := [.ref 43, .int 4, .int 112, .int 111, .int 108]) (rest := []) rfl (L0 := [some (.ref 43), some (.int 4), some (.int 112), some (.int 111), some (.int 108)]) rfl (t_X8_is_43 hv55) ?_
            refine o_if_eq k138_131 (fun hc56 => ?_) (fun hc56 => ?_)
            · rw [if_pos hc56] at h
              refine o_aload_n k138_150 rfl ?_
              refine o_iconst (v := 4) k138_151 (by decide) ?_
              refine o_bipush (v := 99) k138_152 (by decide) ?_
              refine o_bipush (v := 101) k138_154 (by decide) ?_
              refine o_bipush (v := 108) k138_156 (by decide) ?_
              refine bd_i h (fun v57 hv57 h => ?_)
              refine o_call k138_158 pj_136 (fun _ => rfl) (by decide) rfl (as := [.ref 43, .int 4, .int 99, .int 101, .int 108]) (rest := []) rfl (L0 := [some (.ref 43), some (.int 4), some (.int 99), some (.int 101), some (.int 108)]) rfl (t_X8_is_43 hv57) ?_
              refine o_if_eq k138_161 (fun hc58 => ?_) (fun hc58 => ?_)
              · rw [if_pos hc58] at h
                refine o_bipush (v := (-4)) k138_180 (by decide) ?_
                have h9 := Option.some.inj h
                subst h9
                exact o_iret pj_138 k138_182 rfl nr_i
              · rw [if_neg hc58] at h
                refine o_aload_n k138_164 rfl ?_
                refine o_iconst (v := 3) k138_165 (by decide) ?_
                refine o_bipush (v := 108) k138_166 (by decide) ?_
                refine o_iconst (v := 0) k138_168 (by decide) ?_
                refine o_iconst (v := 0) k138_169 (by decide) ?_
                refine bd_i h (fun v59 hv59 h => ?_)
                refine o_call k138_170 pj_137 (fun _ => rfl) (by decide) rfl (as := [.ref 43, .int 3, .int 108, .int 0, .int 0]) (rest := []) rfl (L0 := [some (.ref 43), some (.int 3), some (.int 108), some (.int 0), some (.int 0)]) rfl (t_X8_goesOn_43 hv59) ?_
                refine o_if_eq k138_173 (fun hc60 => ?_) (fun hc60 => ?_)
                · rw [if_pos hc60] at h
                  refine o_bipush (v := (-4)) k138_180 (by decide) ?_
                  have h9 := Option.some.inj h
                  subst h9
                  exact o_iret pj_138 k138_182 rfl nr_i
                · rw [if_neg hc60] at h
                  refine o_iconst (v := 5) k138_176 (by decide) ?_
                  refine o_goto k138_177 ?_
                  have h9 := Option.some.inj h
                  subst h9
                  exact o_iret pj_138 k138_182 rfl nr_i
            · rw [if_neg hc56] at h
              refine o_aload_n k138_134 rfl ?_
              refine o_iconst (v := 3) k138_135 (by decide) ?_
              refine o_bipush (v := 121) k138_136 (by decide) ?_
              refine o_iconst (v := 0) k138_138 (by decide) ?_
              refine o_iconst (v := 0) k138_139 (by decide) ?_
              refine bd_i h (fun v61 hv61 h => ?_)
              refine o_call k138_140 pj_137 (fun _ => rfl) (by decide) rfl (as := [.ref 43, .int 3, .int 121, .int 0, .int 0]) (rest := []) rfl (L0 := [some (.ref 43), some (.int 3), some (.int 121), some (.int 0), some (.int 0)]) rfl (t_X8_goesOn_43 hv61) ?_
              refine o_if_eq k138_143 (fun hc62 => ?_) (fun hc62 => ?_)
              · rw [if_pos hc62] at h
                refine o_aload_n k138_150 rfl ?_
                refine o_iconst (v := 4) k138_151 (by decide) ?_
                refine o_bipush (v := 99) k138_152 (by decide) ?_
                refine o_bipush (v := 101) k138_154 (by decide) ?_
                refine o_bipush (v := 108) k138_156 (by decide) ?_
                refine bd_i h (fun v63 hv63 h => ?_)
                refine o_call k138_158 pj_136 (fun _ => rfl) (by decide) rfl (as := [.ref 43, .int 4, .int 99, .int 101, .int 108]) (rest := []) rfl (L0 := [some (.ref 43), some (.int 4), some (.int 99), some (.int 101), some (.int 108)]) rfl (t_X8_is_43 hv63) ?_
                refine o_if_eq k138_161 (fun hc64 => ?_) (fun hc64 => ?_)
                · rw [if_pos hc64] at h
                  refine o_bipush (v := (-4)) k138_180 (by decide) ?_
                  have h9 := Option.some.inj h
                  subst h9
                  exact o_iret pj_138 k138_182 rfl nr_i
                · rw [if_neg hc64] at h
                  refine o_aload_n k138_164 rfl ?_
                  refine o_iconst (v := 3) k138_165 (by decide) ?_
                  refine o_bipush (v := 108) k138_166 (by decide) ?_
                  refine o_iconst (v := 0) k138_168 (by decide) ?_
                  refine o_iconst (v := 0) k138_169 (by decide) ?_
                  refine bd_i h (fun v65 hv65 h => ?_)
                  refine o_call k138_170 pj_137 (fun _ => rfl) (by decide) rfl (as := [.ref 43, .int 3, .int 108, .int 0, .int 0]) (rest := []) rfl (L0 := [some (.ref 43), some (.int 3), some (.int 108), some (.int 0), some (.int 0)]) rfl (t_X8_goesOn_43 hv65) ?_
                  refine o_if_eq k138_173 (fun hc66 => ?_) (fun hc66 => ?_)
                  · rw [if_pos hc66] at h
                    refine o_bipush (v := (-4)) k138_180 (by decide) ?_
                    have h9 := Option.some.inj h
                    subst h9
                    exact o_iret pj_138 k138_182 rfl nr_i
                  · rw [if_neg hc66] at h
                    refine o_iconst (v := 5) k138_176 (by decide) ?_
                    refine o_goto k138_177 ?_
                    have h9 := Option.some.inj h
                    subst h9
                    exact o_iret pj_138 k138_182 rfl nr_i
              · rw [if_neg hc62] at h
                refine o_iconst (v := 4) k138_146 (by decide) ?_
                refine o_goto k138_147 ?_
                have h9 := Option.some.inj h
                subst h9
                exact o_iret pj_138 k138_182 rfl nr_i
          · rw [if_neg hc54] at h
            refine o_aload_n k138_90 rfl ?_
            refine o_iconst (v := 3) k138_91 (by decide) ?_
            refine o_bipush (v := 105) k138_92 (by decide) ?_
            refine o_bipush (v := 115) k138_94 (by decide) ?_
            refine o_bipush (v := 116) k138_96 (by decide) ?_
            refine bd_i h (fun v67 hv67 h => ?_)
            refine o_call k138_98 pj_137 (fun _ => rfl) (by decide) rfl (as := [.ref 43, .int 3, .int 105, .int 115, .int 116]) (rest := []) rfl (L0 := [some (.ref 43), some (.int 3), some (.int 105), some (.int 115), some (.int 116)]) rfl (t_X8_goesOn_43 hv67) ?_
            refine o_if_eq k138_101 (fun hc68 => ?_) (fun hc68 => ?_)
            · rw [if_pos hc68] at h
              refine o_aload_n k138_120 rfl ?_
              refine o_iconst (v := 4) k138_121 (by decide) ?_
              refine o_bipush (v := 112) k138_122 (by decide) ?_
              refine o_bipush (v := 111) k138_124 (by decide) ?_
              refine o_bipush (v := 108) k138_126 (by decide) ?_
              refine bd_i h (fun v69 hv69 h => ?_)
              refine o_call k138_128 pj_136 (fun _ => rfl) (by decide) rfl (as := [.ref 43, .int 4, .int 112, .int 111, .int 108]) (rest := []) rfl (L0 := [some (.ref 43), some (.int 4), some (.int 112), some (.int 111), some (.int 108)]) rfl (t_X8_is_43 hv69) ?_
              refine o_if_eq k138_131 (fun hc70 => ?_) (fun hc70 => ?_)
              · rw [if_pos hc70] at h
                refine o_aload_n k138_150 rfl ?_
                refine o_iconst (v := 4) k138_151 (by decide) ?_
                refine o_bipush (v := 99) k138_152 (by decide) ?_
                refine o_bipush (v := 101) k138_154 (by decide) ?_
                refine o_bipush (v := 108) k138_156 (by decide) ?_
                refine bd_i h (fun v71 hv71 h => ?_)
                refine o_call k138_158 pj_136 (fun _ => rfl) (by decide) rfl (as := [.ref 43, .int 4, .int 99, .int 101, .int 108]) (rest := []) rfl (L0 := [some (.ref 43), some (.int 4), some (.int 99), some (.int 101), some (.int 108)]) rfl (t_X8_is_43 hv71) ?_
                refine o_if_eq k138_161 (fun hc72 => ?_) (fun hc72 => ?_)
                · rw [if_pos hc72] at h
                  refine o_bipush (v := (-4)) k138_180 (by decide) ?_
                  have h9 := Option.some.inj h
                  subst h9
                  exact o_iret pj_138 k138_182 rfl nr_i
                · rw [if_neg hc72] at h
                  refine o_aload_n k138_164 rfl ?_
                  refine o_iconst (v := 3) k138_165 (by decide) ?_
                  refine o_bipush (v := 108) k138_166 (by decide) ?_
                  refine o_iconst (v := 0) k138_168 (by decide) ?_
                  refine o_iconst (v := 0) k138_169 (by decide) ?_
                  refine bd_i h (fun v73 hv73 h => ?_)
                  refine o_call k138_170 pj_137 (fun _ => rfl) (by decide) rfl (as := [.ref 43, .int 3, .int 108, .int 0, .int 0]) (rest := []) rfl (L0 := [some (.ref 43), some (.int 3), some (.int 108), some (.int 0), some (.int 0)]) rfl (t_X8_goesOn_43 hv73) ?_
                  refine o_if_eq k138_173 (fun hc74 => ?_) (fun hc74 => ?_)
                  · rw [if_pos hc74] at h
                    refine o_bipush (v := (-4)) k138_180 (by decide) ?_
                    have h9 := Option.some.inj h
                    subst h9
                    exact o_iret pj_138 k138_182 rfl nr_i
                  · rw [if_neg hc74] at h
                    refine o_iconst (v := 5) k138_176 (by decide) ?_
                    refine o_goto k138_177 ?_
                    have h9 := Option.some.inj h
                    subst h9
                    exact o_iret pj_138 k138_182 rfl nr_i
              · rw [if_neg hc70] at h
                refine o_aload_n k138_134 rfl ?_
                refine o_iconst (v := 3) k138_135 (by decide) ?_
                refine o_bipush (v := 121) k138_136 (by decide) ?_
                refine o_iconst (v := 0) k138_138 (by decide) ?_
                refine o_iconst (v := 0) k138_139 (by decide) ?_
                refine bd_i h (fun v75 hv75 h => ?_)
                refine o_call k138_140 pj_137 (fun _ => rfl) (by decide) rfl (as := [.ref 43, .int 3, .int 121, .int 0, .int 0]) (rest := []) rfl (L0 := [some (.ref 43), some (.int 3), some (.int 121), some (.int 0), some (.int 0)]) rfl (t_X8_goesOn_43 hv75) ?_
                refine o_if_eq k138_143 (fun hc76 => ?_) (fun hc76 => ?_)
                · rw [if_pos hc76] at h
                  refine o_aload_n k138_150 rfl ?_
                  refine o_iconst (v := 4) k138_151 (by decide) ?_
                  refine o_bipush (v := 99) k138_152 (by decide) ?_
                  refine o_bipush (v := 101) k138_154 (by decide) ?_
                  refine o_bipush (v := 108) k138_156 (by decide) ?_
                  refine bd_i h (fun v77 hv77 h => ?_)
                  refine o_call k138_158 pj_136 (fun _ => rfl) (by decide) rfl (as := [.ref 43, .int 4, .int 99, .int 101, .int 108]) (rest := []) rfl (L0 := [some (.ref 43), some (.int 4), some (.int 99), some (.int 101), some (.int 108)]) rfl (t_X8_is_43 hv77) ?_
                  refine o_if_eq k138_161 (fun hc78 => ?_) (fun hc78 => ?_)
                  · rw [if_pos hc78] at h
                    refine o_bipush (v := (-4)) k138_180 (by decide) ?_
                    have h9 := Option.some.inj h
                    subst h9
                    exact o_iret pj_138 k138_182 rfl nr_i
                  · rw [if_neg hc78] at h
                    refine o_aload_n k138_164 rfl ?_
                    refine o_iconst (v := 3) k138_165 (by decide) ?_
                    refine o_bipush (v := 108) k138_166 (by decide) ?_
                    refine o_iconst (v := 0) k138_168 (by decide) ?_
                    refine o_iconst (v := 0) k138_169 (by decide) ?_
                    refine bd_i h (fun v79 hv79 h => ?_)
                    refine o_call k138_170 pj_137 (fun _ => rfl) (by decide) rfl (as := [.ref 43, .int 3, .int 108, .int 0, .int 0]) (rest := []) rfl (L0 := [some (.ref 43), some (.int 3), some (.int 108), some (.int 0), some (.int 0)]) rfl (t_X8_goesOn_43 hv79) ?_
                    refine o_if_eq k138_173 (fun hc80 => ?_) (fun hc80 => ?_)
                    · rw [if_pos hc80] at h
                      refine o_bipush (v := (-4)) k138_180 (by decide) ?_
                      have h9 := Option.some.inj h
                      subst h9
                      exact o_iret pj_138 k138_182 rfl nr_i
                    · rw [if_neg hc80] at h
                      refine o_iconst (v := 5) k138_176 (by decide) ?_
                      refine o_goto k138_177 ?_
                      have h9 := Option.some.inj h
                      subst h9
                      exact o_iret pj_138 k138_182 rfl nr_i
                · rw [if_neg hc76] at h
                  refine o_iconst (v := 4) k138_146 (by decide) ?_
                  refine o_goto k138_147 ?_
                  have h9 := Option.some.inj h
                  subst h9
                  exact o_iret pj_138 k138_182 rfl nr_i
            · rw [if_neg hc68] at h
              refine o_aload_n k138_104 rfl ?_
              refine o_bipush (v := 6) k138_105 (by decide) ?_
              refine o_bipush (v := 101) k138_107 (by decide) ?_
              refine o_bipush (v := 114) k138_109 (by decide) ?_
              refine o_iconst (v := 0) k138_111 (by decide) ?_
              refine bd_i h (fun v81 hv81 h => ?_)
              refine o_call k138_112 pj_137 (fun _ => rfl) (by decide) rfl (as := [.ref 43, .int 6, .int 101, .int 114, .int 0]) (rest := []) rfl (L0 := [some (.ref 43), some (.int 6), some (.int 101), some (.int 114), some (.int 0)]) rfl (t_X8_goesOn_43 hv81) ?_
              refine o_if_eq k138_115 (fun hc82 => ?_) (fun hc82 => ?_)
              · rw [if_pos hc82] at h
                refine o_aload_n k138_120 rfl ?_
                refine o_iconst (v := 4) k138_121 (by decide) ?_
                refine o_bipush (v := 112) k138_122 (by decide) ?_
                refine o_bipush (v := 111) k138_124 (by decide) ?_
                refine o_bipush (v := 108) k138_126 (by decide) ?_
                refine bd_i h (fun v83 hv83 h => ?_)
                refine o_call k138_128 pj_136 (fun _ => rfl) (by decide) rfl (as := [.ref 43, .int 4, .int 112, .int 111, .int 108]) (rest := []) rfl (L0 := [some (.ref 43), some (.int 4), some (.int 112), some (.int 111), some (.int 108)]) rfl (t_X8_is_43 hv83) ?_
                refine o_if_eq k138_131 (fun hc84 => ?_) (fun hc84 => ?_)
                · rw [if_pos hc84] at h
                  refine o_aload_n k138_150 rfl ?_
                  refine o_iconst (v := 4) k138_151 (by decide) ?_
                  refine o_bipush (v := 99) k138_152 (by decide) ?_
                  refine o_bipush (v := 101) k138_154 (by decide) ?_
                  refine o_bipush (v := 108) k138_156 (by decide) ?_
                  refine bd_i h (fun v85 hv85 h => ?_)
                  refine o_call k138_158 pj_136 (fun _ => rfl) (by decide) rfl (as := [.ref 43, .int 4, .int 99, .int 101, .int 108]) (rest := []) rfl (L0 := [some (.ref 43), some (.int 4), some (.int 99), some (.int 101), some (.int 108)]) rfl (t_X8_is_43 hv85) ?_
                  refine o_if_eq k138_161 (fun hc86 => ?_) (fun hc86 => ?_)
                  · rw [if_pos hc86] at h
                    refine o_bipush (v := (-4)) k138_180 (by decide) ?_
                    have h9 := Option.some.inj h
                    subst h9
                    exact o_iret pj_138 k138_182 rfl nr_i
                  · rw [if_neg hc86] at h
                    refine o_aload_n k138_164 rfl ?_
                    refine o_iconst (v := 3) k138_165 (by decide) ?_
                    refine o_bipush (v := 108) k138_166 (by decide) ?_
                    refine o_iconst (v := 0) k138_168 (by decide) ?_
                    refine o_iconst (v := 0) k138_169 (by decide) ?_
                    refine bd_i h (fun v87 hv87 h => ?_)
                    refine o_call k138_170 pj_137 (fun _ => rfl) (by decide) rfl (as := [.ref 43, .int 3, .int 108, .int 0, .int 0]) (rest := []) rfl (L0 := [some (.ref 43), some (.int 3), some (.int 108), some (.int 0), some (.int 0)]) rfl (t_X8_goesOn_43 hv87) ?_
                    refine o_if_eq k138_173 (fun hc88 => ?_) (fun hc88 => ?_)
                    · rw [if_pos hc88] at h
                      refine o_bipush (v := (-4)) k138_180 (by decide) ?_
                      have h9 := Option.some.inj h
                      subst h9
                      exact o_iret pj_138 k138_182 rfl nr_i
                    · rw [if_neg hc88] at h
                      refine o_iconst (v := 5) k138_176 (by decide) ?_
                      refine o_goto k138_177 ?_
                      have h9 := Option.some.inj h
                      subst h9
                      exact o_iret pj_138 k138_182 rfl nr_i
                · rw [if_neg hc84] at h
                  refine o_aload_n k138_134 rfl ?_
                  refine o_iconst (v := 3) k138_135 (by decide) ?_
                  refine o_bipush (v := 121) k138_136 (by decide) ?_
                  refine o_iconst (v := 0) k138_138 (by decide) ?_
                  refine o_iconst (v := 0) k138_139 (by decide) ?_
                  refine bd_i h (fun v89 hv89 h => ?_)
                  refine o_call k138_140 pj_137 (fun _ => rfl) (by decide) rfl (as := [.ref 43, .int 3, .int 121, .int 0, .int 0]) (rest := []) rfl (L0 := [some (.ref 43), some (.int 3), some (.int 121), some (.int 0), some (.int 0)]) rfl (t_X8_goesOn_43 hv89) ?_
                  refine o_if_eq k138_143 (fun hc90 => ?_) (fun hc90 => ?_)
                  · rw [if_pos hc90] at h
                    refine o_aload_n k138_150 rfl ?_
                    refine o_iconst (v := 4) k138_151 (by decide) ?_
                    refine o_bipush (v := 99) k138_152 (by decide) ?_
                    refine o_bipush (v := 101) k138_154 (by decide) ?_
                    refine o_bipush (v := 108) k138_156 (by decide) ?_
                    refine bd_i h (fun v91 hv91 h => ?_)
                    refine o_call k138_158 pj_136 (fun _ => rfl) (by decide) rfl (as := [.ref 43, .int 4, .int 99, .int 101, .int 108]) (rest := []) rfl (L0 := [some (.ref 43), some (.int 4), some (.int 99), some (.int 101), some (.int 108)]) rfl (t_X8_is_43 hv91) ?_
                    refine o_if_eq k138_161 (fun hc92 => ?_) (fun hc92 => ?_)
                    · rw [if_pos hc92] at h
                      refine o_bipush (v := (-4)) k138_180 (by decide) ?_
                      have h9 := Option.some.inj h
                      subst h9
                      exact o_iret pj_138 k138_182 rfl nr_i
                    · rw [if_neg hc92] at h
                      refine o_aload_n k138_164 rfl ?_
                      refine o_iconst (v := 3) k138_165 (by decide) ?_
                      refine o_bipush (v := 108) k138_166 (by decide) ?_
                      refine o_iconst (v := 0) k138_168 (by decide) ?_
                      refine o_iconst (v := 0) k138_169 (by decide) ?_
                      refine bd_i h (fun v93 hv93 h => ?_)
                      refine o_call k138_170 pj_137 (fun _ => rfl) (by decide) rfl (as := [.ref 43, .int 3, .int 108, .int 0, .int 0]) (rest := []) rfl (L0 := [some (.ref 43), some (.int 3), some (.int 108), some (.int 0), some (.int 0)]) rfl (t_X8_goesOn_43 hv93) ?_
                      refine o_if_eq k138_173 (fun hc94 => ?_) (fun hc94 => ?_)
                      · rw [if_pos hc94] at h
                        refine o_bipush (v := (-4)) k138_180 (by decide) ?_
                        have h9 := Option.some.inj h
                        subst h9
                        exact o_iret pj_138 k138_182 rfl nr_i
                      · rw [if_neg hc94] at h
                        refine o_iconst (v := 5) k138_176 (by decide) ?_
                        refine o_goto k138_177 ?_
                        have h9 := Option.some.inj h
                        subst h9
                        exact o_iret pj_138 k138_182 rfl nr_i
                  · rw [if_neg hc90] at h
                    refine o_iconst (v := 4) k138_146 (by decide) ?_
                    refine o_goto k138_147 ?_
                    have h9 := Option.some.inj h
                    subst h9
                    exact o_iret pj_138 k138_182 rfl nr_i
              · rw [if_neg hc82] at h
                refine o_iconst (v := 3) k138_118 (by decide) ?_
                have h9 := Option.some.inj h
                subst h9
                exact o_iret pj_138 k138_119 rfl nr_i
        · rw [if_neg hc52] at h
          refine o_iconst (v := 2) k138_73 (by decide) ?_
          have h9 := Option.some.inj h
          subst h9
          exact o_iret pj_138 k138_74 rfl nr_i
      · rw [if_neg hc50] at h
        refine o_iconst (v := 1) k138_57 (by decide) ?_
        have h9 := Option.some.inj h
        subst h9
        exact o_iret pj_138 k138_58 rfl nr_i
  · rw [if_neg hc2] at h
    refine o_aload_n k138_14 rfl ?_
    refine o_iconst (v := 3) k138_15 (by decide) ?_
    refine o_bipush (v := 112) k138_16 (by decide) ?_
    refine o_iconst (v := 0) k138_18 (by decide) ?_
    refine o_iconst (v := 0) k138_19 (by decide) ?_
    refine bd_i h (fun v95 hv95 h => ?_)
    refine o_call k138_20 pj_137 (fun _ => rfl) (by decide) rfl (as := [.ref 43, .int 3, .int 112, .int 0, .int 0]) (rest := []) rfl (L0 := [some (.ref 43), some (.int 3), some (.int 112), some (.int 0), some (.int 0)]) rfl (t_X8_goesOn_43 hv95) ?_
    refine o_if_eq k138_23 (fun hc96 => ?_) (fun hc96 => ?_)
    · rw [if_pos hc96] at h
      refine o_aload_n k138_28 rfl ?_
      refine o_bipush (v := 6) k138_29 (by decide) ?_
      refine o_bipush (v := 99) k138_31 (by decide) ?_
      refine o_bipush (v := 111) k138_33 (by decide) ?_
      refine o_bipush (v := 108) k138_35 (by decide) ?_
      refine bd_i h (fun v97 hv97 h => ?_)
      refine o_call k138_37 pj_136 (fun _ => rfl) (by decide) rfl (as := [.ref 43, .int 6, .int 99, .int 111, .int 108]) (rest := []) rfl (L0 := [some (.ref 43), some (.int 6), some (.int 99), some (.int 111), some (.int 108)]) rfl (t_X8_is_43 hv97) ?_
      refine o_if_eq k138_40 (fun hc98 => ?_) (fun hc98 => ?_)
      · rw [if_pos hc98] at h
        refine o_aload_n k138_59 rfl ?_
        refine o_iconst (v := 3) k138_60 (by decide) ?_
        refine o_bipush (v := 111) k138_61 (by decide) ?_
        refine o_bipush (v := 117) k138_63 (by decide) ?_
        refine o_bipush (v := 116) k138_65 (by decide) ?_
        refine bd_i h (fun v99 hv99 h => ?_)
        refine o_call k138_67 pj_136 (fun _ => rfl) (by decide) rfl (as := [.ref 43, .int 3, .int 111, .int 117, .int 116]) (rest := []) rfl (L0 := [some (.ref 43), some (.int 3), some (.int 111), some (.int 117), some (.int 116)]) rfl (t_X8_is_43 hv99) ?_
        refine o_if_eq k138_70 (fun hc100 => ?_) (fun hc100 => ?_)
        · rw [if_pos hc100] at h
          refine o_aload_n k138_75 rfl ?_
          refine o_bipush (v := 8) k138_76 (by decide) ?_
          refine o_bipush (v := 114) k138_78 (by decide) ?_
          refine o_bipush (v := 101) k138_80 (by decide) ?_
          refine o_bipush (v := 103) k138_82 (by decide) ?_
          refine bd_i h (fun v101 hv101 h => ?_)
          refine o_call k138_84 pj_136 (fun _ => rfl) (by decide) rfl (as := [.ref 43, .int 8, .int 114, .int 101, .int 103]) (rest := []) rfl (L0 := [some (.ref 43), some (.int 8), some (.int 114), some (.int 101), some (.int 103)]) rfl (t_X8_is_43 hv101) ?_
          refine o_if_eq k138_87 (fun hc102 => ?_) (fun hc102 => ?_)
          · rw [if_pos hc102] at h
            refine o_aload_n k138_120 rfl ?_
            refine o_iconst (v := 4) k138_121 (by decide) ?_
            refine o_bipush (v := 112) k138_122 (by decide) ?_
            refine o_bipush (v := 111) k138_124 (by decide) ?_
            refine o_bipush (v := 108) k138_126 (by decide) ?_
            refine bd_i h (fun v103 hv103 h => ?_)
            refine o_call k138_128 pj_136 (fun _ => rfl) (by decide) rfl (as := [.ref 43, .int 4, .int 112, .int 111, .int 108]) (rest := []) rfl (L0 := [some (.ref 43), some (.int 4), some (.int 112), some (.int 111), some (.int 108)]) rfl (t_X8_is_43 hv103) ?_
            refine o_if_eq k138_131 (fun hc104 => ?_) (fun hc104 => ?_)
            · rw [if_pos hc104] at h
              refine o_aload_n k138_150 rfl ?_
              refine o_iconst (v := 4) k138_151 (by decide) ?_
              refine o_bipush (v := 99) k138_152 (by decide) ?_
              refine o_bipush (v := 101) k138_154 (by decide) ?_
              refine o_bipush (v := 108) k138_156 (by decide) ?_
              refine bd_i h (fun v105 hv105 h => ?_)
              refine o_call k138_158 pj_136 (fun _ => rfl) (by decide) rfl (as := [.ref 43, .int 4, .int 99, .int 101, .int 108]) (rest := []) rfl (L0 := [some (.ref 43), some (.int 4), some (.int 99), some (.int 101), some (.int 108)]) rfl (t_X8_is_43 hv105) ?_
              refine o_if_eq k138_161 (fun hc106 => ?_) (fun hc106 => ?_)
              · rw [if_pos hc106] at h
                refine o_bipush (v := (-4)) k138_180 (by decide) ?_
                have h9 := Option.some.inj h
                subst h9
                exact o_iret pj_138 k138_182 rfl nr_i
              · rw [if_neg hc106] at h
                refine o_aload_n k138_164 rfl ?_
                refine o_iconst (v := 3) k138_165 (by decide) ?_
                refine o_bipush (v := 108) k138_166 (by decide) ?_
                refine o_iconst (v := 0) k138_168 (by decide) ?_
                refine o_iconst (v := 0) k138_169 (by decide) ?_
                refine bd_i h (fun v107 hv107 h => ?_)
                refine o_call k138_170 pj_137 (fun _ => rfl) (by decide) rfl (as := [.ref 43, .int 3, .int 108, .int 0, .int 0]) (rest := []) rfl (L0 := [some (.ref 43), some (.int 3), some (.int 108), some (.int 0), some (.int 0)]) rfl (t_X8_goesOn_43 hv107) ?_
                refine o_if_eq k138_173 (fun hc108 => ?_) (fun hc108 => ?_)
                · rw [if_pos hc108] at h
                  refine o_bipush (v := (-4)) k138_180 (by decide) ?_
                  have h9 := Option.some.inj h
                  subst h9
                  exact o_iret pj_138 k138_182 rfl nr_i
                · rw [if_neg hc108] at h
                  refine o_iconst (v := 5) k138_176 (by decide) ?_
                  refine o_goto k138_177 ?_
                  have h9 := Option.some.inj h
                  subst h9
                  exact o_iret pj_138 k138_182 rfl nr_i
            · rw [if_neg hc104] at h
              refine o_aload_n k138_134 rfl ?_
              refine o_iconst (v := 3) k138_135 (by decide) ?_
              refine o_bipush (v := 121) k138_136 (by decide) ?_
              refine o_iconst (v := 0) k138_138 (by decide) ?_
              refine o_iconst (v := 0) k138_139 (by decide) ?_
              refine bd_i h (fun v109 hv109 h => ?_)
              refine o_call k138_140 pj_137 (fun _ => rfl) (by decide) rfl (as := [.ref 43, .int 3, .int 121, .int 0, .int 0]) (rest := []) rfl (L0 := [some (.ref 43), some (.int 3), some (.int 121), some (.int 0), some (.int 0)]) rfl (t_X8_goesOn_43 hv109) ?_
              refine o_if_eq k138_143 (fun hc110 => ?_) (fun hc110 => ?_)
              · rw [if_pos hc110] at h
                refine o_aload_n k138_150 rfl ?_
                refine o_iconst (v := 4) k138_151 (by decide) ?_
                refine o_bipush (v := 99) k138_152 (by decide) ?_
                refine o_bipush (v := 101) k138_154 (by decide) ?_
                refine o_bipush (v := 108) k138_156 (by decide) ?_
                refine bd_i h (fun v111 hv111 h => ?_)
                refine o_call k138_158 pj_136 (fun _ => rfl) (by decide) rfl (as := [.ref 43, .int 4, .int 99, .int 101, .int 108]) (rest := []) rfl (L0 := [some (.ref 43), some (.int 4), some (.int 99), some (.int 101), some (.int 108)]) rfl (t_X8_is_43 hv111) ?_
                refine o_if_eq k138_161 (fun hc112 => ?_) (fun hc112 => ?_)
                · rw [if_pos hc112] at h
                  refine o_bipush (v := (-4)) k138_180 (by decide) ?_
                  have h9 := Option.some.inj h
                  subst h9
                  exact o_iret pj_138 k138_182 rfl nr_i
                · rw [if_neg hc112] at h
                  refine o_aload_n k138_164 rfl ?_
                  refine o_iconst (v := 3) k138_165 (by decide) ?_
                  refine o_bipush (v := 108) k138_166 (by decide) ?_
                  refine o_iconst (v := 0) k138_168 (by decide) ?_
                  refine o_iconst (v := 0) k138_169 (by decide) ?_
                  refine bd_i h (fun v113 hv113 h => ?_)
                  refine o_call k138_170 pj_137 (fun _ => rfl) (by decide) rfl (as := [.ref 43, .int 3, .int 108, .int 0, .int 0]) (rest := []) rfl (L0 := [some (.ref 43), some (.int 3), some (.int 108), some (.int 0), some (.int 0)]) rfl (t_X8_goesOn_43 hv113) ?_
                  refine o_if_eq k138_173 (fun hc114 => ?_) (fun hc114 => ?_)
                  · rw [if_pos hc114] at h
                    refine o_bipush (v := (-4)) k138_180 (by decide) ?_
                    have h9 := Option.some.inj h
                    subst h9
                    exact o_iret pj_138 k138_182 rfl nr_i
                  · rw [if_neg hc114] at h
                    refine o_iconst (v := 5) k138_176 (by decide) ?_
                    refine o_goto k138_177 ?_
                    have h9 := Option.some.inj h
                    subst h9
                    exact o_iret pj_138 k138_182 rfl nr_i
              · rw [if_neg hc110] at h
                refine o_iconst (v := 4) k138_146 (by decide) ?_
                refine o_goto k138_147 ?_
                have h9 := Option.some.inj h
                subst h9
                exact o_iret pj_138 k138_182 rfl nr_i
          · rw [if_neg hc102] at h
            refine o_aload_n k138_90 rfl ?_
            refine o_iconst (v := 3) k138_91 (by decide) ?_
            refine o_bipush (v := 105) k138_92 (by decide) ?_
            refine o_bipush (v := 115) k138_94 (by decide) ?_
            refine o_bipush (v := 116) k138_96 (by decide) ?_
            refine bd_i h (fun v115 hv115 h => ?_)
            refine o_call k138_98 pj_137 (fun _ => rfl) (by decide) rfl (as := [.ref 43, .int 3, .int 105, .int 115, .int 116]) (rest := []) rfl (L0 := [some (.ref 43), some (.int 3), some (.int 105), some (.int 115), some (.int 116)]) rfl (t_X8_goesOn_43 hv115) ?_
            refine o_if_eq k138_101 (fun hc116 => ?_) (fun hc116 => ?_)
            · rw [if_pos hc116] at h
              refine o_aload_n k138_120 rfl ?_
              refine o_iconst (v := 4) k138_121 (by decide) ?_
              refine o_bipush (v := 112) k138_122 (by decide) ?_
              refine o_bipush (v := 111) k138_124 (by decide) ?_
              refine o_bipush (v := 108) k138_126 (by decide) ?_
              refine bd_i h (fun v117 hv117 h => ?_)
              refine o_call k138_128 pj_136 (fun _ => rfl) (by decide) rfl (as := [.ref 43, .int 4, .int 112, .int 111, .int 108]) (rest := []) rfl (L0 := [some (.ref 43), some (.int 4), some (.int 112), some (.int 111), some (.int 108)]) rfl (t_X8_is_43 hv117) ?_
              refine o_if_eq k138_131 (fun hc118 => ?_) (fun hc118 => ?_)
              · rw [if_pos hc118] at h
                refine o_aload_n k138_150 rfl ?_
                refine o_iconst (v := 4) k138_151 (by decide) ?_
                refine o_bipush (v := 99) k138_152 (by decide) ?_
                refine o_bipush (v := 101) k138_154 (by decide) ?_
                refine o_bipush (v := 108) k138_156 (by decide) ?_
                refine bd_i h (fun v119 hv119 h => ?_)
                refine o_call k138_158 pj_136 (fun _ => rfl) (by decide) rfl (as := [.ref 43, .int 4, .int 99, .int 101, .int 108]) (rest := []) rfl (L0 := [some (.ref 43), some (.int 4), some (.int 99), some (.int 101), some (.int 108)]) rfl (t_X8_is_43 hv119) ?_
                refine o_if_eq k138_161 (fun hc120 => ?_) (fun hc120 => ?_)
                · rw [if_pos hc120] at h
                  refine o_bipush (v := (-4)) k138_180 (by decide) ?_
                  have h9 := Option.some.inj h
                  subst h9
                  exact o_iret pj_138 k138_182 rfl nr_i
                · rw [if_neg hc120] at h
                  refine o_aload_n k138_164 rfl ?_
                  refine o_iconst (v := 3) k138_165 (by decide) ?_
                  refine o_bipush (v := 108) k138_166 (by decide) ?_
                  refine o_iconst (v := 0) k138_168 (by decide) ?_
                  refine o_iconst (v := 0) k138_169 (by decide) ?_
                  refine bd_i h (fun v121 hv121 h => ?_)
                  refine o_call k138_170 pj_137 (fun _ => rfl) (by decide) rfl (as := [.ref 43, .int 3, .int 108, .int 0, .int 0]) (rest := []) rfl (L0 := [some (.ref 43), some (.int 3), some (.int 108), some (.int 0), some (.int 0)]) rfl (t_X8_goesOn_43 hv121) ?_
                  refine o_if_eq k138_173 (fun hc122 => ?_) (fun hc122 => ?_)
                  · rw [if_pos hc122] at h
                    refine o_bipush (v := (-4)) k138_180 (by decide) ?_
                    have h9 := Option.some.inj h
                    subst h9
                    exact o_iret pj_138 k138_182 rfl nr_i
                  · rw [if_neg hc122] at h
                    refine o_iconst (v := 5) k138_176 (by decide) ?_
                    refine o_goto k138_177 ?_
                    have h9 := Option.some.inj h
                    subst h9
                    exact o_iret pj_138 k138_182 rfl nr_i
              · rw [if_neg hc118] at h
                refine o_aload_n k138_134 rfl ?_
                refine o_iconst (v := 3) k138_135 (by decide) ?_
                refine o_bipush (v := 121) k138_136 (by decide) ?_
                refine o_iconst (v := 0) k138_138 (by decide) ?_
                refine o_iconst (v := 0) k138_139 (by decide) ?_
                refine bd_i h (fun v123 hv123 h => ?_)
                refine o_call k138_140 pj_137 (fun _ => rfl) (by decide) rfl (as := [.ref 43, .int 3, .int 121, .int 0, .int 0]) (rest := []) rfl (L0 := [some (.ref 43), some (.int 3), some (.int 121), some (.int 0), some (.int 0)]) rfl (t_X8_goesOn_43 hv123) ?_
                refine o_if_eq k138_143 (fun hc124 => ?_) (fun hc124 => ?_)
                · rw [if_pos hc124] at h
                  refine o_aload_n k138_150 rfl ?_
                  refine o_iconst (v := 4) k138_151 (by decide) ?_
                  refine o_bipush (v := 99) k138_152 (by decide) ?_
                  refine o_bipush (v := 101) k138_154 (by decide) ?_
                  refine o_bipush (v := 108) k138_156 (by decide) ?_
                  refine bd_i h (fun v125 hv125 h => ?_)
                  refine o_call k138_158 pj_136 (fun _ => rfl) (by decide) rfl (as := [.ref 43, .int 4, .int 99, .int 101, .int 108]) (rest := []) rfl (L0 := [some (.ref 43), some (.int 4), some (.int 99), some (.int 101), some (.int 108)]) rfl (t_X8_is_43 hv125) ?_
                  refine o_if_eq k138_161 (fun hc126 => ?_) (fun hc126 => ?_)
                  · rw [if_pos hc126] at h
                    refine o_bipush (v := (-4)) k138_180 (by decide) ?_
                    have h9 := Option.some.inj h
                    subst h9
                    exact o_iret pj_138 k138_182 rfl nr_i
                  · rw [if_neg hc126] at h
                    refine o_aload_n k138_164 rfl ?_
                    refine o_iconst (v := 3) k138_165 (by decide) ?_
                    refine o_bipush (v := 108) k138_166 (by decide) ?_
                    refine o_iconst (v := 0) k138_168 (by decide) ?_
                    refine o_iconst (v := 0) k138_169 (by decide) ?_
                    refine bd_i h (fun v127 hv127 h => ?_)
                    refine o_call k138_170 pj_137 (fun _ => rfl) (by decide) rfl (as := [.ref 43, .int 3, .int 108, .int 0, .int 0]) (rest := []) rfl (L0 := [some (.ref 43), some (.int 3), some (.int 108), some (.int 0), some (.int 0)]) rfl (t_X8_goesOn_43 hv127) ?_
                    refine o_if_eq k138_173 (fun hc128 => ?_) (fun hc128 => ?_)
                    · rw [if_pos hc128] at h
                      refine o_bipush (v := (-4)) k138_180 (by decide) ?_
                      have h9 := Option.some.inj h
                      subst h9
                      exact o_iret pj_138 k138_182 rfl nr_i
                    · rw [if_neg hc128] at h
                      refine o_iconst (v := 5) k138_176 (by decide) ?_
                      refine o_goto k138_177 ?_
                      have h9 := Option.some.inj h
                      subst h9
                      exact o_iret pj_138 k138_182 rfl nr_i
                · rw [if_neg hc124] at h
                  refine o_iconst (v := 4) k138_146 (by decide) ?_
                  refine o_goto k138_147 ?_
                  have h9 := Option.some.inj h
                  subst h9
                  exact o_iret pj_138 k138_182 rfl nr_i
            · rw [if_neg hc116] at h
              refine o_aload_n k138_104 rfl ?_
              refine o_bipush (v := 6) k138_105 (by decide) ?_
              refine o_bipush (v := 101) k138_107 (by decide) ?_
              refine o_bipush (v := 114) k138_109 (by decide) ?_
              refine o_iconst (v := 0) k138_111 (by decide) ?_
              refine bd_i h (fun v129 hv129 h => ?_)
              refine o_call k138_112 pj_137 (fun _ => rfl) (by decide) rfl (as := [.ref 43, .int 6, .int 101, .int 114, .int 0]) (rest := []) rfl (L0 := [some (.ref 43), some (.int 6), some (.int 101), some (.int 114), some (.int 0)]) rfl (t_X8_goesOn_43 hv129) ?_
              refine o_if_eq k138_115 (fun hc130 => ?_) (fun hc130 => ?_)
              · rw [if_pos hc130] at h
                refine o_aload_n k138_120 rfl ?_
                refine o_iconst (v := 4) k138_121 (by decide) ?_
                refine o_bipush (v := 112) k138_122 (by decide) ?_
                refine o_bipush (v := 111) k138_124 (by decide) ?_
                refine o_bipush (v := 108) k138_126 (by decide) ?_
                refine bd_i h (fun v131 hv131 h => ?_)
                refine o_call k138_128 pj_136 (fun _ => rfl) (by decide) rfl (as := [.ref 43, .int 4, .int 112, .int 111, .int 108]) (rest := []) rfl (L0 := [some (.ref 43), some (.int 4), some (.int 112), some (.int 111), some (.int 108)]) rfl (t_X8_is_43 hv131) ?_
                refine o_if_eq k138_131 (fun hc132 => ?_) (fun hc132 => ?_)
                · rw [if_pos hc132] at h
                  refine o_aload_n k138_150 rfl ?_
                  refine o_iconst (v := 4) k138_151 (by decide) ?_
                  refine o_bipush (v := 99) k138_152 (by decide) ?_
                  refine o_bipush (v := 101) k138_154 (by decide) ?_
                  refine o_bipush (v := 108) k138_156 (by decide) ?_
                  refine bd_i h (fun v133 hv133 h => ?_)
                  refine o_call k138_158 pj_136 (fun _ => rfl) (by decide) rfl (as := [.ref 43, .int 4, .int 99, .int 101, .int 108]) (rest := []) rfl (L0 := [some (.ref 43), some (.int 4), some (.int 99), some (.int 101), some (.int 108)]) rfl (t_X8_is_43 hv133) ?_
                  refine o_if_eq k138_161 (fun hc134 => ?_) (fun hc134 => ?_)
                  · rw [if_pos hc134] at h
                    refine o_bipush (v := (-4)) k138_180 (by decide) ?_
                    have h9 := Option.some.inj h
                    subst h9
                    exact o_iret pj_138 k138_182 rfl nr_i
                  · rw [if_neg hc134] at h
                    refine o_aload_n k138_164 rfl ?_
                    refine o_iconst (v := 3) k138_165 (by decide) ?_
                    refine o_bipush (v := 108) k138_166 (by decide) ?_
                    refine o_iconst (v := 0) k138_168 (by decide) ?_
                    refine o_iconst (v := 0) k138_169 (by decide) ?_
                    refine bd_i h (fun v135 hv135 h => ?_)
                    refine o_call k138_170 pj_137 (fun _ => rfl) (by decide) rfl (as := [.ref 43, .int 3, .int 108, .int 0, .int 0]) (rest := []) rfl (L0 := [some (.ref 43), some (.int 3), some (.int 108), some (.int 0), some (.int 0)]) rfl (t_X8_goesOn_43 hv135) ?_
                    refine o_if_eq k138_173 (fun hc136 => ?_) (fun hc136 => ?_)
                    · rw [if_pos hc136] at h
                      refine o_bipush (v := (-4)) k138_180 (by decide) ?_
                      have h9 := Option.some.inj h
                      subst h9
                      exact o_iret pj_138 k138_182 rfl nr_i
                    · rw [if_neg hc136] at h
                      refine o_iconst (v := 5) k138_176 (by decide) ?_
                      refine o_goto k138_177 ?_
                      have h9 := Option.some.inj h
                      subst h9
                      exact o_iret pj_138 k138_182 rfl nr_i
                · rw [if_neg hc132] at h
                  refine o_aload_n k138_134 rfl ?_
                  refine o_iconst (v := 3) k138_135 (by decide) ?_
                  refine o_bipush (v := 121) k138_136 (by decide) ?_
                  refine o_iconst (v := 0) k138_138 (by decide) ?_
                  refine o_iconst (v := 0) k138_139 (by decide) ?_
                  refine bd_i h (fun v137 hv137 h => ?_)
                  refine o_call k138_140 pj_137 (fun _ => rfl) (by decide) rfl (as := [.ref 43, .int 3, .int 121, .int 0, .int 0]) (rest := []) rfl (L0 := [some (.ref 43), some (.int 3), some (.int 121), some (.int 0), some (.int 0)]) rfl (t_X8_goesOn_43 hv137) ?_
                  refine o_if_eq k138_143 (fun hc138 => ?_) (fun hc138 => ?_)
                  · rw [if_pos hc138] at h
                    refine o_aload_n k138_150 rfl ?_
                    refine o_iconst (v := 4) k138_151 (by decide) ?_
                    refine o_bipush (v := 99) k138_152 (by decide) ?_
                    refine o_bipush (v := 101) k138_154 (by decide) ?_
                    refine o_bipush (v := 108) k138_156 (by decide) ?_
                    refine bd_i h (fun v139 hv139 h => ?_)
                    refine o_call k138_158 pj_136 (fun _ => rfl) (by decide) rfl (as := [.ref 43, .int 4, .int 99, .int 101, .int 108]) (rest := []) rfl (L0 := [some (.ref 43), some (.int 4), some (.int 99), some (.int 101), some (.int 108)]) rfl (t_X8_is_43 hv139) ?_
                    refine o_if_eq k138_161 (fun hc140 => ?_) (fun hc140 => ?_)
                    · rw [if_pos hc140] at h
                      refine o_bipush (v := (-4)) k138_180 (by decide) ?_
                      have h9 := Option.some.inj h
                      subst h9
                      exact o_iret pj_138 k138_182 rfl nr_i
                    · rw [if_neg hc140] at h
                      refine o_aload_n k138_164 rfl ?_
                      refine o_iconst (v := 3) k138_165 (by decide) ?_
                      refine o_bipush (v := 108) k138_166 (by decide) ?_
                      refine o_iconst (v := 0) k138_168 (by decide) ?_
                      refine o_iconst (v := 0) k138_169 (by decide) ?_
                      refine bd_i h (fun v141 hv141 h => ?_)
                      refine o_call k138_170 pj_137 (fun _ => rfl) (by decide) rfl (as := [.ref 43, .int 3, .int 108, .int 0, .int 0]) (rest := []) rfl (L0 := [some (.ref 43), some (.int 3), some (.int 108), some (.int 0), some (.int 0)]) rfl (t_X8_goesOn_43 hv141) ?_
                      refine o_if_eq k138_173 (fun hc142 => ?_) (fun hc142 => ?_)
                      · rw [if_pos hc142] at h
                        refine o_bipush (v := (-4)) k138_180 (by decide) ?_
                        have h9 := Option.some.inj h
                        subst h9
                        exact o_iret pj_138 k138_182 rfl nr_i
                      · rw [if_neg hc142] at h
                        refine o_iconst (v := 5) k138_176 (by decide) ?_
                        refine o_goto k138_177 ?_
                        have h9 := Option.some.inj h
                        subst h9
                        exact o_iret pj_138 k138_182 rfl nr_i
                  · rw [if_neg hc138] at h
                    refine o_iconst (v := 4) k138_146 (by decide) ?_
                    refine o_goto k138_147 ?_
                    have h9 := Option.some.inj h
                    subst h9
                    exact o_iret pj_138 k138_182 rfl nr_i
              · rw [if_neg hc130] at h
                refine o_iconst (v := 3) k138_118 (by decide) ?_
                have h9 := Option.some.inj h
                subst h9
                exact o_iret pj_138 k138_119 rfl nr_i
        · rw [if_neg hc100] at h
          refine o_iconst (v := 2) k138_73 (by decide) ?_
          have h9 := Option.some.inj h
          subst h9
          exact o_iret pj_138 k138_74 rfl nr_i
      · rw [if_neg hc98] at h
        refine o_aload_n k138_43 rfl ?_
        refine o_iconst (v := 3) k138_44 (by decide) ?_
        refine o_bipush (v := 117) k138_45 (by decide) ?_
        refine o_bipush (v := 109) k138_47 (by decide) ?_
        refine o_bipush (v := 110) k138_49 (by decide) ?_
        refine bd_i h (fun v143 hv143 h => ?_)
        refine o_call k138_51 pj_137 (fun _ => rfl) (by decide) rfl (as := [.ref 43, .int 3, .int 117, .int 109, .int 110]) (rest := []) rfl (L0 := [some (.ref 43), some (.int 3), some (.int 117), some (.int 109), some (.int 110)]) rfl (t_X8_goesOn_43 hv143) ?_
        refine o_if_eq k138_54 (fun hc144 => ?_) (fun hc144 => ?_)
        · rw [if_pos hc144] at h
          refine o_aload_n k138_59 rfl ?_
          refine o_iconst (v := 3) k138_60 (by decide) ?_
          refine o_bipush (v := 111) k138_61 (by decide) ?_
          refine o_bipush (v := 117) k138_63 (by decide) ?_
          refine o_bipush (v := 116) k138_65 (by decide) ?_
          refine bd_i h (fun v145 hv145 h => ?_)
          refine o_call k138_67 pj_136 (fun _ => rfl) (by decide) rfl (as := [.ref 43, .int 3, .int 111, .int 117, .int 116]) (rest := []) rfl (L0 := [some (.ref 43), some (.int 3), some (.int 111), some (.int 117), some (.int 116)]) rfl (t_X8_is_43 hv145) ?_
          refine o_if_eq k138_70 (fun hc146 => ?_) (fun hc146 => ?_)
          · rw [if_pos hc146] at h
            refine o_aload_n k138_75 rfl ?_
            refine o_bipush (v := 8) k138_76 (by decide) ?_
            refine o_bipush (v := 114) k138_78 (by decide) ?_
            refine o_bipush (v := 101) k138_80 (by decide) ?_
            refine o_bipush (v := 103) k138_82 (by decide) ?_
            refine bd_i h (fun v147 hv147 h => ?_)
            refine o_call k138_84 pj_136 (fun _ => rfl) (by decide) rfl (as := [.ref 43, .int 8, .int 114, .int 101, .int 103]) (rest := []) rfl (L0 := [some (.ref 43), some (.int 8), some (.int 114), some (.int 101), some (.int 103)]) rfl (t_X8_is_43 hv147) ?_
            refine o_if_eq k138_87 (fun hc148 => ?_) (fun hc148 => ?_)
            · rw [if_pos hc148] at h
              refine o_aload_n k138_120 rfl ?_
              refine o_iconst (v := 4) k138_121 (by decide) ?_
              refine o_bipush (v := 112) k138_122 (by decide) ?_
              refine o_bipush (v := 111) k138_124 (by decide) ?_
              refine o_bipush (v := 108) k138_126 (by decide) ?_
              refine bd_i h (fun v149 hv149 h => ?_)
              refine o_call k138_128 pj_136 (fun _ => rfl) (by decide) rfl (as := [.ref 43, .int 4, .int 112, .int 111, .int 108]) (rest := []) rfl (L0 := [some (.ref 43), some (.int 4), some (.int 112), some (.int 111), some (.int 108)]) rfl (t_X8_is_43 hv149) ?_
              refine o_if_eq k138_131 (fun hc150 => ?_) (fun hc150 => ?_)
              · rw [if_pos hc150] at h
                refine o_aload_n k138_150 rfl ?_
                refine o_iconst (v := 4) k138_151 (by decide) ?_
                refine o_bipush (v := 99) k138_152 (by decide) ?_
                refine o_bipush (v := 101) k138_154 (by decide) ?_
                refine o_bipush (v := 108) k138_156 (by decide) ?_
                refine bd_i h (fun v151 hv151 h => ?_)
                refine o_call k138_158 pj_136 (fun _ => rfl) (by decide) rfl (as := [.ref 43, .int 4, .int 99, .int 101, .int 108]) (rest := []) rfl (L0 := [some (.ref 43), some (.int 4), some (.int 99), some (.int 101), some (.int 108)]) rfl (t_X8_is_43 hv151) ?_
                refine o_if_eq k138_161 (fun hc152 => ?_) (fun hc152 => ?_)
                · rw [if_pos hc152] at h
                  refine o_bipush (v := (-4)) k138_180 (by decide) ?_
                  have h9 := Option.some.inj h
                  subst h9
                  exact o_iret pj_138 k138_182 rfl nr_i
                · rw [if_neg hc152] at h
                  refine o_aload_n k138_164 rfl ?_
                  refine o_iconst (v := 3) k138_165 (by decide) ?_
                  refine o_bipush (v := 108) k138_166 (by decide) ?_
                  refine o_iconst (v := 0) k138_168 (by decide) ?_
                  refine o_iconst (v := 0) k138_169 (by decide) ?_
                  refine bd_i h (fun v153 hv153 h => ?_)
                  refine o_call k138_170 pj_137 (fun _ => rfl) (by decide) rfl (as := [.ref 43, .int 3, .int 108, .int 0, .int 0]) (rest := []) rfl (L0 := [some (.ref 43), some (.int 3), some (.int 108), some (.int 0), some (.int 0)]) rfl (t_X8_goesOn_43 hv153) ?_
                  refine o_if_eq k138_173 (fun hc154 => ?_) (fun hc154 => ?_)
                  · rw [if_pos hc154] at h
                    refine o_bipush (v := (-4)) k138_180 (by decide) ?_
                    have h9 := Option.some.inj h
                    subst h9
                    exact o_iret pj_138 k138_182 rfl nr_i
                  · rw [if_neg hc154] at h
                    refine o_iconst (v := 5) k138_176 (by decide) ?_
                    refine o_goto k138_177 ?_
                    have h9 := Option.some.inj h
                    subst h9
                    exact o_iret pj_138 k138_182 rfl nr_i
              · rw [if_neg hc150] at h
                refine o_aload_n k138_134 rfl ?_
                refine o_iconst (v := 3) k138_135 (by decide) ?_
                refine o_bipush (v := 121) k138_136 (by decide) ?_
                refine o_iconst (v := 0) k138_138 (by decide) ?_
                refine o_iconst (v := 0) k138_139 (by decide) ?_
                refine bd_i h (fun v155 hv155 h => ?_)
                refine o_call k138_140 pj_137 (fun _ => rfl) (by decide) rfl (as := [.ref 43, .int 3, .int 121, .int 0, .int 0]) (rest := []) rfl (L0 := [some (.ref 43), some (.int 3), some (.int 121), some (.int 0), some (.int 0)]) rfl (t_X8_goesOn_43 hv155) ?_
                refine o_if_eq k138_143 (fun hc156 => ?_) (fun hc156 => ?_)
                · rw [if_pos hc156] at h
                  refine o_aload_n k138_150 rfl ?_
                  refine o_iconst (v := 4) k138_151 (by decide) ?_
                  refine o_bipush (v := 99) k138_152 (by decide) ?_
                  refine o_bipush (v := 101) k138_154 (by decide) ?_
                  refine o_bipush (v := 108) k138_156 (by decide) ?_
                  refine bd_i h (fun v157 hv157 h => ?_)
                  refine o_call k138_158 pj_136 (fun _ => rfl) (by decide) rfl (as := [.ref 43, .int 4, .int 99, .int 101, .int 108]) (rest := []) rfl (L0 := [some (.ref 43), some (.int 4), some (.int 99), some (.int 101), some (.int 108)]) rfl (t_X8_is_43 hv157) ?_
                  refine o_if_eq k138_161 (fun hc158 => ?_) (fun hc158 => ?_)
                  · rw [if_pos hc158] at h
                    refine o_bipush (v := (-4)) k138_180 (by decide) ?_
                    have h9 := Option.some.inj h
                    subst h9
                    exact o_iret pj_138 k138_182 rfl nr_i
                  · rw [if_neg hc158] at h
                    refine o_aload_n k138_164 rfl ?_
                    refine o_iconst (v := 3) k138_165 (by decide) ?_
                    refine o_bipush (v := 108) k138_166 (by decide) ?_
                    refine o_iconst (v := 0) k138_168 (by decide) ?_
                    refine o_iconst (v := 0) k138_169 (by decide) ?_
                    refine bd_i h (fun v159 hv159 h => ?_)
                    refine o_call k138_170 pj_137 (fun _ => rfl) (by decide) rfl (as := [.ref 43, .int 3, .int 108, .int 0, .int 0]) (rest := []) rfl (L0 := [some (.ref 43), some (.int 3), some (.int 108), some (.int 0), some (.int 0)]) rfl (t_X8_goesOn_43 hv159) ?_
                    refine o_if_eq k138_173 (fun hc160 => ?_) (fun hc160 => ?_)
                    · rw [if_pos hc160] at h
                      refine o_bipush (v := (-4)) k138_180 (by decide) ?_
                      have h9 := Option.some.inj h
                      subst h9
                      exact o_iret pj_138 k138_182 rfl nr_i
                    · rw [if_neg hc160] at h
                      refine o_iconst (v := 5) k138_176 (by decide) ?_
                      refine o_goto k138_177 ?_
                      have h9 := Option.some.inj h
                      subst h9
                      exact o_iret pj_138 k138_182 rfl nr_i
                · rw [if_neg hc156] at h
                  refine o_iconst (v := 4) k138_146 (by decide) ?_
                  refine o_goto k138_147 ?_
                  have h9 := Option.some.inj h
                  subst h9
                  exact o_iret pj_138 k138_182 rfl nr_i
            · rw [if_neg hc148] at h
              refine o_aload_n k138_90 rfl ?_
              refine o_iconst (v := 3) k138_91 (by decide) ?_
              refine o_bipush (v := 105) k138_92 (by decide) ?_
              refine o_bipush (v := 115) k138_94 (by decide) ?_
              refine o_bipush (v := 116) k138_96 (by decide) ?_
              refine bd_i h (fun v161 hv161 h => ?_)
              refine o_call k138_98 pj_137 (fun _ => rfl) (by decide) rfl (as := [.ref 43, .int 3, .int 105, .int 115, .int 116]) (rest := []) rfl (L0 := [some (.ref 43), some (.int 3), some (.int 105), some (.int 115), some (.int 116)]) rfl (t_X8_goesOn_43 hv161) ?_
              refine o_if_eq k138_101 (fun hc162 => ?_) (fun hc162 => ?_)
              · rw [if_pos hc162] at h
                refine o_aload_n k138_120 rfl ?_
                refine o_iconst (v := 4) k138_121 (by decide) ?_
                refine o_bipush (v := 112) k138_122 (by decide) ?_
                refine o_bipush (v := 111) k138_124 (by decide) ?_
                refine o_bipush (v := 108) k138_126 (by decide) ?_
                refine bd_i h (fun v163 hv163 h => ?_)
                refine o_call k138_128 pj_136 (fun _ => rfl) (by decide) rfl (as := [.ref 43, .int 4, .int 112, .int 111, .int 108]) (rest := []) rfl (L0 := [some (.ref 43), some (.int 4), some (.int 112), some (.int 111), some (.int 108)]) rfl (t_X8_is_43 hv163) ?_
                refine o_if_eq k138_131 (fun hc164 => ?_) (fun hc164 => ?_)
                · rw [if_pos hc164] at h
                  refine o_aload_n k138_150 rfl ?_
                  refine o_iconst (v := 4) k138_151 (by decide) ?_
                  refine o_bipush (v := 99) k138_152 (by decide) ?_
                  refine o_bipush (v := 101) k138_154 (by decide) ?_
                  refine o_bipush (v := 108) k138_156 (by decide) ?_
                  refine bd_i h (fun v165 hv165 h => ?_)
                  refine o_call k138_158 pj_136 (fun _ => rfl) (by decide) rfl (as := [.ref 43, .int 4, .int 99, .int 101, .int 108]) (rest := []) rfl (L0 := [some (.ref 43), some (.int 4), some (.int 99), some (.int 101), some (.int 108)]) rfl (t_X8_is_43 hv165) ?_
                  refine o_if_eq k138_161 (fun hc166 => ?_) (fun hc166 => ?_)
                  · rw [if_pos hc166] at h
                    refine o_bipush (v := (-4)) k138_180 (by decide) ?_
                    have h9 := Option.some.inj h
                    subst h9
                    exact o_iret pj_138 k138_182 rfl nr_i
                  · rw [if_neg hc166] at h
                    refine o_aload_n k138_164 rfl ?_
                    refine o_iconst (v := 3) k138_165 (by decide) ?_
                    refine o_bipush (v := 108) k138_166 (by decide) ?_
                    refine o_iconst (v := 0) k138_168 (by decide) ?_
                    refine o_iconst (v := 0) k138_169 (by decide) ?_
                    refine bd_i h (fun v167 hv167 h => ?_)
                    refine o_call k138_170 pj_137 (fun _ => rfl) (by decide) rfl (as := [.ref 43, .int 3, .int 108, .int 0, .int 0]) (rest := []) rfl (L0 := [some (.ref 43), some (.int 3), some (.int 108), some (.int 0), some (.int 0)]) rfl (t_X8_goesOn_43 hv167) ?_
                    refine o_if_eq k138_173 (fun hc168 => ?_) (fun hc168 => ?_)
                    · rw [if_pos hc168] at h
                      refine o_bipush (v := (-4)) k138_180 (by decide) ?_
                      have h9 := Option.some.inj h
                      subst h9
                      exact o_iret pj_138 k138_182 rfl nr_i
                    · rw [if_neg hc168] at h
                      refine o_iconst (v := 5) k138_176 (by decide) ?_
                      refine o_goto k138_177 ?_
                      have h9 := Option.some.inj h
                      subst h9
                      exact o_iret pj_138 k138_182 rfl nr_i
                · rw [if_neg hc164] at h
                  refine o_aload_n k138_134 rfl ?_
                  refine o_iconst (v := 3) k138_135 (by decide) ?_
                  refine o_bipush (v := 121) k138_136 (by decide) ?_
                  refine o_iconst (v := 0) k138_138 (by decide) ?_
                  refine o_iconst (v := 0) k138_139 (by decide) ?_
                  refine bd_i h (fun v169 hv169 h => ?_)
                  refine o_call k138_140 pj_137 (fun _ => rfl) (by decide) rfl (as := [.ref 43, .int 3, .int 121, .int 0, .int 0]) (rest := []) rfl (L0 := [some (.ref 43), some (.int 3), some (.int 121), some (.int 0), some (.int 0)]) rfl (t_X8_goesOn_43 hv169) ?_
                  refine o_if_eq k138_143 (fun hc170 => ?_) (fun hc170 => ?_)
                  · rw [if_pos hc170] at h
                    refine o_aload_n k138_150 rfl ?_
                    refine o_iconst (v := 4) k138_151 (by decide) ?_
                    refine o_bipush (v := 99) k138_152 (by decide) ?_
                    refine o_bipush (v := 101) k138_154 (by decide) ?_
                    refine o_bipush (v := 108) k138_156 (by decide) ?_
                    refine bd_i h (fun v171 hv171 h => ?_)
                    refine o_call k138_158 pj_136 (fun _ => rfl) (by decide) rfl (as := [.ref 43, .int 4, .int 99, .int 101, .int 108]) (rest := []) rfl (L0 := [some (.ref 43), some (.int 4), some (.int 99), some (.int 101), some (.int 108)]) rfl (t_X8_is_43 hv171) ?_
                    refine o_if_eq k138_161 (fun hc172 => ?_) (fun hc172 => ?_)
                    · rw [if_pos hc172] at h
                      refine o_bipush (v := (-4)) k138_180 (by decide) ?_
                      have h9 := Option.some.inj h
                      subst h9
                      exact o_iret pj_138 k138_182 rfl nr_i
                    · rw [if_neg hc172] at h
                      refine o_aload_n k138_164 rfl ?_
                      refine o_iconst (v := 3) k138_165 (by decide) ?_
                      refine o_bipush (v := 108) k138_166 (by decide) ?_
                      refine o_iconst (v := 0) k138_168 (by decide) ?_
                      refine o_iconst (v := 0) k138_169 (by decide) ?_
                      refine bd_i h (fun v173 hv173 h => ?_)
                      refine o_call k138_170 pj_137 (fun _ => rfl) (by decide) rfl (as := [.ref 43, .int 3, .int 108, .int 0, .int 0]) (rest := []) rfl (L0 := [some (.ref 43), some (.int 3), some (.int 108), some (.int 0), some (.int 0)]) rfl (t_X8_goesOn_43 hv173) ?_
                      refine o_if_eq k138_173 (fun hc174 => ?_) (fun hc174 => ?_)
                      · rw [if_pos hc174] at h
                        refine o_bipush (v := (-4)) k138_180 (by decide) ?_
                        have h9 := Option.some.inj h
                        subst h9
                        exact o_iret pj_138 k138_182 rfl nr_i
                      · rw [if_neg hc174] at h
                        refine o_iconst (v := 5) k138_176 (by decide) ?_
                        refine o_goto k138_177 ?_
                        have h9 := Option.some.inj h
                        subst h9
                        exact o_iret pj_138 k138_182 rfl nr_i
                  · rw [if_neg hc170] at h
                    refine o_iconst (v := 4) k138_146 (by decide) ?_
                    refine o_goto k138_147 ?_
                    have h9 := Option.some.inj h
                    subst h9
                    exact o_iret pj_138 k138_182 rfl nr_i
              · rw [if_neg hc162] at h
                refine o_aload_n k138_104 rfl ?_
                refine o_bipush (v := 6) k138_105 (by decide) ?_
                refine o_bipush (v := 101) k138_107 (by decide) ?_
                refine o_bipush (v := 114) k138_109 (by decide) ?_
                refine o_iconst (v := 0) k138_111 (by decide) ?_
                refine bd_i h (fun v175 hv175 h => ?_)
                refine o_call k138_112 pj_137 (fun _ => rfl) (by decide) rfl (as := [.ref 43, .int 6, .int 101, .int 114, .int 0]) (rest := []) rfl (L0 := [some (.ref 43), some (.int 6), some (.int 101), some (.int 114), some (.int 0)]) rfl (t_X8_goesOn_43 hv175) ?_
                refine o_if_eq k138_115 (fun hc176 => ?_) (fun hc176 => ?_)
                · rw [if_pos hc176] at h
                  refine o_aload_n k138_120 rfl ?_
                  refine o_iconst (v := 4) k138_121 (by decide) ?_
                  refine o_bipush (v := 112) k138_122 (by decide) ?_
                  refine o_bipush (v := 111) k138_124 (by decide) ?_
                  refine o_bipush (v := 108) k138_126 (by decide) ?_
                  refine bd_i h (fun v177 hv177 h => ?_)
                  refine o_call k138_128 pj_136 (fun _ => rfl) (by decide) rfl (as := [.ref 43, .int 4, .int 112, .int 111, .int 108]) (rest := []) rfl (L0 := [some (.ref 43), some (.int 4), some (.int 112), some (.int 111), some (.int 108)]) rfl (t_X8_is_43 hv177) ?_
                  refine o_if_eq k138_131 (fun hc178 => ?_) (fun hc178 => ?_)
                  · rw [if_pos hc178] at h
                    refine o_aload_n k138_150 rfl ?_
                    refine o_iconst (v := 4) k138_151 (by decide) ?_
                    refine o_bipush (v := 99) k138_152 (by decide) ?_
                    refine o_bipush (v := 101) k138_154 (by decide) ?_
                    refine o_bipush (v := 108) k138_156 (by decide) ?_
                    refine bd_i h (fun v179 hv179 h => ?_)
                    refine o_call k138_158 pj_136 (fun _ => rfl) (by decide) rfl (as := [.ref 43, .int 4, .int 99, .int 101, .int 108]) (rest := []) rfl (L0 := [some (.ref 43), some (.int 4), some (.int 99), some (.int 101), some (.int 108)]) rfl (t_X8_is_43 hv179) ?_
                    refine o_if_eq k138_161 (fun hc180 => ?_) (fun hc180 => ?_)
                    · rw [if_pos hc180] at h
                      refine o_bipush (v := (-4)) k138_180 (by decide) ?_
                      have h9 := Option.some.inj h
                      subst h9
                      exact o_iret pj_138 k138_182 rfl nr_i
                    · rw [if_neg hc180] at h
                      refine o_aload_n k138_164 rfl ?_
                      refine o_iconst (v := 3) k138_165 (by decide) ?_
                      refine o_bipush (v := 108) k138_166 (by decide) ?_
                      refine o_iconst (v := 0) k138_168 (by decide) ?_
                      refine o_iconst (v := 0) k138_169 (by decide) ?_
                      refine bd_i h (fun v181 hv181 h => ?_)
                      refine o_call k138_170 pj_137 (fun _ => rfl) (by decide) rfl (as := [.ref 43, .int 3, .int 108, .int 0, .int 0]) (rest := []) rfl (L0 := [some (.ref 43), some (.int 3), some (.int 108), some (.int 0), some (.int 0)]) rfl (t_X8_goesOn_43 hv181) ?_
                      refine o_if_eq k138_173 (fun hc182 => ?_) (fun hc182 => ?_)
                      · rw [if_pos hc182] at h
                        refine o_bipush (v := (-4)) k138_180 (by decide) ?_
                        have h9 := Option.some.inj h
                        subst h9
                        exact o_iret pj_138 k138_182 rfl nr_i
                      · rw [if_neg hc182] at h
                        refine o_iconst (v := 5) k138_176 (by decide) ?_
                        refine o_goto k138_177 ?_
                        have h9 := Option.some.inj h
                        subst h9
                        exact o_iret pj_138 k138_182 rfl nr_i
                  · rw [if_neg hc178] at h
                    refine o_aload_n k138_134 rfl ?_
                    refine o_iconst (v := 3) k138_135 (by decide) ?_
                    refine o_bipush (v := 121) k138_136 (by decide) ?_
                    refine o_iconst (v := 0) k138_138 (by decide) ?_
                    refine o_iconst (v := 0) k138_139 (by decide) ?_
                    refine bd_i h (fun v183 hv183 h => ?_)
                    refine o_call k138_140 pj_137 (fun _ => rfl) (by decide) rfl (as := [.ref 43, .int 3, .int 121, .int 0, .int 0]) (rest := []) rfl (L0 := [some (.ref 43), some (.int 3), some (.int 121), some (.int 0), some (.int 0)]) rfl (t_X8_goesOn_43 hv183) ?_
                    refine o_if_eq k138_143 (fun hc184 => ?_) (fun hc184 => ?_)
                    · rw [if_pos hc184] at h
                      refine o_aload_n k138_150 rfl ?_
                      refine o_iconst (v := 4) k138_151 (by decide) ?_
                      refine o_bipush (v := 99) k138_152 (by decide) ?_
                      refine o_bipush (v := 101) k138_154 (by decide) ?_
                      refine o_bipush (v := 108) k138_156 (by decide) ?_
                      refine bd_i h (fun v185 hv185 h => ?_)
                      refine o_call k138_158 pj_136 (fun _ => rfl) (by decide) rfl (as := [.ref 43, .int 4, .int 99, .int 101, .int 108]) (rest := []) rfl (L0 := [some (.ref 43), some (.int 4), some (.int 99), some (.int 101), some (.int 108)]) rfl (t_X8_is_43 hv185) ?_
                      refine o_if_eq k138_161 (fun hc186 => ?_) (fun hc186 => ?_)
                      · rw [if_pos hc186] at h
                        refine o_bipush (v := (-4)) k138_180 (by decide) ?_
                        have h9 := Option.some.inj h
                        subst h9
                        exact o_iret pj_138 k138_182 rfl nr_i
                      · rw [if_neg hc186] at h
                        refine o_aload_n k138_164 rfl ?_
                        refine o_iconst (v := 3) k138_165 (by decide) ?_
                        refine o_bipush (v := 108) k138_166 (by decide) ?_
                        refine o_iconst (v := 0) k138_168 (by decide) ?_
                        refine o_iconst (v := 0) k138_169 (by decide) ?_
                        refine bd_i h (fun v187 hv187 h => ?_)
                        refine o_call k138_170 pj_137 (fun _ => rfl) (by decide) rfl (as := [.ref 43, .int 3, .int 108, .int 0, .int 0]) (rest := []) rfl (L0 := [some (.ref 43), some (.int 3), some (.int 108), some (.int 0), some (.int 0)]) rfl (t_X8_goesOn_43 hv187) ?_
                        refine o_if_eq k138_173 (fun hc188 => ?_) (fun hc188 => ?_)
                        · rw [if_pos hc188] at h
                          refine o_bipush (v := (-4)) k138_180 (by decide) ?_
                          have h9 := Option.some.inj h
                          subst h9
                          exact o_iret pj_138 k138_182 rfl nr_i
                        · rw [if_neg hc188] at h
                          refine o_iconst (v := 5) k138_176 (by decide) ?_
                          refine o_goto k138_177 ?_
                          have h9 := Option.some.inj h
                          subst h9
                          exact o_iret pj_138 k138_182 rfl nr_i
                    · rw [if_neg hc184] at h
                      refine o_iconst (v := 4) k138_146 (by decide) ?_
                      refine o_goto k138_147 ?_
                      have h9 := Option.some.inj h
                      subst h9
                      exact o_iret pj_138 k138_182 rfl nr_i
                · rw [if_neg hc176] at h
                  refine o_iconst (v := 3) k138_118 (by decide) ?_
                  have h9 := Option.some.inj h
                  subst h9
                  exact o_iret pj_138 k138_119 rfl nr_i
          · rw [if_neg hc146] at h
            refine o_iconst (v := 2) k138_73 (by decide) ?_
            have h9 := Option.some.inj h
            subst h9
            exact o_iret pj_138 k138_74 rfl nr_i
        · rw [if_neg hc144] at h
          refine o_iconst (v := 1) k138_57 (by decide) ?_
          have h9 := Option.some.inj h
          subst h9
          exact o_iret pj_138 k138_58 rfl nr_i
    · rw [if_neg hc96] at h
      refine o_iconst (v := 0) k138_26 (by decide) ?_
      have h9 := Option.some.inj h
      subst h9
      exact o_iret pj_138 k138_27 rfl nr_i
