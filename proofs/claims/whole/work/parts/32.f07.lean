/-! FUNCTIONS, on -/
def f_X8_seenDiffers_43 (a0 : Int32) (M : am_M) : Option (Int32 × am_M) := ((f_X8_findSeen_43_52 M).bind (fun q1 => ((lp (σ := Int32 × am_M) (ρ := Int32 × am_M) (fun s2 => (if 151 ≤ s2.1 then (some (.inr (s2.1, s2.2))) else (if am_dbin s2.1 151 = true then (if am_dbin s2.1 151 = true then (bl (am_up s2.2 51 s2.1.toNatClampNeg (s2.2 44 s2.1.toNatClampNeg)) (fun (M6 : am_M) => (some (.inl ((s2.1 + 1), M6))))) else none) else none))) lp_F (0, q1)).bind (fun s7 => ((f_X8_takes_43 a0 s7.2).bind (fun q8 => ((f_X8_findSeen_43_53 q8).bind (fun q9 => ((lp (σ := Int32 × am_M) (ρ := Int32 × am_M) (fun s10 => (if 151 ≤ s10.1 then (some (.inr (s10.1, s10.2))) else (if am_dbin s10.1 151 = true then (if am_dbin s10.1 151 = true then (bl (am_up s10.2 44 s10.1.toNatClampNeg (s10.2 51 s10.1.toNatClampNeg)) (fun (M14 : am_M) => (some (.inl ((s10.1 + 1), M14))))) else none) else none))) lp_F (0, q9)).bind (fun s15 => ((lp (σ := Int32 × Int32) (ρ := Int32 × Int32) (fun s16 => (if (s15.2 44 (1 : Int32).toNatClampNeg) ≤ s16.2 then (some (.inr (s16.1, s16.2))) else ((lp (σ := Int32 × Int32) (ρ := Int32 × Int32) (fun s20 => (if (s15.2 44 (2 : Int32).toNatClampNeg) ≤ s20.2 then (some (.inr (s20.1, s20.2))) else (if am_dbin (((8 : Int32) * s16.2) + s20.2) 64 = true then (if am_dbin (((8 : Int32) * s16.2) + s20.2) 64 = true then (bl ((s20.1 + (f_X8_flag (f_X8_differ (s15.2 52 (((8 : Int32) * s16.2) + s20.2).toNatClampNeg) (s15.2 53 (((8 : Int32) * s16.2) + s20.2).toNatClampNeg))))) (fun (v25 : Int32) => (some (.inl (v25, (s20.2 + 1)))))) else none) else none))) lp_F (s16.1, 0)).bind (fun s26 => (some (.inl (s26.1, (s16.2 + 1)))))))) lp_F (0, 0)).bind (fun s27 => (some (s27.1, s15.2))))))))))))))
set_option maxRecDepth 20000 in
theorem t_X8_seenDiffers_43 {LN : Nat} {xs : Nat → Int32} {a0 : Int32} {M : am_M} {t : Int32 × am_M} (h : f_X8_seenDiffers_43 a0 M = some t) : oo LN xs 0 0 201 0 [some (.ref 43), some (.int a0), none, none, none] [] M (some (.int t.1), t.2) := by
  unfold f_X8_seenDiffers_43 at h
  refine o_aload_n k201_0 rfl ?_
  refine o_aload_n k201_1 rfl ?_
  refine o_gf k201_2 (gf_43_25 _) ?_
  refine bd_i h (fun q1 hq1 h => ?_)
  refine o_call k201_5 pj_199 (fun _ => rfl) (by decide) rfl (as := [.ref 43, .ref 52]) (rest := []) rfl (L0 := [some (.ref 43), some (.ref 52), none, none]) rfl (t_X8_findSeen_43_52 hq1) ?_
  refine o_iconst (v := 0) k201_8 (by decide) ?_
  refine o_istore_n (v := 0) (L' := [some (.ref 43), some (.int a0), some (.int 0), none, none]) k201_9 rfl rfl ?_
  refine bd_i h (fun s7 hs7 h => ?_)
  refine lp_o (fun s2 => oo LN xs 0 0 201 10 [some (.ref 43), some (.int a0), some (.int s2.1), none, none] [] s2.2 (some (.int t.1), t.2)) (fun s7 => oo LN xs 0 0 201 35 [some (.ref 43), some (.int a0), some (.int s7.1), none, none] [] s7.2 (some (.int t.1), t.2)) ?_ hs7 ?_
  · intro s2 ws2 h hK
    refine o_iload_n k201_10 rfl ?_
    refine o_sipush (v := 151) k201_11 (by decide) ?_
    refine o_icmp_ge k201_14 (fun hc3 => ?_) (fun hc3 => ?_)
    · rw [if_pos hc3] at h
      have h9 := Option.some.inj h
      subst h9
      exact hK
    · rw [if_neg hc3] at h
      refine o_aload_n k201_17 rfl ?_
      refine o_gf k201_18 (gf_43_24 _) ?_
      refine o_iload_n k201_21 rfl ?_
      refine o_aload_n k201_22 rfl ?_
      refine o_gf k201_23 (gf_43_0 _) ?_
      refine o_iload_n k201_26 rfl ?_
      obtain ⟨hc4, h⟩ := ck_i h
      refine o_iald k201_27 rfl ia_44 hc4 ?_
      obtain ⟨hc5, h⟩ := ck_i h
      refine bl_i h (fun M6 eM6 h => ?_)
      refine o_iast (M' := M6) k201_28 eM6 ia_51 hc5 ?_
      refine o_iinc (w := s2.1 + 1) (L' := [some (.ref 43), some (.int a0), some (.int (s2.1 + 1)), none, none]) k201_29 rfl rfl rfl ?_
      refine o_goto k201_32 ?_
      have h9 := Option.some.inj h
      subst h9
      exact hK
  · show oo LN xs 0 0 201 35 [some (.ref 43), some (.int a0), some (.int s7.1), none, none] [] s7.2 (some (.int t.1), t.2)
    refine o_aload_n k201_35 rfl ?_
    refine o_iload_n k201_36 rfl ?_
    refine bd_i h (fun q8 hq8 h => ?_)
    refine o_call k201_37 pj_197 (fun _ => rfl) (by decide) rfl (as := [.ref 43, .int a0]) (rest := []) rfl (L0 := [some (.ref 43), some (.int a0), none]) rfl (t_X8_takes_43 hq8) ?_
    refine o_aload_n k201_40 rfl ?_
    refine o_aload_n k201_41 rfl ?_
    refine o_gf k201_42 (gf_43_26 _) ?_
    refine bd_i h (fun q9 hq9 h => ?_)
    refine o_call k201_45 pj_199 (fun _ => rfl) (by decide) rfl (as := [.ref 43, .ref 53]) (rest := []) rfl (L0 := [some (.ref 43), some (.ref 53), none, none]) rfl (t_X8_findSeen_43_53 hq9) ?_
    refine o_iconst (v := 0) k201_48 (by decide) ?_
    refine o_istore_n (v := 0) (L' := [some (.ref 43), some (.int a0), some (.int 0), none, none]) k201_49 rfl rfl ?_
    refine bd_i h (fun s15 hs15 h => ?_)
    refine lp_o (fun s10 => oo LN xs 0 0 201 50 [some (.ref 43), some (.int a0), some (.int s10.1), none, none] [] s10.2 (some (.int t.1), t.2)) (fun s15 => oo LN xs 0 0 201 75 [some (.ref 43), some (.int a0), some (.int s15.1), none, none] [] s15.2 (some (.int t.1), t.2)) ?_ hs15 ?_
    · intro s10 ws10 h hK
      refine o_iload_n k201_50 rfl ?_
      refine o_sipush (v := 151) k201_51 (by decide) ?_
      refine o_icmp_ge k201_54 (fun hc11 => ?_) (fun hc11 => ?_)
      · rw [if_pos hc11] at h
        have h9 := Option.some.inj h
        subst h9
        exact hK
      · rw [if_neg hc11] at h
        refine o_aload_n k201_57 rfl ?_
        refine o_gf k201_58 (gf_43_0 _) ?_
        refine o_iload_n k201_61 rfl ?_
        refine o_aload_n k201_62 rfl ?_
        refine o_gf k201_63 (gf_43_24 _) ?_
        refine o_iload_n k201_66 rfl ?_
        obtain ⟨hc12, h⟩ := ck_i h
        refine o_iald k201_67 rfl ia_51 hc12 ?_
        obtain ⟨hc13, h⟩ := ck_i h
        refine bl_i h (fun M14 eM14 h => ?_)
        refine o_iast (M' := M14) k201_68 eM14 ia_44 hc13 ?_
        refine o_iinc (w := s10.1 + 1) (L' := [some (.ref 43), some (.int a0), some (.int (s10.1 + 1)), none, none]) k201_69 rfl rfl rfl ?_
        refine o_goto k201_72 ?_
        have h9 := Option.some.inj h
        subst h9
        exact hK
    · show oo LN xs 0 0 201 75 [some (.ref 43), some (.int a0), some (.int s15.1), none, none] [] s15.2 (some (.int t.1), t.2)
      refine o_iconst (v := 0) k201_75 (by decide) ?_
      refine o_istore_n (v := 0) (L' := [some (.ref 43), some (.int a0), some (.int 0), none, none]) k201_76 rfl rfl ?_
      refine o_iconst (v := 0) k201_77 (by decide) ?_
      refine o_istore_n (v := 0) (L' := [some (.ref 43), some (.int a0), some (.int 0), some (.int 0), none]) k201_78 rfl rfl ?_
      refine bd_i h (fun s27 hs27 h => ?_)
      refine lp_o (fun s16 => ∀ (d17 : Option Value), oo LN xs 0 0 201 79 [some (.ref 43), some (.int a0), some (.int s16.1), some (.int s16.2), d17] [] s15.2 (some (.int t.1), t.2)) (fun s27 => ∀ (d28 : Option Value), oo LN xs 0 0 201 148 [some (.ref 43), some (.int a0), some (.int s27.1), some (.int s27.2), d28] [] s15.2 (some (.int t.1), t.2)) ?_ hs27 ?_ none
      · intro s16 ws16 h hK d17
        refine o_iload_n k201_79 rfl ?_
        refine o_aload_n k201_80 rfl ?_
        refine o_gf k201_81 (gf_43_0 _) ?_
        refine o_iconst (v := 1) k201_84 (by decide) ?_
        refine o_iald k201_85 rfl ia_44 (by decide) ?_
        refine o_icmp_ge k201_86 (fun hc19 => ?_) (fun hc19 => ?_)
        · rw [if_pos hc19] at h
          have h9 := Option.some.inj h
          subst h9
          exact hK _
        · rw [if_neg hc19] at h
          refine o_iconst (v := 0) k201_89 (by decide) ?_
          refine o_istore (v := 0) (L' := [some (.ref 43), some (.int a0), some (.int s16.1), some (.int s16.2), some (.int 0)]) k201_90 rfl rfl ?_
          refine bd_i h (fun s26 hs26 h => ?_)
          refine lp_o (fun s20 => oo LN xs 0 0 201 92 [some (.ref 43), some (.int a0), some (.int s20.1), some (.int s16.2), some (.int s20.2)] [] s15.2 (some (.int t.1), t.2)) (fun s26 => oo LN xs 0 0 201 142 [some (.ref 43), some (.int a0), some (.int s26.1), some (.int s16.2), some (.int s26.2)] [] s15.2 (some (.int t.1), t.2)) ?_ hs26 ?_
          · intro s20 ws20 h hK
            refine o_iload k201_92 rfl ?_
            refine o_aload_n k201_94 rfl ?_
            refine o_gf k201_95 (gf_43_0 _) ?_
            refine o_iconst (v := 2) k201_98 (by decide) ?_
            refine o_iald k201_99 rfl ia_44 (by decide) ?_
            refine o_icmp_ge k201_100 (fun hc22 => ?_) (fun hc22 => ?_)
            · rw [if_pos hc22] at h
              have h9 := Option.some.inj h
              subst h9
              exact hK
            · rw [if_neg hc22] at h
              refine o_iload_n k201_103 rfl ?_
              refine o_aload_n k201_104 rfl ?_
              refine o_gf k201_105 (gf_43_25 _) ?_
              refine o_bipush (v := 8) k201_108 (by decide) ?_
              refine o_iload_n k201_110 rfl ?_
              refine o_imul k201_111 ?_
              refine o_iload k201_112 rfl ?_
              refine o_iadd k201_114 ?_
              obtain ⟨hc23, h⟩ := ck_i h
              refine o_iald k201_115 rfl ia_52 hc23 ?_
              refine o_aload_n k201_116 rfl ?_
              refine o_gf k201_117 (gf_43_26 _) ?_
              refine o_bipush (v := 8) k201_120 (by decide) ?_
              refine o_iload_n k201_122 rfl ?_
              refine o_imul k201_123 ?_
              refine o_iload k201_124 rfl ?_
              refine o_iadd k201_126 ?_
              obtain ⟨hc24, h⟩ := ck_i h
              refine o_iald k201_127 rfl ia_53 hc24 ?_
              refine o_call k201_128 pj_200 (fun _ => rfl) (by decide) rfl (as := [.int (s15.2 52 (((8 : Int32) * s16.2) + s20.2).toNatClampNeg), .int (s15.2 53 (((8 : Int32) * s16.2) + s20.2).toNatClampNeg)]) (rest := [.int s20.1]) rfl (L0 := [some (.int (s15.2 52 (((8 : Int32) * s16.2) + s20.2).toNatClampNeg)), some (.int (s15.2 53 (((8 : Int32) * s16.2) + s20.2).toNatClampNeg))]) rfl (t_X8_differ (M := s15.2) (a0 := (s15.2 52 (((8 : Int32) * s16.2) + s20.2).toNatClampNeg)) (a1 := (s15.2 53 (((8 : Int32) * s16.2) + s20.2).toNatClampNeg)) rfl) ?_
              refine o_call k201_131 pj_126 (fun _ => rfl) (by decide) rfl (as := [.int (f_X8_differ (s15.2 52 (((8 : Int32) * s16.2) + s20.2).toNatClampNeg) (s15.2 53 (((8 : Int32) * s16.2) + s20.2).toNatClampNeg))]) (rest := [.int s20.1]) rfl (L0 := [some (.int (f_X8_differ (s15.2 52 (((8 : Int32) * s16.2) + s20.2).toNatClampNeg) (s15.2 53 (((8 : Int32) * s16.2) + s20.2).toNatClampNeg)))]) rfl (t_X8_flag (M := s15.2) (a0 := (f_X8_differ (s15.2 52 (((8 : Int32) * s16.2) + s20.2).toNatClampNeg) (s15.2 53 (((8 : Int32) * s16.2) + s20.2).toNatClampNeg))) rfl) ?_
              refine o_iadd k201_134 ?_
              refine bl_i h (fun v25 ev25 h => ?_)
              refine o_istore_n (v := v25) k201_135 ev25 (L' := [some (.ref 43), some (.int a0), some (.int v25), some (.int s16.2), some (.int s20.2)]) rfl ?_
              refine o_iinc (w := s20.2 + 1) (L' := [some (.ref 43), some (.int a0), some (.int v25), some (.int s16.2), some (.int (s20.2 + 1))]) k201_136 rfl rfl rfl ?_
              refine o_goto k201_139 ?_
              have h9 := Option.some.inj h
              subst h9
              exact hK
          · show oo LN xs 0 0 201 142 [some (.ref 43), some (.int a0), some (.int s26.1), some (.int s16.2), some (.int s26.2)] [] s15.2 (some (.int t.1), t.2)
            refine o_iinc (w := s16.2 + 1) (L' := [some (.ref 43), some (.int a0), some (.int s26.1), some (.int (s16.2 + 1)), some (.int s26.2)]) k201_142 rfl rfl rfl ?_
            refine o_goto k201_145 ?_
            have h9 := Option.some.inj h
            subst h9
            exact hK _
      · show ∀ (d28 : Option Value), oo LN xs 0 0 201 148 [some (.ref 43), some (.int a0), some (.int s27.1), some (.int s27.2), d28] [] s15.2 (some (.int t.1), t.2)
        intro d28
        refine o_iload_n k201_148 rfl ?_
        have h9 := Option.some.inj h
        subst h9
        exact o_iret pj_201 k201_149 rfl nr_i
def f_X8_differs_43 (a0 : Int32) (a1 : Int32) (M : am_M) : Option (Int32 × am_M) := (if (f_X8_in a0.toInt64 0 1) = 0 then (some ((-1), M)) else ((f_X8_isPart a1).bind (fun v2 => (if v2 = 0 then (some ((-1), M)) else (if am_dbin a0 2 = true then ((lp (σ := Int32 × Int32) (ρ := Int32 × Int32) (fun s5 => (if 2 < s5.2 then (some (.inr (s5.1, s5.2))) else (if s5.1 = 0 then (some (.inl (0, (s5.2 + 1)))) else (if am_dbin (((151 : Int32) * a0) + s5.2) 302 = true then (if am_dbin s5.2 151 = true then (if (M 45 (((151 : Int32) * a0) + s5.2).toNatClampNeg) = (M 44 s5.2.toNatClampNeg) then (some (.inl (1, (s5.2 + 1)))) else (some (.inl (0, (s5.2 + 1))))) else none) else none)))) lp_F ((M 46 a0.toNatClampNeg), 0)).bind (fun s11 => (if s11.1 = 0 then (some ((-2), M)) else (if a1 = 0 then ((f_X8_seenDiffers_43 a0 M).bind (fun q15 => (some (q15.1, q15.2)))) else ((f_X8_cellsDiffer_43 a0 M).bind (fun v14 => (some (v14, M)))))))) else none)))))
set_option maxRecDepth 20000 in
theorem t_X8_differs_43 {LN : Nat} {xs : Nat → Int32} {a0 : Int32} {a1 : Int32} {M : am_M} {t : Int32 × am_M} (h : f_X8_differs_43 a0 a1 M = some t) : oo LN xs 0 0 203 0 [some (.ref 43), some (.int a0), some (.int a1), none, none] [] M (some (.int t.1), t.2) := by
  unfold f_X8_differs_43 at h
  refine o_iload_n k203_0 rfl ?_
  refine o_i2l k203_1 ?_
  refine o_lconst (v := 0) k203_2 (by decide) ?_
  refine o_lconst (v := 1) k203_3 (by decide) ?_
  refine o_call k203_4 pj_125 (fun _ => rfl) (by decide) rfl (as := [.long a0.toInt64, .long 0, .long 1]) (rest := []) rfl (L0 := [some (.long a0.toInt64), none, some (.long 0), none, some (.long 1), none]) rfl (t_X8_in (M := M) (a0 := a0.toInt64) (a1 := 0) (a2 := 1) rfl) ?_
  refine o_if_eq k203_7 (fun hc1 => ?_) (fun hc1 => ?_)
  · rw [if_pos hc1] at h
    refine o_iconst (v := (-1)) k203_17 (by decide) ?_
    have h9 := Option.some.inj h
    subst h9
    exact o_iret pj_203 k203_18 rfl nr_i
  · rw [if_neg hc1] at h
    refine o_iload_n k203_10 rfl ?_
    refine bd_i h (fun v2 hv2 h => ?_)
    refine o_call k203_11 pj_153 (fun _ => rfl) (by decide) rfl (as := [.int a1]) (rest := []) rfl (L0 := [some (.int a1)]) rfl (t_X8_isPart hv2) ?_
    refine o_if_ne k203_14 (fun hc3 => ?_) (fun hc3 => ?_)
    · rw [if_neg hc3] at h
      refine o_aload_n k203_19 rfl ?_
      refine o_gf k203_20 (gf_43_2 _) ?_
      refine o_iload_n k203_23 rfl ?_
      obtain ⟨hc4, h⟩ := ck_i h
      refine o_bald k203_24 ba_46 hc4 ?_
      refine o_istore_n (v := (M 46 a0.toNatClampNeg)) (L' := [some (.ref 43), some (.int a0), some (.int a1), some (.int (M 46 a0.toNatClampNeg)), none]) k203_25 rfl rfl ?_
      refine o_iconst (v := 0) k203_26 (by decide) ?_
      refine o_istore (v := 0) (L' := [some (.ref 43), some (.int a0), some (.int a1), some (.int (M 46 a0.toNatClampNeg)), some (.int 0)]) k203_27 rfl rfl ?_
      refine bd_i h (fun s11 hs11 h => ?_)
      refine lp_o (fun s5 => oo LN xs 0 0 203 29 [some (.ref 43), some (.int a0), some (.int a1), some (.int s5.1), some (.int s5.2)] [] M (some (.int t.1), t.2)) (fun s11 => oo LN xs 0 0 203 74 [some (.ref 43), some (.int a0), some (.int a1), some (.int s11.1), some (.int s11.2)] [] M (some (.int t.1), t.2)) ?_ hs11 ?_
      · intro s5 ws5 h hK
        refine o_iload k203_29 rfl ?_
        refine o_iconst (v := 2) k203_31 (by decide) ?_
        refine o_icmp_gt k203_32 (fun hc6 => ?_) (fun hc6 => ?_)
        · rw [if_pos hc6] at h
          have h9 := Option.some.inj h
          subst h9
          exact hK
        · rw [if_neg hc6] at h
          refine o_iload_n k203_35 rfl ?_
          refine o_if_eq k203_36 (fun hc7 => ?_) (fun hc7 => ?_)
          · rw [if_pos hc7] at h
            refine o_iconst (v := 0) k203_66 (by decide) ?_
            refine o_istore_n (v := 0) (L' := [some (.ref 43), some (.int a0), some (.int a1), some (.int 0), some (.int s5.2)]) k203_67 rfl rfl ?_
            refine o_iinc (w := s5.2 + 1) (L' := [some (.ref 43), some (.int a0), some (.int a1), some (.int 0), some (.int (s5.2 + 1))]) k203_68 rfl rfl rfl ?_
            refine o_goto k203_71 ?_
            have h9 := Option.some.inj h
            subst h9
            exact hK
          · rw [if_neg hc7] at h
            refine o_aload_n k203_39 rfl ?_
            refine o_gf k203_40 (gf_43_1 _) ?_
            refine o_sipush (v := 151) k203_43 (by decide) ?_
            refine o_iload_n k203_46 rfl ?_
            refine o_imul k203_47 ?_
            refine o_iload k203_48 rfl ?_
            refine o_iadd k203_50 ?_
            obtain ⟨hc8, h⟩ := ck_i h
            refine o_iald k203_51 rfl ia_45 hc8 ?_
            refine o_aload_n k203_52 rfl ?_
            refine o_gf k203_53 (gf_43_0 _) ?_
            refine o_iload k203_56 rfl ?_
            obtain ⟨hc9, h⟩ := ck_i h
            refine o_iald k203_58 rfl ia_44 hc9 ?_
            refine o_icmp_ne k203_59 (fun hc10 => ?_) (fun hc10 => ?_)
            · rw [if_neg hc10] at h
              refine o_iconst (v := 0) k203_66 (by decide) ?_
              refine o_istore_n (v := 0) (L' := [some (.ref 43), some (.int a0), some (.int a1), some (.int 0), some (.int s5.2)]) k203_67 rfl rfl ?_
              refine o_iinc (w := s5.2 + 1) (L' := [some (.ref 43), some (.int a0), some (.int a1), some (.int 0), some (.int (s5.2 + 1))]) k203_68 rfl rfl rfl ?_
              refine o_goto k203_71 ?_
              have h9 := Option.some.inj h
              subst h9
              exact hK
            · rw [if_pos hc10] at h
              refine o_iconst (v := 1) k203_62 (by decide) ?_
              refine o_goto k203_63 ?_
              refine o_istore_n (v := 1) (L' := [some (.ref 43), some (.int a0), some (.int a1), some (.int 1), some (.int s5.2)]) k203_67 rfl rfl ?_
              refine o_iinc (w := s5.2 + 1) (L' := [some (.ref 43), some (.int a0), some (.int a1), some (.int 1), some (.int (s5.2 + 1))]) k203_68 rfl rfl rfl ?_
              refine o_goto k203_71 ?_
              have h9 := Option.some.inj h
              subst h9
              exact hK
      · show oo LN xs 0 0 203 74 [some (.ref 43), some (.int a0), some (.int a1), some (.int s11.1), some (.int s11.2)] [] M (some (.int t.1), t.2)
        refine o_iload_n k203_74 rfl ?_
        refine o_if_ne k203_75 (fun hc12 => ?_) (fun hc12 => ?_)
        · rw [if_neg hc12] at h
          refine o_iload_n k203_81 rfl ?_
          refine o_if_ne k203_82 (fun hc13 => ?_) (fun hc13 => ?_)
          · rw [if_neg hc13] at h
            refine o_aload_n k203_93 rfl ?_
            refine o_iload_n k203_94 rfl ?_
            refine bd_i h (fun v14 hv14 h => ?_)
            refine o_call k203_95 pj_202 (fun _ => rfl) (by decide) rfl (as := [.ref 43, .int a0]) (rest := []) rfl (L0 := [some (.ref 43), some (.int a0), none, none, none]) rfl (t_X8_cellsDiffer_43 hv14) ?_
            have h9 := Option.some.inj h
            subst h9
            exact o_iret pj_203 k203_98 rfl nr_i
          · rw [if_pos hc13] at h
            refine o_aload_n k203_85 rfl ?_
            refine o_iload_n k203_86 rfl ?_
            refine bd_i h (fun q15 hq15 h => ?_)
            refine o_call k203_87 pj_201 (fun _ => rfl) (by decide) rfl (as := [.ref 43, .int a0]) (rest := []) rfl (L0 := [some (.ref 43), some (.int a0), none, none, none]) rfl (t_X8_seenDiffers_43 hq15) ?_
            refine o_goto k203_90 ?_
            have h9 := Option.some.inj h
            subst h9
            exact o_iret pj_203 k203_98 rfl nr_i
        · rw [if_pos hc12] at h
          refine o_bipush (v := (-2)) k203_78 (by decide) ?_
          have h9 := Option.some.inj h
          subst h9
          exact o_iret pj_203 k203_80 rfl nr_i
    · rw [if_pos hc3] at h
      refine o_iconst (v := (-1)) k203_17 (by decide) ?_
      have h9 := Option.some.inj h
      subst h9
      exact o_iret pj_203 k203_18 rfl nr_i
def f_X7_isSheet (a0 : Int32) : Int32 := (if a0 < 0 then 0 else (if 4 ≤ a0 then 0 else 1))
set_option maxRecDepth 20000 in
theorem t_X7_isSheet {LN : Nat} {xs : Nat → Int32} {a0 : Int32} {M : am_M} {t : Int32} (h : f_X7_isSheet a0 = t) : oo LN xs 0 0 122 0 [some (.int a0)] [] M (some (.int t), M) := by
  unfold f_X7_isSheet at h
  refine o_iload_n k122_0 rfl ?_
  refine o_if_lt k122_1 (fun hc1 => ?_) (fun hc1 => ?_)
  · rw [if_pos hc1] at h
    refine o_iconst (v := 0) k122_13 (by decide) ?_
    subst h
    exact o_iret pj_122 k122_14 rfl (nr_z (by decide))
  · rw [if_neg hc1] at h
    refine o_iload_n k122_4 rfl ?_
    refine o_iconst (v := 4) k122_5 (by decide) ?_
    refine o_icmp_ge k122_6 (fun hc2 => ?_) (fun hc2 => ?_)
    · rw [if_pos hc2] at h
      refine o_iconst (v := 0) k122_13 (by decide) ?_
      subst h
      exact o_iret pj_122 k122_14 rfl (nr_z (by decide))
    · rw [if_neg hc2] at h
      refine o_iconst (v := 1) k122_9 (by decide) ?_
      refine o_goto k122_10 ?_
      subst h
      exact o_iret pj_122 k122_14 rfl (nr_z (by decide))
def f_X7_isLane (a0 : Int32) : Int32 := (if a0 < 0 then 0 else (if 3 ≤ a0 then 0 else 1))
set_option maxRecDepth 20000 in
theorem t_X7_isLane {LN : Nat} {xs : Nat → Int32} {a0 : Int32} {M : am_M} {t : Int32} (h : f_X7_isLane a0 = t) : oo LN xs 0 0 123 0 [some (.int a0)] [] M (some (.int t), M) := by
  unfold f_X7_isLane at h
  refine o_iload_n k123_0 rfl ?_
  refine o_if_lt k123_1 (fun hc1 => ?_) (fun hc1 => ?_)
  · rw [if_pos hc1] at h
    refine o_iconst (v := 0) k123_13 (by decide) ?_
    subst h
    exact o_iret pj_123 k123_14 rfl (nr_z (by decide))
  · rw [if_neg hc1] at h
    refine o_iload_n k123_4 rfl ?_
    refine o_iconst (v := 3) k123_5 (by decide) ?_
    refine o_icmp_ge k123_6 (fun hc2 => ?_) (fun hc2 => ?_)
    · rw [if_pos hc2] at h
      refine o_iconst (v := 0) k123_13 (by decide) ?_
      subst h
      exact o_iret pj_123 k123_14 rfl (nr_z (by decide))
    · rw [if_neg hc2] at h
      refine o_iconst (v := 1) k123_9 (by decide) ?_
      refine o_goto k123_10 ?_
      subst h
      exact o_iret pj_123 k123_14 rfl (nr_z (by decide))
def f_J7_fill_53178_36 (a0 : Int32) (M : am_M) : Option am_M := ((lp (σ := Int32 × am_M) (ρ := Int32 × am_M) (fun s1 => (if 40 ≤ s1.1 then (some (.inr (s1.1, s1.2))) else (if am_dbin s1.1 40 = true then (bl (am_up s1.2 36 s1.1.toNatClampNeg a0) (fun (M4 : am_M) => (some (.inl ((s1.1 + 1), M4))))) else none))) lp_F (0, M)).bind (fun s5 => (some s5.2)))
set_option maxRecDepth 20000 in
theorem t_J7_fill_53178_36 {LN : Nat} {xs : Nat → Int32} {a0 : Int32} {M : am_M} {t : am_M} (h : f_J7_fill_53178_36 a0 M = some t) : oo LN xs 0 0 219 0 [some (.ref 36), some (.int a0), none, none] [] M (none, t) := by
  unfold f_J7_fill_53178_36 at h
  refine o_iconst (v := 0) k219_0 (by decide) ?_
  refine o_istore_n (v := 0) (L' := [some (.ref 36), some (.int a0), some (.int 0), none]) k219_1 rfl rfl ?_
  refine o_aload_n k219_2 rfl ?_
  refine o_alen (v := 40) k219_3 rfl (by decide) ?_
  refine o_istore_n (v := 40) (L' := [some (.ref 36), some (.int a0), some (.int 0), some (.int 40)]) k219_4 rfl rfl ?_
  refine bd_i h (fun s5 hs5 h => ?_)
  refine lp_o (fun s1 => oo LN xs 0 0 219 5 [some (.ref 36), some (.int a0), some (.int s1.1), some (.int 40)] [] s1.2 (none, t)) (fun s5 => oo LN xs 0 0 219 20 [some (.ref 36), some (.int a0), some (.int s5.1), some (.int 40)] [] s5.2 (none, t)) ?_ hs5 ?_
  · intro s1 ws1 h hK
    refine o_iload_n k219_5 rfl ?_
    refine o_iload_n k219_6 rfl ?_
    refine o_icmp_ge k219_7 (fun hc2 => ?_) (fun hc2 => ?_)
    · rw [if_pos hc2] at h
      have h9 := Option.some.inj h
      subst h9
      exact hK
    · rw [if_neg hc2] at h
      refine o_aload_n k219_10 rfl ?_
      refine o_iload_n k219_11 rfl ?_
      refine o_iload_n k219_12 rfl ?_
      obtain ⟨hc3, h⟩ := ck_i h
      refine bl_i h (fun M4 eM4 h => ?_)
      refine o_iast (M' := M4) k219_13 eM4 ia_36 hc3 ?_
      refine o_iinc (w := s1.1 + 1) (L' := [some (.ref 36), some (.int a0), some (.int (s1.1 + 1)), some (.int 40)]) k219_14 rfl rfl rfl ?_
      refine o_goto k219_17 ?_
      have h9 := Option.some.inj h
      subst h9
      exact hK
  · show oo LN xs 0 0 219 20 [some (.ref 36), some (.int a0), some (.int s5.1), some (.int 40)] [] s5.2 (none, t)
    have h9 := Option.some.inj h
    subst h9
    exact o_vret pj_219 k219_20 rfl
def f_X3_renew_35 (a0 : Int32) (a1 : Int32) (M : am_M) : Option am_M := (bl (am_up M 35 0 a0) (fun (M1 : am_M) => (bl (am_up M1 35 1 a1) (fun (M2 : am_M) => ((f_J7_fill_53178_36 0 M2).bind (fun q3 => (some q3)))))))
set_option maxRecDepth 20000 in
theorem t_X3_renew_35 {LN : Nat} {xs : Nat → Int32} {a0 : Int32} {a1 : Int32} {M : am_M} {t : am_M} (h : f_X3_renew_35 a0 a1 M = some t) : oo LN xs 0 0 46 0 [some (.ref 35), some (.int a0), some (.int a1)] [] M (none, t) := by
  unfold f_X3_renew_35 at h
  refine o_aload_n k46_0 rfl ?_
  refine o_iload_n k46_1 rfl ?_
  refine bl_i h (fun M1 eM1 h => ?_)
  refine o_pf (M' := M1) k46_2 (pf_35_0 eM1) ?_
  refine o_aload_n k46_5 rfl ?_
  refine o_iload_n k46_6 rfl ?_
  refine bl_i h (fun M2 eM2 h => ?_)
  refine o_pf (M' := M2) k46_7 (pf_35_1 eM2) ?_
  refine o_aload_n k46_10 rfl ?_
  refine o_gf k46_11 (gf_35_2 _) ?_
  refine o_iconst (v := 0) k46_14 (by decide) ?_
  refine bd_i h (fun q3 hq3 h => ?_)
  refine o_call k46_15 pj_219 (fun _ => rfl) (by decide) rfl (as := [.ref 36, .int 0]) (rest := []) rfl (L0 := [some (.ref 36), some (.int 0), none, none]) rfl (t_J7_fill_53178_36 hq3) ?_
  have h9 := Option.some.inj h
  subst h9
  exact o_vret pj_46 k46_18 rfl
def f_J7_fill_53178_38 (a0 : Int32) (M : am_M) : Option am_M := ((lp (σ := Int32 × am_M) (ρ := Int32 × am_M) (fun s1 => (if 40 ≤ s1.1 then (some (.inr (s1.1, s1.2))) else (if am_dbin s1.1 40 = true then (bl (am_up s1.2 38 s1.1.toNatClampNeg a0) (fun (M4 : am_M) => (some (.inl ((s1.1 + 1), M4))))) else none))) lp_F (0, M)).bind (fun s5 => (some s5.2)))
set_option maxRecDepth 20000 in
theorem t_J7_fill_53178_38 {LN : Nat} {xs : Nat → Int32} {a0 : Int32} {M : am_M} {t : am_M} (h : f_J7_fill_53178_38 a0 M = some t) : oo LN xs 0 0 219 0 [some (.ref 38), some (.int a0), none, none] [] M (none, t) := by
  unfold f_J7_fill_53178_38 at h
  refine o_iconst (v := 0) k219_0 (by decide) ?_
  refine o_istore_n (v := 0) (L' := [some (.ref 38), some (.int a0), some (.int 0), none]) k219_1 rfl rfl ?_
  refine o_aload_n k219_2 rfl ?_
  refine o_alen (v := 40) k219_3 rfl (by decide) ?_
  refine o_istore_n (v := 40) (L' := [some (.ref 38), some (.int a0), some (.int 0), some (.int 40)]) k219_4 rfl rfl ?_
  refine bd_i h (fun s5 hs5 h => ?_)
  refine lp_o (fun s1 => oo LN xs 0 0 219 5 [some (.ref 38), some (.int a0), some (.int s1.1), some (.int 40)] [] s1.2 (none, t)) (fun s5 => oo LN xs 0 0 219 20 [some (.ref 38), some (.int a0), some (.int s5.1), some (.int 40)] [] s5.2 (none, t)) ?_ hs5 ?_
  · intro s1 ws1 h hK
    refine o_iload_n k219_5 rfl ?_
    refine o_iload_n k219_6 rfl ?_
    refine o_icmp_ge k219_7 (fun hc2 => ?_) (fun hc2 => ?_)
    · rw [if_pos hc2] at h
      have h9 := Option.some.inj h
      subst h9
      exact hK
    · rw [if_neg hc2] at h
      refine o_aload_n k219_10 rfl ?_
      refine o_iload_n k219_11 rfl ?_
      refine o_iload_n k219_12 rfl ?_
      obtain ⟨hc3, h⟩ := ck_i h
      refine bl_i h (fun M4 eM4 h => ?_)
      refine o_iast (M' := M4) k219_13 eM4 ia_38 hc3 ?_
      refine o_iinc (w := s1.1 + 1) (L' := [some (.ref 38), some (.int a0), some (.int (s1.1 + 1)), some (.int 40)]) k219_14 rfl rfl rfl ?_
      refine o_goto k219_17 ?_
      have h9 := Option.some.inj h
      subst h9
      exact hK
  · show oo LN xs 0 0 219 20 [some (.ref 38), some (.int a0), some (.int s5.1), some (.int 40)] [] s5.2 (none, t)
    have h9 := Option.some.inj h
    subst h9
    exact o_vret pj_219 k219_20 rfl
def f_X3_renew_37 (a0 : Int32) (a1 : Int32) (M : am_M) : Option am_M := (bl (am_up M 37 0 a0) (fun (M1 : am_M) => (bl (am_up M1 37 1 a1) (fun (M2 : am_M) => ((f_J7_fill_53178_38 0 M2).bind (fun q3 => (some q3)))))))
set_option maxRecDepth 20000 in
theorem t_X3_renew_37 {LN : Nat} {xs : Nat → Int32} {a0 : Int32} {a1 : Int32} {M : am_M} {t : am_M} (h : f_X3_renew_37 a0 a1 M = some t) : oo LN xs 0 0 46 0 [some (.ref 37), some (.int a0), some (.int a1)] [] M (none, t) := by
  unfold f_X3_renew_37 at h
  refine o_aload_n k46_0 rfl ?_
  refine o_iload_n k46_1 rfl ?_
  refine bl_i h (fun M1 eM1 h => ?_)
  refine o_pf (M' := M1) k46_2 (pf_37_0 eM1) ?_
  refine o_aload_n k46_5 rfl ?_
  refine o_iload_n k46_6 rfl ?_
  refine bl_i h (fun M2 eM2 h => ?_)
  refine o_pf (M' := M2) k46_7 (pf_37_1 eM2) ?_
  refine o_aload_n k46_10 rfl ?_
  refine o_gf k46_11 (gf_37_2 _) ?_
  refine o_iconst (v := 0) k46_14 (by decide) ?_
  refine bd_i h (fun q3 hq3 h => ?_)
  refine o_call k46_15 pj_219 (fun _ => rfl) (by decide) rfl (as := [.ref 38, .int 0]) (rest := []) rfl (L0 := [some (.ref 38), some (.int 0), none, none]) rfl (t_J7_fill_53178_38 hq3) ?_
  have h9 := Option.some.inj h
  subst h9
  exact o_vret pj_46 k46_18 rfl
def f_J7_fill_53178_40 (a0 : Int32) (M : am_M) : Option am_M := ((lp (σ := Int32 × am_M) (ρ := Int32 × am_M) (fun s1 => (if 40 ≤ s1.1 then (some (.inr (s1.1, s1.2))) else (if am_dbin s1.1 40 = true then (bl (am_up s1.2 40 s1.1.toNatClampNeg a0) (fun (M4 : am_M) => (some (.inl ((s1.1 + 1), M4))))) else none))) lp_F (0, M)).bind (fun s5 => (some s5.2)))
set_option maxRecDepth 20000 in
theorem t_J7_fill_53178_40 {LN : Nat} {xs : Nat → Int32} {a0 : Int32} {M : am_M} {t : am_M} (h : f_J7_fill_53178_40 a0 M = some t) : oo LN xs 0 0 219 0 [some (.ref 40), some (.int a0), none, none] [] M (none, t) := by
  unfold f_J7_fill_53178_40 at h
  refine o_iconst (v := 0) k219_0 (by decide) ?_
  refine o_istore_n (v := 0) (L' := [some (.ref 40), some (.int a0), some (.int 0), none]) k219_1 rfl rfl ?_
  refine o_aload_n k219_2 rfl ?_
  refine o_alen (v := 40) k219_3 rfl (by decide) ?_
  refine o_istore_n (v := 40) (L' := [some (.ref 40), some (.int a0), some (.int 0), some (.int 40)]) k219_4 rfl rfl ?_
  refine bd_i h (fun s5 hs5 h => ?_)
  refine lp_o (fun s1 => oo LN xs 0 0 219 5 [some (.ref 40), some (.int a0), some (.int s1.1), some (.int 40)] [] s1.2 (none, t)) (fun s5 => oo LN xs 0 0 219 20 [some (.ref 40), some (.int a0), some (.int s5.1), some (.int 40)] [] s5.2 (none, t)) ?_ hs5 ?_
  · intro s1 ws1 h hK
    refine o_iload_n k219_5 rfl ?_
    refine o_iload_n k219_6 rfl ?_
    refine o_icmp_ge k219_7 (fun hc2 => ?_) (fun hc2 => ?_)
    · rw [if_pos hc2] at h
      have h9 := Option.some.inj h
      subst h9
      exact hK
    · rw [if_neg hc2] at h
      refine o_aload_n k219_10 rfl ?_
      refine o_iload_n k219_11 rfl ?_
      refine o_iload_n k219_12 rfl ?_
      obtain ⟨hc3, h⟩ := ck_i h
      refine bl_i h (fun M4 eM4 h => ?_)
      refine o_iast (M' := M4) k219_13 eM4 ia_40 hc3 ?_
      refine o_iinc (w := s1.1 + 1) (L' := [some (.ref 40), some (.int a0), some (.int (s1.1 + 1)), some (.int 40)]) k219_14 rfl rfl rfl ?_
      refine o_goto k219_17 ?_
      have h9 := Option.some.inj h
      subst h9
      exact hK
  · show oo LN xs 0 0 219 20 [some (.ref 40), some (.int a0), some (.int s5.1), some (.int 40)] [] s5.2 (none, t)
    have h9 := Option.some.inj h
    subst h9
    exact o_vret pj_219 k219_20 rfl
def f_X3_renew_39 (a0 : Int32) (a1 : Int32) (M : am_M) : Option am_M := (bl (am_up M 39 0 a0) (fun (M1 : am_M) => (bl (am_up M1 39 1 a1) (fun (M2 : am_M) => ((f_J7_fill_53178_40 0 M2).bind (fun q3 => (some q3)))))))
set_option maxRecDepth 20000 in
theorem t_X3_renew_39 {LN : Nat} {xs : Nat → Int32} {a0 : Int32} {a1 : Int32} {M : am_M} {t : am_M} (h : f_X3_renew_39 a0 a1 M = some t) : oo LN xs 0 0 46 0 [some (.ref 39), some (.int a0), some (.int a1)] [] M (none, t) := by
  unfold f_X3_renew_39 at h
  refine o_aload_n k46_0 rfl ?_
  refine o_iload_n k46_1 rfl ?_
  refine bl_i h (fun M1 eM1 h => ?_)
  refine o_pf (M' := M1) k46_2 (pf_39_0 eM1) ?_
  refine o_aload_n k46_5 rfl ?_
  refine o_iload_n k46_6 rfl ?_
  refine bl_i h (fun M2 eM2 h => ?_)
  refine o_pf (M' := M2) k46_7 (pf_39_1 eM2) ?_
  refine o_aload_n k46_10 rfl ?_
  refine o_gf k46_11 (gf_39_2 _) ?_
  refine o_iconst (v := 0) k46_14 (by decide) ?_
  refine bd_i h (fun q3 hq3 h => ?_)
  refine o_call k46_15 pj_219 (fun _ => rfl) (by decide) rfl (as := [.ref 40, .int 0]) (rest := []) rfl (L0 := [some (.ref 40), some (.int 0), none, none]) rfl (t_J7_fill_53178_40 hq3) ?_
  have h9 := Option.some.inj h
  subst h9
  exact o_vret pj_46 k46_18 rfl
def f_J7_fill_53178_42 (a0 : Int32) (M : am_M) : Option am_M := ((lp (σ := Int32 × am_M) (ρ := Int32 × am_M) (fun s1 => (if 40 ≤ s1.1 then (some (.inr (s1.1, s1.2))) else (if am_dbin s1.1 40 = true then (bl (am_up s1.2 42 s1.1.toNatClampNeg a0) (fun (M4 : am_M) => (some (.inl ((s1.1 + 1), M4))))) else none))) lp_F (0, M)).bind (fun s5 => (some s5.2)))
set_option maxRecDepth 20000 in
theorem t_J7_fill_53178_42 {LN : Nat} {xs : Nat → Int32} {a0 : Int32} {M : am_M} {t : am_M} (h : f_J7_fill_53178_42 a0 M = some t) : oo LN xs 0 0 219 0 [some (.ref 42), some (.int a0), none, none] [] M (none, t) := by
  unfold f_J7_fill_53178_42 at h
  refine o_iconst (v := 0) k219_0 (by decide) ?_
  refine o_istore_n (v := 0) (L' := [some (.ref 42), some (.int a0), some (.int 0), none]) k219_1 rfl rfl ?_
  refine o_aload_n k219_2 rfl ?_
  refine o_alen (v := 40) k219_3 rfl (by decide) ?_
  refine o_istore_n (v := 40) (L' := [some (.ref 42), some (.int a0), some (.int 0), some (.int 40)]) k219_4 rfl rfl ?_
  refine bd_i h (fun s5 hs5 h => ?_)
  refine lp_o (fun s1 => oo LN xs 0 0 219 5 [some (.ref 42), some (.int a0), some (.int s1.1), some (.int 40)] [] s1.2 (none, t)) (fun s5 => oo LN xs 0 0 219 20 [some (.ref 42), some (.int a0), some (.int s5.1), some (.int 40)] [] s5.2 (none, t)) ?_ hs5 ?_
  · intro s1 ws1 h hK
    refine o_iload_n k219_5 rfl ?_
    refine o_iload_n k219_6 rfl ?_
    refine o_icmp_ge k219_7 (fun hc2 => ?_) (fun hc2 => ?_)
    · rw [if_pos hc2] at h
      have h9 := Option.some.inj h
      subst h9
      exact hK
    · rw [if_neg hc2] at h
      refine o_aload_n k219_10 rfl ?_
      refine o_iload_n k219_11 rfl ?_
      refine o_iload_n k219_12 rfl ?_
      obtain ⟨hc3, h⟩ := ck_i h
      refine bl_i h (fun M4 eM4 h => ?_)
      refine o_iast (M' := M4) k219_13 eM4 ia_42 hc3 ?_
      refine o_iinc (w := s1.1 + 1) (L' := [some (.ref 42), some (.int a0), some (.int (s1.1 + 1)), some (.int 40)]) k219_14 rfl rfl rfl ?_
      refine o_goto k219_17 ?_
      have h9 := Option.some.inj h
      subst h9
      exact hK
  · show oo LN xs 0 0 219 20 [some (.ref 42), some (.int a0), some (.int s5.1), some (.int 40)] [] s5.2 (none, t)
    have h9 := Option.some.inj h
    subst h9
    exact o_vret pj_219 k219_20 rfl
def f_X3_renew_41 (a0 : Int32) (a1 : Int32) (M : am_M) : Option am_M := (bl (am_up M 41 0 a0) (fun (M1 : am_M) => (bl (am_up M1 41 1 a1) (fun (M2 : am_M) => ((f_J7_fill_53178_42 0 M2).bind (fun q3 => (some q3)))))))
set_option maxRecDepth 20000 in
theorem t_X3_renew_41 {LN : Nat} {xs : Nat → Int32} {a0 : Int32} {a1 : Int32} {M : am_M} {t : am_M} (h : f_X3_renew_41 a0 a1 M = some t) : oo LN xs 0 0 46 0 [some (.ref 41), some (.int a0), some (.int a1)] [] M (none, t) := by
  unfold f_X3_renew_41 at h
  refine o_aload_n k46_0 rfl ?_
  refine o_iload_n k46_1 rfl ?_
  refine bl_i h (fun M1 eM1 h => ?_)
  refine o_pf (M' := M1) k46_2 (pf_41_0 eM1) ?_
  refine o_aload_n k46_5 rfl ?_
  refine o_iload_n k46_6 rfl ?_
  refine bl_i h (fun M2 eM2 h => ?_)
  refine o_pf (M' := M2) k46_7 (pf_41_1 eM2) ?_
  refine o_aload_n k46_10 rfl ?_
  refine o_gf k46_11 (gf_41_2 _) ?_
  refine o_iconst (v := 0) k46_14 (by decide) ?_
  refine bd_i h (fun q3 hq3 h => ?_)
  refine o_call k46_15 pj_219 (fun _ => rfl) (by decide) rfl (as := [.ref 42, .int 0]) (rest := []) rfl (L0 := [some (.ref 42), some (.int 0), none, none]) rfl (t_J7_fill_53178_42 hq3) ?_
  have h9 := Option.some.inj h
  subst h9
  exact o_vret pj_46 k46_18 rfl
def f_X7_sheet_0 (a0 : Int32) (a1 : Int32) (a2 : Int32) (M : am_M) : Option (Int32 × am_M) := (if (f_X7_isSheet a0) = 0 then (some ((-1), M)) else (if (f_X7_isLane a1) = 0 then (some ((-1), M)) else (if a2 ≤ 40 then (if 0 ≤ a2 then (if a0 = 0 then ((f_X3_renew_35 a1 a2 M).bind (fun q5 => (some (1, q5)))) else (if a0 = 1 then ((f_X3_renew_37 a1 a2 M).bind (fun q6 => (some (1, q6)))) else (if a0 = 2 then ((f_X3_renew_39 a1 a2 M).bind (fun q7 => (some (1, q7)))) else (if a0 = 3 then ((f_X3_renew_41 a1 a2 M).bind (fun q8 => (some (1, q8)))) else none)))) else (some ((-14), M))) else (some ((-1), M)))))
set_option maxRecDepth 20000 in
theorem t_X7_sheet_0 {LN : Nat} {xs : Nat → Int32} {a0 : Int32} {a1 : Int32} {a2 : Int32} {M : am_M} {t : Int32 × am_M} (h : f_X7_sheet_0 a0 a1 a2 M = some t) : oo LN xs 0 0 114 0 [some (.ref 0), some (.int a0), some (.int a1), some (.int a2)] [] M (some (.int t.1), t.2) := by
  unfold f_X7_sheet_0 at h
  refine o_iload_n k114_0 rfl ?_
  refine o_call k114_1 pj_122 (fun _ => rfl) (by decide) rfl (as := [.int a0]) (rest := []) rfl (L0 := [some (.int a0)]) rfl (t_X7_isSheet (M := M) (a0 := a0) rfl) ?_
  refine o_if_eq k114_4 (fun hc1 => ?_) (fun hc1 => ?_)
  · rw [if_pos hc1] at h
    refine o_iconst (v := (-1)) k114_20 (by decide) ?_
    have h9 := Option.some.inj h
    subst h9
    exact o_iret pj_114 k114_21 rfl nr_i
  · rw [if_neg hc1] at h
    refine o_iload_n k114_7 rfl ?_
    refine o_call k114_8 pj_123 (fun _ => rfl) (by decide) rfl (as := [.int a1]) (rest := []) rfl (L0 := [some (.int a1)]) rfl (t_X7_isLane (M := M) (a0 := a1) rfl) ?_
    refine o_if_eq k114_11 (fun hc2 => ?_) (fun hc2 => ?_)
    · rw [if_pos hc2] at h
      refine o_iconst (v := (-1)) k114_20 (by decide) ?_
      have h9 := Option.some.inj h
      subst h9
      exact o_iret pj_114 k114_21 rfl nr_i
    · rw [if_neg hc2] at h
      refine o_iload_n k114_14 rfl ?_
      refine o_bipush (v := 40) k114_15 (by decide) ?_
      refine o_icmp_le k114_17 (fun hc3 => ?_) (fun hc3 => ?_)
      · rw [if_pos hc3] at h
        refine o_iload_n k114_22 rfl ?_
        refine o_if_ge k114_23 (fun hc4 => ?_) (fun hc4 => ?_)
        · rw [if_pos hc4] at h
          refine o_aload_n k114_29 rfl ?_
          refine o_gf k114_30 (gf_0_7 _) ?_
          refine o_iload_n k114_33 rfl ?_
          by_cases hX1 : a0 = 0
          · rw [if_pos hX1] at h
            refine o_aald (v := .ref 35) k114_34 (by rw [hX1]; exact aal_34_0) ?_
            refine o_iload_n k114_35 rfl ?_
            refine o_iload_n k114_36 rfl ?_
            refine bd_i h (fun q5 hq5 h => ?_)
            refine o_call k114_37 pj_46 (fun _ => rfl) (by decide) rfl (as := [.ref 35, .int a1, .int a2]) (rest := []) rfl (L0 := [some (.ref 35), some (.int a1), some (.int a2)]) rfl (t_X3_renew_35 hq5) ?_
            refine o_iconst (v := 1) k114_40 (by decide) ?_
            have h9 := Option.some.inj h
            subst h9
            exact o_iret pj_114 k114_41 rfl nr_i
          rw [if_neg hX1] at h
          by_cases hX2 : a0 = 1
          · rw [if_pos hX2] at h
            refine o_aald (v := .ref 37) k114_34 (by rw [hX2]; exact aal_34_1) ?_
            refine o_iload_n k114_35 rfl ?_
            refine o_iload_n k114_36 rfl ?_
            refine bd_i h (fun q6 hq6 h => ?_)
            refine o_call k114_37 pj_46 (fun _ => rfl) (by decide) rfl (as := [.ref 37, .int a1, .int a2]) (rest := []) rfl (L0 := [some (.ref 37), some (.int a1), some (.int a2)]) rfl (t_X3_renew_37 hq6) ?_
            refine o_iconst (v := 1) k114_40 (by decide) ?_
            have h9 := Option.some.inj h
            subst h9
            exact o_iret pj_114 k114_41 rfl nr_i
          rw [if_neg hX2] at h
          by_cases hX3 : a0 = 2
          · rw [if_pos hX3] at h
            refine o_aald (v := .ref 39) k114_34 (by rw [hX3]; exact aal_34_2) ?_
            refine o_iload_n k114_35 rfl ?_
            refine o_iload_n k114_36 rfl ?_
            refine bd_i h (fun q7 hq7 h => ?_)
            refine o_call k114_37 pj_46 (fun _ => rfl) (by decide) rfl (as := [.ref 39, .int a1, .int a2]) (rest := []) rfl (L0 := [some (.ref 39), some (.int a1), some (.int a2)]) rfl (t_X3_renew_39 hq7) ?_
            refine o_iconst (v := 1) k114_40 (by decide) ?_
            have h9 := Option.some.inj h
            subst h9
            exact o_iret pj_114 k114_41 rfl nr_i
          rw [if_neg hX3] at h
          by_cases hX4 : a0 = 3
          · rw [if_pos hX4] at h
            refine o_aald (v := .ref 41) k114_34 (by rw [hX4]; exact aal_34_3) ?_
            refine o_iload_n k114_35 rfl ?_
            refine o_iload_n k114_36 rfl ?_
            refine bd_i h (fun q8 hq8 h => ?_)
            refine o_call k114_37 pj_46 (fun _ => rfl) (by decide) rfl (as := [.ref 41, .int a1, .int a2]) (rest := []) rfl (L0 := [some (.ref 41), some (.int a1), some (.int a2)]) rfl (t_X3_renew_41 hq8) ?_
            refine o_iconst (v := 1) k114_40 (by decide) ?_
            have h9 := Option.some.inj h
            subst h9
            exact o_iret pj_114 k114_41 rfl nr_i
          rw [if_neg hX4] at h
          cases h
        · rw [if_neg hc4] at h
          refine o_bipush (v := (-14)) k114_26 (by decide) ?_
          have h9 := Option.some.inj h
          subst h9
          exact o_iret pj_114 k114_28 rfl nr_i
      · rw [if_neg hc3] at h
        refine o_iconst (v := (-1)) k114_20 (by decide) ?_
        have h9 := Option.some.inj h
        subst h9
        exact o_iret pj_114 k114_21 rfl nr_i
def f_X8_isSheet (a0 : Int32) (a1 : Int32) : Int32 := (if (f_X8_in a0.toInt64 0 3) = 0 then 0 else (if (f_X8_in a1.toInt64 0 2) = 0 then 0 else 1))
set_option maxRecDepth 20000 in
theorem t_X8_isSheet {LN : Nat} {xs : Nat → Int32} {a0 : Int32} {a1 : Int32} {M : am_M} {t : Int32} (h : f_X8_isSheet a0 a1 = t) : oo LN xs 0 0 204 0 [some (.int a0), some (.int a1)] [] M (some (.int t), M) := by
  unfold f_X8_isSheet at h
  refine o_iload_n k204_0 rfl ?_
  refine o_i2l k204_1 ?_
  refine o_lconst (v := 0) k204_2 (by decide) ?_
  refine o_ldc2_w k204_3 ?_
  refine o_call k204_6 pj_125 (fun _ => rfl) (by decide) rfl (as := [.long a0.toInt64, .long 0, .long 3]) (rest := []) rfl (L0 := [some (.long a0.toInt64), none, some (.long 0), none, some (.long 3), none]) rfl (t_X8_in (M := M) (a0 := a0.toInt64) (a1 := 0) (a2 := 3) rfl) ?_
  refine o_if_eq k204_9 (fun hc1 => ?_) (fun hc1 => ?_)
  · rw [if_pos hc1] at h
    refine o_iconst (v := 0) k204_28 (by decide) ?_
    subst h
    exact o_iret pj_204 k204_29 rfl (nr_z (by decide))
  · rw [if_neg hc1] at h
    refine o_iload_n k204_12 rfl ?_
    refine o_i2l k204_13 ?_
    refine o_lconst (v := 0) k204_14 (by decide) ?_
    refine o_ldc2_w k204_15 ?_
    refine o_call k204_18 pj_125 (fun _ => rfl) (by decide) rfl (as := [.long a1.toInt64, .long 0, .long 2]) (rest := []) rfl (L0 := [some (.long a1.toInt64), none, some (.long 0), none, some (.long 2), none]) rfl (t_X8_in (M := M) (a0 := a1.toInt64) (a1 := 0) (a2 := 2) rfl) ?_
    refine o_if_eq k204_21 (fun hc2 => ?_) (fun hc2 => ?_)
    · rw [if_pos hc2] at h
      refine o_iconst (v := 0) k204_28 (by decide) ?_
      subst h
      exact o_iret pj_204 k204_29 rfl (nr_z (by decide))
    · rw [if_neg hc2] at h
      refine o_iconst (v := 1) k204_24 (by decide) ?_
      refine o_goto k204_25 ?_
      subst h
      exact o_iret pj_204 k204_29 rfl (nr_z (by decide))
def f_X8_sheet_43 (a0 : Int32) (a1 : Int32) (a2 : Int32) (M : am_M) : Option (Int32 × am_M) := (if (f_X8_isSheet a0 a1) = 0 then (some ((-1), M)) else (if a2 ≤ 40 then (if 0 ≤ a2 then (if am_dbin a0 4 = true then (bl (am_up M 54 a0.toNatClampNeg a1) (fun (M5 : am_M) => (if am_dbin a0 4 = true then (bl (am_up M5 55 a0.toNatClampNeg a2) (fun (M7 : am_M) => ((lp (σ := Int32 × am_M) (ρ := Int32 × am_M) (fun s8 => (if 40 ≤ s8.1 then (some (.inr (s8.1, s8.2))) else (if am_dbin (((40 : Int32) * a0) + s8.1) 160 = true then (bl (am_up s8.2 56 (((40 : Int32) * a0) + s8.1).toNatClampNeg 0) (fun (M11 : am_M) => (some (.inl ((s8.1 + 1), M11))))) else none))) lp_F (0, M7)).bind (fun s12 => (some (1, s12.2)))))) else none))) else none) else (some ((-14), M))) else (some ((-1), M))))
set_option maxRecDepth 20000 in
theorem t_X8_sheet_43 {LN : Nat} {xs : Nat → Int32} {a0 : Int32} {a1 : Int32} {a2 : Int32} {M : am_M} {t : Int32 × am_M} (h : f_X8_sheet_43 a0 a1 a2 M = some t) : oo LN xs 0 0 205 0 [some (.ref 43), some (.int a0), some (.int a1), some (.int a2), none] [] M (some (.int t.1), t.2) := by
  unfold f_X8_sheet_43 at h
  refine o_iload_n k205_0 rfl ?_
  refine o_iload_n k205_1 rfl ?_
  refine o_call k205_2 pj_204 (fun _ => rfl) (by decide) rfl (as := [.int a0, .int a1]) (rest := []) rfl (L0 := [some (.int a0), some (.int a1)]) rfl (t_X8_isSheet (M := M) (a0 := a0) (a1 := a1) rfl) ?_
  refine o_if_eq k205_5 (fun hc1 => ?_) (fun hc1 => ?_)
  · rw [if_pos hc1] at h
    refine o_iconst (v := (-1)) k205_14 (by decide) ?_
    have h9 := Option.some.inj h
    subst h9
    exact o_iret pj_205 k205_15 rfl nr_i
  · rw [if_neg hc1] at h
    refine o_iload_n k205_8 rfl ?_
    refine o_bipush (v := 40) k205_9 (by decide) ?_
    refine o_icmp_le k205_11 (fun hc2 => ?_) (fun hc2 => ?_)
    · rw [if_pos hc2] at h
      refine o_iload_n k205_16 rfl ?_
      refine o_if_ge k205_17 (fun hc3 => ?_) (fun hc3 => ?_)
      · rw [if_pos hc3] at h
        refine o_aload_n k205_23 rfl ?_
        refine o_gf k205_24 (gf_43_27 _) ?_
        refine o_iload_n k205_27 rfl ?_
        refine o_iload_n k205_28 rfl ?_
        obtain ⟨hc4, h⟩ := ck_i h
        refine bl_i h (fun M5 eM5 h => ?_)
        refine o_iast (M' := M5) k205_29 eM5 ia_54 hc4 ?_
        refine o_aload_n k205_30 rfl ?_
        refine o_gf k205_31 (gf_43_28 _) ?_
        refine o_iload_n k205_34 rfl ?_
        refine o_iload_n k205_35 rfl ?_
        obtain ⟨hc6, h⟩ := ck_i h
        refine bl_i h (fun M7 eM7 h => ?_)
        refine o_iast (M' := M7) k205_36 eM7 ia_55 hc6 ?_
        refine o_iconst (v := 0) k205_37 (by decide) ?_
        refine o_istore (v := 0) (L' := [some (.ref 43), some (.int a0), some (.int a1), some (.int a2), some (.int 0)]) k205_38 rfl rfl ?_
        refine bd_i h (fun s12 hs12 h => ?_)
        refine lp_o (fun s8 => oo LN xs 0 0 205 40 [some (.ref 43), some (.int a0), some (.int a1), some (.int a2), some (.int s8.1)] [] s8.2 (some (.int t.1), t.2)) (fun s12 => oo LN xs 0 0 205 66 [some (.ref 43), some (.int a0), some (.int a1), some (.int a2), some (.int s12.1)] [] s12.2 (some (.int t.1), t.2)) ?_ hs12 ?_
        · intro s8 ws8 h hK
          refine o_iload k205_40 rfl ?_
          refine o_bipush (v := 40) k205_42 (by decide) ?_
          refine o_icmp_ge k205_44 (fun hc9 => ?_) (fun hc9 => ?_)
          · rw [if_pos hc9] at h
            have h9 := Option.some.inj h
            subst h9
            exact hK
          · rw [if_neg hc9] at h
            refine o_aload_n k205_47 rfl ?_
            refine o_gf k205_48 (gf_43_29 _) ?_
            refine o_bipush (v := 40) k205_51 (by decide) ?_
            refine o_iload_n k205_53 rfl ?_
            refine o_imul k205_54 ?_
            refine o_iload k205_55 rfl ?_
            refine o_iadd k205_57 ?_
            refine o_iconst (v := 0) k205_58 (by decide) ?_
            obtain ⟨hc10, h⟩ := ck_i h
            refine bl_i h (fun M11 eM11 h => ?_)
            refine o_iast (M' := M11) k205_59 eM11 ia_56 hc10 ?_
            refine o_iinc (w := s8.1 + 1) (L' := [some (.ref 43), some (.int a0), some (.int a1), some (.int a2), some (.int (s8.1 + 1))]) k205_60 rfl rfl rfl ?_
            refine o_goto k205_63 ?_
            have h9 := Option.some.inj h
            subst h9
            exact hK
        · show oo LN xs 0 0 205 66 [some (.ref 43), some (.int a0), some (.int a1), some (.int a2), some (.int s12.1)] [] s12.2 (some (.int t.1), t.2)
          refine o_iconst (v := 1) k205_66 (by decide) ?_
          have h9 := Option.some.inj h
          subst h9
          exact o_iret pj_205 k205_67 rfl nr_i
      · rw [if_neg hc3] at h
        refine o_bipush (v := (-14)) k205_20 (by decide) ?_
        have h9 := Option.some.inj h
        subst h9
        exact o_iret pj_205 k205_22 rfl nr_i
    · rw [if_neg hc2] at h
      refine o_iconst (v := (-1)) k205_14 (by decide) ?_
      have h9 := Option.some.inj h
      subst h9
      exact o_iret pj_205 k205_15 rfl nr_i
def f_X3_isNothing_35 (M : am_M) : Int32 := (if (M 35 0) = (-1) then 1 else 0)
set_option maxRecDepth 20000 in
theorem t_X3_isNothing_35 {LN : Nat} {xs : Nat → Int32} {M : am_M} {t : Int32} (h : f_X3_isNothing_35 M = t) : oo LN xs 0 0 45 0 [some (.ref 35)] [] M (some (.int t), M) := by
  unfold f_X3_isNothing_35 at h
  refine o_aload_n k45_0 rfl ?_
  refine o_gf k45_1 (gf_35_0 _) ?_
  refine o_iconst (v := (-1)) k45_4 (by decide) ?_
  refine o_icmp_ne k45_5 (fun hc1 => ?_) (fun hc1 => ?_)
  · rw [if_neg hc1] at h
    refine o_iconst (v := 0) k45_12 (by decide) ?_
    subst h
    exact o_iret pj_45 k45_13 rfl (nr_z (by decide))
  · rw [if_pos hc1] at h
    refine o_iconst (v := 1) k45_8 (by decide) ?_
    refine o_goto k45_9 ?_
    subst h
    exact o_iret pj_45 k45_13 rfl (nr_z (by decide))
def f_X3_faultAt_35 (a0 : Int32) (a1 : Int32) (a2 : Int32) (M : am_M) : Int32 := (if (f_X3_isNothing_35 M) = 0 then (if a0 = (M 35 0) then (if a1 < 0 then 2 else (if a1 ≤ ((M 35 1) - a2) then 0 else 2)) else 3) else 1)
set_option maxRecDepth 20000 in
theorem t_X3_faultAt_35 {LN : Nat} {xs : Nat → Int32} {a0 : Int32} {a1 : Int32} {a2 : Int32} {M : am_M} {t : Int32} (h : f_X3_faultAt_35 a0 a1 a2 M = t) : oo LN xs 0 0 47 0 [some (.ref 35), some (.int a0), some (.int a1), some (.int a2)] [] M (some (.int t), M) := by
  unfold f_X3_faultAt_35 at h
  refine o_aload_n k47_0 rfl ?_
  refine o_call k47_1 pj_45 (fun _ => rfl) (by decide) rfl (as := [.ref 35]) (rest := []) rfl (L0 := [some (.ref 35)]) rfl (t_X3_isNothing_35 (M := M) rfl) ?_
  refine o_if_eq k47_4 (fun hc1 => ?_) (fun hc1 => ?_)
  · rw [if_pos hc1] at h
    refine o_iload_n k47_9 rfl ?_
    refine o_aload_n k47_10 rfl ?_
    refine o_gf k47_11 (gf_35_0 _) ?_
    refine o_icmp_eq k47_14 (fun hc2 => ?_) (fun hc2 => ?_)
    · rw [if_pos hc2] at h
      refine o_iload_n k47_19 rfl ?_
      refine o_if_lt k47_20 (fun hc3 => ?_) (fun hc3 => ?_)
      · rw [if_pos hc3] at h
        refine o_iconst (v := 2) k47_33 (by decide) ?_
        refine o_goto k47_34 ?_
        subst h
        exact o_iret pj_47 k47_38 rfl nr_i
      · rw [if_neg hc3] at h
        refine o_iload_n k47_23 rfl ?_
        refine o_aload_n k47_24 rfl ?_
        refine o_gf k47_25 (gf_35_1 _) ?_
        refine o_iload_n k47_28 rfl ?_
        refine o_isub k47_29 ?_
        refine o_icmp_le k47_30 (fun hc4 => ?_) (fun hc4 => ?_)
        · rw [if_pos hc4] at h
          refine o_iconst (v := 0) k47_37 (by decide) ?_
          subst h
          exact o_iret pj_47 k47_38 rfl nr_i
        · rw [if_neg hc4] at h
          refine o_iconst (v := 2) k47_33 (by decide) ?_
          refine o_goto k47_34 ?_
          subst h
          exact o_iret pj_47 k47_38 rfl nr_i
    · rw [if_neg hc2] at h
      refine o_iconst (v := 3) k47_17 (by decide) ?_
      subst h
      exact o_iret pj_47 k47_18 rfl nr_i
  · rw [if_neg hc1] at h
    refine o_iconst (v := 1) k47_7 (by decide) ?_
    subst h
    exact o_iret pj_47 k47_8 rfl nr_i
def f_X3_write_35 (a0 : Int32) (a1 : Int32) (M : am_M) : Option am_M := (if (M 35 0) = 0 then (if am_dbin a0 40 = true then (bl (am_up M 36 a0.toNatClampNeg (a1.toInt8.toInt32)) (fun (M2 : am_M) => (some M2))) else none) else (if (M 35 0) = 1 then (if am_dbin a0 40 = true then (bl (am_up M 36 a0.toNatClampNeg (a1.toInt16.toInt32)) (fun (M4 : am_M) => (some M4))) else none) else (if am_dbin a0 40 = true then (bl (am_up M 36 a0.toNatClampNeg a1) (fun (M6 : am_M) => (some M6))) else none)))
set_option maxRecDepth 20000 in
theorem t_X3_write_35 {LN : Nat} {xs : Nat → Int32} {a0 : Int32} {a1 : Int32} {M : am_M} {t : am_M} (h : f_X3_write_35 a0 a1 M = some t) : oo LN xs 0 0 48 0 [some (.ref 35), some (.int a0), some (.int a1)] [] M (none, t) := by
  unfold f_X3_write_35 at h
  refine o_aload_n k48_0 rfl ?_
  refine o_gf k48_1 (gf_35_0 _) ?_
  by_cases hx4_0 : (M 35 0) = 0
  · rw [if_pos hx4_0] at h
    refine o_lsw (tgt := 32) (off := 28) k48_4 (by rw [hx4_0]; decide) (by decide) ?_
    refine o_aload_n k48_32 rfl ?_
    refine o_gf k48_33 (gf_35_2 _) ?_
    refine o_iload_n k48_36 rfl ?_
    refine o_iload_n k48_37 rfl ?_
    refine o_i2b k48_38 ?_
    obtain ⟨hc1, h⟩ := ck_i h
    refine bl_i h (fun M2 eM2 h => ?_)
    refine o_iast (M' := M2) k48_39 eM2 ia_36 hc1 ?_
    refine o_goto k48_40 ?_
    have h9 := Option.some.inj h
    subst h9
    exact o_vret pj_48 k48_61 rfl
  rw [if_neg hx4_0] at h
  by_cases hx4_1 : (M 35 0) = 1
  · rw [if_pos hx4_1] at h
    refine o_lsw (tgt := 43) (off := 39) k48_4 (by rw [hx4_1]; decide) (by decide) ?_
    refine o_aload_n k48_43 rfl ?_
    refine o_gf k48_44 (gf_35_2 _) ?_
    refine o_iload_n k48_47 rfl ?_
    refine o_iload_n k48_48 rfl ?_
    refine o_i2s k48_49 ?_
    obtain ⟨hc3, h⟩ := ck_i h
    refine bl_i h (fun M4 eM4 h => ?_)
    refine o_iast (M' := M4) k48_50 eM4 ia_36 hc3 ?_
    refine o_goto k48_51 ?_
    have h9 := Option.some.inj h
    subst h9
    exact o_vret pj_48 k48_61 rfl
  rw [if_neg hx4_1] at h
  refine o_lsw (tgt := 54) (off := 50) k48_4 (by have n0 := ne_lit (k := 0) 0 (by decide) hx4_0; have n1 := ne_lit (k := 1) 1 (by decide) hx4_1; simp [Op.lookupswitch.offset, n0, Ne.symm n0, n1, Ne.symm n1]) (by decide) ?_
  refine o_aload_n k48_54 rfl ?_
  refine o_gf k48_55 (gf_35_2 _) ?_
  refine o_iload_n k48_58 rfl ?_
  refine o_iload_n k48_59 rfl ?_
  obtain ⟨hc5, h⟩ := ck_i h
  refine bl_i h (fun M6 eM6 h => ?_)
  refine o_iast (M' := M6) k48_60 eM6 ia_36 hc5 ?_
  have h9 := Option.some.inj h
  subst h9
  exact o_vret pj_48 k48_61 rfl
def f_X3_isNothing_37 (M : am_M) : Int32 := (if (M 37 0) = (-1) then 1 else 0)
set_option maxRecDepth 20000 in
theorem t_X3_isNothing_37 {LN : Nat} {xs : Nat → Int32} {M : am_M} {t : Int32} (h : f_X3_isNothing_37 M = t) : oo LN xs 0 0 45 0 [some (.ref 37)] [] M (some (.int t), M) := by
  unfold f_X3_isNothing_37 at h
  refine o_aload_n k45_0 rfl ?_
  refine o_gf k45_1 (gf_37_0 _) ?_
  refine o_iconst (v := (-1)) k45_4 (by decide) ?_
  refine o_icmp_ne k45_5 (fun hc1 => ?_) (fun hc1 => ?_)
  · rw [if_neg hc1] at h
    refine o_iconst (v := 0) k45_12 (by decide) ?_
    subst h
    exact o_iret pj_45 k45_13 rfl (nr_z (by decide))
  · rw [if_pos hc1] at h
    refine o_iconst (v := 1) k45_8 (by decide) ?_
    refine o_goto k45_9 ?_
    subst h
    exact o_iret pj_45 k45_13 rfl (nr_z (by decide))
def f_X3_faultAt_37 (a0 : Int32) (a1 : Int32) (a2 : Int32) (M : am_M) : Int32 := (if (f_X3_isNothing_37 M) = 0 then (if a0 = (M 37 0) then (if a1 < 0 then 2 else (if a1 ≤ ((M 37 1) - a2) then 0 else 2)) else 3) else 1)
set_option maxRecDepth 20000 in
theorem t_X3_faultAt_37 {LN : Nat} {xs : Nat → Int32} {a0 : Int32} {a1 : Int32} {a2 : Int32} {M : am_M} {t : Int32} (h : f_X3_faultAt_37 a0 a1 a2 M = t) : oo LN xs 0 0 47 0 [some (.ref 37), some (.int a0), some (.int a1), some (.int a2)] [] M (some (.int t), M) := by
  unfold f_X3_faultAt_37 at h
  refine o_aload_n k47_0 rfl ?_
  refine o_call k47_1 pj_45 (fun _ => rfl) (by decide) rfl (as := [.ref 37]) (rest := []) rfl (L0 := [some (.ref 37)]) rfl (t_X3_isNothing_37 (M := M) rfl) ?_
  refine o_if_eq k47_4 (fun hc1 => ?_) (fun hc1 => ?_)
  · rw [if_pos hc1] at h
    refine o_iload_n k47_9 rfl ?_
    refine o_aload_n k47_10 rfl ?_
    refine o_gf k47_11 (gf_37_0 _) ?_
    refine o_icmp_eq k47_14 (fun hc2 => ?_) (fun hc2 => ?_)
    · rw [if_pos hc2] at h
      refine o_iload_n k47_19 rfl ?_
      refine o_if_lt k47_20 (fun hc3 => ?_) (fun hc3 => ?_)
      · rw [if_pos hc3] at h
        refine o_iconst (v := 2) k47_33 (by decide) ?_
        refine o_goto k47_34 ?_
        subst h
        exact o_iret pj_47 k47_38 rfl nr_i
      · rw [if_neg hc3] at h
        refine o_iload_n k47_23 rfl ?_
        refine o_aload_n k47_24 rfl ?_
        refine o_gf k47_25 (gf_37_1 _) ?_
        refine o_iload_n k47_28 rfl ?_
        refine o_isub k47_29 ?_
        refine o_icmp_le k47_30 (fun hc4 => ?_) (fun hc4 => ?_)
        · rw [if_pos hc4] at h
          refine o_iconst (v := 0) k47_37 (by decide) ?_
          subst h
          exact o_iret pj_47 k47_38 rfl nr_i
        · rw [if_neg hc4] at h
          refine o_iconst (v := 2) k47_33 (by decide) ?_
          refine o_goto k47_34 ?_
          subst h
          exact o_iret pj_47 k47_38 rfl nr_i
    · rw [if_neg hc2] at h
      refine o_iconst (v := 3) k47_17 (by decide) ?_
      subst h
      exact o_iret pj_47 k47_18 rfl nr_i
  · rw [if_neg hc1] at h
    refine o_iconst (v := 1) k47_7 (by decide) ?_
    subst h
    exact o_iret pj_47 k47_8 rfl nr_i
def f_X3_write_37 (a0 : Int32) (a1 : Int32) (M : am_M) : Option am_M := (if (M 37 0) = 0 then (if am_dbin a0 40 = true then (bl (am_up M 38 a0.toNatClampNeg (a1.toInt8.toInt32)) (fun (M2 : am_M) => (some M2))) else none) else (if (M 37 0) = 1 then (if am_dbin a0 40 = true then (bl (am_up M 38 a0.toNatClampNeg (a1.toInt16.toInt32)) (fun (M4 : am_M) => (some M4))) else none) else (if am_dbin a0 40 = true then (bl (am_up M 38 a0.toNatClampNeg a1) (fun (M6 : am_M) => (some M6))) else none)))
set_option maxRecDepth 20000 in
theorem t_X3_write_37 {LN : Nat} {xs : Nat → Int32} {a0 : Int32} {a1 : Int32} {M : am_M} {t : am_M} (h : f_X3_write_37 a0 a1 M = some t) : oo LN xs 0 0 48 0 [some (.ref 37), some (.int a0), some (.int a1)] [] M (none, t) := by
  unfold f_X3_write_37 at h
  refine o_aload_n k48_0 rfl ?_
  refine o_gf k48_1 (gf_37_0 _) ?_
  by_cases hx4_0 : (M 37 0) = 0
  · rw [if_pos hx4_0] at h
    refine o_lsw (tgt := 32) (off := 28) k48_4 (by rw [hx4_0]; decide) (by decide) ?_
    refine o_aload_n k48_32 rfl ?_
    refine o_gf k48_33 (gf_37_2 _) ?_
    refine o_iload_n k48_36 rfl ?_
    refine o_iload_n k48_37 rfl ?_
    refine o_i2b k48_38 ?_
    obtain ⟨hc1, h⟩ := ck_i h
    refine bl_i h (fun M2 eM2 h => ?_)
    refine o_iast (M' := M2) k48_39 eM2 ia_38 hc1 ?_
    refine o_goto k48_40 ?_
    have h9 := Option.some.inj h
    subst h9
    exact o_vret pj_48 k48_61 rfl
  rw [if_neg hx4_0] at h
  by_cases hx4_1 : (M 37 0) = 1
  · rw [if_pos hx4_1] at h
    refine o_lsw (tgt := 43) (off := 39) k48_4 (by rw [hx4_1]; decide) (by decide) ?_
    refine o_aload_n k48_43 rfl ?_
    refine o_gf k48_44 (gf_37_2 _) ?_
    refine o_iload_n k48_47 rfl ?_
    refine o_iload_n k48_48 rfl ?_
    refine o_i2s k48_49 ?_
    obtain ⟨hc3, h⟩ := ck_i h
    refine bl_i h (fun M4 eM4 h => ?_)
    refine o_iast (M' := M4) k48_50 eM4 ia_38 hc3 ?_
    refine o_goto k48_51 ?_
    have h9 := Option.some.inj h
    subst h9
    exact o_vret pj_48 k48_61 rfl
  rw [if_neg hx4_1] at h
  refine o_lsw (tgt := 54) (off := 50) k48_4 (by have n0 := ne_lit (k := 0) 0 (by decide) hx4_0; have n1 := ne_lit (k := 1) 1 (by decide) hx4_1; simp [Op.lookupswitch.offset, n0, Ne.symm n0, n1, Ne.symm n1]) (by decide) ?_
  refine o_aload_n k48_54 rfl ?_
  refine o_gf k48_55 (gf_37_2 _) ?_
  refine o_iload_n k48_58 rfl ?_
  refine o_iload_n k48_59 rfl ?_
  obtain ⟨hc5, h⟩ := ck_i h
  refine bl_i h (fun M6 eM6 h => ?_)
  refine o_iast (M' := M6) k48_60 eM6 ia_38 hc5 ?_
  have h9 := Option.some.inj h
  subst h9
  exact o_vret pj_48 k48_61 rfl
def f_X3_isNothing_39 (M : am_M) : Int32 := (if (M 39 0) = (-1) then 1 else 0)
set_option maxRecDepth 20000 in
theorem t_X3_isNothing_39 {LN : Nat} {xs : Nat → Int32} {M : am_M} {t : Int32} (h : f_X3_isNothing_39 M = t) : oo LN xs 0 0 45 0 [some (.ref 39)] [] M (some (.int t), M) := by
  unfold f_X3_isNothing_39 at h
  refine o_aload_n k45_0 rfl ?_
  refine o_gf k45_1 (gf_39_0 _) ?_
  refine o_iconst (v := (-1)) k45_4 (by decide) ?_
  refine o_icmp_ne k45_5 (fun hc1 => ?_) (fun hc1 => ?_)
  · rw [if_neg hc1] at h
    refine o_iconst (v := 0) k45_12 (by decide) ?_
    subst h
    exact o_iret pj_45 k45_13 rfl (nr_z (by decide))
  · rw [if_pos hc1] at h
    refine o_iconst (v := 1) k45_8 (by decide) ?_
    refine o_goto k45_9 ?_
    subst h
    exact o_iret pj_45 k45_13 rfl (nr_z (by decide))
def f_X3_faultAt_39 (a0 : Int32) (a1 : Int32) (a2 : Int32) (M : am_M) : Int32 := (if (f_X3_isNothing_39 M) = 0 then (if a0 = (M 39 0) then (if a1 < 0 then 2 else (if a1 ≤ ((M 39 1) - a2) then 0 else 2)) else 3) else 1)
set_option maxRecDepth 20000 in
theorem t_X3_faultAt_39 {LN : Nat} {xs : Nat → Int32} {a0 : Int32} {a1 : Int32} {a2 : Int32} {M : am_M} {t : Int32} (h : f_X3_faultAt_39 a0 a1 a2 M = t) : oo LN xs 0 0 47 0 [some (.ref 39), some (.int a0), some (.int a1), some (.int a2)] [] M (some (.int t), M) := by
  unfold f_X3_faultAt_39 at h
  refine o_aload_n k47_0 rfl ?_
  refine o_call k47_1 pj_45 (fun _ => rfl) (by decide) rfl (as := [.ref 39]) (rest := []) rfl (L0 := [some (.ref 39)]) rfl (t_X3_isNothing_39 (M := M) rfl) ?_
  refine o_if_eq k47_4 (fun hc1 => ?_) (fun hc1 => ?_)
  · rw [if_pos hc1] at h
    refine o_iload_n k47_9 rfl ?_
    refine o_aload_n k47_10 rfl ?_
    refine o_gf k47_11 (gf_39_0 _) ?_
    refine o_icmp_eq k47_14 (fun hc2 => ?_) (fun hc2 => ?_)
    · rw [if_pos hc2] at h
      refine o_iload_n k47_19 rfl ?_
      refine o_if_lt k47_20 (fun hc3 => ?_) (fun hc3 => ?_)
      · rw [if_pos hc3] at h
        refine o_iconst (v := 2) k47_33 (by decide) ?_
        refine o_goto k47_34 ?_
        subst h
        exact o_iret pj_47 k47_38 rfl nr_i
      · rw [if_neg hc3] at h
        refine o_iload_n k47_23 rfl ?_
        refine o_aload_n k47_24 rfl ?_
        refine o_gf k47_25 (gf_39_1 _) ?_
        refine o_iload_n k47_28 rfl ?_
        refine o_isub k47_29 ?_
        refine o_icmp_le k47_30 (fun hc4 => ?_) (fun hc4 => ?_)
        · rw [if_pos hc4] at h
          refine o_iconst (v := 0) k47_37 (by decide) ?_
          subst h
          exact o_iret pj_47 k47_38 rfl nr_i
        · rw [if_neg hc4] at h
          refine o_iconst (v := 2) k47_33 (by decide) ?_
          refine o_goto k47_34 ?_
          subst h
          exact o_iret pj_47 k47_38 rfl nr_i
    · rw [if_neg hc2] at h
      refine o_iconst (v := 3) k47_17 (by decide) ?_
      subst h
      exact o_iret pj_47 k47_18 rfl nr_i
  · rw [if_neg hc1] at h
    refine o_iconst (v := 1) k47_7 (by decide) ?_
    subst h
    exact o_iret pj_47 k47_8 rfl nr_i
def f_X3_write_39 (a0 : Int32) (a1 : Int32) (M : am_M) : Option am_M := (if (M 39 0) = 0 then (if am_dbin a0 40 = true then (bl (am_up M 40 a0.toNatClampNeg (a1.toInt8.toInt32)) (fun (M2 : am_M) => (some M2))) else none) else (if (M 39 0) = 1 then (if am_dbin a0 40 = true then (bl (am_up M 40 a0.toNatClampNeg (a1.toInt16.toInt32)) (fun (M4 : am_M) => (some M4))) else none) else (if am_dbin a0 40 = true then (bl (am_up M 40 a0.toNatClampNeg a1) (fun (M6 : am_M) => (some M6))) else none)))
set_option maxRecDepth 20000 in
theorem t_X3_write_39 {LN : Nat} {xs : Nat → Int32} {a0 : Int32} {a1 : Int32} {M : am_M} {t : am_M} (h : f_X3_write_39 a0 a1 M = some t) : oo LN xs 0 0 48 0 [some (.ref 39), some (.int a0), some (.int a1)] [] M (none, t) := by
  unfold f_X3_write_39 at h
  refine o_aload_n k48_0 rfl ?_
  refine o_gf k48_1 (gf_39_0 _) ?_
  by_cases hx4_0 : (M 39 0) = 0
  · rw [if_pos hx4_0] at h
    refine o_lsw (tgt := 32) (off := 28) k48_4 (by rw [hx4_0]; decide) (by decide) ?_
    refine o_aload_n k48_32 rfl ?_
    refine o_gf k48_33 (gf_39_2 _) ?_
    refine o_iload_n k48_36 rfl ?_
    refine o_iload_n k48_37 rfl ?_
    refine o_i2b k48_38 ?_
    obtain ⟨hc1, h⟩ := ck_i h
    refine bl_i h (fun M2 eM2 h => ?_)
    refine o_iast (M' := M2) k48_39 eM2 ia_40 hc1 ?_
    refine o_goto k48_40 ?_
    have h9 := Option.some.inj h
    subst h9
    exact o_vret pj_48 k48_61 rfl
  rw [if_neg hx4_0] at h
  by_cases hx4_1 : (M 39 0) = 1
  · rw [if_pos hx4_1] at h
    refine o_lsw (tgt := 43) (off := 39) k48_4 (by rw [hx4_1]; decide) (by decide) ?_
    refine o_aload_n k48_43 rfl ?_
    refine o_gf k48_44 (gf_39_2 _) ?_
    refine o_iload_n k48_47 rfl ?_
    refine o_iload_n k48_48 rfl ?_
    refine o_i2s k48_49 ?_
    obtain ⟨hc3, h⟩ := ck_i h
    refine bl_i h (fun M4 eM4 h => ?_)
    refine o_iast (M' := M4) k48_50 eM4 ia_40 hc3 ?_
    refine o_goto k48_51 ?_
    have h9 := Option.some.inj h
    subst h9
    exact o_vret pj_48 k48_61 rfl
  rw [if_neg hx4_1] at h
  refine o_lsw (tgt := 54) (off := 50) k48_4 (by have n0 := ne_lit (k := 0) 0 (by decide) hx4_0; have n1 := ne_lit (k := 1) 1 (by decide) hx4_1; simp [Op.lookupswitch.offset, n0, Ne.symm n0, n1, Ne.symm n1]) (by decide) ?_
  refine o_aload_n k48_54 rfl ?_
  refine o_gf k48_55 (gf_39_2 _) ?_
  refine o_iload_n k48_58 rfl ?_
  refine o_iload_n k48_59 rfl ?_
  obtain ⟨hc5, h⟩ := ck_i h
  refine bl_i h (fun M6 eM6 h => ?_)
  refine o_iast (M' := M6) k48_60 eM6 ia_40 hc5 ?_
  have h9 := Option.some.inj h
  subst h9
  exact o_vret pj_48 k48_61 rfl
def f_X3_isNothing_41 (M : am_M) : Int32 := (if (M 41 0) = (-1) then 1 else 0)
set_option maxRecDepth 20000 in
theorem t_X3_isNothing_41 {LN : Nat} {xs : Nat → Int32} {M : am_M} {t : Int32} (h : f_X3_isNothing_41 M = t) : oo LN xs 0 0 45 0 [some (.ref 41)] [] M (some (.int t), M) := by
  unfold f_X3_isNothing_41 at h
  refine o_aload_n k45_0 rfl ?_
  refine o_gf k45_1 (gf_41_0 _) ?_
  refine o_iconst (v := (-1)) k45_4 (by decide) ?_
  refine o_icmp_ne k45_5 (fun hc1 => ?_) (fun hc1 => ?_)
  · rw [if_neg hc1] at h
    refine o_iconst (v := 0) k45_12 (by decide) ?_
    subst h
    exact o_iret pj_45 k45_13 rfl (nr_z (by decide))
  · rw [if_pos hc1] at h
    refine o_iconst (v := 1) k45_8 (by decide) ?_
    refine o_goto k45_9 ?_
    subst h
    exact o_iret pj_45 k45_13 rfl (nr_z (by decide))
def f_X3_faultAt_41 (a0 : Int32) (a1 : Int32) (a2 : Int32) (M : am_M) : Int32 := (if (f_X3_isNothing_41 M) = 0 then (if a0 = (M 41 0) then (if a1 < 0 then 2 else (if a1 ≤ ((M 41 1) - a2) then 0 else 2)) else 3) else 1)
set_option maxRecDepth 20000 in
theorem t_X3_faultAt_41 {LN : Nat} {xs : Nat → Int32} {a0 : Int32} {a1 : Int32} {a2 : Int32} {M : am_M} {t : Int32} (h : f_X3_faultAt_41 a0 a1 a2 M = t) : oo LN xs 0 0 47 0 [some (.ref 41), some (.int a0), some (.int a1), some (.int a2)] [] M (some (.int t), M) := by
  unfold f_X3_faultAt_41 at h
  refine o_aload_n k47_0 rfl ?_
  refine o_call k47_1 pj_45 (fun _ => rfl) (by decide) rfl (as := [.ref 41]) (rest := []) rfl (L0 := [some (.ref 41)]) rfl (t_X3_isNothing_41 (M := M) rfl) ?_
  refine o_if_eq k47_4 (fun hc1 => ?_) (fun hc1 => ?_)
  · rw [if_pos hc1] at h
    refine o_iload_n k47_9 rfl ?_
    refine o_aload_n k47_10 rfl ?_
    refine o_gf k47_11 (gf_41_0 _) ?_
    refine o_icmp_eq k47_14 (fun hc2 => ?_) (fun hc2 => ?_)
    · rw [if_pos hc2] at h
      refine o_iload_n k47_19 rfl ?_
      refine o_if_lt k47_20 (fun hc3 => ?_) (fun hc3 => ?_)
      · rw [if_pos hc3] at h
        refine o_iconst (v := 2) k47_33 (by decide) ?_
        refine o_goto k47_34 ?_
        subst h
        exact o_iret pj_47 k47_38 rfl nr_i
      · rw [if_neg hc3] at h
        refine o_iload_n k47_23 rfl ?_
        refine o_aload_n k47_24 rfl ?_
        refine o_gf k47_25 (gf_41_1 _) ?_
        refine o_iload_n k47_28 rfl ?_
        refine o_isub k47_29 ?_
        refine o_icmp_le k47_30 (fun hc4 => ?_) (fun hc4 => ?_)
        · rw [if_pos hc4] at h
          refine o_iconst (v := 0) k47_37 (by decide) ?_
          subst h
          exact o_iret pj_47 k47_38 rfl nr_i
        · rw [if_neg hc4] at h
          refine o_iconst (v := 2) k47_33 (by decide) ?_
          refine o_goto k47_34 ?_
          subst h
          exact o_iret pj_47 k47_38 rfl nr_i
    · rw [if_neg hc2] at h
      refine o_iconst (v := 3) k47_17 (by decide) ?_
      subst h
      exact o_iret pj_47 k47_18 rfl nr_i
  · rw [if_neg hc1] at h
    refine o_iconst (v := 1) k47_7 (by decide) ?_
    subst h
    exact o_iret pj_47 k47_8 rfl nr_i
def f_X3_write_41 (a0 : Int32) (a1 : Int32) (M : am_M) : Option am_M := (if (M 41 0) = 0 then (if am_dbin a0 40 = true then (bl (am_up M 42 a0.toNatClampNeg (a1.toInt8.toInt32)) (fun (M2 : am_M) => (some M2))) else none) else (if (M 41 0) = 1 then (if am_dbin a0 40 = true then (bl (am_up M 42 a0.toNatClampNeg (a1.toInt16.toInt32)) (fun (M4 : am_M) => (some M4))) else none) else (if am_dbin a0 40 = true then (bl (am_up M 42 a0.toNatClampNeg a1) (fun (M6 : am_M) => (some M6))) else none)))
set_option maxRecDepth 20000 in
theorem t_X3_write_41 {LN : Nat} {xs : Nat → Int32} {a0 : Int32} {a1 : Int32} {M : am_M} {t : am_M} (h : f_X3_write_41 a0 a1 M = some t) : oo LN xs 0 0 48 0 [some (.ref 41), some (.int a0), some (.int a1)] [] M (none, t) := by
  unfold f_X3_write_41 at h
  refine o_aload_n k48_0 rfl ?_
  refine o_gf k48_1 (gf_41_0 _) ?_
  by_cases hx4_0 : (M 41 0) = 0
  · rw [if_pos hx4_0] at h
    refine o_lsw (tgt := 32) (off := 28) k48_4 (by rw [hx4_0]; decide) (by decide) ?_
    refine o_aload_n k48_32 rfl ?_
    refine o_gf k48_33 (gf_41_2 _) ?_
    refine o_iload_n k48_36 rfl ?_
    refine o_iload_n k48_37 rfl ?_
    refine o_i2b k48_38 ?_
    obtain ⟨hc1, h⟩ := ck_i h
    refine bl_i h (fun M2 eM2 h => ?_)
    refine o_iast (M' := M2) k48_39 eM2 ia_42 hc1 ?_
    refine o_goto k48_40 ?_
    have h9 := Option.some.inj h
    subst h9
    exact o_vret pj_48 k48_61 rfl
  rw [if_neg hx4_0] at h
  by_cases hx4_1 : (M 41 0) = 1
  · rw [if_pos hx4_1] at h
    refine o_lsw (tgt := 43) (off := 39) k48_4 (by rw [hx4_1]; decide) (by decide) ?_
    refine o_aload_n k48_43 rfl ?_
    refine o_gf k48_44 (gf_41_2 _) ?_
    refine o_iload_n k48_47 rfl ?_
    refine o_iload_n k48_48 rfl ?_
    refine o_i2s k48_49 ?_
    obtain ⟨hc3, h⟩ := ck_i h
    refine bl_i h (fun M4 eM4 h => ?_)
    refine o_iast (M' := M4) k48_50 eM4 ia_42 hc3 ?_
    refine o_goto k48_51 ?_
    have h9 := Option.some.inj h
    subst h9
    exact o_vret pj_48 k48_61 rfl
  rw [if_neg hx4_1] at h
  refine o_lsw (tgt := 54) (off := 50) k48_4 (by have n0 := ne_lit (k := 0) 0 (by decide) hx4_0; have n1 := ne_lit (k := 1) 1 (by decide) hx4_1; simp [Op.lookupswitch.offset, n0, Ne.symm n0, n1, Ne.symm n1]) (by decide) ?_
  refine o_aload_n k48_54 rfl ?_
  refine o_gf k48_55 (gf_41_2 _) ?_
  refine o_iload_n k48_58 rfl ?_
  refine o_iload_n k48_59 rfl ?_
  obtain ⟨hc5, h⟩ := ck_i h
  refine bl_i h (fun M6 eM6 h => ?_)
  refine o_iast (M' := M6) k48_60 eM6 ia_42 hc5 ?_
  have h9 := Option.some.inj h
  subst h9
  exact o_vret pj_48 k48_61 rfl
def f_X7_lay_0 (a0 : Int32) (a1 : Int32) (a2 : Int32) (M : am_M) : Option (Int32 × am_M) := (if (f_X7_isSheet a0) = 0 then (some ((-1), M)) else (if a0 = 0 then (if (f_X3_faultAt_35 (M 35 0) a1 1 M) = 0 then ((f_X3_write_35 a1 a2 M).bind (fun q3 => (some (1, q3)))) else (some ((((-10) : Int32) - (f_X3_faultAt_35 (M 35 0) a1 1 M)), M))) else (if a0 = 1 then (if (f_X3_faultAt_37 (M 37 0) a1 1 M) = 0 then ((f_X3_write_37 a1 a2 M).bind (fun q5 => (some (1, q5)))) else (some ((((-10) : Int32) - (f_X3_faultAt_37 (M 37 0) a1 1 M)), M))) else (if a0 = 2 then (if (f_X3_faultAt_39 (M 39 0) a1 1 M) = 0 then ((f_X3_write_39 a1 a2 M).bind (fun q7 => (some (1, q7)))) else (some ((((-10) : Int32) - (f_X3_faultAt_39 (M 39 0) a1 1 M)), M))) else (if a0 = 3 then (if (f_X3_faultAt_41 (M 41 0) a1 1 M) = 0 then ((f_X3_write_41 a1 a2 M).bind (fun q9 => (some (1, q9)))) else (some ((((-10) : Int32) - (f_X3_faultAt_41 (M 41 0) a1 1 M)), M))) else none)))))
set_option maxRecDepth 20000 in
theorem t_X7_lay_0 {LN : Nat} {xs : Nat → Int32} {a0 : Int32} {a1 : Int32} {a2 : Int32} {M : am_M} {t : Int32 × am_M} (h : f_X7_lay_0 a0 a1 a2 M = some t) : oo LN xs 0 0 115 0 [some (.ref 0), some (.int a0), some (.int a1), some (.int a2), none, none] [] M (some (.int t.1), t.2) := by
  unfold f_X7_lay_0 at h
  refine o_iload_n k115_0 rfl ?_
  refine o_call k115_1 pj_122 (fun _ => rfl) (by decide) rfl (as := [.int a0]) (rest := []) rfl (L0 := [some (.int a0)]) rfl (t_X7_isSheet (M := M) (a0 := a0) rfl) ?_
  refine o_if_ne k115_4 (fun hc1 => ?_) (fun hc1 => ?_)
  · rw [if_neg hc1] at h
    refine o_aload_n k115_9 rfl ?_
    refine o_gf k115_10 (gf_0_7 _) ?_
    refine o_iload_n k115_13 rfl ?_
    by_cases hX1 : a0 = 0
    · rw [if_pos hX1] at h
      refine o_aald (v := .ref 35) k115_14 (by rw [hX1]; exact aal_34_0) ?_
      refine o_astore (L' := [some (.ref 0), some (.int a0), some (.int a1), some (.int a2), some (.ref 35), none]) k115_15 rfl rfl ?_
      refine o_aload k115_17 rfl ?_
      refine o_aload k115_19 rfl ?_
      refine o_gf k115_21 (gf_35_0 _) ?_
      refine o_iload_n k115_24 rfl ?_
      refine o_iconst (v := 1) k115_25 (by decide) ?_
      refine o_call k115_26 pj_47 (fun _ => rfl) (by decide) rfl (as := [.ref 35, .int (M 35 0), .int a1, .int 1]) (rest := []) rfl (L0 := [some (.ref 35), some (.int (M 35 0)), some (.int a1), some (.int 1)]) rfl (t_X3_faultAt_35 (M := M) (a0 := (M 35 0)) (a1 := a1) (a2 := 1) rfl) ?_
      refine o_istore (v := (f_X3_faultAt_35 (M 35 0) a1 1 M)) (L' := [some (.ref 0), some (.int a0), some (.int a1), some (.int a2), some (.ref 35), some (.int (f_X3_faultAt_35 (M 35 0) a1 1 M))]) k115_29 rfl rfl ?_
      refine o_iload k115_31 rfl ?_
      refine o_if_eq k115_33 (fun hc2 => ?_) (fun hc2 => ?_)
      · rw [if_pos hc2] at h
        refine o_aload k115_42 rfl ?_
        refine o_iload_n k115_44 rfl ?_
        refine o_iload_n k115_45 rfl ?_
        refine bd_i h (fun q3 hq3 h => ?_)
        refine o_call k115_46 pj_48 (fun _ => rfl) (by decide) rfl (as := [.ref 35, .int a1, .int a2]) (rest := []) rfl (L0 := [some (.ref 35), some (.int a1), some (.int a2)]) rfl (t_X3_write_35 hq3) ?_
        refine o_iconst (v := 1) k115_49 (by decide) ?_
        have h9 := Option.some.inj h
        subst h9
        exact o_iret pj_115 k115_50 rfl nr_i
      · rw [if_neg hc2] at h
        refine o_bipush (v := (-10)) k115_36 (by decide) ?_
        refine o_iload k115_38 rfl ?_
        refine o_isub k115_40 ?_
        have h9 := Option.some.inj h
        subst h9
        exact o_iret pj_115 k115_41 rfl nr_i
    rw [if_neg hX1] at h
    by_cases hX2 : a0 = 1
    · rw [if_pos hX2] at h
      refine o_aald (v := .ref 37) k115_14 (by rw [hX2]; exact aal_34_1) ?_
      refine o_astore (L' := [some (.ref 0), some (.int a0), some (.int a1), some (.int a2), some (.ref 37), none]) k115_15 rfl rfl ?_
      refine o_aload k115_17 rfl ?_
      refine o_aload k115_19 rfl ?_
      refine o_gf k115_21 (gf_37_0 _) ?_
      refine o_iload_n k115_24 rfl ?_
      refine o_iconst (v := 1) k115_25 (by decide) ?_
      refine o_call k115_26 pj_47 (fun _ => rfl) (by decide) rfl (as := [.ref 37, .int (M 37 0), .int a1, .int 1]) (rest := []) rfl (L0 := [some (.ref 37), some (.int (M 37 0)), some (.int a1), some (.int 1)]) rfl (t_X3_faultAt_37 (M := M) (a0 := (M 37 0)) (a1 := a1) (a2 := 1) rfl) ?_
      refine o_istore (v := (f_X3_faultAt_37 (M 37 0) a1 1 M)) (L' := [some (.ref 0), some (.int a0), some (.int a1), some (.int a2), some (.ref 37), some (.int (f_X3_faultAt_37 (M 37 0) a1 1 M))]) k115_29 rfl rfl ?_
      refine o_iload k115_31 rfl ?_
      refine o_if_eq k115_33 (fun hc4 => ?_) (fun hc4 => ?_)
      · rw [if_pos hc4] at h
        refine o_aload k115_42 rfl ?_
        refine o_iload_n k115_44 rfl ?_
        refine o_iload_n k115_45 rfl ?_
        refine bd_i h (fun q5 hq5 h => ?_)
        refine o_call k115_46 pj_48 (fun _ => rfl) (by decide) rfl (as := [.ref 37, .int a1, .int a2]) (rest := []) rfl (L0 := [some (.ref 37), some (.int a1), some (.int a2)]) rfl (t_X3_write_37 hq5) ?_
        refine o_iconst (v := 1) k115_49 (by decide) ?_
        have h9 := Option.some.inj h
        subst h9
        exact o_iret pj_115 k115_50 rfl nr_i
      · rw [if_neg hc4] at h
        refine o_bipush (v := (-10)) k115_36 (by decide) ?_
        refine o_iload k115_38 rfl ?_
        refine o_isub k115_40 ?_
        have h9 := Option.some.inj h
        subst h9
        exact o_iret pj_115 k115_41 rfl nr_i
    rw [if_neg hX2] at h
    by_cases hX3 : a0 = 2
    · rw [if_pos hX3] at h
      refine o_aald (v := .ref 39) k115_14 (by rw [hX3]; exact aal_34_2) ?_
      refine o_astore (L' := [some (.ref 0), some (.int a0), some (.int a1), some (.int a2), some (.ref 39), none]) k115_15 rfl rfl ?_
      refine o_aload k115_17 rfl ?_
      refine o_aload k115_19 rfl ?_
      refine o_gf k115_21 (gf_39_0 _) ?_
      refine o_iload_n k115_24 rfl ?_
      refine o_iconst (v := 1) k115_25 (by decide) ?_
      refine o_call k115_26 pj_47 (fun _ => rfl) (by decide) rfl (as := [.ref 39, .int (M 39 0), .int a1, .int 1]) (rest := []) rfl (L0 := [some (.ref 39), some (.int (M 39 0)), some (.int a1), some (.int 1)]) rfl (t_X3_faultAt_39 (M := M) (a0 := (M 39 0)) (a1 := a1) (a2 := 1) rfl) ?_
      refine o_istore (v := (f_X3_faultAt_39 (M 39 0) a1 1 M)) (L' := [some (.ref 0), some (.int a0), some (.int a1), some (.int a2), some (.ref 39), some (.int (f_X3_faultAt_39 (M 39 0) a1 1 M))]) k115_29 rfl rfl ?_
      refine o_iload k115_31 rfl ?_
      refine o_if_eq k115_33 (fun hc6 => ?_) (fun hc6 => ?_)
      · rw [if_pos hc6] at h
        refine o_aload k115_42 rfl ?_
        refine o_iload_n k115_44 rfl ?_
        refine o_iload_n k115_45 rfl ?_
        refine bd_i h (fun q7 hq7 h => ?_)
        refine o_call k115_46 pj_48 (fun _ => rfl) (by decide) rfl (as := [.ref 39, .int a1, .int a2]) (rest := []) rfl (L0 := [some (.ref 39), some (.int a1), some (.int a2)]) rfl (t_X3_write_39 hq7) ?_
        refine o_iconst (v := 1) k115_49 (by decide) ?_
        have h9 := Option.some.inj h
        subst h9
        exact o_iret pj_115 k115_50 rfl nr_i
      · rw [if_neg hc6] at h
        refine o_bipush (v := (-10)) k115_36 (by decide) ?_
        refine o_iload k115_38 rfl ?_
        refine o_isub k115_40 ?_
        have h9 := Option.some.inj h
        subst h9
        exact o_iret pj_115 k115_41 rfl nr_i
    rw [if_neg hX3] at h
    by_cases hX4 : a0 = 3
    · rw [if_pos hX4] at h
      refine o_aald (v := .ref 41) k115_14 (by rw [hX4]; exact aal_34_3) ?_
      refine o_astore (L' := [some (.ref 0), some (.int a0), some (.int a1), some (.int a2), some (.ref 41), none]) k115_15 rfl rfl ?_
      refine o_aload k115_17 rfl ?_
      refine o_aload k115_19 rfl ?_
      refine o_gf k115_21 (gf_41_0 _) ?_
      refine o_iload_n k115_24 rfl ?_
      refine o_iconst (v := 1) k115_25 (by decide) ?_
      refine o_call k115_26 pj_47 (fun _ => rfl) (by decide) rfl (as := [.ref 41, .int (M 41 0), .int a1, .int 1]) (rest := []) rfl (L0 := [some (.ref 41), some (.int (M 41 0)), some (.int a1), some (.int 1)]) rfl (t_X3_faultAt_41 (M := M) (a0 := (M 41 0)) (a1 := a1) (a2 := 1) rfl) ?_
      refine o_istore (v := (f_X3_faultAt_41 (M 41 0) a1 1 M)) (L' := [some (.ref 0), some (.int a0), some (.int a1), some (.int a2), some (.ref 41), some (.int (f_X3_faultAt_41 (M 41 0) a1 1 M))]) k115_29 rfl rfl ?_
      refine o_iload k115_31 rfl ?_
      refine o_if_eq k115_33 (fun hc8 => ?_) (fun hc8 => ?_)
      · rw [if_pos hc8] at h
        refine o_aload k115_42 rfl ?_
        refine o_iload_n k115_44 rfl ?_
        refine o_iload_n k115_45 rfl ?_
        refine bd_i h (fun q9 hq9 h => ?_)
        refine o_call k115_46 pj_48 (fun _ => rfl) (by decide) rfl (as := [.ref 41, .int a1, .int a2]) (rest := []) rfl (L0 := [some (.ref 41), some (.int a1), some (.int a2)]) rfl (t_X3_write_41 hq9) ?_
        refine o_iconst (v := 1) k115_49 (by decide) ?_
        have h9 := Option.some.inj h
        subst h9
        exact o_iret pj_115 k115_50 rfl nr_i
      · rw [if_neg hc8] at h
        refine o_bipush (v := (-10)) k115_36 (by decide) ?_
        refine o_iload k115_38 rfl ?_
        refine o_isub k115_40 ?_
        have h9 := Option.some.inj h
        subst h9
        exact o_iret pj_115 k115_41 rfl nr_i
    rw [if_neg hX4] at h
    cases h
  · rw [if_pos hc1] at h
    refine o_iconst (v := (-1)) k115_7 (by decide) ?_
    have h9 := Option.some.inj h
    subst h9
    exact o_iret pj_115 k115_8 rfl nr_i
def f_X8_lay_43 (a0 : Int32) (a1 : Int32) (a2 : Int32) (M : am_M) : Option (Int32 × am_M) := (if (f_X8_isSheet a0 0) = 0 then (some ((-1), M)) else (if am_dbin a0 4 = true then (if (M 54 a0.toNatClampNeg) = (-4) then (some ((-11), M)) else (if am_dbin a0 4 = true then (if (f_X8_in a1.toInt64 0 (((M 55 a0.toNatClampNeg) - 1).toInt64)) = 0 then (some ((-12), M)) else (if am_dbin a0 4 = true then (if (M 54 a0.toNatClampNeg) = 0 then (if am_dbin (((40 : Int32) * a0) + a1) 160 = true then (bl (am_up M 56 (((40 : Int32) * a0) + a1).toNatClampNeg (a2.toInt8.toInt32)) (fun (M15 : am_M) => (some (1, M15)))) else none) else (if am_dbin a0 4 = true then (if (M 54 a0.toNatClampNeg) = 1 then (if am_dbin (((40 : Int32) * a0) + a1) 160 = true then (bl (am_up M 56 (((40 : Int32) * a0) + a1).toNatClampNeg (a2.toInt16.toInt32)) (fun (M13 : am_M) => (some (1, M13)))) else none) else (if am_dbin (((40 : Int32) * a0) + a1) 160 = true then (bl (am_up M 56 (((40 : Int32) * a0) + a1).toNatClampNeg a2) (fun (M11 : am_M) => (some (1, M11)))) else none)) else none)) else none)) else none)) else none))
set_option maxRecDepth 20000 in
theorem t_X8_lay_43 {LN : Nat} {xs : Nat → Int32} {a0 : Int32} {a1 : Int32} {a2 : Int32} {M : am_M} {t : Int32 × am_M} (h : f_X8_lay_43 a0 a1 a2 M = some t) : oo LN xs 0 0 206 0 [some (.ref 43), some (.int a0), some (.int a1), some (.int a2)] [] M (some (.int t.1), t.2) := by
  unfold f_X8_lay_43 at h
  refine o_iload_n k206_0 rfl ?_
  refine o_iconst (v := 0) k206_1 (by decide) ?_
  refine o_call k206_2 pj_204 (fun _ => rfl) (by decide) rfl (as := [.int a0, .int 0]) (rest := []) rfl (L0 := [some (.int a0), some (.int 0)]) rfl (t_X8_isSheet (M := M) (a0 := a0) (a1 := 0) rfl) ?_
  refine o_if_ne k206_5 (fun hc1 => ?_) (fun hc1 => ?_)
  · rw [if_neg hc1] at h
    refine o_aload_n k206_10 rfl ?_
    refine o_gf k206_11 (gf_43_27 _) ?_
    refine o_iload_n k206_14 rfl ?_
    obtain ⟨hc2, h⟩ := ck_i h
    refine o_iald k206_15 rfl ia_54 hc2 ?_
    refine o_bipush (v := (-4)) k206_16 (by decide) ?_
    refine o_icmp_ne k206_18 (fun hc3 => ?_) (fun hc3 => ?_)
    · rw [if_neg hc3] at h
      refine o_iload_n k206_24 rfl ?_
      refine o_i2l k206_25 ?_
      refine o_lconst (v := 0) k206_26 (by decide) ?_
      refine o_aload_n k206_27 rfl ?_
      refine o_gf k206_28 (gf_43_28 _) ?_
      refine o_iload_n k206_31 rfl ?_
      obtain ⟨hc4, h⟩ := ck_i h
      refine o_iald k206_32 rfl ia_55 hc4 ?_
      refine o_iconst (v := 1) k206_33 (by decide) ?_
      refine o_isub k206_34 ?_
      refine o_i2l k206_35 ?_
      refine o_call k206_36 pj_125 (fun _ => rfl) (by decide) rfl (as := [.long a1.toInt64, .long 0, .long (((M 55 a0.toNatClampNeg) - 1).toInt64)]) (rest := []) rfl (L0 := [some (.long a1.toInt64), none, some (.long 0), none, some (.long (((M 55 a0.toNatClampNeg) - 1).toInt64)), none]) rfl (t_X8_in (M := M) (a0 := a1.toInt64) (a1 := 0) (a2 := (((M 55 a0.toNatClampNeg) - 1).toInt64)) rfl) ?_
      refine o_if_ne k206_39 (fun hc5 => ?_) (fun hc5 => ?_)
      · rw [if_neg hc5] at h
        refine o_aload_n k206_45 rfl ?_
        refine o_gf k206_46 (gf_43_29 _) ?_
        refine o_bipush (v := 40) k206_49 (by decide) ?_
        refine o_iload_n k206_51 rfl ?_
        refine o_imul k206_52 ?_
        refine o_iload_n k206_53 rfl ?_
        refine o_iadd k206_54 ?_
        refine o_aload_n k206_55 rfl ?_
        refine o_gf k206_56 (gf_43_27 _) ?_
        refine o_iload_n k206_59 rfl ?_
        obtain ⟨hc6, h⟩ := ck_i h
        refine o_iald k206_60 rfl ia_54 hc6 ?_
        refine o_if_ne k206_61 (fun hc7 => ?_) (fun hc7 => ?_)
        · rw [if_neg hc7] at h
          refine o_aload_n k206_69 rfl ?_
          refine o_gf k206_70 (gf_43_27 _) ?_
          refine o_iload_n k206_73 rfl ?_
          obtain ⟨hc8, h⟩ := ck_i h
          refine o_iald k206_74 rfl ia_54 hc8 ?_
          refine o_iconst (v := 1) k206_75 (by decide) ?_
          refine o_icmp_ne k206_76 (fun hc9 => ?_) (fun hc9 => ?_)
          · rw [if_neg hc9] at h
            refine o_iload_n k206_84 rfl ?_
            obtain ⟨hc10, h⟩ := ck_i h
            refine bl_i h (fun M11 eM11 h => ?_)
            refine o_iast (M' := M11) k206_85 eM11 ia_56 hc10 ?_
            refine o_iconst (v := 1) k206_86 (by decide) ?_
            have h9 := Option.some.inj h
            subst h9
            exact o_iret pj_206 k206_87 rfl nr_i
          · rw [if_pos hc9] at h
            refine o_iload_n k206_79 rfl ?_
            refine o_i2s k206_80 ?_
            refine o_goto k206_81 ?_
            obtain ⟨hc12, h⟩ := ck_i h
            refine bl_i h (fun M13 eM13 h => ?_)
            refine o_iast (M' := M13) k206_85 eM13 ia_56 hc12 ?_
            refine o_iconst (v := 1) k206_86 (by decide) ?_
            have h9 := Option.some.inj h
            subst h9
            exact o_iret pj_206 k206_87 rfl nr_i
        · rw [if_pos hc7] at h
          refine o_iload_n k206_64 rfl ?_
          refine o_i2b k206_65 ?_
          refine o_goto k206_66 ?_
          obtain ⟨hc14, h⟩ := ck_i h
          refine bl_i h (fun M15 eM15 h => ?_)
          refine o_iast (M' := M15) k206_85 eM15 ia_56 hc14 ?_
          refine o_iconst (v := 1) k206_86 (by decide) ?_
          have h9 := Option.some.inj h
          subst h9
          exact o_iret pj_206 k206_87 rfl nr_i
      · rw [if_pos hc5] at h
        refine o_bipush (v := (-12)) k206_42 (by decide) ?_
        have h9 := Option.some.inj h
        subst h9
        exact o_iret pj_206 k206_44 rfl nr_i
    · rw [if_pos hc3] at h
      refine o_bipush (v := (-11)) k206_21 (by decide) ?_
      have h9 := Option.some.inj h
      subst h9
      exact o_iret pj_206 k206_23 rfl nr_i
  · rw [if_pos hc1] at h
    refine o_iconst (v := (-1)) k206_8 (by decide) ?_
    have h9 := Option.some.inj h
    subst h9
    exact o_iret pj_206 k206_9 rfl nr_i
def f_X7_takeTriples_0_35 (a0 : Int32) (a1 : Int32) (M : am_M) : Option am_M := ((lp (σ := Int32 × am_M) (ρ := Int32 × am_M) (fun s1 => (if a1 ≤ s1.1 then (some (.inr (s1.1, s1.2))) else (if am_dbin (a0 + ((3 : Int32) * s1.1)) 40 = true then (if am_dbin ((a0 + ((3 : Int32) * s1.1)) + 1) 40 = true then (if am_dbin ((a0 + ((3 : Int32) * s1.1)) + 2) 40 = true then (if am_dbin (f_X0_at (s1.2 36 (a0 + ((3 : Int32) * s1.1)).toNatClampNeg) (s1.2 36 ((a0 + ((3 : Int32) * s1.1)) + 1).toNatClampNeg)) 64 = true then (bl (am_up s1.2 10 (f_X0_at (s1.2 36 (a0 + ((3 : Int32) * s1.1)).toNatClampNeg) (s1.2 36 ((a0 + ((3 : Int32) * s1.1)) + 1).toNatClampNeg)).toNatClampNeg (s1.2 36 ((a0 + ((3 : Int32) * s1.1)) + 2).toNatClampNeg)) (fun (M8 : am_M) => (some (.inl ((s1.1 + 1), M8))))) else none) else none) else none) else none))) lp_F (0, M)).bind (fun s9 => (some s9.2)))
set_option maxRecDepth 20000 in
theorem t_X7_takeTriples_0_35 {LN : Nat} {xs : Nat → Int32} {a0 : Int32} {a1 : Int32} {M : am_M} {t : am_M} (h : f_X7_takeTriples_0_35 a0 a1 M = some t) : oo LN xs 0 0 119 0 [some (.ref 0), some (.ref 35), some (.int a0), some (.int a1), none, none] [] M (none, t) := by
  unfold f_X7_takeTriples_0_35 at h
  refine o_iconst (v := 0) k119_0 (by decide) ?_
  refine o_istore (v := 0) (L' := [some (.ref 0), some (.ref 35), some (.int a0), some (.int a1), some (.int 0), none]) k119_1 rfl rfl ?_
  refine bd_i h (fun s9 hs9 h => ?_)
  refine lp_o (fun s1 => ∀ (d2 : Option Value), oo LN xs 0 0 119 3 [some (.ref 0), some (.ref 35), some (.int a0), some (.int a1), some (.int s1.1), d2] [] s1.2 (none, t)) (fun s9 => ∀ (d10 : Option Value), oo LN xs 0 0 119 59 [some (.ref 0), some (.ref 35), some (.int a0), some (.int a1), some (.int s9.1), d10] [] s9.2 (none, t)) ?_ hs9 ?_ none
  · intro s1 ws1 h hK d2
    refine o_iload k119_3 rfl ?_
    refine o_iload_n k119_5 rfl ?_
    refine o_icmp_ge k119_6 (fun hc3 => ?_) (fun hc3 => ?_)
    · rw [if_pos hc3] at h
      have h9 := Option.some.inj h
      subst h9
      exact hK _
    · rw [if_neg hc3] at h
      refine o_iload_n k119_9 rfl ?_
      refine o_iconst (v := 3) k119_10 (by decide) ?_
      refine o_iload k119_11 rfl ?_
      refine o_imul k119_13 ?_
      refine o_iadd k119_14 ?_
      refine o_istore (v := (a0 + ((3 : Int32) * s1.1))) (L' := [some (.ref 0), some (.ref 35), some (.int a0), some (.int a1), some (.int s1.1), some (.int (a0 + ((3 : Int32) * s1.1)))]) k119_15 rfl rfl ?_
      refine o_aload_n k119_17 rfl ?_
      refine o_gf k119_18 (gf_0_2 _) ?_
      refine o_gf k119_21 (gf_9_7 _) ?_
      refine o_aload_n k119_24 rfl ?_
      refine o_gf k119_25 (gf_35_2 _) ?_
      refine o_iload k119_28 rfl ?_
      obtain ⟨hc4, h⟩ := ck_i h
      refine o_iald k119_30 rfl ia_36 hc4 ?_
      refine o_aload_n k119_31 rfl ?_
      refine o_gf k119_32 (gf_35_2 _) ?_
      refine o_iload k119_35 rfl ?_
      refine o_iconst (v := 1) k119_37 (by decide) ?_
      refine o_iadd k119_38 ?_
      obtain ⟨hc5, h⟩ := ck_i h
      refine o_iald k119_39 rfl ia_36 hc5 ?_
      refine o_call k119_40 pj_5 (fun _ => rfl) (by decide) rfl (as := [.int (s1.2 36 (a0 + ((3 : Int32) * s1.1)).toNatClampNeg), .int (s1.2 36 ((a0 + ((3 : Int32) * s1.1)) + 1).toNatClampNeg)]) (rest := [.ref 10]) rfl (L0 := [some (.int (s1.2 36 (a0 + ((3 : Int32) * s1.1)).toNatClampNeg)), some (.int (s1.2 36 ((a0 + ((3 : Int32) * s1.1)) + 1).toNatClampNeg))]) rfl (t_X0_at (M := s1.2) (a0 := (s1.2 36 (a0 + ((3 : Int32) * s1.1)).toNatClampNeg)) (a1 := (s1.2 36 ((a0 + ((3 : Int32) * s1.1)) + 1).toNatClampNeg)) rfl) ?_
      refine o_aload_n k119_43 rfl ?_
      refine o_gf k119_44 (gf_35_2 _) ?_
      refine o_iload k119_47 rfl ?_
      refine o_iconst (v := 2) k119_49 (by decide) ?_
      refine o_iadd k119_50 ?_
      obtain ⟨hc6, h⟩ := ck_i h
      refine o_iald k119_51 rfl ia_36 hc6 ?_
      obtain ⟨hc7, h⟩ := ck_i h
      refine bl_i h (fun M8 eM8 h => ?_)
      refine o_iast (M' := M8) k119_52 eM8 ia_10 hc7 ?_
      refine o_iinc (w := s1.1 + 1) (L' := [some (.ref 0), some (.ref 35), some (.int a0), some (.int a1), some (.int (s1.1 + 1)), some (.int (a0 + ((3 : Int32) * s1.1)))]) k119_53 rfl rfl rfl ?_
      refine o_goto k119_56 ?_
      have h9 := Option.some.inj h
      subst h9
      exact hK _
  · show ∀ (d10 : Option Value), oo LN xs 0 0 119 59 [some (.ref 0), some (.ref 35), some (.int a0), some (.int a1), some (.int s9.1), d10] [] s9.2 (none, t)
    intro d10
    have h9 := Option.some.inj h
    subst h9
    exact o_vret pj_119 k119_59 rfl
def f_X7_takeTriples_0_37 (a0 : Int32) (a1 : Int32) (M : am_M) : Option am_M := ((lp (σ := Int32 × am_M) (ρ := Int32 × am_M) (fun s1 => (if a1 ≤ s1.1 then (some (.inr (s1.1, s1.2))) else (if am_dbin (a0 + ((3 : Int32) * s1.1)) 40 = true then (if am_dbin ((a0 + ((3 : Int32) * s1.1)) + 1) 40 = true then (if am_dbin ((a0 + ((3 : Int32) * s1.1)) + 2) 40 = true then (if am_dbin (f_X0_at (s1.2 38 (a0 + ((3 : Int32) * s1.1)).toNatClampNeg) (s1.2 38 ((a0 + ((3 : Int32) * s1.1)) + 1).toNatClampNeg)) 64 = true then (bl (am_up s1.2 10 (f_X0_at (s1.2 38 (a0 + ((3 : Int32) * s1.1)).toNatClampNeg) (s1.2 38 ((a0 + ((3 : Int32) * s1.1)) + 1).toNatClampNeg)).toNatClampNeg (s1.2 38 ((a0 + ((3 : Int32) * s1.1)) + 2).toNatClampNeg)) (fun (M8 : am_M) => (some (.inl ((s1.1 + 1), M8))))) else none) else none) else none) else none))) lp_F (0, M)).bind (fun s9 => (some s9.2)))
set_option maxRecDepth 20000 in
theorem t_X7_takeTriples_0_37 {LN : Nat} {xs : Nat → Int32} {a0 : Int32} {a1 : Int32} {M : am_M} {t : am_M} (h : f_X7_takeTriples_0_37 a0 a1 M = some t) : oo LN xs 0 0 119 0 [some (.ref 0), some (.ref 37), some (.int a0), some (.int a1), none, none] [] M (none, t) := by
  unfold f_X7_takeTriples_0_37 at h
  refine o_iconst (v := 0) k119_0 (by decide) ?_
  refine o_istore (v := 0) (L' := [some (.ref 0), some (.ref 37), some (.int a0), some (.int a1), some (.int 0), none]) k119_1 rfl rfl ?_
  refine bd_i h (fun s9 hs9 h => ?_)
  refine lp_o (fun s1 => ∀ (d2 : Option Value), oo LN xs 0 0 119 3 [some (.ref 0), some (.ref 37), some (.int a0), some (.int a1), some (.int s1.1), d2] [] s1.2 (none, t)) (fun s9 => ∀ (d10 : Option Value), oo LN xs 0 0 119 59 [some (.ref 0), some (.ref 37), some (.int a0), some (.int a1), some (.int s9.1), d10] [] s9.2 (none, t)) ?_ hs9 ?_ none
  · intro s1 ws1 h hK d2
    refine o_iload k119_3 rfl ?_
    refine o_iload_n k119_5 rfl ?_
    refine o_icmp_ge k119_6 (fun hc3 => ?_) (fun hc3 => ?_)
    · rw [if_pos hc3] at h
      have h9 := Option.some.inj h
      subst h9
      exact hK _
    · rw [if_neg hc3] at h
      refine o_iload_n k119_9 rfl ?_
      refine o_iconst (v := 3) k119_10 (by decide) ?_
      refine o_iload k119_11 rfl ?_
      refine o_imul k119_13 ?_
      refine o_iadd k119_14 ?_
      refine o_istore (v := (a0 + ((3 : Int32) * s1.1))) (L' := [some (.ref 0), some (.ref 37), some (.int a0), some (.int a1), some (.int s1.1), some (.int (a0 + ((3 : Int32) * s1.1)))]) k119_15 rfl rfl ?_
      refine o_aload_n k119_17 rfl ?_
      refine o_gf k119_18 (gf_0_2 _) ?_
      refine o_gf k119_21 (gf_9_7 _) ?_
      refine o_aload_n k119_24 rfl ?_
      refine o_gf k119_25 (gf_37_2 _) ?_
      refine o_iload k119_28 rfl ?_
      obtain ⟨hc4, h⟩ := ck_i h
      refine o_iald k119_30 rfl ia_38 hc4 ?_
      refine o_aload_n k119_31 rfl ?_
      refine o_gf k119_32 (gf_37_2 _) ?_
      refine o_iload k119_35 rfl ?_
      refine o_iconst (v := 1) k119_37 (by decide) ?_
      refine o_iadd k119_38 ?_
      obtain ⟨hc5, h⟩ := ck_i h
      refine o_iald k119_39 rfl ia_38 hc5 ?_
      refine o_call k119_40 pj_5 (fun _ => rfl) (by decide) rfl (as := [.int (s1.2 38 (a0 + ((3 : Int32) * s1.1)).toNatClampNeg), .int (s1.2 38 ((a0 + ((3 : Int32) * s1.1)) + 1).toNatClampNeg)]) (rest := [.ref 10]) rfl (L0 := [some (.int (s1.2 38 (a0 + ((3 : Int32) * s1.1)).toNatClampNeg)), some (.int (s1.2 38 ((a0 + ((3 : Int32) * s1.1)) + 1).toNatClampNeg))]) rfl (t_X0_at (M := s1.2) (a0 := (s1.2 38 (a0 + ((3 : Int32) * s1.1)).toNatClampNeg)) (a1 := (s1.2 38 ((a0 + ((3 : Int32) * s1.1)) + 1).toNatClampNeg)) rfl) ?_
      refine o_aload_n k119_43 rfl ?_
      refine o_gf k119_44 (gf_37_2 _) ?_
      refine o_iload k119_47 rfl ?_
      refine o_iconst (v := 2) k119_49 (by decide) ?_
      refine o_iadd k119_50 ?_
      obtain ⟨hc6, h⟩ := ck_i h
      refine o_iald k119_51 rfl ia_38 hc6 ?_
      obtain ⟨hc7, h⟩ := ck_i h
      refine bl_i h (fun M8 eM8 h => ?_)
      refine o_iast (M' := M8) k119_52 eM8 ia_10 hc7 ?_
      refine o_iinc (w := s1.1 + 1) (L' := [some (.ref 0), some (.ref 37), some (.int a0), some (.int a1), some (.int (s1.1 + 1)), some (.int (a0 + ((3 : Int32) * s1.1)))]) k119_53 rfl rfl rfl ?_
      refine o_goto k119_56 ?_
      have h9 := Option.some.inj h
      subst h9
      exact hK _
  · show ∀ (d10 : Option Value), oo LN xs 0 0 119 59 [some (.ref 0), some (.ref 37), some (.int a0), some (.int a1), some (.int s9.1), d10] [] s9.2 (none, t)
    intro d10
    have h9 := Option.some.inj h
    subst h9
    exact o_vret pj_119 k119_59 rfl
def f_X7_takeTriples_0_39 (a0 : Int32) (a1 : Int32) (M : am_M) : Option am_M := ((lp (σ := Int32 × am_M) (ρ := Int32 × am_M) (fun s1 => (if a1 ≤ s1.1 then (some (.inr (s1.1, s1.2))) else (if am_dbin (a0 + ((3 : Int32) * s1.1)) 40 = true then (if am_dbin ((a0 + ((3 : Int32) * s1.1)) + 1) 40 = true then (if am_dbin ((a0 + ((3 : Int32) * s1.1)) + 2) 40 = true then (if am_dbin (f_X0_at (s1.2 40 (a0 + ((3 : Int32) * s1.1)).toNatClampNeg) (s1.2 40 ((a0 + ((3 : Int32) * s1.1)) + 1).toNatClampNeg)) 64 = true then (bl (am_up s1.2 10 (f_X0_at (s1.2 40 (a0 + ((3 : Int32) * s1.1)).toNatClampNeg) (s1.2 40 ((a0 + ((3 : Int32) * s1.1)) + 1).toNatClampNeg)).toNatClampNeg (s1.2 40 ((a0 + ((3 : Int32) * s1.1)) + 2).toNatClampNeg)) (fun (M8 : am_M) => (some (.inl ((s1.1 + 1), M8))))) else none) else none) else none) else none))) lp_F (0, M)).bind (fun s9 => (some s9.2)))
set_option maxRecDepth 20000 in
theorem t_X7_takeTriples_0_39 {LN : Nat} {xs : Nat → Int32} {a0 : Int32} {a1 : Int32} {M : am_M} {t : am_M} (h : f_X7_takeTriples_0_39 a0 a1 M = some t) : oo LN xs 0 0 119 0 [some (.ref 0), some (.ref 39), some (.int a0), some (.int a1), none, none] [] M (none, t) := by
  unfold f_X7_takeTriples_0_39 at h
  refine o_iconst (v := 0) k119_0 (by decide) ?_
  refine o_istore (v := 0) (L' := [some (.ref 0), some (.ref 39), some (.int a0), some (.int a1), some (.int 0), none]) k119_1 rfl rfl ?_
  refine bd_i h (fun s9 hs9 h => ?_)
  refine lp_o (fun s1 => ∀ (d2 : Option Value), oo LN xs 0 0 119 3 [some (.ref 0), some (.ref 39), some (.int a0), some (.int a1), some (.int s1.1), d2] [] s1.2 (none, t)) (fun s9 => ∀ (d10 : Option Value), oo LN xs 0 0 119 59 [some (.ref 0), some (.ref 39), some (.int a0), some (.int a1), some (.int s9.1), d10] [] s9.2 (none, t)) ?_ hs9 ?_ none
  · intro s1 ws1 h hK d2
    refine o_iload k119_3 rfl ?_
    refine o_iload_n k119_5 rfl ?_
    refine o_icmp_ge k119_6 (fun hc3 => ?_) (fun hc3 => ?_)
    · rw [if_pos hc3] at h
      have h9 := Option.some.inj h
      subst h9
      exact hK _
    · rw [if_neg hc3] at h
      refine o_iload_n k119_9 rfl ?_
      refine o_iconst (v := 3) k119_10 (by decide) ?_
      refine o_iload k119_11 rfl ?_
      refine o_imul k119_13 ?_
      refine o_iadd k119_14 ?_
      refine o_istore (v := (a0 + ((3 : Int32) * s1.1))) (L' := [some (.ref 0), some (.ref 39), some (.int a0), some (.int a1), some (.int s1.1), some (.int (a0 + ((3 : Int32) * s1.1)))]) k119_15 rfl rfl ?_
      refine o_aload_n k119_17 rfl ?_
      refine o_gf k119_18 (gf_0_2 _) ?_
      refine o_gf k119_21 (gf_9_7 _) ?_
      refine o_aload_n k119_24 rfl ?_
      refine o_gf k119_25 (gf_39_2 _) ?_
      refine o_iload k119_28 rfl ?_
      obtain ⟨hc4, h⟩ := ck_i h
      refine o_iald k119_30 rfl ia_40 hc4 ?_
      refine o_aload_n k119_31 rfl ?_
      refine o_gf k119_32 (gf_39_2 _) ?_
      refine o_iload k119_35 rfl ?_
      refine o_iconst (v := 1) k119_37 (by decide) ?_
      refine o_iadd k119_38 ?_
      obtain ⟨hc5, h⟩ := ck_i h
      refine o_iald k119_39 rfl ia_40 hc5 ?_
      refine o_call k119_40 pj_5 (fun _ => rfl) (by decide) rfl (as := [.int (s1.2 40 (a0 + ((3 : Int32) * s1.1)).toNatClampNeg), .int (s1.2 40 ((a0 + ((3 : Int32) * s1.1)) + 1).toNatClampNeg)]) (rest := [.ref 10]) rfl (L0 := [some (.int (s1.2 40 (a0 + ((3 : Int32) * s1.1)).toNatClampNeg)), some (.int (s1.2 40 ((a0 + ((3 : Int32) * s1.1)) + 1).toNatClampNeg))]) rfl (t_X0_at (M := s1.2) (a0 := (s1.2 40 (a0 + ((3 : Int32) * s1.1)).toNatClampNeg)) (a1 := (s1.2 40 ((a0 + ((3 : Int32) * s1.1)) + 1).toNatClampNeg)) rfl) ?_
      refine o_aload_n k119_43 rfl ?_
      refine o_gf k119_44 (gf_39_2 _) ?_
      refine o_iload k119_47 rfl ?_
      refine o_iconst (v := 2) k119_49 (by decide) ?_
      refine o_iadd k119_50 ?_
      obtain ⟨hc6, h⟩ := ck_i h
      refine o_iald k119_51 rfl ia_40 hc6 ?_
      obtain ⟨hc7, h⟩ := ck_i h
      refine bl_i h (fun M8 eM8 h => ?_)
      refine o_iast (M' := M8) k119_52 eM8 ia_10 hc7 ?_
      refine o_iinc (w := s1.1 + 1) (L' := [some (.ref 0), some (.ref 39), some (.int a0), some (.int a1), some (.int (s1.1 + 1)), some (.int (a0 + ((3 : Int32) * s1.1)))]) k119_53 rfl rfl rfl ?_
      refine o_goto k119_56 ?_
      have h9 := Option.some.inj h
      subst h9
      exact hK _
  · show ∀ (d10 : Option Value), oo LN xs 0 0 119 59 [some (.ref 0), some (.ref 39), some (.int a0), some (.int a1), some (.int s9.1), d10] [] s9.2 (none, t)
    intro d10
    have h9 := Option.some.inj h
    subst h9
    exact o_vret pj_119 k119_59 rfl
def f_X7_takeTriples_0_41 (a0 : Int32) (a1 : Int32) (M : am_M) : Option am_M := ((lp (σ := Int32 × am_M) (ρ := Int32 × am_M) (fun s1 => (if a1 ≤ s1.1 then (some (.inr (s1.1, s1.2))) else (if am_dbin (a0 + ((3 : Int32) * s1.1)) 40 = true then (if am_dbin ((a0 + ((3 : Int32) * s1.1)) + 1) 40 = true then (if am_dbin ((a0 + ((3 : Int32) * s1.1)) + 2) 40 = true then (if am_dbin (f_X0_at (s1.2 42 (a0 + ((3 : Int32) * s1.1)).toNatClampNeg) (s1.2 42 ((a0 + ((3 : Int32) * s1.1)) + 1).toNatClampNeg)) 64 = true then (bl (am_up s1.2 10 (f_X0_at (s1.2 42 (a0 + ((3 : Int32) * s1.1)).toNatClampNeg) (s1.2 42 ((a0 + ((3 : Int32) * s1.1)) + 1).toNatClampNeg)).toNatClampNeg (s1.2 42 ((a0 + ((3 : Int32) * s1.1)) + 2).toNatClampNeg)) (fun (M8 : am_M) => (some (.inl ((s1.1 + 1), M8))))) else none) else none) else none) else none))) lp_F (0, M)).bind (fun s9 => (some s9.2)))
set_option maxRecDepth 20000 in
theorem t_X7_takeTriples_0_41 {LN : Nat} {xs : Nat → Int32} {a0 : Int32} {a1 : Int32} {M : am_M} {t : am_M} (h : f_X7_takeTriples_0_41 a0 a1 M = some t) : oo LN xs 0 0 119 0 [some (.ref 0), some (.ref 41), some (.int a0), some (.int a1), none, none] [] M (none, t) := by
  unfold f_X7_takeTriples_0_41 at h
  refine o_iconst (v := 0) k119_0 (by decide) ?_
  refine o_istore (v := 0) (L' := [some (.ref 0), some (.ref 41), some (.int a0), some (.int a1), some (.int 0), none]) k119_1 rfl rfl ?_
  refine bd_i h (fun s9 hs9 h => ?_)
  refine lp_o (fun s1 => ∀ (d2 : Option Value), oo LN xs 0 0 119 3 [some (.ref 0), some (.ref 41), some (.int a0), some (.int a1), some (.int s1.1), d2] [] s1.2 (none, t)) (fun s9 => ∀ (d10 : Option Value), oo LN xs 0 0 119 59 [some (.ref 0), some (.ref 41), some (.int a0), some (.int a1), some (.int s9.1), d10] [] s9.2 (none, t)) ?_ hs9 ?_ none
  · intro s1 ws1 h hK d2
    refine o_iload k119_3 rfl ?_
    refine o_iload_n k119_5 rfl ?_
    refine o_icmp_ge k119_6 (fun hc3 => ?_) (fun hc3 => ?_)
    · rw [if_pos hc3] at h
      have h9 := Option.some.inj h
      subst h9
      exact hK _
    · rw [if_neg hc3] at h
      refine o_iload_n k119_9 rfl ?_
      refine o_iconst (v := 3) k119_10 (by decide) ?_
      refine o_iload k119_11 rfl ?_
      refine o_imul k119_13 ?_
      refine o_iadd k119_14 ?_
      refine o_istore (v := (a0 + ((3 : Int32) * s1.1))) (L' := [some (.ref 0), some (.ref 41), some (.int a0), some (.int a1), some (.int s1.1), some (.int (a0 + ((3 : Int32) * s1.1)))]) k119_15 rfl rfl ?_
      refine o_aload_n k119_17 rfl ?_
      refine o_gf k119_18 (gf_0_2 _) ?_
      refine o_gf k119_21 (gf_9_7 _) ?_
      refine o_aload_n k119_24 rfl ?_
      refine o_gf k119_25 (gf_41_2 _) ?_
      refine o_iload k119_28 rfl ?_
      obtain ⟨hc4, h⟩ := ck_i h
      refine o_iald k119_30 rfl ia_42 hc4 ?_
      refine o_aload_n k119_31 rfl ?_
      refine o_gf k119_32 (gf_41_2 _) ?_
      refine o_iload k119_35 rfl ?_
      refine o_iconst (v := 1) k119_37 (by decide) ?_
      refine o_iadd k119_38 ?_
      obtain ⟨hc5, h⟩ := ck_i h
      refine o_iald k119_39 rfl ia_42 hc5 ?_
      refine o_call k119_40 pj_5 (fun _ => rfl) (by decide) rfl (as := [.int (s1.2 42 (a0 + ((3 : Int32) * s1.1)).toNatClampNeg), .int (s1.2 42 ((a0 + ((3 : Int32) * s1.1)) + 1).toNatClampNeg)]) (rest := [.ref 10]) rfl (L0 := [some (.int (s1.2 42 (a0 + ((3 : Int32) * s1.1)).toNatClampNeg)), some (.int (s1.2 42 ((a0 + ((3 : Int32) * s1.1)) + 1).toNatClampNeg))]) rfl (t_X0_at (M := s1.2) (a0 := (s1.2 42 (a0 + ((3 : Int32) * s1.1)).toNatClampNeg)) (a1 := (s1.2 42 ((a0 + ((3 : Int32) * s1.1)) + 1).toNatClampNeg)) rfl) ?_
      refine o_aload_n k119_43 rfl ?_
      refine o_gf k119_44 (gf_41_2 _) ?_
      refine o_iload k119_47 rfl ?_
      refine o_iconst (v := 2) k119_49 (by decide) ?_
      refine o_iadd k119_50 ?_
      obtain ⟨hc6, h⟩ := ck_i h
      refine o_iald k119_51 rfl ia_42 hc6 ?_
      obtain ⟨hc7, h⟩ := ck_i h
      refine bl_i h (fun M8 eM8 h => ?_)
      refine o_iast (M' := M8) k119_52 eM8 ia_10 hc7 ?_
      refine o_iinc (w := s1.1 + 1) (L' := [some (.ref 0), some (.ref 41), some (.int a0), some (.int a1), some (.int (s1.1 + 1)), some (.int (a0 + ((3 : Int32) * s1.1)))]) k119_53 rfl rfl rfl ?_
      refine o_goto k119_56 ?_
      have h9 := Option.some.inj h
      subst h9
      exact hK _
  · show ∀ (d10 : Option Value), oo LN xs 0 0 119 59 [some (.ref 0), some (.ref 41), some (.int a0), some (.int a1), some (.int s9.1), d10] [] s9.2 (none, t)
    intro d10
    have h9 := Option.some.inj h
    subst h9
    exact o_vret pj_119 k119_59 rfl
def f_X7_read_0 (a0 : Int32) (a1 : Int32) (a2 : Int32) (a3 : Int32) (M : am_M) : Option (Int32 × am_M) := (if (f_X7_isSheet a0) = 0 then (some ((-1), M)) else (if (f_X7_isLane a1) = 0 then (some ((-1), M)) else (if a3 < 0 then (some ((-1), M)) else (if a3 ≤ 13 then (if a0 = 0 then ((lp (σ := Int32 × Int32 × Int32) (ρ := (Int32 × am_M) ⊕ (Int32 × Int32 × Int32)) (fun s5 => (if a3 ≤ s5.2.2 then (some (.inr (.inr (s5.1, s5.2.1, s5.2.2)))) else (if s5.2.1 = 0 then (if (f_X3_faultAt_35 a1 (a2 + ((3 : Int32) * s5.2.2)) 3 M) = 0 then (if am_dbin (a2 + ((3 : Int32) * s5.2.2)) 40 = true then (if am_dbin ((a2 + ((3 : Int32) * s5.2.2)) + 1) 40 = true then (if am_dbin ((a2 + ((3 : Int32) * s5.2.2)) + 2) 40 = true then (if (f_X0_takes_9 (M 36 (a2 + ((3 : Int32) * s5.2.2)).toNatClampNeg) (M 36 ((a2 + ((3 : Int32) * s5.2.2)) + 1).toNatClampNeg) (M 36 ((a2 + ((3 : Int32) * s5.2.2)) + 2).toNatClampNeg) M) = 0 then (some (.inr (.inl ((((-20) : Int32) - s5.2.2), M)))) else (some (.inl ((s5.1 + 1), (f_X3_faultAt_35 a1 (a2 + ((3 : Int32) * s5.2.2)) 3 M), (s5.2.2 + 1))))) else none) else none) else none) else (some (.inl (s5.1, (f_X3_faultAt_35 a1 (a2 + ((3 : Int32) * s5.2.2)) 3 M), (s5.2.2 + 1))))) else (some (.inr (.inr (s5.1, s5.2.1, s5.2.2))))))) lp_F (0, 0, 0)).bind (fun os14 => Sum.elim (fun u => (some u)) (fun s14 => ((f_X7_takeTriples_0_35 a2 s14.1 M).bind (fun q16 => (bl (am_up q16 0 8 s14.2.1) (fun (M17 : am_M) => (some (s14.1, M17))))))) os14)) else (if a0 = 1 then ((lp (σ := Int32 × Int32 × Int32) (ρ := (Int32 × am_M) ⊕ (Int32 × Int32 × Int32)) (fun s18 => (if a3 ≤ s18.2.2 then (some (.inr (.inr (s18.1, s18.2.1, s18.2.2)))) else (if s18.2.1 = 0 then (if (f_X3_faultAt_37 a1 (a2 + ((3 : Int32) * s18.2.2)) 3 M) = 0 then (if am_dbin (a2 + ((3 : Int32) * s18.2.2)) 40 = true then (if am_dbin ((a2 + ((3 : Int32) * s18.2.2)) + 1) 40 = true then (if am_dbin ((a2 + ((3 : Int32) * s18.2.2)) + 2) 40 = true then (if (f_X0_takes_9 (M 38 (a2 + ((3 : Int32) * s18.2.2)).toNatClampNeg) (M 38 ((a2 + ((3 : Int32) * s18.2.2)) + 1).toNatClampNeg) (M 38 ((a2 + ((3 : Int32) * s18.2.2)) + 2).toNatClampNeg) M) = 0 then (some (.inr (.inl ((((-20) : Int32) - s18.2.2), M)))) else (some (.inl ((s18.1 + 1), (f_X3_faultAt_37 a1 (a2 + ((3 : Int32) * s18.2.2)) 3 M), (s18.2.2 + 1))))) else none) else none) else none) else (some (.inl (s18.1, (f_X3_faultAt_37 a1 (a2 + ((3 : Int32) * s18.2.2)) 3 M), (s18.2.2 + 1))))) else (some (.inr (.inr (s18.1, s18.2.1, s18.2.2))))))) lp_F (0, 0, 0)).bind (fun os27 => Sum.elim (fun u => (some u)) (fun s27 => ((f_X7_takeTriples_0_37 a2 s27.1 M).bind (fun q29 => (bl (am_up q29 0 8 s27.2.1) (fun (M30 : am_M) => (some (s27.1, M30))))))) os27)) else (if a0 = 2 then ((lp (σ := Int32 × Int32 × Int32) (ρ := (Int32 × am_M) ⊕ (Int32 × Int32 × Int32)) (fun s31 => (if a3 ≤ s31.2.2 then (some (.inr (.inr (s31.1, s31.2.1, s31.2.2)))) else (if s31.2.1 = 0 then (if (f_X3_faultAt_39 a1 (a2 + ((3 : Int32) * s31.2.2)) 3 M) = 0 then (if am_dbin (a2 + ((3 : Int32) * s31.2.2)) 40 = true then (if am_dbin ((a2 + ((3 : Int32) * s31.2.2)) + 1) 40 = true then (if am_dbin ((a2 + ((3 : Int32) * s31.2.2)) + 2) 40 = true then (if (f_X0_takes_9 (M 40 (a2 + ((3 : Int32) * s31.2.2)).toNatClampNeg) (M 40 ((a2 + ((3 : Int32) * s31.2.2)) + 1).toNatClampNeg) (M 40 ((a2 + ((3 : Int32) * s31.2.2)) + 2).toNatClampNeg) M) = 0 then (some (.inr (.inl ((((-20) : Int32) - s31.2.2), M)))) else (some (.inl ((s31.1 + 1), (f_X3_faultAt_39 a1 (a2 + ((3 : Int32) * s31.2.2)) 3 M), (s31.2.2 + 1))))) else none) else none) else none) else (some (.inl (s31.1, (f_X3_faultAt_39 a1 (a2 + ((3 : Int32) * s31.2.2)) 3 M), (s31.2.2 + 1))))) else (some (.inr (.inr (s31.1, s31.2.1, s31.2.2))))))) lp_F (0, 0, 0)).bind (fun os40 => Sum.elim (fun u => (some u)) (fun s40 => ((f_X7_takeTriples_0_39 a2 s40.1 M).bind (fun q42 => (bl (am_up q42 0 8 s40.2.1) (fun (M43 : am_M) => (some (s40.1, M43))))))) os40)) else (if a0 = 3 then ((lp (σ := Int32 × Int32 × Int32) (ρ := (Int32 × am_M) ⊕ (Int32 × Int32 × Int32)) (fun s44 => (if a3 ≤ s44.2.2 then (some (.inr (.inr (s44.1, s44.2.1, s44.2.2)))) else (if s44.2.1 = 0 then (if (f_X3_faultAt_41 a1 (a2 + ((3 : Int32) * s44.2.2)) 3 M) = 0 then (if am_dbin (a2 + ((3 : Int32) * s44.2.2)) 40 = true then (if am_dbin ((a2 + ((3 : Int32) * s44.2.2)) + 1) 40 = true then (if am_dbin ((a2 + ((3 : Int32) * s44.2.2)) + 2) 40 = true then (if (f_X0_takes_9 (M 42 (a2 + ((3 : Int32) * s44.2.2)).toNatClampNeg) (M 42 ((a2 + ((3 : Int32) * s44.2.2)) + 1).toNatClampNeg) (M 42 ((a2 + ((3 : Int32) * s44.2.2)) + 2).toNatClampNeg) M) = 0 then (some (.inr (.inl ((((-20) : Int32) - s44.2.2), M)))) else (some (.inl ((s44.1 + 1), (f_X3_faultAt_41 a1 (a2 + ((3 : Int32) * s44.2.2)) 3 M), (s44.2.2 + 1))))) else none) else none) else none) else (some (.inl (s44.1, (f_X3_faultAt_41 a1 (a2 + ((3 : Int32) * s44.2.2)) 3 M), (s44.2.2 + 1))))) else (some (.inr (.inr (s44.1, s44.2.1, s44.2.2))))))) lp_F (0, 0, 0)).bind (fun os53 => Sum.elim (fun u => (some u)) (fun s53 => ((f_X7_takeTriples_0_41 a2 s53.1 M).bind (fun q55 => (bl (am_up q55 0 8 s53.2.1) (fun (M56 : am_M) => (some (s53.1, M56))))))) os53)) else none)))) else (some ((-1), M))))))
set_option maxRecDepth 20000 in
theorem t_X7_read_0 {LN : Nat} {xs : Nat → Int32} {a0 : Int32} {a1 : Int32} {a2 : Int32} {a3 : Int32} {M : am_M} {t : Int32 × am_M} (h : f_X7_read_0 a0 a1 a2 a3 M = some t) : oo LN xs 0 0 116 0 [some (.ref 0), some (.int a0), some (.int a1), some (.int a2), some (.int a3), none, none, none, none, none] [] M (some (.int t.1), t.2) := by
  unfold f_X7_read_0 at h
  refine o_iload_n k116_0 rfl ?_
  refine o_call k116_1 pj_122 (fun _ => rfl) (by decide) rfl (as := [.int a0]) (rest := []) rfl (L0 := [some (.int a0)]) rfl (t_X7_isSheet (M := M) (a0 := a0) rfl) ?_
  refine o_if_eq k116_4 (fun hc1 => ?_) (fun hc1 => ?_)
  · rw [if_pos hc1] at h
    refine o_iconst (v := (-1)) k116_26 (by decide) ?_
    have h9 := Option.some.inj h
    subst h9
    exact o_iret pj_116 k116_27 rfl nr_i
  · rw [if_neg hc1] at h
    refine o_iload_n k116_7 rfl ?_
    refine o_call k116_8 pj_123 (fun _ => rfl) (by decide) rfl (as := [.int a1]) (rest := []) rfl (L0 := [some (.int a1)]) rfl (t_X7_isLane (M := M) (a0 := a1) rfl) ?_
    refine o_if_eq k116_11 (fun hc2 => ?_) (fun hc2 => ?_)
    · rw [if_pos hc2] at h
      refine o_iconst (v := (-1)) k116_26 (by decide) ?_
      have h9 := Option.some.inj h
      subst h9
      exact o_iret pj_116 k116_27 rfl nr_i
    · rw [if_neg hc2] at h
      refine o_iload k116_14 rfl ?_
      refine o_if_lt k116_16 (fun hc3 => ?_) (fun hc3 => ?_)
      · rw [if_pos hc3] at h
        refine o_iconst (v := (-1)) k116_26 (by decide) ?_
        have h9 := Option.some.inj h
        subst h9
        exact o_iret pj_116 k116_27 rfl nr_i
      · rw [if_neg hc3] at h
        refine o_iload k116_19 rfl ?_
        refine o_bipush (v := 13) k116_21 (by decide) ?_
        refine o_icmp_le k116_23 (fun hc4 => ?_) (fun hc4 => ?_)
        · rw [if_pos hc4] at h
          refine o_aload_n k116_28 rfl ?_
          refine o_gf k116_29 (gf_0_7 _) ?_
          refine o_iload_n k116_32 rfl ?_
          by_cases hX1 : a0 = 0
          · rw [if_pos hX1] at h
            refine o_aald (v := .ref 35) k116_33 (by rw [hX1]; exact aal_34_0) ?_
            refine o_astore (L' := [some (.ref 0), some (.int a0), some (.int a1), some (.int a2), some (.int a3), some (.ref 35), none, none, none, none]) k116_34 rfl rfl ?_
            refine o_iconst (v := 0) k116_36 (by decide) ?_
            refine o_istore (v := 0) (L' := [some (.ref 0), some (.int a0), some (.int a1), some (.int a2), some (.int a3), some (.ref 35), some (.int 0), none, none, none]) k116_37 rfl rfl ?_
            refine o_iconst (v := 0) k116_39 (by decide) ?_
            refine o_istore (v := 0) (L' := [some (.ref 0), some (.int a0), some (.int a1), some (.int a2), some (.int a3), some (.ref 35), some (.int 0), some (.int 0), none, none]) k116_40 rfl rfl ?_
            refine o_iconst (v := 0) k116_42 (by decide) ?_
            refine o_istore (v := 0) (L' := [some (.ref 0), some (.int a0), some (.int a1), some (.int a2), some (.int a3), some (.ref 35), some (.int 0), some (.int 0), some (.int 0), none]) k116_43 rfl rfl ?_
            refine bd_i h (fun Os14 hOs14 h => ?_)
            refine lp_o (fun s5 => ∀ (d6 : Option Value), oo LN xs 0 0 116 45 [some (.ref 0), some (.int a0), some (.int a1), some (.int a2), some (.int a3), some (.ref 35), some (.int s5.1), some (.int s5.2.1), some (.int s5.2.2), d6] [] M (some (.int t.1), t.2)) (fun oq => Sum.elim (fun u => u = t) (fun s14 => ∀ (d15 : Option Value), oo LN xs 0 0 116 134 [some (.ref 0), some (.int a0), some (.int a1), some (.int a2), some (.int a3), some (.ref 35), some (.int s14.1), some (.int s14.2.1), some (.int s14.2.2), d15] [] M (some (.int t.1), t.2)) oq) ?_ hOs14 ?_ none
            · intro s5 ws5 h hK d6
              refine o_iload k116_45 rfl ?_
              refine o_iload k116_47 rfl ?_
              refine o_icmp_ge k116_49 (fun hc7 => ?_) (fun hc7 => ?_)
              · rw [if_pos hc7] at h
                have h9 := Option.some.inj h
                subst h9
                exact hK _
              · rw [if_neg hc7] at h
                refine o_iload k116_52 rfl ?_
                refine o_if_ne k116_54 (fun hc8 => ?_) (fun hc8 => ?_)
                · rw [if_neg hc8] at h
                  have h9 := Option.some.inj h
                  subst h9
                  exact hK _
                · rw [if_pos hc8] at h
                  refine o_iload_n k116_57 rfl ?_
                  refine o_iconst (v := 3) k116_58 (by decide) ?_
                  refine o_iload k116_59 rfl ?_
                  refine o_imul k116_61 ?_
                  refine o_iadd k116_62 ?_
                  refine o_istore (v := (a2 + ((3 : Int32) * s5.2.2))) (L' := [some (.ref 0), some (.int a0), some (.int a1), some (.int a2), some (.int a3), some (.ref 35), some (.int s5.1), some (.int s5.2.1), some (.int s5.2.2), some (.int (a2 + ((3 : Int32) * s5.2.2)))]) k116_63 rfl rfl ?_
                  refine o_aload k116_65 rfl ?_
                  refine o_iload_n k116_67 rfl ?_
                  refine o_iload k116_68 rfl ?_
                  refine o_iconst (v := 3) k116_70 (by decide) ?_
                  refine o_call k116_71 pj_47 (fun _ => rfl) (by decide) rfl (as := [.ref 35, .int a1, .int (a2 + ((3 : Int32) * s5.2.2)), .int 3]) (rest := []) rfl (L0 := [some (.ref 35), some (.int a1), some (.int (a2 + ((3 : Int32) * s5.2.2))), some (.int 3)]) rfl (t_X3_faultAt_35 (M := M) (a0 := a1) (a1 := (a2 + ((3 : Int32) * s5.2.2))) (a2 := 3) rfl) ?_
                  refine o_istore (v := (f_X3_faultAt_35 a1 (a2 + ((3 : Int32) * s5.2.2)) 3 M)) (L' := [some (.ref 0), some (.int a0), some (.int a1), some (.int a2), some (.int a3), some (.ref 35), some (.int s5.1), some (.int (f_X3_faultAt_35 a1 (a2 + ((3 : Int32) * s5.2.2)) 3 M)), some (.int s5.2.2), some (.int (a2 + ((3 : Int32) * s5.2.2)))]) k116_74 rfl rfl ?_
                  refine o_iload k116_76 rfl ?_
                  refine o_if_ne k116_78 (fun hc9 => ?_) (fun hc9 => ?_)
                  · rw [if_neg hc9] at h
                    refine o_iinc (w := s5.2.2 + 1) (L' := [some (.ref 0), some (.int a0), some (.int a1), some (.int a2), some (.int a3), some (.ref 35), some (.int s5.1), some (.int (f_X3_faultAt_35 a1 (a2 + ((3 : Int32) * s5.2.2)) 3 M)), some (.int (s5.2.2 + 1)), some (.int (a2 + ((3 : Int32) * s5.2.2)))]) k116_128 rfl rfl rfl ?_
                    refine o_goto k116_131 ?_
                    have h9 := Option.some.inj h
                    subst h9
                    exact hK _
                  · rw [if_pos hc9] at h
                    refine o_aload_n k116_81 rfl ?_
                    refine o_gf k116_82 (gf_0_2 _) ?_
                    refine o_aload k116_85 rfl ?_
                    refine o_gf k116_87 (gf_35_2 _) ?_
                    refine o_iload k116_90 rfl ?_
                    obtain ⟨hc10, h⟩ := ck_i h
                    refine o_iald k116_92 rfl ia_36 hc10 ?_
                    refine o_aload k116_93 rfl ?_
                    refine o_gf k116_95 (gf_35_2 _) ?_
                    refine o_iload k116_98 rfl ?_
                    refine o_iconst (v := 1) k116_100 (by decide) ?_
                    refine o_iadd k116_101 ?_
                    obtain ⟨hc11, h⟩ := ck_i h
                    refine o_iald k116_102 rfl ia_36 hc11 ?_
                    refine o_aload k116_103 rfl ?_
                    refine o_gf k116_105 (gf_35_2 _) ?_
                    refine o_iload k116_108 rfl ?_
                    refine o_iconst (v := 2) k116_110 (by decide) ?_
                    refine o_iadd k116_111 ?_
                    obtain ⟨hc12, h⟩ := ck_i h
                    refine o_iald k116_112 rfl ia_36 hc12 ?_
                    refine o_call k116_113 pj_9 (fun _ => rfl) (by decide) rfl (as := [.ref 9, .int (M 36 (a2 + ((3 : Int32) * s5.2.2)).toNatClampNeg), .int (M 36 ((a2 + ((3 : Int32) * s5.2.2)) + 1).toNatClampNeg), .int (M 36 ((a2 + ((3 : Int32) * s5.2.2)) + 2).toNatClampNeg)]) (rest := []) rfl (L0 := [some (.ref 9), some (.int (M 36 (a2 + ((3 : Int32) * s5.2.2)).toNatClampNeg)), some (.int (M 36 ((a2 + ((3 : Int32) * s5.2.2)) + 1).toNatClampNeg)), some (.int (M 36 ((a2 + ((3 : Int32) * s5.2.2)) + 2).toNatClampNeg))]) rfl (t_X0_takes_9 (M := M) (a0 := (M 36 (a2 + ((3 : Int32) * s5.2.2)).toNatClampNeg)) (a1 := (M 36 ((a2 + ((3 : Int32) * s5.2.2)) + 1).toNatClampNeg)) (a2 := (M 36 ((a2 + ((3 : Int32) * s5.2.2)) + 2).toNatClampNeg)) rfl) ?_
                    refine o_if_ne k116_116 (fun hc13 => ?_) (fun hc13 => ?_)
                    · rw [if_neg hc13] at h
                      refine o_iinc (w := s5.1 + 1) (L' := [some (.ref 0), some (.int a0), some (.int a1), some (.int a2), some (.int a3), some (.ref 35), some (.int (s5.1 + 1)), some (.int (f_X3_faultAt_35 a1 (a2 + ((3 : Int32) * s5.2.2)) 3 M)), some (.int s5.2.2), some (.int (a2 + ((3 : Int32) * s5.2.2)))]) k116_125 rfl rfl rfl ?_
                      refine o_iinc (w := s5.2.2 + 1) (L' := [some (.ref 0), some (.int a0), some (.int a1), some (.int a2), some (.int a3), some (.ref 35), some (.int (s5.1 + 1)), some (.int (f_X3_faultAt_35 a1 (a2 + ((3 : Int32) * s5.2.2)) 3 M)), some (.int (s5.2.2 + 1)), some (.int (a2 + ((3 : Int32) * s5.2.2)))]) k116_128 rfl rfl rfl ?_
                      refine o_goto k116_131 ?_
                      have h9 := Option.some.inj h
                      subst h9
                      exact hK _
                    · rw [if_pos hc13] at h
                      refine o_bipush (v := (-20)) k116_119 (by decide) ?_
                      refine o_iload k116_121 rfl ?_
                      refine o_isub k116_123 ?_
                      have h9 := Option.some.inj h
                      subst h9
                      have hK2 : ((((-20) : Int32) - s5.2.2), M) = t := hK
                      subst hK2
                      exact o_iret pj_116 k116_124 rfl nr_i
            · rcases Os14 with u | s14
              · exact Option.some.inj h
              · show ∀ (d15 : Option Value), oo LN xs 0 0 116 134 [some (.ref 0), some (.int a0), some (.int a1), some (.int a2), some (.int a3), some (.ref 35), some (.int s14.1), some (.int s14.2.1), some (.int s14.2.2), d15] [] M (some (.int t.1), t.2)
                replace h : ((f_X7_takeTriples_0_35 a2 s14.1 M).bind (fun q16 => (bl (am_up q16 0 8 s14.2.1) (fun (M17 : am_M) => (some (s14.1, M17)))))) = some t := h
                intro d15
                refine o_aload_n k116_134 rfl ?_
                refine o_aload k116_135 rfl ?_
                refine o_iload_n k116_137 rfl ?_
                refine o_iload k116_138 rfl ?_
                refine bd_i h (fun q16 hq16 h => ?_)
                refine o_call k116_140 pj_119 (fun _ => rfl) (by decide) rfl (as := [.ref 0, .ref 35, .int a2, .int s14.1]) (rest := []) rfl (L0 := [some (.ref 0), some (.ref 35), some (.int a2), some (.int s14.1), none, none]) rfl (t_X7_takeTriples_0_35 hq16) ?_
                refine o_aload_n k116_143 rfl ?_
                refine o_iload k116_144 rfl ?_
                refine bl_i h (fun M17 eM17 h => ?_)
                refine o_pf (M' := M17) k116_146 (pf_0_8 eM17) ?_
                refine o_iload k116_149 rfl ?_
                have h9 := Option.some.inj h
                subst h9
                exact o_iret pj_116 k116_151 rfl nr_i
          rw [if_neg hX1] at h
          by_cases hX2 : a0 = 1
          · rw [if_pos hX2] at h
            refine o_aald (v := .ref 37) k116_33 (by rw [hX2]; exact aal_34_1) ?_
            refine o_astore (L' := [some (.ref 0), some (.int a0), some (.int a1), some (.int a2), some (.int a3), some (.ref 37), none, none, none, none]) k116_34 rfl rfl ?_
            refine o_iconst (v := 0) k116_36 (by decide) ?_
            refine o_istore (v := 0) (L' := [some (.ref 0), some (.int a0), some (.int a1), some (.int a2), some (.int a3), some (.ref 37), some (.int 0), none, none, none]) k116_37 rfl rfl ?_
            refine o_iconst (v := 0) k116_39 (by decide) ?_
            refine o_istore (v := 0) (L' := [some (.ref 0), some (.int a0), some (.int a1), some (.int a2), some (.int a3), some (.ref 37), some (.int 0), some (.int 0), none, none]) k116_40 rfl rfl ?_
            refine o_iconst (v := 0) k116_42 (by decide) ?_
            refine o_istore (v := 0) (L' := [some (.ref 0), some (.int a0), some (.int a1), some (.int a2), some (.int a3), some (.ref 37), some (.int 0), some (.int 0), some (.int 0), none]) k116_43 rfl rfl ?_
            refine bd_i h (fun Os27 hOs27 h => ?_)
            refine lp_o (fun s18 => ∀ (d19 : Option Value), oo LN xs 0 0 116 45 [some (.ref 0), some (.int a0), some (.int a1), some (.int a2), some (.int a3), some (.ref 37), some (.int s18.1), some (.int s18.2.1), some (.int s18.2.2), d19] [] M (some (.int t.1), t.2)) (fun oq => Sum.elim (fun u => u = t) (fun s27 => ∀ (d28 : Option Value), oo LN xs 0 0 116 134 [some (.ref 0), some (.int a0), some (.int a1), some (.int a2), some (.int a3), some (.ref 37), some (.int s27.1), some (.int s27.2.1), some (.int s27.2.2), d28] [] M (some (.int t.1), t.2)) oq) ?_ hOs27 ?_ none
            · intro s18 ws18 h hK d19
              refine o_iload k116_45 rfl ?_
              refine o_iload k116_47 rfl ?_
              refine o_icmp_ge k116_49 (fun hc20 => ?_) (fun hc20 => ?_)
              · rw [if_pos hc20] at h
                have h9 := Option.some.inj h
                subst h9
                exact hK _
              · rw [if_neg hc20] at h
                refine o_iload k116_52 rfl ?_
                refine o_if_ne k116_54 (fun hc21 => ?_) (fun hc21 => ?_)
                · rw [if_neg hc21] at h
                  have h9 := Option.some.inj h
                  subst h9
                  exact hK _
                · rw [if_pos hc21] at h
                  refine o_iload_n k116_57 rfl ?_
                  refine o_iconst (v := 3) k116_58 (by decide) ?_
                  refine o_iload k116_59 rfl ?_
                  refine o_imul k116_61 ?_
                  refine o_iadd k116_62 ?_
                  refine o_istore (v := (a2 + ((3 : Int32) * s18.2.2))) (L' := [some (.ref 0), some (.int a0), some (.int a1), some (.int a2), some (.int a3), some (.ref 37), some (.int s18.1), some (.int s18.2.1), some (.int s18.2.2), some (.int (a2 + ((3 : Int32) * s18.2.2)))]) k116_63 rfl rfl ?_
                  refine o_aload k116_65 rfl ?_
                  refine o_iload_n k116_67 rfl ?_
                  refine o_iload k116_68 rfl ?_
                  refine o_iconst (v := 3) k116_70 (by decide) ?_
                  refine o_call k116_71 pj_47 (fun _ => rfl) (by decide) rfl (as := [.ref 37, .int a1, .int (a2 + ((3 : Int32) * s18.2.2)), .int 3]) (rest := []) rfl (L0 := [some (.ref 37), some (.int a1), some (.int (a2 + ((3 : Int32) * s18.2.2))), some (.int 3)]) rfl (t_X3_faultAt_37 (M := M) (a0 := a1) (a1 := (a2 + ((3 : Int32) * s18.2.2))) (a2 := 3) rfl) ?_
                  refine o_istore (v := (f_X3_faultAt_37 a1 (a2 + ((3 : Int32) * s18.2.2)) 3 M)) (L' := [some (.ref 0), some (.int a0), some (.int a1), some (.int a2), some (.int a3), some (.ref 37), some (.int s18.1), some (.int (f_X3_faultAt_37 a1 (a2 + ((3 : Int32) * s18.2.2)) 3 M)), some (.int s18.2.2), some (.int (a2 + ((3 : Int32) * s18.2.2)))]) k116_74 rfl rfl ?_
                  refine o_iload k116_76 rfl ?_
                  refine o_if_ne k116_78 (fun hc22 => ?_) (fun hc22 => ?_)
                  · rw [if_neg hc22] at h
                    refine o_iinc (w := s18.2.2 + 1) (L' := [some (.ref 0), some (.int a0), some (.int a1), some (.int a2), some (.int a3), some (.ref 37), some (.int s18.1), some (.int (f_X3_faultAt_37 a1 (a2 + ((3 : Int32) * s18.2.2)) 3 M)), some (.int (s18.2.2 + 1)), some (.int (a2 + ((3 : Int32) * s18.2.2)))]) k116_128 rfl rfl rfl ?_
                    refine o_goto k116_131 ?_
                    have h9 := Option.some.inj h
                    subst h9
                    exact hK _
                  · rw [if_pos hc22] at h
                    refine o_aload_n k116_81 rfl ?_
                    refine o_gf k116_82 (gf_0_2 _) ?_
                    refine o_aload k116_85 rfl ?_
                    refine o_gf k116_87 (gf_37_2 _) ?_
                    refine o_iload k116_90 rfl ?_
                    obtain ⟨hc23, h⟩ := ck_i h
                    refine o_iald k116_92 rfl ia_38 hc23 ?_
                    refine o_aload k116_93 rfl ?_
                    refine o_gf k116_95 (gf_37_2 _) ?_
                    refine o_iload k116_98 rfl ?_
                    refine o_iconst (v := 1) k116_100 (by decide) ?_
                    refine o_iadd k116_101 ?_
                    obtain ⟨hc24, h⟩ := ck_i h
                    refine o_iald k116_102 rfl ia_38 hc24 ?_
                    refine o_aload k116_103 rfl ?_
                    refine o_gf k116_105 (gf_37_2 _) ?_
                    refine o_iload k116_108 rfl ?_
                    refine o_iconst (v := 2) k116_110 (by decide) ?_
                    refine o_iadd k116_111 ?_
                    obtain ⟨hc25, h⟩ := ck_i h
                    refine o_iald k116_112 rfl ia_38 hc25 ?_
                    refine o_call k116_113 pj_9 (fun _ => rfl) (by decide) rfl (as := [.ref 9, .int (M 38 (a2 + ((3 : Int32) * s18.2.2)).toNatClampNeg), .int (M 38 ((a2 + ((3 : Int32) * s18.2.2)) + 1).toNatClampNeg), .int (M 38 ((a2 + ((3 : Int32) * s18.2.2)) + 2).toNatClampNeg)]) (rest := []) rfl (L0 := [some (.ref 9), some (.int (M 38 (a2 + ((3 : Int32) * s18.2.2)).toNatClampNeg)), some (.int (M 38 ((a2 + ((3 : Int32) * s18.2.2)) + 1).toNatClampNeg)), some (.int (M 38 ((a2 + ((3 : Int32) * s18.2.2)) + 2).toNatClampNeg))]) rfl (t_X0_takes_9 (M := M) (a0 := (M 38 (a2 + ((3 : Int32) * s18.2.2)).toNatClampNeg)) (a1 := (M 38 ((a2 + ((3 : Int32) * s18.2.2)) + 1).toNatClampNeg)) (a2 := (M 38 ((a2 + ((3 : Int32) * s18.2.2)) + 2).toNatClampNeg)) rfl) ?_
                    refine o_if_ne k116_116 (fun hc26 => ?_) (fun hc26 => ?_)
                    · rw [if_neg hc26] at h
                      refine o_iinc (w := s18.1 + 1) (L' := [some (.ref 0), some (.int a0), some (.int a1), some (.int a2), some (.int a3), some (.ref 37), some (.int (s18.1 + 1)), some (.int (f_X3_faultAt_37 a1 (a2 + ((3 : Int32) * s18.2.2)) 3 M)), some (.int s18.2.2), some (.int (a2 + ((3 : Int32) * s18.2.2)))]) k116_125 rfl rfl rfl ?_
                      refine o_iinc (w := s18.2.2 + 1) (L' := [some (.ref 0), some (.int a0), some (.int a1), some (.int a2), some (.int a3), some (.ref 37), some (.int (s18.1 + 1)), some (.int (f_X3_faultAt_37 a1 (a2 + ((3 : Int32) * s18.2.2)) 3 M)), some (.int (s18.2.2 + 1)), some (.int (a2 + ((3 : Int32) * s18.2.2)))]) k116_128 rfl rfl rfl ?_
                      refine o_goto k116_131 ?_
                      have h9 := Option.some.inj h
                      subst h9
                      exact hK _
                    · rw [if_pos hc26] at h
                      refine o_bipush (v := (-20)) k116_119 (by decide) ?_
                      refine o_iload k116_121 rfl ?_
                      refine o_isub k116_123 ?_
                      have h9 := Option.some.inj h
                      subst h9
                      have hK2 : ((((-20) : Int32) - s18.2.2), M) = t := hK
                      subst hK2
                      exact o_iret pj_116 k116_124 rfl nr_i
            · rcases Os27 with u | s27
              · exact Option.some.inj h
              · show ∀ (d28 : Option Value), oo LN xs 0 0 116 134 [some (.ref 0), some (.int a0), some (.int a1), some (.int a2), some (.int a3), some (.ref 37), some (.int s27.1), some (.int s27.2.1), some (.int s27.2.2), d28] [] M (some (.int t.1), t.2)
                replace h : ((f_X7_takeTriples_0_37 a2 s27.1 M).bind (fun q29 => (bl (am_up q29 0 8 s27.2.1) (fun (M30 : am_M) => (some (s27.1, M30)))))) = some t := h
                intro d28
                refine o_aload_n k116_134 rfl ?_
                refine o_aload k116_135 rfl ?_
                refine o_iload_n k116_137 rfl ?_
                refine o_iload k116_138 rfl ?_
                refine bd_i h (fun q29 hq29 h => ?_)
                refine o_call k116_140 pj_119 (fun _ => rfl) (by decide) rfl (as := [.ref 0, .ref 37, .int a2, .int s27.1]) (rest := []) rfl (L0 := [some (.ref 0), some (.ref 37), some (.int a2), some (.int s27.1), none, none]) rfl (t_X7_takeTriples_0_37 hq29) ?_
                refine o_aload_n k116_143 rfl ?_
                refine o_iload k116_144 rfl ?_
                refine bl_i h (fun M30 eM30 h => ?_)
                refine o_pf (M' := M30) k116_146 (pf_0_8 eM30) ?_
                refine o_iload k116_149 rfl ?_
                have h9 := Option.some.inj h
                subst h9
                exact o_iret pj_116 k116_151 rfl nr_i
          rw [if_neg hX2] at h
          by_cases hX3 : a0 = 2
          · rw [if_pos hX3] at h
            refine o_aald (v := .ref 39) k116_33 (by rw [hX3]; exact aal_34_2) ?_
            refine o_astore (L' := [some (.ref 0), some (.int a0), some (.int a1), some (.int a2), some (.int a3), some (.ref 39), none, none, none, none]) k116_34 rfl rfl ?_
            refine o_iconst (v := 0) k116_36 (by decide) ?_
            refine o_istore (v := 0) (L' := [some (.ref 0), some (.int a0), some (.int a1), some (.int a2), some (.int a3), some (.ref 39), some (.int 0), none, none, none]) k116_37 rfl rfl ?_
            refine o_iconst (v := 0) k116_39 (by decide) ?_
            refine o_istore (v := 0) (L' := [some (.ref 0), some (.int a0), some (.int a1), some (.int a2), some (.int a3), some (.ref 39), some (.int 0), some (.int 0), none, none]) k116_40 rfl rfl ?_
            refine o_iconst (v := 0) k116_42 (by decide) ?_
            refine o_istore (v := 0) (L' := [some (.ref 0), some (.int a0), some (.int a1), some (.int a2), some (.int a3), some (.ref 39), some (.int 0), some (.int 0), some (.int 0), none]) k116_43 rfl rfl ?_
            refine bd_i h (fun Os40 hOs40 h => ?_)
            refine lp_o (fun s31 => ∀ (d32 : Option Value), oo LN xs 0 0 116 45 [some (.ref 0), some (.int a0), some (.int a1), some (.int a2), some (.int a3), some (.ref 39), some (.int s31.1), some (.int s31.2.1), some (.int s31.2.2), d32] [] M (some (.int t.1), t.2)) (fun oq => Sum.elim (fun u => u = t) (fun s40 => ∀ (d41 : Option Value), oo LN xs 0 0 116 134 [some (.ref 0), some (.int a0), some (.int a1), some (.int a2), some (.int a3), some (.ref 39), some (.int s40.1), some (.int s40.2.1), some (.int s40.2.2), d41] [] M (some (.int t.1), t.2)) oq) ?_ hOs40 ?_ none
            · intro s31 ws31 h hK d32
              refine o_iload k116_45 rfl ?_
              refine o_iload k116_47 rfl ?_
              refine o_icmp_ge k116_49 (fun hc33 => ?_) (fun hc33 => ?_)
              · rw [if_pos hc33] at h
                have h9 := Option.some.inj h
                subst h9
                exact hK _
              · rw [if_neg hc33] at h
                refine o_iload k116_52 rfl ?_
                refine o_if_ne k116_54 (fun hc34 => ?_) (fun hc34 => ?_)
                · rw [if_neg hc34] at h
                  have h9 := Option.some.inj h
                  subst h9
                  exact hK _
                · rw [if_pos hc34] at h
                  refine o_iload_n k116_57 rfl ?_
                  refine o_iconst (v := 3) k116_58 (by decide) ?_
                  refine o_iload k116_59 rfl ?_
                  refine o_imul k116_61 ?_
                  refine o_iadd k116_62 ?_
                  refine o_istore (v := (a2 + ((3 : Int32) * s31.2.2))) (L' := [some (.ref 0), some (.int a0), some (.int a1), some (.int a2), some (.int a3), some (.ref 39), some (.int s31.1), some (.int s31.2.1), some (.int s31.2.2), some (.int (a2 + ((3 : Int32) * s31.2.2)))]) k116_63 rfl rfl ?_
                  refine o_aload k116_65 rfl ?_
                  refine o_iload_n k116_67 rfl ?_
                  refine o_iload k116_68 rfl ?_
                  refine o_iconst (v := 3) k116_70 (by decide) ?_
                  refine o_call k116_71 pj_47 (fun _ => rfl) (by decide) rfl (as := [.ref 39, .int a1, .int (a2 + ((3 : Int32) * s31.2.2)), .int 3]) (rest := []) rfl (L0 := [some (.ref 39), some (.int a1), some (.int (a2 + ((3 : Int32) * s31.2.2))), some (.int 3)]) rfl (t_X3_faultAt_39 (M := M) (a0 := a1) (a1 := (a2 + ((3 : Int32) * s31.2.2))) (a2 := 3) rfl) ?_
                  refine o_istore (v := (f_X3_faultAt_39 a1 (a2 + ((3 : Int32) * s31.2.2)) 3 M)) (L' := [some (.ref 0), some (.int a0), some (.int a1), some (.int a2), some (.int a3), some (.ref 39), some (.int s31.1), some (.int (f_X3_faultAt_39 a1 (a2 + ((3 : Int32) * s31.2.2)) 3 M)), some (.int s31.2.2), some (.int (a2 + ((3 : Int32) * s31.2.2)))]) k116_74 rfl rfl ?_
                  refine o_iload k116_76 rfl ?_
                  refine o_if_ne k116_78 (fun hc35 => ?_) (fun hc35 => ?_)
                  · rw [if_neg hc35] at h
                    refine o_iinc (w := s31.2.2 + 1) (L' := [some (.ref 0), some (.int a0), some (.int a1), some (.int a2), some (.int a3), some (.ref 39), some (.int s31.1), some (.int (f_X3_faultAt_39 a1 (a2 + ((3 : Int32) * s31.2.2)) 3 M)), some (.int (s31.2.2 + 1)), some (.int (a2 + ((3 : Int32) * s31.2.2)))]) k116_128 rfl rfl rfl ?_
                    refine o_goto k116_131 ?_
                    have h9 := Option.some.inj h
                    subst h9
                    exact hK _
                  · rw [if_pos hc35] at h
                    refine o_aload_n k116_81 rfl ?_
                    refine o_gf k116_82 (gf_0_2 _) ?_
                    refine o_aload k116_85 rfl ?_
                    refine o_gf k116_87 (gf_39_2 _) ?_
                    refine o_iload k116_90 rfl ?_
                    obtain ⟨hc36, h⟩ := ck_i h
                    refine o_iald k116_92 rfl ia_40 hc36 ?_
                    refine o_aload k116_93 rfl ?_
                    refine o_gf k116_95 (gf_39_2 _) ?_
                    refine o_iload k116_98 rfl ?_
                    refine o_iconst (v := 1) k116_100 (by decide) ?_
                    refine o_iadd k116_101 ?_
                    obtain ⟨hc37, h⟩ := ck_i h
                    refine o_iald k116_102 rfl ia_40 hc37 ?_
                    refine o_aload k116_103 rfl ?_
                    refine o_gf k116_105 (gf_39_2 _) ?_
                    refine o_iload k116_108 rfl ?_
                    refine o_iconst (v := 2) k116_110 (by decide) ?_
                    refine o_iadd k116_111 ?_
                    obtain ⟨hc38, h⟩ := ck_i h
                    refine o_iald k116_112 rfl ia_40 hc38 ?_
                    refine o_call k116_113 pj_9 (fun _ => rfl) (by decide) rfl (as := [.ref 9, .int (M 40 (a2 + ((3 : Int32) * s31.2.2)).toNatClampNeg), .int (M 40 ((a2 + ((3 : Int32) * s31.2.2)) + 1).toNatClampNeg), .int (M 40 ((a2 + ((3 : Int32) * s31.2.2)) + 2).toNatClampNeg)]) (rest := []) rfl (L0 := [some (.ref 9), some (.int (M 40 (a2 + ((3 : Int32) * s31.2.2)).toNatClampNeg)), some (.int (M 40 ((a2 + ((3 : Int32) * s31.2.2)) + 1).toNatClampNeg)), some (.int (M 40 ((a2 + ((3 : Int32) * s31.2.2)) + 2).toNatClampNeg))]) rfl (t_X0_takes_9 (M := M) (a0 := (M 40 (a2 + ((3 : Int32) * s31.2.2)).toNatClampNeg)) (a1 := (M 40 ((a2 + ((3 : Int32) * s31.2.2)) + 1).toNatClampNeg)) (a2 := (M 40 ((a2 + ((3 : Int32) * s31.2.2)) + 2).toNatClampNeg)) rfl) ?_
                    refine o_if_ne k116_116 (fun hc39 => ?_) (fun hc39 => ?_)
                    · rw [if_neg hc39] at h
                      refine o_iinc (w := s31.1 + 1) (L' := [some (.ref 0), some (.int a0), some (.int a1), some (.int a2), some (.int a3), some (.ref 39), some (.int (s31.1 + 1)), some (.int (f_X3_faultAt_39 a1 (a2 + ((3 : Int32) * s31.2.2)) 3 M)), some (.int s31.2.2), some (.int (a2 + ((3 : Int32) * s31.2.2)))]) k116_125 rfl rfl rfl ?_
                      refine o_iinc (w := s31.2.2 + 1) (L' := [some (.ref 0), some (.int a0), some (.int a1), some (.int a2), some (.int a3), some (.ref 39), some (.int (s31.1 + 1)), some (.int (f_X3_faultAt_39 a1 (a2 + ((3 : Int32) * s31.2.2)) 3 M)), some (.int (s31.2.2 + 1)), some (.int (a2 + ((3 : Int32) * s31.2.2)))]) k116_128 rfl rfl rfl ?_
                      refine o_goto k116_131 ?_
                      have h9 := Option.some.inj h
                      subst h9
                      exact hK _
                    · rw [if_pos hc39] at h
                      refine o_bipush (v := (-20)) k116_119 (by decide) ?_
                      refine o_iload k116_121 rfl ?_
                      refine o_isub k116_123 ?_
                      have h9 := Option.some.inj h
                      subst h9
                      have hK2 : ((((-20) : Int32) - s31.2.2), M) = t := hK
                      subst hK2
                      exact o_iret pj_116 k116_124 rfl nr_i
            · rcases Os40 with u | s40
              · exact Option.some.inj h
              · show ∀ (d41 : Option Value), oo LN xs 0 0 116 134 [some (.ref 0), some (.int a0), some (.int a1), some (.int a2), some (.int a3), some (.ref 39), some (.int s40.1), some (.int s40.2.1), some (.int s40.2.2), d41] [] M (some (.int t.1), t.2)
                replace h : ((f_X7_takeTriples_0_39 a2 s40.1 M).bind (fun q42 => (bl (am_up q42 0 8 s40.2.1) (fun (M43 : am_M) => (some (s40.1, M43)))))) = some t := h
                intro d41
                refine o_aload_n k116_134 rfl ?_
                refine o_aload k116_135 rfl ?_
                refine o_iload_n k116_137 rfl ?_
                refine o_iload k116_138 rfl ?_
                refine bd_i h (fun q42 hq42 h => ?_)
                refine o_call k116_140 pj_119 (fun _ => rfl) (by decide) rfl (as := [.ref 0, .ref 39, .int a2, .int s40.1]) (rest := []) rfl (L0 := [some (.ref 0), some (.ref 39), some (.int a2), some (.int s40.1), none, none]) rfl (t_X7_takeTriples_0_39 hq42) ?_
                refine o_aload_n k116_143 rfl ?_
                refine o_iload k116_144 rfl ?_
                refine bl_i h (fun M43 eM43 h => ?_)
                refine o_pf (M' := M43) k116_146 (pf_0_8 eM43) ?_
                refine o_iload k116_149 rfl ?_
                have h9 := Option.some.inj h
                subst h9
                exact o_iret pj_116 k116_151 rfl nr_i
          rw [if_neg hX3] at h
          by_cases hX4 : a0 = 3
          · rw [if_pos hX4] at h
            refine o_aald (v := .ref 41) k116_33 (by rw [hX4]; exact aal_34_3) ?_
            refine o_astore (L' := [some (.ref 0), some (.int a0), some (.int a1), some (.int a2), some (.int a3), some (.ref 41), none, none, none, none]) k116_34 rfl rfl ?_
            refine o_iconst (v := 0) k116_36 (by decide) ?_
            refine o_istore (v := 0) (L' := [some (.ref 0), some (.int a0), some (.int a1), some (.int a2), some (.int a3), some (.ref 41), some (.int 0), none, none, none]) k116_37 rfl rfl ?_
            refine o_iconst (v := 0) k116_39 (by decide) ?_
            refine o_istore (v := 0) (L' := [some (.ref 0), some (.int a0), some (.int a1), some (.int a2), some (.int a3), some (.ref 41), some (.int 0), some (.int 0), none, none]) k116_40 rfl rfl ?_
            refine o_iconst (v := 0) k116_42 (by decide) ?_
            refine o_istore (v := 0) (L' := [some (.ref 0), some (.int a0), some (.int a1), some (.int a2), some (.int a3), some (.ref 41), some (.int 0), some (.int 0), some (.int 0), none]) k116_43 rfl rfl ?_
            refine bd_i h (fun Os53 hOs53 h => ?_)
            refine lp_o (fun s44 => ∀ (d45 : Option Value), oo LN xs 0 0 116 45 [some (.ref 0), some (.int a0), some (.int a1), some (.int a2), some (.int a3), some (.ref 41), some (.int s44.1), some (.int s44.2.1), some (.int s44.2.2), d45] [] M (some (.int t.1), t.2)) (fun oq => Sum.elim (fun u => u = t) (fun s53 => ∀ (d54 : Option Value), oo LN xs 0 0 116 134 [some (.ref 0), some (.int a0), some (.int a1), some (.int a2), some (.int a3), some (.ref 41), some (.int s53.1), some (.int s53.2.1), some (.int s53.2.2), d54] [] M (some (.int t.1), t.2)) oq) ?_ hOs53 ?_ none
            · intro s44 ws44 h hK d45
              refine o_iload k116_45 rfl ?_
              refine o_iload k116_47 rfl ?_
              refine o_icmp_ge k116_49 (fun hc46 => ?_) (fun hc46 => ?_)
              · rw [if_pos hc46] at h
                have h9 := Option.some.inj h
                subst h9
                exact hK _
              · rw [if_neg hc46] at h
                refine o_iload k116_52 rfl ?_
                refine o_if_ne k116_54 (fun hc47 => ?_) (fun hc47 => ?_)
                · rw [if_neg hc47] at h
                  have h9 := Option.some.inj h
                  subst h9
                  exact hK _
                · rw [if_pos hc47] at h
                  refine o_iload_n k116_57 rfl ?_
                  refine o_iconst (v := 3) k116_58 (by decide) ?_
                  refine o_iload k116_59 rfl ?_
                  refine o_imul k116_61 ?_
                  refine o_iadd k116_62 ?_
                  refine o_istore (v := (a2 + ((3 : Int32) * s44.2.2))) (L' := [some (.ref 0), some (.int a0), some (.int a1), some (.int a2), some (.int a3), some (.ref 41), some (.int s44.1), some (.int s44.2.1), some (.int s44.2.2), some (.int (a2 + ((3 : Int32) * s44.2.2)))]) k116_63 rfl rfl ?_
                  refine o_aload k116_65 rfl ?_
                  refine o_iload_n k116_67 rfl ?_
                  refine o_iload k116_68 rfl ?_
                  refine o_iconst (v := 3) k116_70 (by decide) ?_
                  refine o_call k116_71 pj_47 (fun _ => rfl) (by decide) rfl (as := [.ref 41, .int a1, .int (a2 + ((3 : Int32) * s44.2.2)), .int 3]) (rest := []) rfl (L0 := [some (.ref 41), some (.int a1), some (.int (a2 + ((3 : Int32) * s44.2.2))), some (.int 3)]) rfl (t_X3_faultAt_41 (M := M) (a0 := a1) (a1 := (a2 + ((3 : Int32) * s44.2.2))) (a2 := 3) rfl) ?_
                  refine o_istore (v := (f_X3_faultAt_41 a1 (a2 + ((3 : Int32) * s44.2.2)) 3 M)) (L' := [some (.ref 0), some (.int a0), some (.int a1), some (.int a2), some (.int a3), some (.ref 41), some (.int s44.1), some (.int (f_X3_faultAt_41 a1 (a2 + ((3 : Int32) * s44.2.2)) 3 M)), some (.int s44.2.2), some (.int (a2 + ((3 : Int32) * s44.2.2)))]) k116_74 rfl rfl ?_
                  refine o_iload k116_76 rfl ?_
                  refine o_if_ne k116_78 (fun hc48 => ?_) (fun hc48 => ?_)
                  · rw [if_neg hc48] at h
                    refine o_iinc (w := s44.2.2 + 1) (L' := [some (.ref 0), some (.int a0), some (.int a1), some (.int a2), some (.int a3), some (.ref 41), some (.int s44.1), some (.int (f_X3_faultAt_41 a1 (a2 + ((3 : Int32) * s44.2.2)) 3 M)), some (.int (s44.2.2 + 1)), some (.int (a2 + ((3 : Int32) * s44.2.2)))]) k116_128 rfl rfl rfl ?_
                    refine o_goto k116_131 ?_
                    have h9 := Option.some.inj h
                    subst h9
                    exact hK _
                  · rw [if_pos hc48] at h
                    refine o_aload_n k116_81 rfl ?_
                    refine o_gf k116_82 (gf_0_2 _) ?_
                    refine o_aload k116_85 rfl ?_
                    refine o_gf k116_87 (gf_41_2 _) ?_
                    refine o_iload k116_90 rfl ?_
                    obtain ⟨hc49, h⟩ := ck_i h
                    refine o_iald k116_92 rfl ia_42 hc49 ?_
                    refine o_aload k116_93 rfl ?_
                    refine o_gf k116_95 (gf_41_2 _) ?_
                    refine o_iload k116_98 rfl ?_
                    refine o_iconst (v := 1) k116_100 (by decide) ?_
                    refine o_iadd k116_101 ?_
                    obtain ⟨hc50, h⟩ := ck_i h
                    refine o_iald k116_102 rfl ia_42 hc50 ?_
                    refine o_aload k116_103 rfl ?_
                    refine o_gf k116_105 (gf_41_2 _) ?_
                    refine o_iload k116_108 rfl ?_
                    refine o_iconst (v := 2) k116_110 (by decide) ?_
                    refine o_iadd k116_111 ?_
                    obtain ⟨hc51, h⟩ := ck_i h
                    refine o_iald k116_112 rfl ia_42 hc51 ?_
                    refine o_call k116_113 pj_9 (fun _ => rfl) (by decide) rfl (as := [.ref 9, .int (M 42 (a2 + ((3 : Int32) * s44.2.2)).toNatClampNeg), .int (M 42 ((a2 + ((3 : Int32) * s44.2.2)) + 1).toNatClampNeg), .int (M 42 ((a2 + ((3 : Int32) * s44.2.2)) + 2).toNatClampNeg)]) (rest := []) rfl (L0 := [some (.ref 9), some (.int (M 42 (a2 + ((3 : Int32) * s44.2.2)).toNatClampNeg)), some (.int (M 42 ((a2 + ((3 : Int32) * s44.2.2)) + 1).toNatClampNeg)), some (.int (M 42 ((a2 + ((3 : Int32) * s44.2.2)) + 2).toNatClampNeg))]) rfl (t_X0_takes_9 (M := M) (a0 := (M 42 (a2 + ((3 : Int32) * s44.2.2)).toNatClampNeg)) (a1 := (M 42 ((a2 + ((3 : Int32) * s44.2.2)) + 1).toNatClampNeg)) (a2 := (M 42 ((a2 + ((3 : Int32) * s44.2.2)) + 2).toNatClampNeg)) rfl) ?_
                    refine o_if_ne k116_116 (fun hc52 => ?_) (fun hc52 => ?_)
                    · rw [if_neg hc52] at h
                      refine o_iinc (w := s44.1 + 1) (L' := [some (.ref 0), some (.int a0), some (.int a1), some (.int a2), some (.int a3), some (.ref 41), some (.int (s44.1 + 1)), some (.int (f_X3_faultAt_41 a1 (a2 + ((3 : Int32) * s44.2.2)) 3 M)), some (.int s44.2.2), some (.int (a2 + ((3 : Int32) * s44.2.2)))]) k116_125 rfl rfl rfl ?_
                      refine o_iinc (w := s44.2.2 + 1) (L' := [some (.ref 0), some (.int a0), some (.int a1), some (.int a2), some (.int a3), some (.ref 41), some (.int (s44.1 + 1)), some (.int (f_X3_faultAt_41 a1 (a2 + ((3 : Int32) * s44.2.2)) 3 M)), some (.int (s44.2.2 + 1)), some (.int (a2 + ((3 : Int32) * s44.2.2)))]) k116_128 rfl rfl rfl ?_
                      refine o_goto k116_131 ?_
                      have h9 := Option.some.inj h
                      subst h9
                      exact hK _
                    · rw [if_pos hc52] at h
                      refine o_bipush (v := (-20)) k116_119 (by decide) ?_
                      refine o_iload k116_121 rfl ?_
                      refine o_isub k116_123 ?_
                      have h9 := Option.some.inj h
                      subst h9
                      have hK2 : ((((-20) : Int32) - s44.2.2), M) = t := hK
                      subst hK2
                      exact o_iret pj_116 k116_124 rfl nr_i
            · rcases Os53 with u | s53
              · exact Option.some.inj h
              · show ∀ (d54 : Option Value), oo LN xs 0 0 116 134 [some (.ref 0), some (.int a0), some (.int a1), some (.int a2), some (.int a3), some (.ref 41), some (.int s53.1), some (.int s53.2.1), some (.int s53.2.2), d54] [] M (some (.int t.1), t.2)
                replace h : ((f_X7_takeTriples_0_41 a2 s53.1 M).bind (fun q55 => (bl (am_up q55 0 8 s53.2.1) (fun (M56 : am_M) => (some (s53.1, M56)))))) = some t := h
                intro d54
                refine o_aload_n k116_134 rfl ?_
                refine o_aload k116_135 rfl ?_
                refine o_iload_n k116_137 rfl ?_
                refine o_iload k116_138 rfl ?_
                refine bd_i h (fun q55 hq55 h => ?_)
                refine o_call k116_140 pj_119 (fun _ => rfl) (by decide) rfl (as := [.ref 0, .ref 41, .int a2, .int s53.1]) (rest := []) rfl (L0 := [some (.ref 0), some (.ref 41), some (.int a2), some (.int s53.1), none, none]) rfl (t_X7_takeTriples_0_41 hq55) ?_
                refine o_aload_n k116_143 rfl ?_
                refine o_iload k116_144 rfl ?_
                refine bl_i h (fun M56 eM56 h => ?_)
                refine o_pf (M' := M56) k116_146 (pf_0_8 eM56) ?_
                refine o_iload k116_149 rfl ?_
                have h9 := Option.some.inj h
                subst h9
                exact o_iret pj_116 k116_151 rfl nr_i
          rw [if_neg hX4] at h
          cases h
        · rw [if_neg hc4] at h
          refine o_iconst (v := (-1)) k116_26 (by decide) ?_
          have h9 := Option.some.inj h
          subst h9
          exact o_iret pj_116 k116_27 rfl nr_i
