/-! FUNCTIONS, on -/
def f_X8_read_43 (a0 : Int32) (a1 : Int32) (a2 : Int32) (a3 : Int32) (M : am_M) : Option (Int32 × am_M) := (if (f_X8_isSheet a0 a1) = 0 then (some ((-1), M)) else (if (f_X8_in a3.toInt64 0 13) = 0 then (some ((-1), M)) else ((lp (σ := Int32 × am_M) (ρ := Int32 × am_M) (fun s3 => (if 151 ≤ s3.1 then (some (.inr (s3.1, s3.2))) else (if am_dbin s3.1 151 = true then (if am_dbin s3.1 151 = true then (bl (am_up s3.2 51 s3.1.toNatClampNeg (s3.2 44 s3.1.toNatClampNeg)) (fun (M7 : am_M) => (some (.inl ((s3.1 + 1), M7))))) else none) else none))) lp_F (0, M)).bind (fun s8 => ((lp (σ := Int32 × Int32 × Int32 × am_M) (ρ := (Int32 × am_M) ⊕ (Int32 × Int32 × Int32 × am_M)) (fun s9 => (if a3 ≤ s9.2.2.1 then (some (.inr (.inr (s9.1, s9.2.1, s9.2.2.1, s9.2.2.2)))) else (if s9.1 = 0 then ((lp (σ := Int32 × Int32) (ρ := Int32 × Int32) (fun s15 => (if 3 ≤ s15.2 then (some (.inr (s15.1, s15.2))) else (if s15.1 = 0 then (if am_dbin a0 4 = true then (if (s9.2.2.2 54 a0.toNatClampNeg) = (-4) then (some (.inl (1, (s15.2 + 1)))) else (if am_dbin a0 4 = true then (if (s9.2.2.2 54 a0.toNatClampNeg) = a1 then (if (lg_cmp ((a2.toInt64 + (((3 : Int32) * s9.2.2.1).toInt64)) + s15.2.toInt64) 0) < 0 then (some (.inl (2, (s15.2 + 1)))) else (if am_dbin a0 4 = true then (if (lg_cmp ((a2.toInt64 + (((3 : Int32) * s9.2.2.1).toInt64)) + s15.2.toInt64) ((s9.2.2.2 55 a0.toNatClampNeg).toInt64)) < 0 then (some (.inl (0, (s15.2 + 1)))) else (some (.inl (2, (s15.2 + 1))))) else none)) else (some (.inl (3, (s15.2 + 1))))) else none)) else none) else (some (.inr (s15.1, s15.2)))))) lp_F (s9.1, 0)).bind (fun s27 => (if s27.1 = 0 then (if am_dbin ((((40 : Int32) * a0) + a2) + ((3 : Int32) * s9.2.2.1)) 160 = true then (if am_dbin (((((40 : Int32) * a0) + a2) + ((3 : Int32) * s9.2.2.1)) + 1) 160 = true then (if am_dbin (((((40 : Int32) * a0) + a2) + ((3 : Int32) * s9.2.2.1)) + 2) 160 = true then ((f_X8_set_43 (s9.2.2.2 56 ((((40 : Int32) * a0) + a2) + ((3 : Int32) * s9.2.2.1)).toNatClampNeg) (s9.2.2.2 56 (((((40 : Int32) * a0) + a2) + ((3 : Int32) * s9.2.2.1)) + 1).toNatClampNeg) (s9.2.2.2 56 (((((40 : Int32) * a0) + a2) + ((3 : Int32) * s9.2.2.1)) + 2).toNatClampNeg) s9.2.2.2).bind (fun q34 => (if 0 ≤ q34.1 then (some (.inl (s27.1, (s9.2.1 + 1), (s9.2.2.1 + 1), q34.2))) else ((lp (σ := Int32 × am_M) (ρ := Int32 × am_M) (fun s36 => (if 151 ≤ s36.1 then (some (.inr (s36.1, s36.2))) else (if am_dbin s36.1 151 = true then (if am_dbin s36.1 151 = true then (bl (am_up s36.2 44 s36.1.toNatClampNeg (s36.2 51 s36.1.toNatClampNeg)) (fun (M40 : am_M) => (some (.inl ((s36.1 + 1), M40))))) else none) else none))) lp_F (0, q34.2)).bind (fun s41 => (some (.inr (.inl ((((-20) : Int32) - s9.2.2.1), s41.2))))))))) else none) else none) else none) else (some (.inl (s27.1, s9.2.1, (s9.2.2.1 + 1), s9.2.2.2)))))) else (some (.inr (.inr (s9.1, s9.2.1, s9.2.2.1, s9.2.2.2))))))) lp_F (0, 0, 0, s8.2)).bind (fun os42 => Sum.elim (fun u => (some u)) (fun s42 => (bl (am_up s42.2.2.2 43 30 s42.1) (fun (M46 : am_M) => (some (s42.2.1, M46))))) os42))))))
set_option maxRecDepth 20000 in
theorem t_X8_read_43 {LN : Nat} {xs : Nat → Int32} {a0 : Int32} {a1 : Int32} {a2 : Int32} {a3 : Int32} {M : am_M} {t : Int32 × am_M} (h : f_X8_read_43 a0 a1 a2 a3 M = some t) : oo LN xs 0 0 207 0 [some (.ref 43), some (.int a0), some (.int a1), some (.int a2), some (.int a3), none, none, none, none, none, none] [] M (some (.int t.1), t.2) := by
  unfold f_X8_read_43 at h
  refine o_iload_n k207_0 rfl ?_
  refine o_iload_n k207_1 rfl ?_
  refine o_call k207_2 pj_204 (fun _ => rfl) (by decide) rfl (as := [.int a0, .int a1]) (rest := []) rfl (L0 := [some (.int a0), some (.int a1)]) rfl (t_X8_isSheet (M := M) (a0 := a0) (a1 := a1) rfl) ?_
  refine o_if_eq k207_5 (fun hc1 => ?_) (fun hc1 => ?_)
  · rw [if_pos hc1] at h
    refine o_iconst (v := (-1)) k207_21 (by decide) ?_
    have h9 := Option.some.inj h
    subst h9
    exact o_iret pj_207 k207_22 rfl nr_i
  · rw [if_neg hc1] at h
    refine o_iload k207_8 rfl ?_
    refine o_i2l k207_10 ?_
    refine o_lconst (v := 0) k207_11 (by decide) ?_
    refine o_ldc2_w k207_12 ?_
    refine o_call k207_15 pj_125 (fun _ => rfl) (by decide) rfl (as := [.long a3.toInt64, .long 0, .long 13]) (rest := []) rfl (L0 := [some (.long a3.toInt64), none, some (.long 0), none, some (.long 13), none]) rfl (t_X8_in (M := M) (a0 := a3.toInt64) (a1 := 0) (a2 := 13) rfl) ?_
    refine o_if_ne k207_18 (fun hc2 => ?_) (fun hc2 => ?_)
    · rw [if_neg hc2] at h
      refine o_iconst (v := 0) k207_23 (by decide) ?_
      refine o_istore (v := 0) (L' := [some (.ref 43), some (.int a0), some (.int a1), some (.int a2), some (.int a3), some (.int 0), none, none, none, none, none]) k207_24 rfl rfl ?_
      refine bd_i h (fun s8 hs8 h => ?_)
      refine lp_o (fun s3 => oo LN xs 0 0 207 26 [some (.ref 43), some (.int a0), some (.int a1), some (.int a2), some (.int a3), some (.int s3.1), none, none, none, none, none] [] s3.2 (some (.int t.1), t.2)) (fun s8 => oo LN xs 0 0 207 54 [some (.ref 43), some (.int a0), some (.int a1), some (.int a2), some (.int a3), some (.int s8.1), none, none, none, none, none] [] s8.2 (some (.int t.1), t.2)) ?_ hs8 ?_
      · intro s3 ws3 h hK
        refine o_iload k207_26 rfl ?_
        refine o_sipush (v := 151) k207_28 (by decide) ?_
        refine o_icmp_ge k207_31 (fun hc4 => ?_) (fun hc4 => ?_)
        · rw [if_pos hc4] at h
          have h9 := Option.some.inj h
          subst h9
          exact hK
        · rw [if_neg hc4] at h
          refine o_aload_n k207_34 rfl ?_
          refine o_gf k207_35 (gf_43_24 _) ?_
          refine o_iload k207_38 rfl ?_
          refine o_aload_n k207_40 rfl ?_
          refine o_gf k207_41 (gf_43_0 _) ?_
          refine o_iload k207_44 rfl ?_
          obtain ⟨hc5, h⟩ := ck_i h
          refine o_iald k207_46 rfl ia_44 hc5 ?_
          obtain ⟨hc6, h⟩ := ck_i h
          refine bl_i h (fun M7 eM7 h => ?_)
          refine o_iast (M' := M7) k207_47 eM7 ia_51 hc6 ?_
          refine o_iinc (w := s3.1 + 1) (L' := [some (.ref 43), some (.int a0), some (.int a1), some (.int a2), some (.int a3), some (.int (s3.1 + 1)), none, none, none, none, none]) k207_48 rfl rfl rfl ?_
          refine o_goto k207_51 ?_
          have h9 := Option.some.inj h
          subst h9
          exact hK
      · show oo LN xs 0 0 207 54 [some (.ref 43), some (.int a0), some (.int a1), some (.int a2), some (.int a3), some (.int s8.1), none, none, none, none, none] [] s8.2 (some (.int t.1), t.2)
        refine o_iconst (v := 0) k207_54 (by decide) ?_
        refine o_istore (v := 0) (L' := [some (.ref 43), some (.int a0), some (.int a1), some (.int a2), some (.int a3), some (.int 0), none, none, none, none, none]) k207_55 rfl rfl ?_
        refine o_iconst (v := 0) k207_57 (by decide) ?_
        refine o_istore (v := 0) (L' := [some (.ref 43), some (.int a0), some (.int a1), some (.int a2), some (.int a3), some (.int 0), some (.int 0), none, none, none, none]) k207_58 rfl rfl ?_
        refine o_iconst (v := 0) k207_60 (by decide) ?_
        refine o_istore (v := 0) (L' := [some (.ref 43), some (.int a0), some (.int a1), some (.int a2), some (.int a3), some (.int 0), some (.int 0), some (.int 0), none, none, none]) k207_61 rfl rfl ?_
        refine bd_i h (fun Os42 hOs42 h => ?_)
        refine lp_o (fun s9 => ∀ (d10 d11 d12 : Option Value), oo LN xs 0 0 207 63 [some (.ref 43), some (.int a0), some (.int a1), some (.int a2), some (.int a3), some (.int s9.1), some (.int s9.2.1), some (.int s9.2.2.1), d10, d11, d12] [] s9.2.2.2 (some (.int t.1), t.2)) (fun oq => Sum.elim (fun u => u = t) (fun s42 => ∀ (d43 d44 d45 : Option Value), oo LN xs 0 0 207 261 [some (.ref 43), some (.int a0), some (.int a1), some (.int a2), some (.int a3), some (.int s42.1), some (.int s42.2.1), some (.int s42.2.2.1), d43, d44, d45] [] s42.2.2.2 (some (.int t.1), t.2)) oq) ?_ hOs42 ?_ none none none
        · intro s9 ws9 h hK d10 d11 d12
          refine o_iload k207_63 rfl ?_
          refine o_iload k207_65 rfl ?_
          refine o_icmp_ge k207_67 (fun hc13 => ?_) (fun hc13 => ?_)
          · rw [if_pos hc13] at h
            have h9 := Option.some.inj h
            subst h9
            exact hK _ _ _
          · rw [if_neg hc13] at h
            refine o_iload k207_70 rfl ?_
            refine o_if_ne k207_72 (fun hc14 => ?_) (fun hc14 => ?_)
            · rw [if_neg hc14] at h
              have h9 := Option.some.inj h
              subst h9
              exact hK _ _ _
            · rw [if_pos hc14] at h
              refine o_iconst (v := 0) k207_75 (by decide) ?_
              refine o_istore (v := 0) (L' := [some (.ref 43), some (.int a0), some (.int a1), some (.int a2), some (.int a3), some (.int s9.1), some (.int s9.2.1), some (.int s9.2.2.1), some (.int 0), d11, d12]) k207_76 rfl rfl ?_
              refine bd_i h (fun s27 hs27 h => ?_)
              refine lp_o (fun s15 => ∀ (d16 d17 : Option Value), oo LN xs 0 0 207 78 [some (.ref 43), some (.int a0), some (.int a1), some (.int a2), some (.int a3), some (.int s15.1), some (.int s9.2.1), some (.int s9.2.2.1), some (.int s15.2), d16, d17] [] s9.2.2.2 (some (.int t.1), t.2)) (fun s27 => ∀ (d28 d29 : Option Value), oo LN xs 0 0 207 165 [some (.ref 43), some (.int a0), some (.int a1), some (.int a2), some (.int a3), some (.int s27.1), some (.int s9.2.1), some (.int s9.2.2.1), some (.int s27.2), d28, d29] [] s9.2.2.2 (some (.int t.1), t.2)) ?_ hs27 ?_ d11 d12
              · intro s15 ws15 h hK d16 d17
                refine o_iload k207_78 rfl ?_
                refine o_iconst (v := 3) k207_80 (by decide) ?_
                refine o_icmp_ge k207_81 (fun hc18 => ?_) (fun hc18 => ?_)
                · rw [if_pos hc18] at h
                  have h9 := Option.some.inj h
                  subst h9
                  exact hK _ _
                · rw [if_neg hc18] at h
                  refine o_iload k207_84 rfl ?_
                  refine o_if_ne k207_86 (fun hc19 => ?_) (fun hc19 => ?_)
                  · rw [if_neg hc19] at h
                    have h9 := Option.some.inj h
                    subst h9
                    exact hK _ _
                  · rw [if_pos hc19] at h
                    refine o_iload_n k207_89 rfl ?_
                    refine o_i2l k207_90 ?_
                    refine o_iconst (v := 3) k207_91 (by decide) ?_
                    refine o_iload k207_92 rfl ?_
                    refine o_imul k207_94 ?_
                    refine o_i2l k207_95 ?_
                    refine o_ladd k207_96 ?_
                    refine o_iload k207_97 rfl ?_
                    refine o_i2l k207_99 ?_
                    refine o_ladd k207_100 ?_
                    refine o_lstore (L' := [some (.ref 43), some (.int a0), some (.int a1), some (.int a2), some (.int a3), some (.int s15.1), some (.int s9.2.1), some (.int s9.2.2.1), some (.int s15.2), some (.long ((a2.toInt64 + (((3 : Int32) * s9.2.2.1).toInt64)) + s15.2.toInt64)), none]) k207_101 rfl rfl ?_
                    refine o_aload_n k207_103 rfl ?_
                    refine o_gf k207_104 (gf_43_27 _) ?_
                    refine o_iload_n k207_107 rfl ?_
                    obtain ⟨hc20, h⟩ := ck_i h
                    refine o_iald k207_108 rfl ia_54 hc20 ?_
                    refine o_bipush (v := (-4)) k207_109 (by decide) ?_
                    refine o_icmp_ne k207_111 (fun hc21 => ?_) (fun hc21 => ?_)
                    · rw [if_neg hc21] at h
                      refine o_aload_n k207_118 rfl ?_
                      refine o_gf k207_119 (gf_43_27 _) ?_
                      refine o_iload_n k207_122 rfl ?_
                      obtain ⟨hc22, h⟩ := ck_i h
                      refine o_iald k207_123 rfl ia_54 hc22 ?_
                      refine o_iload_n k207_124 rfl ?_
                      refine o_icmp_eq k207_125 (fun hc23 => ?_) (fun hc23 => ?_)
                      · rw [if_pos hc23] at h
                        refine o_lload k207_132 rfl ?_
                        refine o_lconst (v := 0) k207_134 (by decide) ?_
                        refine o_lcmp k207_135 ?_
                        refine o_if_lt k207_136 (fun hc24 => ?_) (fun hc24 => ?_)
                        · rw [if_pos hc24] at h
                          refine o_iconst (v := 2) k207_152 (by decide) ?_
                          refine o_goto k207_153 ?_
                          refine o_istore (v := 2) (L' := [some (.ref 43), some (.int a0), some (.int a1), some (.int a2), some (.int a3), some (.int 2), some (.int s9.2.1), some (.int s9.2.2.1), some (.int s15.2), some (.long ((a2.toInt64 + (((3 : Int32) * s9.2.2.1).toInt64)) + s15.2.toInt64)), none]) k207_157 rfl rfl ?_
                          refine o_iinc (w := s15.2 + 1) (L' := [some (.ref 43), some (.int a0), some (.int a1), some (.int a2), some (.int a3), some (.int 2), some (.int s9.2.1), some (.int s9.2.2.1), some (.int (s15.2 + 1)), some (.long ((a2.toInt64 + (((3 : Int32) * s9.2.2.1).toInt64)) + s15.2.toInt64)), none]) k207_159 rfl rfl rfl ?_
                          refine o_goto k207_162 ?_
                          have h9 := Option.some.inj h
                          subst h9
                          exact hK _ _
                        · rw [if_neg hc24] at h
                          refine o_lload k207_139 rfl ?_
                          refine o_aload_n k207_141 rfl ?_
                          refine o_gf k207_142 (gf_43_28 _) ?_
                          refine o_iload_n k207_145 rfl ?_
                          obtain ⟨hc25, h⟩ := ck_i h
                          refine o_iald k207_146 rfl ia_55 hc25 ?_
                          refine o_i2l k207_147 ?_
                          refine o_lcmp k207_148 ?_
                          refine o_if_lt k207_149 (fun hc26 => ?_) (fun hc26 => ?_)
                          · rw [if_pos hc26] at h
                            refine o_iconst (v := 0) k207_156 (by decide) ?_
                            refine o_istore (v := 0) (L' := [some (.ref 43), some (.int a0), some (.int a1), some (.int a2), some (.int a3), some (.int 0), some (.int s9.2.1), some (.int s9.2.2.1), some (.int s15.2), some (.long ((a2.toInt64 + (((3 : Int32) * s9.2.2.1).toInt64)) + s15.2.toInt64)), none]) k207_157 rfl rfl ?_
                            refine o_iinc (w := s15.2 + 1) (L' := [some (.ref 43), some (.int a0), some (.int a1), some (.int a2), some (.int a3), some (.int 0), some (.int s9.2.1), some (.int s9.2.2.1), some (.int (s15.2 + 1)), some (.long ((a2.toInt64 + (((3 : Int32) * s9.2.2.1).toInt64)) + s15.2.toInt64)), none]) k207_159 rfl rfl rfl ?_
                            refine o_goto k207_162 ?_
                            have h9 := Option.some.inj h
                            subst h9
                            exact hK _ _
                          · rw [if_neg hc26] at h
                            refine o_iconst (v := 2) k207_152 (by decide) ?_
                            refine o_goto k207_153 ?_
                            refine o_istore (v := 2) (L' := [some (.ref 43), some (.int a0), some (.int a1), some (.int a2), some (.int a3), some (.int 2), some (.int s9.2.1), some (.int s9.2.2.1), some (.int s15.2), some (.long ((a2.toInt64 + (((3 : Int32) * s9.2.2.1).toInt64)) + s15.2.toInt64)), none]) k207_157 rfl rfl ?_
                            refine o_iinc (w := s15.2 + 1) (L' := [some (.ref 43), some (.int a0), some (.int a1), some (.int a2), some (.int a3), some (.int 2), some (.int s9.2.1), some (.int s9.2.2.1), some (.int (s15.2 + 1)), some (.long ((a2.toInt64 + (((3 : Int32) * s9.2.2.1).toInt64)) + s15.2.toInt64)), none]) k207_159 rfl rfl rfl ?_
                            refine o_goto k207_162 ?_
                            have h9 := Option.some.inj h
                            subst h9
                            exact hK _ _
                      · rw [if_neg hc23] at h
                        refine o_iconst (v := 3) k207_128 (by decide) ?_
                        refine o_goto k207_129 ?_
                        refine o_istore (v := 3) (L' := [some (.ref 43), some (.int a0), some (.int a1), some (.int a2), some (.int a3), some (.int 3), some (.int s9.2.1), some (.int s9.2.2.1), some (.int s15.2), some (.long ((a2.toInt64 + (((3 : Int32) * s9.2.2.1).toInt64)) + s15.2.toInt64)), none]) k207_157 rfl rfl ?_
                        refine o_iinc (w := s15.2 + 1) (L' := [some (.ref 43), some (.int a0), some (.int a1), some (.int a2), some (.int a3), some (.int 3), some (.int s9.2.1), some (.int s9.2.2.1), some (.int (s15.2 + 1)), some (.long ((a2.toInt64 + (((3 : Int32) * s9.2.2.1).toInt64)) + s15.2.toInt64)), none]) k207_159 rfl rfl rfl ?_
                        refine o_goto k207_162 ?_
                        have h9 := Option.some.inj h
                        subst h9
                        exact hK _ _
                    · rw [if_pos hc21] at h
                      refine o_iconst (v := 1) k207_114 (by decide) ?_
                      refine o_goto k207_115 ?_
                      refine o_istore (v := 1) (L' := [some (.ref 43), some (.int a0), some (.int a1), some (.int a2), some (.int a3), some (.int 1), some (.int s9.2.1), some (.int s9.2.2.1), some (.int s15.2), some (.long ((a2.toInt64 + (((3 : Int32) * s9.2.2.1).toInt64)) + s15.2.toInt64)), none]) k207_157 rfl rfl ?_
                      refine o_iinc (w := s15.2 + 1) (L' := [some (.ref 43), some (.int a0), some (.int a1), some (.int a2), some (.int a3), some (.int 1), some (.int s9.2.1), some (.int s9.2.2.1), some (.int (s15.2 + 1)), some (.long ((a2.toInt64 + (((3 : Int32) * s9.2.2.1).toInt64)) + s15.2.toInt64)), none]) k207_159 rfl rfl rfl ?_
                      refine o_goto k207_162 ?_
                      have h9 := Option.some.inj h
                      subst h9
                      exact hK _ _
              · show ∀ (d28 d29 : Option Value), oo LN xs 0 0 207 165 [some (.ref 43), some (.int a0), some (.int a1), some (.int a2), some (.int a3), some (.int s27.1), some (.int s9.2.1), some (.int s9.2.2.1), some (.int s27.2), d28, d29] [] s9.2.2.2 (some (.int t.1), t.2)
                intro d28 d29
                refine o_iload k207_165 rfl ?_
                refine o_if_ne k207_167 (fun hc30 => ?_) (fun hc30 => ?_)
                · rw [if_neg hc30] at h
                  refine o_iinc (w := s9.2.2.1 + 1) (L' := [some (.ref 43), some (.int a0), some (.int a1), some (.int a2), some (.int a3), some (.int s27.1), some (.int s9.2.1), some (.int (s9.2.2.1 + 1)), some (.int s27.2), d28, d29]) k207_255 rfl rfl rfl ?_
                  refine o_goto k207_258 ?_
                  have h9 := Option.some.inj h
                  subst h9
                  exact hK _ _ _
                · rw [if_pos hc30] at h
                  refine o_bipush (v := 40) k207_170 (by decide) ?_
                  refine o_iload_n k207_172 rfl ?_
                  refine o_imul k207_173 ?_
                  refine o_iload_n k207_174 rfl ?_
                  refine o_iadd k207_175 ?_
                  refine o_iconst (v := 3) k207_176 (by decide) ?_
                  refine o_iload k207_177 rfl ?_
                  refine o_imul k207_179 ?_
                  refine o_iadd k207_180 ?_
                  refine o_istore (v := ((((40 : Int32) * a0) + a2) + ((3 : Int32) * s9.2.2.1))) (L' := [some (.ref 43), some (.int a0), some (.int a1), some (.int a2), some (.int a3), some (.int s27.1), some (.int s9.2.1), some (.int s9.2.2.1), some (.int ((((40 : Int32) * a0) + a2) + ((3 : Int32) * s9.2.2.1))), d28, d29]) k207_181 rfl rfl ?_
                  refine o_aload_n k207_183 rfl ?_
                  refine o_aload_n k207_184 rfl ?_
                  refine o_gf k207_185 (gf_43_29 _) ?_
                  refine o_iload k207_188 rfl ?_
                  obtain ⟨hc31, h⟩ := ck_i h
                  refine o_iald k207_190 rfl ia_56 hc31 ?_
                  refine o_aload_n k207_191 rfl ?_
                  refine o_gf k207_192 (gf_43_29 _) ?_
                  refine o_iload k207_195 rfl ?_
                  refine o_iconst (v := 1) k207_197 (by decide) ?_
                  refine o_iadd k207_198 ?_
                  obtain ⟨hc32, h⟩ := ck_i h
                  refine o_iald k207_199 rfl ia_56 hc32 ?_
                  refine o_aload_n k207_200 rfl ?_
                  refine o_gf k207_201 (gf_43_29 _) ?_
                  refine o_iload k207_204 rfl ?_
                  refine o_iconst (v := 2) k207_206 (by decide) ?_
                  refine o_iadd k207_207 ?_
                  obtain ⟨hc33, h⟩ := ck_i h
                  refine o_iald k207_208 rfl ia_56 hc33 ?_
                  refine bd_i h (fun q34 hq34 h => ?_)
                  refine o_call k207_209 pj_175 (fun _ => rfl) (by decide) rfl (as := [.ref 43, .int (s9.2.2.2 56 ((((40 : Int32) * a0) + a2) + ((3 : Int32) * s9.2.2.1)).toNatClampNeg), .int (s9.2.2.2 56 (((((40 : Int32) * a0) + a2) + ((3 : Int32) * s9.2.2.1)) + 1).toNatClampNeg), .int (s9.2.2.2 56 (((((40 : Int32) * a0) + a2) + ((3 : Int32) * s9.2.2.1)) + 2).toNatClampNeg)]) (rest := []) rfl (L0 := [some (.ref 43), some (.int (s9.2.2.2 56 ((((40 : Int32) * a0) + a2) + ((3 : Int32) * s9.2.2.1)).toNatClampNeg)), some (.int (s9.2.2.2 56 (((((40 : Int32) * a0) + a2) + ((3 : Int32) * s9.2.2.1)) + 1).toNatClampNeg)), some (.int (s9.2.2.2 56 (((((40 : Int32) * a0) + a2) + ((3 : Int32) * s9.2.2.1)) + 2).toNatClampNeg))]) rfl (t_X8_set_43 hq34) ?_
                  refine o_if_ge k207_212 (fun hc35 => ?_) (fun hc35 => ?_)
                  · rw [if_pos hc35] at h
                    refine o_iinc (w := s9.2.1 + 1) (L' := [some (.ref 43), some (.int a0), some (.int a1), some (.int a2), some (.int a3), some (.int s27.1), some (.int (s9.2.1 + 1)), some (.int s9.2.2.1), some (.int ((((40 : Int32) * a0) + a2) + ((3 : Int32) * s9.2.2.1))), d28, d29]) k207_252 rfl rfl rfl ?_
                    refine o_iinc (w := s9.2.2.1 + 1) (L' := [some (.ref 43), some (.int a0), some (.int a1), some (.int a2), some (.int a3), some (.int s27.1), some (.int (s9.2.1 + 1)), some (.int (s9.2.2.1 + 1)), some (.int ((((40 : Int32) * a0) + a2) + ((3 : Int32) * s9.2.2.1))), d28, d29]) k207_255 rfl rfl rfl ?_
                    refine o_goto k207_258 ?_
                    have h9 := Option.some.inj h
                    subst h9
                    exact hK _ _ _
                  · rw [if_neg hc35] at h
                    refine o_iconst (v := 0) k207_215 (by decide) ?_
                    refine o_istore (v := 0) (L' := [some (.ref 43), some (.int a0), some (.int a1), some (.int a2), some (.int a3), some (.int s27.1), some (.int s9.2.1), some (.int s9.2.2.1), some (.int ((((40 : Int32) * a0) + a2) + ((3 : Int32) * s9.2.2.1))), some (.int 0), d29]) k207_216 rfl rfl ?_
                    refine bd_i h (fun s41 hs41 h => ?_)
                    refine lp_o (fun s36 => oo LN xs 0 0 207 218 [some (.ref 43), some (.int a0), some (.int a1), some (.int a2), some (.int a3), some (.int s27.1), some (.int s9.2.1), some (.int s9.2.2.1), some (.int ((((40 : Int32) * a0) + a2) + ((3 : Int32) * s9.2.2.1))), some (.int s36.1), d29] [] s36.2 (some (.int t.1), t.2)) (fun s41 => oo LN xs 0 0 207 246 [some (.ref 43), some (.int a0), some (.int a1), some (.int a2), some (.int a3), some (.int s27.1), some (.int s9.2.1), some (.int s9.2.2.1), some (.int ((((40 : Int32) * a0) + a2) + ((3 : Int32) * s9.2.2.1))), some (.int s41.1), d29] [] s41.2 (some (.int t.1), t.2)) ?_ hs41 ?_
                    · intro s36 ws36 h hK
                      refine o_iload k207_218 rfl ?_
                      refine o_sipush (v := 151) k207_220 (by decide) ?_
                      refine o_icmp_ge k207_223 (fun hc37 => ?_) (fun hc37 => ?_)
                      · rw [if_pos hc37] at h
                        have h9 := Option.some.inj h
                        subst h9
                        exact hK
                      · rw [if_neg hc37] at h
                        refine o_aload_n k207_226 rfl ?_
                        refine o_gf k207_227 (gf_43_0 _) ?_
                        refine o_iload k207_230 rfl ?_
                        refine o_aload_n k207_232 rfl ?_
                        refine o_gf k207_233 (gf_43_24 _) ?_
                        refine o_iload k207_236 rfl ?_
                        obtain ⟨hc38, h⟩ := ck_i h
                        refine o_iald k207_238 rfl ia_51 hc38 ?_
                        obtain ⟨hc39, h⟩ := ck_i h
                        refine bl_i h (fun M40 eM40 h => ?_)
                        refine o_iast (M' := M40) k207_239 eM40 ia_44 hc39 ?_
                        refine o_iinc (w := s36.1 + 1) (L' := [some (.ref 43), some (.int a0), some (.int a1), some (.int a2), some (.int a3), some (.int s27.1), some (.int s9.2.1), some (.int s9.2.2.1), some (.int ((((40 : Int32) * a0) + a2) + ((3 : Int32) * s9.2.2.1))), some (.int (s36.1 + 1)), d29]) k207_240 rfl rfl rfl ?_
                        refine o_goto k207_243 ?_
                        have h9 := Option.some.inj h
                        subst h9
                        exact hK
                    · show oo LN xs 0 0 207 246 [some (.ref 43), some (.int a0), some (.int a1), some (.int a2), some (.int a3), some (.int s27.1), some (.int s9.2.1), some (.int s9.2.2.1), some (.int ((((40 : Int32) * a0) + a2) + ((3 : Int32) * s9.2.2.1))), some (.int s41.1), d29] [] s41.2 (some (.int t.1), t.2)
                      refine o_bipush (v := (-20)) k207_246 (by decide) ?_
                      refine o_iload k207_248 rfl ?_
                      refine o_isub k207_250 ?_
                      have h9 := Option.some.inj h
                      subst h9
                      have hK2 : ((((-20) : Int32) - s9.2.2.1), s41.2) = t := hK
                      subst hK2
                      exact o_iret pj_207 k207_251 rfl nr_i
        · rcases Os42 with u | s42
          · exact Option.some.inj h
          · show ∀ (d43 d44 d45 : Option Value), oo LN xs 0 0 207 261 [some (.ref 43), some (.int a0), some (.int a1), some (.int a2), some (.int a3), some (.int s42.1), some (.int s42.2.1), some (.int s42.2.2.1), d43, d44, d45] [] s42.2.2.2 (some (.int t.1), t.2)
            replace h : (bl (am_up s42.2.2.2 43 30 s42.1) (fun (M46 : am_M) => (some (s42.2.1, M46)))) = some t := h
            intro d43 d44 d45
            refine o_aload_n k207_261 rfl ?_
            refine o_iload k207_262 rfl ?_
            refine bl_i h (fun M46 eM46 h => ?_)
            refine o_pf (M' := M46) k207_264 (pf_43_30 eM46) ?_
            refine o_iload k207_267 rfl ?_
            have h9 := Option.some.inj h
            subst h9
            exact o_iret pj_207 k207_269 rfl nr_i
    · rw [if_pos hc2] at h
      refine o_iconst (v := (-1)) k207_21 (by decide) ?_
      have h9 := Option.some.inj h
      subst h9
      exact o_iret pj_207 k207_22 rfl nr_i
def f_X7_torn_0 (M : am_M) : Int32 := (M 0 8)
set_option maxRecDepth 20000 in
theorem t_X7_torn_0 {LN : Nat} {xs : Nat → Int32} {M : am_M} {t : Int32} (h : f_X7_torn_0 M = t) : oo LN xs 0 0 117 0 [some (.ref 0)] [] M (some (.int t), M) := by
  unfold f_X7_torn_0 at h
  refine o_aload_n k117_0 rfl ?_
  refine o_gf k117_1 (gf_0_8 _) ?_
  subst h
  exact o_iret pj_117 k117_4 rfl nr_i
def f_X8_torn_43 (M : am_M) : Int32 := (M 43 30)
set_option maxRecDepth 20000 in
theorem t_X8_torn_43 {LN : Nat} {xs : Nat → Int32} {M : am_M} {t : Int32} (h : f_X8_torn_43 M = t) : oo LN xs 0 0 208 0 [some (.ref 43)] [] M (some (.int t), M) := by
  unfold f_X8_torn_43 at h
  refine o_aload_n k208_0 rfl ?_
  refine o_gf k208_1 (gf_43_30 _) ?_
  subst h
  exact o_iret pj_208 k208_4 rfl nr_i
def f_X7_imagesKept_0 (M : am_M) : Option Int32 := ((lp (σ := Int32 × Int32) (ρ := Int32 × Int32) (fun s1 => (if 2 ≤ s1.2 then (some (.inr (s1.1, s1.2))) else (if am_dbin s1.2 2 = true then (if (M 25 s1.2.toNatClampNeg) = 0 then (some (.inl (s1.1, (s1.2 + 1)))) else (some (.inl ((s1.1 + 1), (s1.2 + 1))))) else none))) lp_F (0, 0)).bind (fun s5 => (some s5.1)))
set_option maxRecDepth 20000 in
theorem t_X7_imagesKept_0 {LN : Nat} {xs : Nat → Int32} {M : am_M} {t : Int32} (h : f_X7_imagesKept_0 M = some t) : oo LN xs 0 0 120 0 [some (.ref 0), none, none] [] M (some (.int t), M) := by
  unfold f_X7_imagesKept_0 at h
  refine o_iconst (v := 0) k120_0 (by decide) ?_
  refine o_istore_n (v := 0) (L' := [some (.ref 0), some (.int 0), none]) k120_1 rfl rfl ?_
  refine o_iconst (v := 0) k120_2 (by decide) ?_
  refine o_istore_n (v := 0) (L' := [some (.ref 0), some (.int 0), some (.int 0)]) k120_3 rfl rfl ?_
  refine bd_i h (fun s5 hs5 h => ?_)
  refine lp_o (fun s1 => oo LN xs 0 0 120 4 [some (.ref 0), some (.int s1.1), some (.int s1.2)] [] M (some (.int t), M)) (fun s5 => oo LN xs 0 0 120 27 [some (.ref 0), some (.int s5.1), some (.int s5.2)] [] M (some (.int t), M)) ?_ hs5 ?_
  · intro s1 ws1 h hK
    refine o_iload_n k120_4 rfl ?_
    refine o_iconst (v := 2) k120_5 (by decide) ?_
    refine o_icmp_ge k120_6 (fun hc2 => ?_) (fun hc2 => ?_)
    · rw [if_pos hc2] at h
      have h9 := Option.some.inj h
      subst h9
      exact hK
    · rw [if_neg hc2] at h
      refine o_aload_n k120_9 rfl ?_
      refine o_gf k120_10 (gf_0_4 _) ?_
      refine o_iload_n k120_13 rfl ?_
      obtain ⟨hc3, h⟩ := ck_i h
      refine o_bald k120_14 ba_25 hc3 ?_
      refine o_if_eq k120_15 (fun hc4 => ?_) (fun hc4 => ?_)
      · rw [if_pos hc4] at h
        refine o_iinc (w := s1.2 + 1) (L' := [some (.ref 0), some (.int s1.1), some (.int (s1.2 + 1))]) k120_21 rfl rfl rfl ?_
        refine o_goto k120_24 ?_
        have h9 := Option.some.inj h
        subst h9
        exact hK
      · rw [if_neg hc4] at h
        refine o_iinc (w := s1.1 + 1) (L' := [some (.ref 0), some (.int (s1.1 + 1)), some (.int s1.2)]) k120_18 rfl rfl rfl ?_
        refine o_iinc (w := s1.2 + 1) (L' := [some (.ref 0), some (.int (s1.1 + 1)), some (.int (s1.2 + 1))]) k120_21 rfl rfl rfl ?_
        refine o_goto k120_24 ?_
        have h9 := Option.some.inj h
        subst h9
        exact hK
  · show oo LN xs 0 0 120 27 [some (.ref 0), some (.int s5.1), some (.int s5.2)] [] M (some (.int t), M)
    refine o_iload_n k120_27 rfl ?_
    have h9 := Option.some.inj h
    subst h9
    exact o_iret pj_120 k120_28 rfl nr_i
def f_X0_wantsTold_9 (M : am_M) : Option Int32 := ((lp (σ := Int32 × Int32) (ρ := Int32 × Int32) (fun s1 => (if (M 9 0) ≤ s1.2 then (some (.inr (s1.1, s1.2))) else ((lp (σ := Int32 × Int32) (ρ := Int32 × Int32) (fun s4 => (if (M 9 1) ≤ s4.2 then (some (.inr (s4.1, s4.2))) else (if am_dbin (f_X0_at s1.2 s4.2) 64 = true then (if (M 11 (f_X0_at s1.2 s4.2).toNatClampNeg) = 2 then (some (.inl (s4.1, (s4.2 + 1)))) else (some (.inl ((s4.1 + 1), (s4.2 + 1))))) else none))) lp_F (s1.1, 0)).bind (fun s8 => (some (.inl (s8.1, (s1.2 + 1)))))))) lp_F (0, 0)).bind (fun s9 => (some s9.1)))
set_option maxRecDepth 20000 in
theorem t_X0_wantsTold_9 {LN : Nat} {xs : Nat → Int32} {M : am_M} {t : Int32} (h : f_X0_wantsTold_9 M = some t) : oo LN xs 0 0 14 0 [some (.ref 9), none, none, none] [] M (some (.int t), M) := by
  unfold f_X0_wantsTold_9 at h
  refine o_iconst (v := 0) k14_0 (by decide) ?_
  refine o_istore_n (v := 0) (L' := [some (.ref 9), some (.int 0), none, none]) k14_1 rfl rfl ?_
  refine o_iconst (v := 0) k14_2 (by decide) ?_
  refine o_istore_n (v := 0) (L' := [some (.ref 9), some (.int 0), some (.int 0), none]) k14_3 rfl rfl ?_
  refine bd_i h (fun s9 hs9 h => ?_)
  refine lp_o (fun s1 => ∀ (d2 : Option Value), oo LN xs 0 0 14 4 [some (.ref 9), some (.int s1.1), some (.int s1.2), d2] [] M (some (.int t), M)) (fun s9 => ∀ (d10 : Option Value), oo LN xs 0 0 14 51 [some (.ref 9), some (.int s9.1), some (.int s9.2), d10] [] M (some (.int t), M)) ?_ hs9 ?_ none
  · intro s1 ws1 h hK d2
    refine o_iload_n k14_4 rfl ?_
    refine o_aload_n k14_5 rfl ?_
    refine o_gf k14_6 (gf_9_0 _) ?_
    refine o_icmp_ge k14_9 (fun hc3 => ?_) (fun hc3 => ?_)
    · rw [if_pos hc3] at h
      have h9 := Option.some.inj h
      subst h9
      exact hK _
    · rw [if_neg hc3] at h
      refine o_iconst (v := 0) k14_12 (by decide) ?_
      refine o_istore_n (v := 0) (L' := [some (.ref 9), some (.int s1.1), some (.int s1.2), some (.int 0)]) k14_13 rfl rfl ?_
      refine bd_i h (fun s8 hs8 h => ?_)
      refine lp_o (fun s4 => oo LN xs 0 0 14 14 [some (.ref 9), some (.int s4.1), some (.int s1.2), some (.int s4.2)] [] M (some (.int t), M)) (fun s8 => oo LN xs 0 0 14 45 [some (.ref 9), some (.int s8.1), some (.int s1.2), some (.int s8.2)] [] M (some (.int t), M)) ?_ hs8 ?_
      · intro s4 ws4 h hK
        refine o_iload_n k14_14 rfl ?_
        refine o_aload_n k14_15 rfl ?_
        refine o_gf k14_16 (gf_9_1 _) ?_
        refine o_icmp_ge k14_19 (fun hc5 => ?_) (fun hc5 => ?_)
        · rw [if_pos hc5] at h
          have h9 := Option.some.inj h
          subst h9
          exact hK
        · rw [if_neg hc5] at h
          refine o_aload_n k14_22 rfl ?_
          refine o_gf k14_23 (gf_9_8 _) ?_
          refine o_iload_n k14_26 rfl ?_
          refine o_iload_n k14_27 rfl ?_
          refine o_call k14_28 pj_5 (fun _ => rfl) (by decide) rfl (as := [.int s1.2, .int s4.2]) (rest := [.ref 11]) rfl (L0 := [some (.int s1.2), some (.int s4.2)]) rfl (t_X0_at (M := M) (a0 := s1.2) (a1 := s4.2) rfl) ?_
          obtain ⟨hc6, h⟩ := ck_i h
          refine o_iald k14_31 rfl ia_11 hc6 ?_
          refine o_iconst (v := 2) k14_32 (by decide) ?_
          refine o_icmp_eq k14_33 (fun hc7 => ?_) (fun hc7 => ?_)
          · rw [if_pos hc7] at h
            refine o_iinc (w := s4.2 + 1) (L' := [some (.ref 9), some (.int s4.1), some (.int s1.2), some (.int (s4.2 + 1))]) k14_39 rfl rfl rfl ?_
            refine o_goto k14_42 ?_
            have h9 := Option.some.inj h
            subst h9
            exact hK
          · rw [if_neg hc7] at h
            refine o_iinc (w := s4.1 + 1) (L' := [some (.ref 9), some (.int (s4.1 + 1)), some (.int s1.2), some (.int s4.2)]) k14_36 rfl rfl rfl ?_
            refine o_iinc (w := s4.2 + 1) (L' := [some (.ref 9), some (.int (s4.1 + 1)), some (.int s1.2), some (.int (s4.2 + 1))]) k14_39 rfl rfl rfl ?_
            refine o_goto k14_42 ?_
            have h9 := Option.some.inj h
            subst h9
            exact hK
      · show oo LN xs 0 0 14 45 [some (.ref 9), some (.int s8.1), some (.int s1.2), some (.int s8.2)] [] M (some (.int t), M)
        refine o_iinc (w := s1.2 + 1) (L' := [some (.ref 9), some (.int s8.1), some (.int (s1.2 + 1)), some (.int s8.2)]) k14_45 rfl rfl rfl ?_
        refine o_goto k14_48 ?_
        have h9 := Option.some.inj h
        subst h9
        exact hK _
  · show ∀ (d10 : Option Value), oo LN xs 0 0 14 51 [some (.ref 9), some (.int s9.1), some (.int s9.2), d10] [] M (some (.int t), M)
    intro d10
    refine o_iload_n k14_51 rfl ?_
    have h9 := Option.some.inj h
    subst h9
    exact o_iret pj_14 k14_52 rfl nr_i
def f_X0_columnBits_9 (M : am_M) : Option Int32 := ((lp (σ := Int32 × Int32) (ρ := Int32 × Int32) (fun s1 => (if (M 9 0) ≤ s1.2 then (some (.inr (s1.1, s1.2))) else (if am_dbin s1.2 8 = true then (some (.inl ((s1.1 + (f_J6_bitCount_0f7a4 (M 12 s1.2.toNatClampNeg))), (s1.2 + 1)))) else none))) lp_F (0, 0)).bind (fun s4 => (some s4.1)))
set_option maxRecDepth 20000 in
theorem t_X0_columnBits_9 {LN : Nat} {xs : Nat → Int32} {M : am_M} {t : Int32} (h : f_X0_columnBits_9 M = some t) : oo LN xs 0 0 15 0 [some (.ref 9), none, none] [] M (some (.int t), M) := by
  unfold f_X0_columnBits_9 at h
  refine o_iconst (v := 0) k15_0 (by decide) ?_
  refine o_istore_n (v := 0) (L' := [some (.ref 9), some (.int 0), none]) k15_1 rfl rfl ?_
  refine o_iconst (v := 0) k15_2 (by decide) ?_
  refine o_istore_n (v := 0) (L' := [some (.ref 9), some (.int 0), some (.int 0)]) k15_3 rfl rfl ?_
  refine bd_i h (fun s4 hs4 h => ?_)
  refine lp_o (fun s1 => oo LN xs 0 0 15 4 [some (.ref 9), some (.int s1.1), some (.int s1.2)] [] M (some (.int t), M)) (fun s4 => oo LN xs 0 0 15 30 [some (.ref 9), some (.int s4.1), some (.int s4.2)] [] M (some (.int t), M)) ?_ hs4 ?_
  · intro s1 ws1 h hK
    refine o_iload_n k15_4 rfl ?_
    refine o_aload_n k15_5 rfl ?_
    refine o_gf k15_6 (gf_9_0 _) ?_
    refine o_icmp_ge k15_9 (fun hc2 => ?_) (fun hc2 => ?_)
    · rw [if_pos hc2] at h
      have h9 := Option.some.inj h
      subst h9
      exact hK
    · rw [if_neg hc2] at h
      refine o_iload_n k15_12 rfl ?_
      refine o_aload_n k15_13 rfl ?_
      refine o_gf k15_14 (gf_9_9 _) ?_
      refine o_iload_n k15_17 rfl ?_
      obtain ⟨hc3, h⟩ := ck_i h
      refine o_iald k15_18 rfl ia_12 hc3 ?_
      refine o_call k15_19 pj_212 (fun _ => rfl) (by decide) rfl (as := [.int (M 12 s1.2.toNatClampNeg)]) (rest := [.int s1.1]) rfl (L0 := [some (.int (M 12 s1.2.toNatClampNeg))]) rfl (t_J6_bitCount_0f7a4 (M := M) (a0 := (M 12 s1.2.toNatClampNeg)) rfl) ?_
      refine o_iadd k15_22 ?_
      refine o_istore_n (v := (s1.1 + (f_J6_bitCount_0f7a4 (M 12 s1.2.toNatClampNeg)))) (L' := [some (.ref 9), some (.int (s1.1 + (f_J6_bitCount_0f7a4 (M 12 s1.2.toNatClampNeg)))), some (.int s1.2)]) k15_23 rfl rfl ?_
      refine o_iinc (w := s1.2 + 1) (L' := [some (.ref 9), some (.int (s1.1 + (f_J6_bitCount_0f7a4 (M 12 s1.2.toNatClampNeg)))), some (.int (s1.2 + 1))]) k15_24 rfl rfl rfl ?_
      refine o_goto k15_27 ?_
      have h9 := Option.some.inj h
      subst h9
      exact hK
  · show oo LN xs 0 0 15 30 [some (.ref 9), some (.int s4.1), some (.int s4.2)] [] M (some (.int t), M)
    refine o_iload_n k15_30 rfl ?_
    have h9 := Option.some.inj h
    subst h9
    exact o_iret pj_15 k15_31 rfl nr_i
def f_X7_count_0 (a0 : Int32) (M : am_M) : Option Int32 := (if a0 = 0 then ((f_X7_imagesKept_0 M).bind (fun v1 => (some v1))) else (if a0 = 1 then ((f_X0_cellsWith_9 1 M).bind (fun v2 => (some v2))) else (if a0 = 2 then (some (M 2 1)) else (if a0 = 3 then (if (f_X3_isNothing_35 M) = 0 then (some (M 35 1)) else (some (-4))) else (if a0 = 4 then ((f_X0_wantsTold_9 M).bind (fun v4 => (some v4))) else (if a0 = 5 then ((f_X0_columnBits_9 M).bind (fun v5 => (some v5))) else (some (-1))))))))
set_option maxRecDepth 20000 in
theorem t_X7_count_0 {LN : Nat} {xs : Nat → Int32} {a0 : Int32} {M : am_M} {t : Int32} (h : f_X7_count_0 a0 M = some t) : oo LN xs 0 0 118 0 [some (.ref 0), some (.int a0)] [] M (some (.int t), M) := by
  unfold f_X7_count_0 at h
  refine o_iload_n k118_0 rfl ?_
  by_cases hx1_0 : a0 = 0
  · rw [if_pos hx1_0] at h
    refine o_tswI (tgt := 40) (off := 39) k118_1 (by rw [hx1_0]; decide) (by rw [hx1_0]; decide) (by rw [hx1_0]; decide) (by decide) ?_
    refine o_aload_n k118_40 rfl ?_
    refine bd_i h (fun v1 hv1 h => ?_)
    refine o_call k118_41 pj_120 (fun _ => rfl) (by decide) rfl (as := [.ref 0]) (rest := []) rfl (L0 := [some (.ref 0), none, none]) rfl (t_X7_imagesKept_0 hv1) ?_
    have h9 := Option.some.inj h
    subst h9
    exact o_iret pj_118 k118_44 rfl nr_i
  rw [if_neg hx1_0] at h
  by_cases hx1_1 : a0 = 1
  · rw [if_pos hx1_1] at h
    refine o_tswI (tgt := 45) (off := 44) k118_1 (by rw [hx1_1]; decide) (by rw [hx1_1]; decide) (by rw [hx1_1]; decide) (by decide) ?_
    refine o_aload_n k118_45 rfl ?_
    refine o_gf k118_46 (gf_0_2 _) ?_
    refine o_iconst (v := 1) k118_49 (by decide) ?_
    refine bd_i h (fun v2 hv2 h => ?_)
    refine o_call k118_50 pj_13 (fun _ => rfl) (by decide) rfl (as := [.ref 9, .int 1]) (rest := []) rfl (L0 := [some (.ref 9), some (.int 1), none, none, none]) rfl (t_X0_cellsWith_9 hv2) ?_
    have h9 := Option.some.inj h
    subst h9
    exact o_iret pj_118 k118_53 rfl nr_i
  rw [if_neg hx1_1] at h
  by_cases hx1_2 : a0 = 2
  · rw [if_pos hx1_2] at h
    refine o_tswI (tgt := 54) (off := 53) k118_1 (by rw [hx1_2]; decide) (by rw [hx1_2]; decide) (by rw [hx1_2]; decide) (by decide) ?_
    refine o_aload_n k118_54 rfl ?_
    refine o_gf k118_55 (gf_0_0 _) ?_
    refine o_gf k118_58 (gf_1_0 _) ?_
    refine o_gf k118_61 (gf_2_1 _) ?_
    have h9 := Option.some.inj h
    subst h9
    exact o_iret pj_118 k118_64 rfl nr_i
  rw [if_neg hx1_2] at h
  by_cases hx1_3 : a0 = 3
  · rw [if_pos hx1_3] at h
    refine o_tswI (tgt := 65) (off := 64) k118_1 (by rw [hx1_3]; decide) (by rw [hx1_3]; decide) (by rw [hx1_3]; decide) (by decide) ?_
    refine o_aload_n k118_65 rfl ?_
    refine o_gf k118_66 (gf_0_7 _) ?_
    refine o_iconst (v := 0) k118_69 (by decide) ?_
    refine o_aald (v := .ref 35) k118_70 rfl ?_
    refine o_call k118_71 pj_45 (fun _ => rfl) (by decide) rfl (as := [.ref 35]) (rest := []) rfl (L0 := [some (.ref 35)]) rfl (t_X3_isNothing_35 (M := M) rfl) ?_
    refine o_if_eq k118_74 (fun hc3 => ?_) (fun hc3 => ?_)
    · rw [if_pos hc3] at h
      refine o_aload_n k118_82 rfl ?_
      refine o_gf k118_83 (gf_0_7 _) ?_
      refine o_iconst (v := 0) k118_86 (by decide) ?_
      refine o_aald (v := .ref 35) k118_87 rfl ?_
      refine o_gf k118_88 (gf_35_1 _) ?_
      have h9 := Option.some.inj h
      subst h9
      exact o_iret pj_118 k118_91 rfl nr_i
    · rw [if_neg hc3] at h
      refine o_bipush (v := (-4)) k118_77 (by decide) ?_
      refine o_goto k118_79 ?_
      have h9 := Option.some.inj h
      subst h9
      exact o_iret pj_118 k118_91 rfl nr_i
  rw [if_neg hx1_3] at h
  by_cases hx1_4 : a0 = 4
  · rw [if_pos hx1_4] at h
    refine o_tswI (tgt := 92) (off := 91) k118_1 (by rw [hx1_4]; decide) (by rw [hx1_4]; decide) (by rw [hx1_4]; decide) (by decide) ?_
    refine o_aload_n k118_92 rfl ?_
    refine o_gf k118_93 (gf_0_2 _) ?_
    refine bd_i h (fun v4 hv4 h => ?_)
    refine o_call k118_96 pj_14 (fun _ => rfl) (by decide) rfl (as := [.ref 9]) (rest := []) rfl (L0 := [some (.ref 9), none, none, none]) rfl (t_X0_wantsTold_9 hv4) ?_
    have h9 := Option.some.inj h
    subst h9
    exact o_iret pj_118 k118_99 rfl nr_i
  rw [if_neg hx1_4] at h
  by_cases hx1_5 : a0 = 5
  · rw [if_pos hx1_5] at h
    refine o_tswI (tgt := 100) (off := 99) k118_1 (by rw [hx1_5]; decide) (by rw [hx1_5]; decide) (by rw [hx1_5]; decide) (by decide) ?_
    refine o_aload_n k118_100 rfl ?_
    refine o_gf k118_101 (gf_0_2 _) ?_
    refine bd_i h (fun v5 hv5 h => ?_)
    refine o_call k118_104 pj_15 (fun _ => rfl) (by decide) rfl (as := [.ref 9]) (rest := []) rfl (L0 := [some (.ref 9), none, none]) rfl (t_X0_columnBits_9 hv5) ?_
    have h9 := Option.some.inj h
    subst h9
    exact o_iret pj_118 k118_107 rfl nr_i
  rw [if_neg hx1_5] at h
  refine o_tswD (tgt := 108) k118_1 (by have n0 := ne_lit (k := 0) 0 (by decide) hx1_0; have n1 := ne_lit (k := 1) 1 (by decide) hx1_1; have n2 := ne_lit (k := 2) 2 (by decide) hx1_2; have n3 := ne_lit (k := 3) 3 (by decide) hx1_3; have n4 := ne_lit (k := 4) 4 (by decide) hx1_4; have n5 := ne_lit (k := 5) 5 (by decide) hx1_5; omega) (by decide) ?_
  refine o_iconst (v := (-1)) k118_108 (by decide) ?_
  have h9 := Option.some.inj h
  subst h9
  exact o_iret pj_118 k118_109 rfl nr_i
def f_X8_wantsOfAll_43 (M : am_M) : Option Int32 := ((lp (σ := Int32 × Int32) (ρ := Int32 × Int32) (fun s1 => (if (M 44 (0 : Int32).toNatClampNeg) ≤ s1.2 then (some (.inr (s1.1, s1.2))) else ((lp (σ := Int32 × Int32) (ρ := Int32 × Int32) (fun s5 => (if (M 44 (1 : Int32).toNatClampNeg) ≤ s5.2 then (some (.inr (s5.1, s5.2))) else (if am_dbin (((71 : Int32) + ((8 : Int32) * s1.2)) + s5.2) 151 = true then (bl (if (M 44 (((71 : Int32) + ((8 : Int32) * s1.2)) + s5.2).toNatClampNeg) = 2 then 0 else 1) (fun (v10 : Int32) => (some (.inl ((s5.1 + (f_X8_flag v10)), (s5.2 + 1)))))) else none))) lp_F (s1.1, 0)).bind (fun s11 => (some (.inl (s11.1, (s1.2 + 1)))))))) lp_F (0, 0)).bind (fun s12 => (some s12.1)))
set_option maxRecDepth 20000 in
theorem t_X8_wantsOfAll_43 {LN : Nat} {xs : Nat → Int32} {M : am_M} {t : Int32} (h : f_X8_wantsOfAll_43 M = some t) : oo LN xs 0 0 209 0 [some (.ref 43), none, none, none] [] M (some (.int t), M) := by
  unfold f_X8_wantsOfAll_43 at h
  refine o_iconst (v := 0) k209_0 (by decide) ?_
  refine o_istore_n (v := 0) (L' := [some (.ref 43), some (.int 0), none, none]) k209_1 rfl rfl ?_
  refine o_iconst (v := 0) k209_2 (by decide) ?_
  refine o_istore_n (v := 0) (L' := [some (.ref 43), some (.int 0), some (.int 0), none]) k209_3 rfl rfl ?_
  refine bd_i h (fun s12 hs12 h => ?_)
  refine lp_o (fun s1 => ∀ (d2 : Option Value), oo LN xs 0 0 209 4 [some (.ref 43), some (.int s1.1), some (.int s1.2), d2] [] M (some (.int t), M)) (fun s12 => ∀ (d13 : Option Value), oo LN xs 0 0 209 67 [some (.ref 43), some (.int s12.1), some (.int s12.2), d13] [] M (some (.int t), M)) ?_ hs12 ?_ none
  · intro s1 ws1 h hK d2
    refine o_iload_n k209_4 rfl ?_
    refine o_aload_n k209_5 rfl ?_
    refine o_gf k209_6 (gf_43_0 _) ?_
    refine o_iconst (v := 0) k209_9 (by decide) ?_
    refine o_iald k209_10 rfl ia_44 (by decide) ?_
    refine o_icmp_ge k209_11 (fun hc4 => ?_) (fun hc4 => ?_)
    · rw [if_pos hc4] at h
      have h9 := Option.some.inj h
      subst h9
      exact hK _
    · rw [if_neg hc4] at h
      refine o_iconst (v := 0) k209_14 (by decide) ?_
      refine o_istore_n (v := 0) (L' := [some (.ref 43), some (.int s1.1), some (.int s1.2), some (.int 0)]) k209_15 rfl rfl ?_
      refine bd_i h (fun s11 hs11 h => ?_)
      refine lp_o (fun s5 => oo LN xs 0 0 209 16 [some (.ref 43), some (.int s5.1), some (.int s1.2), some (.int s5.2)] [] M (some (.int t), M)) (fun s11 => oo LN xs 0 0 209 61 [some (.ref 43), some (.int s11.1), some (.int s1.2), some (.int s11.2)] [] M (some (.int t), M)) ?_ hs11 ?_
      · intro s5 ws5 h hK
        refine o_iload_n k209_16 rfl ?_
        refine o_aload_n k209_17 rfl ?_
        refine o_gf k209_18 (gf_43_0 _) ?_
        refine o_iconst (v := 1) k209_21 (by decide) ?_
        refine o_iald k209_22 rfl ia_44 (by decide) ?_
        refine o_icmp_ge k209_23 (fun hc7 => ?_) (fun hc7 => ?_)
        · rw [if_pos hc7] at h
          have h9 := Option.some.inj h
          subst h9
          exact hK
        · rw [if_neg hc7] at h
          refine o_iload_n k209_26 rfl ?_
          refine o_aload_n k209_27 rfl ?_
          refine o_gf k209_28 (gf_43_0 _) ?_
          refine o_bipush (v := 71) k209_31 (by decide) ?_
          refine o_bipush (v := 8) k209_33 (by decide) ?_
          refine o_iload_n k209_35 rfl ?_
          refine o_imul k209_36 ?_
          refine o_iadd k209_37 ?_
          refine o_iload_n k209_38 rfl ?_
          refine o_iadd k209_39 ?_
          obtain ⟨hc8, h⟩ := ck_i h
          refine o_iald k209_40 rfl ia_44 hc8 ?_
          refine o_iconst (v := 2) k209_41 (by decide) ?_
          refine bl_i h (fun v10 ev10 h => ?_)
          have hJ50 : ∀ (yv10 : Int32), yv10 = v10 → oo LN xs 0 0 209 50 [some (.ref 43), some (.int s5.1), some (.int s1.2), some (.int s5.2)] [.int yv10, .int s5.1] M (some (.int t), M) := by
            intro yv10 hyv10
            rw [hyv10]
            refine o_call k209_50 pj_126 (fun _ => rfl) (by decide) rfl (as := [.int v10]) (rest := [.int s5.1]) rfl (L0 := [some (.int v10)]) rfl (t_X8_flag (M := M) (a0 := v10) rfl) ?_
            refine o_iadd k209_53 ?_
            refine o_istore_n (v := (s5.1 + (f_X8_flag v10))) (L' := [some (.ref 43), some (.int (s5.1 + (f_X8_flag v10))), some (.int s1.2), some (.int s5.2)]) k209_54 rfl rfl ?_
            refine o_iinc (w := s5.2 + 1) (L' := [some (.ref 43), some (.int (s5.1 + (f_X8_flag v10))), some (.int s1.2), some (.int (s5.2 + 1))]) k209_55 rfl rfl rfl ?_
            refine o_goto k209_58 ?_
            have h9 := Option.some.inj h
            subst h9
            exact hK
          refine o_icmp_eq k209_42 (fun hc9 => ?_) (fun hc9 => ?_)
          · skip
            refine o_iconst (v := 0) k209_49 (by decide) ?_
            exact hJ50 _ (by simp only [ev10, if_pos hc9])
          · skip
            refine o_iconst (v := 1) k209_45 (by decide) ?_
            refine o_goto k209_46 ?_
            exact hJ50 _ (by simp only [ev10, if_neg hc9])
      · show oo LN xs 0 0 209 61 [some (.ref 43), some (.int s11.1), some (.int s1.2), some (.int s11.2)] [] M (some (.int t), M)
        refine o_iinc (w := s1.2 + 1) (L' := [some (.ref 43), some (.int s11.1), some (.int (s1.2 + 1)), some (.int s11.2)]) k209_61 rfl rfl rfl ?_
        refine o_goto k209_64 ?_
        have h9 := Option.some.inj h
        subst h9
        exact hK _
  · show ∀ (d13 : Option Value), oo LN xs 0 0 209 67 [some (.ref 43), some (.int s12.1), some (.int s12.2), d13] [] M (some (.int t), M)
    intro d13
    refine o_iload_n k209_67 rfl ?_
    have h9 := Option.some.inj h
    subst h9
    exact o_iret pj_209 k209_68 rfl nr_i
def f_X8_columnBits_43 (M : am_M) : Option Int32 := ((lp (σ := Int32 × Int32) (ρ := Int32 × Int32) (fun s1 => (if (M 44 (0 : Int32).toNatClampNeg) ≤ s1.2 then (some (.inr (s1.1, s1.2))) else (if am_dbin ((135 : Int32) + s1.2) 151 = true then ((f_X8_bitsOf (M 44 ((135 : Int32) + s1.2).toNatClampNeg)).bind (fun v5 => (some (.inl ((s1.1 + v5), (s1.2 + 1)))))) else none))) lp_F (0, 0)).bind (fun s6 => (some s6.1)))
set_option maxRecDepth 20000 in
theorem t_X8_columnBits_43 {LN : Nat} {xs : Nat → Int32} {M : am_M} {t : Int32} (h : f_X8_columnBits_43 M = some t) : oo LN xs 0 0 210 0 [some (.ref 43), none, none] [] M (some (.int t), M) := by
  unfold f_X8_columnBits_43 at h
  refine o_iconst (v := 0) k210_0 (by decide) ?_
  refine o_istore_n (v := 0) (L' := [some (.ref 43), some (.int 0), none]) k210_1 rfl rfl ?_
  refine o_iconst (v := 0) k210_2 (by decide) ?_
  refine o_istore_n (v := 0) (L' := [some (.ref 43), some (.int 0), some (.int 0)]) k210_3 rfl rfl ?_
  refine bd_i h (fun s6 hs6 h => ?_)
  refine lp_o (fun s1 => oo LN xs 0 0 210 4 [some (.ref 43), some (.int s1.1), some (.int s1.2)] [] M (some (.int t), M)) (fun s6 => oo LN xs 0 0 210 36 [some (.ref 43), some (.int s6.1), some (.int s6.2)] [] M (some (.int t), M)) ?_ hs6 ?_
  · intro s1 ws1 h hK
    refine o_iload_n k210_4 rfl ?_
    refine o_aload_n k210_5 rfl ?_
    refine o_gf k210_6 (gf_43_0 _) ?_
    refine o_iconst (v := 0) k210_9 (by decide) ?_
    refine o_iald k210_10 rfl ia_44 (by decide) ?_
    refine o_icmp_ge k210_11 (fun hc3 => ?_) (fun hc3 => ?_)
    · rw [if_pos hc3] at h
      have h9 := Option.some.inj h
      subst h9
      exact hK
    · rw [if_neg hc3] at h
      refine o_iload_n k210_14 rfl ?_
      refine o_aload_n k210_15 rfl ?_
      refine o_gf k210_16 (gf_43_0 _) ?_
      refine o_sipush (v := 135) k210_19 (by decide) ?_
      refine o_iload_n k210_22 rfl ?_
      refine o_iadd k210_23 ?_
      obtain ⟨hc4, h⟩ := ck_i h
      refine o_iald k210_24 rfl ia_44 hc4 ?_
      refine bd_i h (fun v5 hv5 h => ?_)
      refine o_call k210_25 pj_128 (fun _ => rfl) (by decide) rfl (as := [.int (M 44 ((135 : Int32) + s1.2).toNatClampNeg)]) (rest := [.int s1.1]) rfl (L0 := [some (.int (M 44 ((135 : Int32) + s1.2).toNatClampNeg)), none, none]) rfl (t_X8_bitsOf hv5) ?_
      refine o_iadd k210_28 ?_
      refine o_istore_n (v := (s1.1 + v5)) (L' := [some (.ref 43), some (.int (s1.1 + v5)), some (.int s1.2)]) k210_29 rfl rfl ?_
      refine o_iinc (w := s1.2 + 1) (L' := [some (.ref 43), some (.int (s1.1 + v5)), some (.int (s1.2 + 1))]) k210_30 rfl rfl rfl ?_
      refine o_goto k210_33 ?_
      have h9 := Option.some.inj h
      subst h9
      exact hK
  · show oo LN xs 0 0 210 36 [some (.ref 43), some (.int s6.1), some (.int s6.2)] [] M (some (.int t), M)
    refine o_iload_n k210_36 rfl ?_
    have h9 := Option.some.inj h
    subst h9
    exact o_iret pj_210 k210_37 rfl nr_i
def f_X8_count_43 (a0 : Int32) (M : am_M) : Option Int32 := (if a0 = 0 then (some ((f_X8_flag (M 46 (0 : Int32).toNatClampNeg)) + (f_X8_flag (M 46 (1 : Int32).toNatClampNeg)))) else (if a0 = 1 then ((f_X8_cellsOf_43 1 M).bind (fun v3 => (some v3))) else (if a0 = 2 then (some (M 43 12)) else (if a0 = 3 then (if (M 54 (0 : Int32).toNatClampNeg) = (-4) then (some (-4)) else (some (M 55 (0 : Int32).toNatClampNeg))) else (if a0 = 4 then ((f_X8_wantsOfAll_43 M).bind (fun v7 => (some v7))) else (if a0 = 5 then ((f_X8_columnBits_43 M).bind (fun v8 => (some v8))) else (some (-1))))))))
set_option maxRecDepth 20000 in
theorem t_X8_count_43 {LN : Nat} {xs : Nat → Int32} {a0 : Int32} {M : am_M} {t : Int32} (h : f_X8_count_43 a0 M = some t) : oo LN xs 0 0 211 0 [some (.ref 43), some (.int a0)] [] M (some (.int t), M) := by
  unfold f_X8_count_43 at h
  refine o_iload_n k211_0 rfl ?_
  by_cases hx1_0 : a0 = 0
  · rw [if_pos hx1_0] at h
    refine o_tswI (tgt := 40) (off := 39) k211_1 (by rw [hx1_0]; decide) (by rw [hx1_0]; decide) (by rw [hx1_0]; decide) (by decide) ?_
    refine o_aload_n k211_40 rfl ?_
    refine o_gf k211_41 (gf_43_2 _) ?_
    refine o_iconst (v := 0) k211_44 (by decide) ?_
    refine o_bald k211_45 ba_46 (by decide) ?_
    refine o_call k211_46 pj_126 (fun _ => rfl) (by decide) rfl (as := [.int (M 46 (0 : Int32).toNatClampNeg)]) (rest := []) rfl (L0 := [some (.int (M 46 (0 : Int32).toNatClampNeg))]) rfl (t_X8_flag (M := M) (a0 := (M 46 (0 : Int32).toNatClampNeg)) rfl) ?_
    refine o_aload_n k211_49 rfl ?_
    refine o_gf k211_50 (gf_43_2 _) ?_
    refine o_iconst (v := 1) k211_53 (by decide) ?_
    refine o_bald k211_54 ba_46 (by decide) ?_
    refine o_call k211_55 pj_126 (fun _ => rfl) (by decide) rfl (as := [.int (M 46 (1 : Int32).toNatClampNeg)]) (rest := [.int (f_X8_flag (M 46 (0 : Int32).toNatClampNeg))]) rfl (L0 := [some (.int (M 46 (1 : Int32).toNatClampNeg))]) rfl (t_X8_flag (M := M) (a0 := (M 46 (1 : Int32).toNatClampNeg)) rfl) ?_
    refine o_iadd k211_58 ?_
    have h9 := Option.some.inj h
    subst h9
    exact o_iret pj_211 k211_59 rfl nr_i
  rw [if_neg hx1_0] at h
  by_cases hx1_1 : a0 = 1
  · rw [if_pos hx1_1] at h
    refine o_tswI (tgt := 60) (off := 59) k211_1 (by rw [hx1_1]; decide) (by rw [hx1_1]; decide) (by rw [hx1_1]; decide) (by decide) ?_
    refine o_aload_n k211_60 rfl ?_
    refine o_iconst (v := 1) k211_61 (by decide) ?_
    refine bd_i h (fun v3 hv3 h => ?_)
    refine o_call k211_62 pj_157 (fun _ => rfl) (by decide) rfl (as := [.ref 43, .int 1]) (rest := []) rfl (L0 := [some (.ref 43), some (.int 1), none, none, none]) rfl (t_X8_cellsOf_43 hv3) ?_
    have h9 := Option.some.inj h
    subst h9
    exact o_iret pj_211 k211_65 rfl nr_i
  rw [if_neg hx1_1] at h
  by_cases hx1_2 : a0 = 2
  · rw [if_pos hx1_2] at h
    refine o_tswI (tgt := 66) (off := 65) k211_1 (by rw [hx1_2]; decide) (by rw [hx1_2]; decide) (by rw [hx1_2]; decide) (by decide) ?_
    refine o_aload_n k211_66 rfl ?_
    refine o_gf k211_67 (gf_43_12 _) ?_
    have h9 := Option.some.inj h
    subst h9
    exact o_iret pj_211 k211_70 rfl nr_i
  rw [if_neg hx1_2] at h
  by_cases hx1_3 : a0 = 3
  · rw [if_pos hx1_3] at h
    refine o_tswI (tgt := 71) (off := 70) k211_1 (by rw [hx1_3]; decide) (by rw [hx1_3]; decide) (by rw [hx1_3]; decide) (by decide) ?_
    refine o_aload_n k211_71 rfl ?_
    refine o_gf k211_72 (gf_43_27 _) ?_
    refine o_iconst (v := 0) k211_75 (by decide) ?_
    refine o_iald k211_76 rfl ia_54 (by decide) ?_
    refine o_bipush (v := (-4)) k211_77 (by decide) ?_
    refine o_icmp_ne k211_79 (fun hc5 => ?_) (fun hc5 => ?_)
    · rw [if_neg hc5] at h
      refine o_aload_n k211_87 rfl ?_
      refine o_gf k211_88 (gf_43_28 _) ?_
      refine o_iconst (v := 0) k211_91 (by decide) ?_
      refine o_iald k211_92 rfl ia_55 (by decide) ?_
      have h9 := Option.some.inj h
      subst h9
      exact o_iret pj_211 k211_93 rfl nr_i
    · rw [if_pos hc5] at h
      refine o_bipush (v := (-4)) k211_82 (by decide) ?_
      refine o_goto k211_84 ?_
      have h9 := Option.some.inj h
      subst h9
      exact o_iret pj_211 k211_93 rfl nr_i
  rw [if_neg hx1_3] at h
  by_cases hx1_4 : a0 = 4
  · rw [if_pos hx1_4] at h
    refine o_tswI (tgt := 94) (off := 93) k211_1 (by rw [hx1_4]; decide) (by rw [hx1_4]; decide) (by rw [hx1_4]; decide) (by decide) ?_
    refine o_aload_n k211_94 rfl ?_
    refine bd_i h (fun v7 hv7 h => ?_)
    refine o_call k211_95 pj_209 (fun _ => rfl) (by decide) rfl (as := [.ref 43]) (rest := []) rfl (L0 := [some (.ref 43), none, none, none]) rfl (t_X8_wantsOfAll_43 hv7) ?_
    have h9 := Option.some.inj h
    subst h9
    exact o_iret pj_211 k211_98 rfl nr_i
  rw [if_neg hx1_4] at h
  by_cases hx1_5 : a0 = 5
  · rw [if_pos hx1_5] at h
    refine o_tswI (tgt := 99) (off := 98) k211_1 (by rw [hx1_5]; decide) (by rw [hx1_5]; decide) (by rw [hx1_5]; decide) (by decide) ?_
    refine o_aload_n k211_99 rfl ?_
    refine bd_i h (fun v8 hv8 h => ?_)
    refine o_call k211_100 pj_210 (fun _ => rfl) (by decide) rfl (as := [.ref 43]) (rest := []) rfl (L0 := [some (.ref 43), none, none]) rfl (t_X8_columnBits_43 hv8) ?_
    have h9 := Option.some.inj h
    subst h9
    exact o_iret pj_211 k211_103 rfl nr_i
  rw [if_neg hx1_5] at h
  refine o_tswD (tgt := 104) k211_1 (by have n0 := ne_lit (k := 0) 0 (by decide) hx1_0; have n1 := ne_lit (k := 1) 1 (by decide) hx1_1; have n2 := ne_lit (k := 2) 2 (by decide) hx1_2; have n3 := ne_lit (k := 3) 3 (by decide) hx1_3; have n4 := ne_lit (k := 4) 4 (by decide) hx1_4; have n5 := ne_lit (k := 5) 5 (by decide) hx1_5; omega) (by decide) ?_
  refine o_iconst (v := (-1)) k211_104 (by decide) ?_
  have h9 := Option.some.inj h
  subst h9
  exact o_iret pj_211 k211_105 rfl nr_i
def f_L_law_1000 (LN : Nat) (xs : Nat → Int32) (a0 : Int32) (M : am_M) : Option (Int32 × am_M) := ((lp (σ := Int32 × am_M) (ρ := (Int32 × am_M) ⊕ (Int32 × am_M)) (fun s1 => (if ((Int32.ofNat LN) - 5) < s1.1 then (some (.inr (.inr (s1.1, s1.2)))) else (if am_dbin s1.1 LN = true then (if ((xs s1.1.toNatClampNeg) &&& 63) = 0 then (if am_dbin (s1.1 + 1) LN = true then ((f_X7_feed_0 (xs (s1.1 + 1).toNatClampNeg) s1.2).bind (fun q5 => (if am_dbin (s1.1 + 1) LN = true then ((f_X8_feed_43 (xs (s1.1 + 1).toNatClampNeg) q5.2).bind (fun q7 => (if q5.1 = q7.1 then (some (.inl ((s1.1 + 5), q7.2))) else (some (.inr (.inl (0, q7.2))))))) else none))) else none) else (if ((xs s1.1.toNatClampNeg) &&& 63) = 1 then (if am_dbin (s1.1 + 1) LN = true then ((f_X7_end_0 (xs (s1.1 + 1).toNatClampNeg) s1.2).bind (fun q10 => (if am_dbin (s1.1 + 1) LN = true then ((f_X8_end_43 (xs (s1.1 + 1).toNatClampNeg) q10.2).bind (fun q12 => (if q10.1 = q12.1 then (some (.inl ((s1.1 + 5), q12.2))) else (some (.inr (.inl (0, q12.2))))))) else none))) else none) else (if ((xs s1.1.toNatClampNeg) &&& 63) = 2 then ((f_X7_text_0 s1.2).bind (fun q14 => ((f_X8_text_43 q14.2).bind (fun q15 => (if q14.1 = q15.1 then (some (.inl ((s1.1 + 5), q15.2))) else (some (.inr (.inl (0, q15.2))))))))) else (if ((xs s1.1.toNatClampNeg) &&& 63) = 3 then (if (f_X7_fault_0 s1.2) = (f_X8_fault_43 s1.2) then (some (.inl ((s1.1 + 5), s1.2))) else (some (.inr (.inl (0, s1.2))))) else (if ((xs s1.1.toNatClampNeg) &&& 63) = 4 then (if am_dbin (s1.1 + 1) LN = true then ((f_X7_rule_0 (xs (s1.1 + 1).toNatClampNeg) s1.2).bind (fun v19 => (if am_dbin (s1.1 + 1) LN = true then ((f_X8_rule_43 (xs (s1.1 + 1).toNatClampNeg) s1.2).bind (fun v21 => (if v19 = v21 then (some (.inl ((s1.1 + 5), s1.2))) else (some (.inr (.inl (0, s1.2))))))) else none))) else none) else (if ((xs s1.1.toNatClampNeg) &&& 63) = 5 then (if am_dbin (s1.1 + 1) LN = true then (if am_dbin (s1.1 + 2) LN = true then (if am_dbin (s1.1 + 3) LN = true then ((f_X7_cell_0 (xs (s1.1 + 1).toNatClampNeg) (xs (s1.1 + 2).toNatClampNeg) (xs (s1.1 + 3).toNatClampNeg) s1.2).bind (fun v26 => (if am_dbin (s1.1 + 1) LN = true then (if am_dbin (s1.1 + 2) LN = true then (if am_dbin (s1.1 + 3) LN = true then ((f_X8_cell_43 (xs (s1.1 + 1).toNatClampNeg) (xs (s1.1 + 2).toNatClampNeg) (xs (s1.1 + 3).toNatClampNeg) s1.2).bind (fun v30 => (if v26 = v30 then (some (.inl ((s1.1 + 5), s1.2))) else (some (.inr (.inl (0, s1.2))))))) else none) else none) else none))) else none) else none) else none) else (if ((xs s1.1.toNatClampNeg) &&& 63) = 6 then (if am_dbin (s1.1 + 1) LN = true then ((f_X7_column_0 (xs (s1.1 + 1).toNatClampNeg) s1.2).bind (fun v33 => (if am_dbin (s1.1 + 1) LN = true then ((f_X8_column_43 (xs (s1.1 + 1).toNatClampNeg) s1.2).bind (fun v35 => (if v33 = v35 then (some (.inl ((s1.1 + 5), s1.2))) else (some (.inr (.inl (0, s1.2))))))) else none))) else none) else (if ((xs s1.1.toNatClampNeg) &&& 63) = 7 then (if am_dbin (s1.1 + 1) LN = true then (if am_dbin (s1.1 + 2) LN = true then ((f_X7_seen_0 (xs (s1.1 + 1).toNatClampNeg) (xs (s1.1 + 2).toNatClampNeg) s1.2).bind (fun v39 => (if am_dbin (s1.1 + 1) LN = true then (if am_dbin (s1.1 + 2) LN = true then ((f_X8_seen_43 (xs (s1.1 + 1).toNatClampNeg) (xs (s1.1 + 2).toNatClampNeg) s1.2).bind (fun v42 => (if v39 = v42 then (some (.inl ((s1.1 + 5), s1.2))) else (some (.inr (.inl (0, s1.2))))))) else none) else none))) else none) else none) else (if ((xs s1.1.toNatClampNeg) &&& 63) = 8 then (if am_dbin (s1.1 + 1) LN = true then ((f_X7_weak_0 (xs (s1.1 + 1).toNatClampNeg) s1.2).bind (fun v45 => (if am_dbin (s1.1 + 1) LN = true then ((f_X8_weak_43 (xs (s1.1 + 1).toNatClampNeg) s1.2).bind (fun v47 => (if v45 = v47 then (some (.inl ((s1.1 + 5), s1.2))) else (some (.inr (.inl (0, s1.2))))))) else none))) else none) else (if ((xs s1.1.toNatClampNeg) &&& 63) = 9 then (if am_dbin (s1.1 + 1) LN = true then (if am_dbin (s1.1 + 2) LN = true then (if am_dbin (s1.1 + 3) LN = true then ((f_X7_hidden_0 (xs (s1.1 + 1).toNatClampNeg) (xs (s1.1 + 2).toNatClampNeg) (xs (s1.1 + 3).toNatClampNeg) s1.2).bind (fun v52 => (if am_dbin (s1.1 + 1) LN = true then (if am_dbin (s1.1 + 2) LN = true then (if am_dbin (s1.1 + 3) LN = true then ((f_X8_hidden_43 (xs (s1.1 + 1).toNatClampNeg) (xs (s1.1 + 2).toNatClampNeg) (xs (s1.1 + 3).toNatClampNeg) s1.2).bind (fun q56 => (if v52 = q56.1 then (some (.inl ((s1.1 + 5), q56.2))) else (some (.inr (.inl (0, q56.2))))))) else none) else none) else none))) else none) else none) else none) else (if ((xs s1.1.toNatClampNeg) &&& 63) = 10 then (if am_dbin (s1.1 + 1) LN = true then ((f_X7_sure_0 (xs (s1.1 + 1).toNatClampNeg) s1.2).bind (fun v59 => (if am_dbin (s1.1 + 1) LN = true then ((f_X8_sure_43 (xs (s1.1 + 1).toNatClampNeg) s1.2).bind (fun q61 => (if v59 = q61.1 then (some (.inl ((s1.1 + 5), q61.2))) else (some (.inr (.inl (0, q61.2))))))) else none))) else none) else (if ((xs s1.1.toNatClampNeg) &&& 63) = 11 then (if am_dbin (s1.1 + 1) LN = true then ((f_X7_hides_0 (xs (s1.1 + 1).toNatClampNeg) s1.2).bind (fun v64 => (if am_dbin (s1.1 + 1) LN = true then ((f_X8_hides_43 (xs (s1.1 + 1).toNatClampNeg) s1.2).bind (fun v66 => (if v64 = v66 then (some (.inl ((s1.1 + 5), s1.2))) else (some (.inr (.inl (0, s1.2))))))) else none))) else none) else (if ((xs s1.1.toNatClampNeg) &&& 63) = 12 then ((f_X7_watched_0 s1.2).bind (fun v68 => ((f_X8_watched_43 s1.2).bind (fun v69 => (if v68 = v69 then (some (.inl ((s1.1 + 5), s1.2))) else (some (.inr (.inl (0, s1.2))))))))) else (if ((xs s1.1.toNatClampNeg) &&& 63) = 13 then ((f_X7_best_0 s1.2).bind (fun v71 => ((f_X8_best_43 s1.2).bind (fun q72 => (if v71 = q72.1 then (some (.inl ((s1.1 + 5), q72.2))) else (some (.inr (.inl (0, q72.2))))))))) else (if ((xs s1.1.toNatClampNeg) &&& 63) = 14 then (if am_dbin (s1.1 + 1) LN = true then (if am_dbin (s1.1 + 2) LN = true then (if am_dbin (s1.1 + 3) LN = true then ((f_X7_set_0 (xs (s1.1 + 1).toNatClampNeg) (xs (s1.1 + 2).toNatClampNeg) (xs (s1.1 + 3).toNatClampNeg) s1.2).bind (fun q77 => (if am_dbin (s1.1 + 1) LN = true then (if am_dbin (s1.1 + 2) LN = true then (if am_dbin (s1.1 + 3) LN = true then ((f_X8_set_43 (xs (s1.1 + 1).toNatClampNeg) (xs (s1.1 + 2).toNatClampNeg) (xs (s1.1 + 3).toNatClampNeg) q77.2).bind (fun q81 => (if q77.1 = q81.1 then (some (.inl ((s1.1 + 5), q81.2))) else (some (.inr (.inl (0, q81.2))))))) else none) else none) else none))) else none) else none) else none) else (if ((xs s1.1.toNatClampNeg) &&& 63) = 15 then (if am_dbin (s1.1 + 1) LN = true then (if am_dbin (s1.1 + 2) LN = true then ((f_X7_put_0 (xs (s1.1 + 1).toNatClampNeg) (xs (s1.1 + 2).toNatClampNeg) s1.2).bind (fun q85 => (if am_dbin (s1.1 + 1) LN = true then (if am_dbin (s1.1 + 2) LN = true then ((f_X8_put_43 (xs (s1.1 + 1).toNatClampNeg) (xs (s1.1 + 2).toNatClampNeg) q85.2).bind (fun q88 => (if q85.1 = q88.1 then (some (.inl ((s1.1 + 5), q88.2))) else (some (.inr (.inl (0, q88.2))))))) else none) else none))) else none) else none) else (if ((xs s1.1.toNatClampNeg) &&& 63) = 16 then (if am_dbin (s1.1 + 1) LN = true then ((f_X7_out_0 (xs (s1.1 + 1).toNatClampNeg) s1.2).bind (fun q91 => (if am_dbin (s1.1 + 1) LN = true then ((f_X8_out_43 (xs (s1.1 + 1).toNatClampNeg) q91.2).bind (fun q93 => (if q91.1 = q93.1 then (some (.inl ((s1.1 + 5), q93.2))) else (some (.inr (.inl (0, q93.2))))))) else none))) else none) else (if ((xs s1.1.toNatClampNeg) &&& 63) = 17 then (if am_dbin (s1.1 + 1) LN = true then ((f_X7_draw_0 (xs (s1.1 + 1).toNatClampNeg) s1.2).bind (fun q96 => (if am_dbin (s1.1 + 1) LN = true then ((f_X8_draw_43 (xs (s1.1 + 1).toNatClampNeg) q96.2).bind (fun q98 => (if q96.1 = q98.1 then (some (.inl ((s1.1 + 5), q98.2))) else (some (.inr (.inl (0, q98.2))))))) else none))) else none) else (if ((xs s1.1.toNatClampNeg) &&& 63) = 18 then (if am_dbin (s1.1 + 1) LN = true then (if am_dbin (s1.1 + 2) LN = true then (if am_dbin (s1.1 + 3) LN = true then ((f_X7_want_0 (xs (s1.1 + 1).toNatClampNeg) (xs (s1.1 + 2).toNatClampNeg) (xs (s1.1 + 3).toNatClampNeg) s1.2).bind (fun q103 => (if am_dbin (s1.1 + 1) LN = true then (if am_dbin (s1.1 + 2) LN = true then (if am_dbin (s1.1 + 3) LN = true then ((f_X8_want_43 (xs (s1.1 + 1).toNatClampNeg) (xs (s1.1 + 2).toNatClampNeg) (xs (s1.1 + 3).toNatClampNeg) q103.2).bind (fun q107 => (if q103.1 = q107.1 then (some (.inl ((s1.1 + 5), q107.2))) else (some (.inr (.inl (0, q107.2))))))) else none) else none) else none))) else none) else none) else none) else (if ((xs s1.1.toNatClampNeg) &&& 63) = 19 then (if am_dbin (s1.1 + 1) LN = true then (if am_dbin (s1.1 + 2) LN = true then (if am_dbin (s1.1 + 3) LN = true then ((f_X7_brought_0 (xs (s1.1 + 1).toNatClampNeg) (xs (s1.1 + 2).toNatClampNeg) (xs (s1.1 + 3).toNatClampNeg) s1.2).bind (fun q112 => (if am_dbin (s1.1 + 1) LN = true then (if am_dbin (s1.1 + 2) LN = true then (if am_dbin (s1.1 + 3) LN = true then ((f_X8_brought_43 (xs (s1.1 + 1).toNatClampNeg) (xs (s1.1 + 2).toNatClampNeg) (xs (s1.1 + 3).toNatClampNeg) q112.2).bind (fun v116 => (if q112.1 = v116 then (some (.inl ((s1.1 + 5), q112.2))) else (some (.inr (.inl (0, q112.2))))))) else none) else none) else none))) else none) else none) else none) else (if ((xs s1.1.toNatClampNeg) &&& 63) = 20 then (if am_dbin (s1.1 + 1) LN = true then ((f_X7_seed_0 (xs (s1.1 + 1).toNatClampNeg) s1.2).bind (fun q119 => (if am_dbin (s1.1 + 1) LN = true then ((f_X8_seed_43 (xs (s1.1 + 1).toNatClampNeg) q119.2).bind (fun v121 => (if q119.1 = v121 then (some (.inl ((s1.1 + 5), q119.2))) else (some (.inr (.inl (0, q119.2))))))) else none))) else none) else (if ((xs s1.1.toNatClampNeg) &&& 63) = 21 then ((f_X7_signature_0 s1.2).bind (fun v123 => ((f_X8_signature_43 s1.2).bind (fun v124 => (if v123 = v124 then (some (.inl ((s1.1 + 5), s1.2))) else (some (.inr (.inl (0, s1.2))))))))) else (if ((xs s1.1.toNatClampNeg) &&& 63) = 22 then (if am_dbin (s1.1 + 1) LN = true then ((f_X7_alias_0 (xs (s1.1 + 1).toNatClampNeg) s1.2).bind (fun q127 => (if am_dbin (s1.1 + 1) LN = true then ((f_X8_alias_43 (xs (s1.1 + 1).toNatClampNeg) q127.2).bind (fun q129 => (if q127.1 = q129.1 then (some (.inl ((s1.1 + 5), q129.2))) else (some (.inr (.inl (0, q129.2))))))) else none))) else none) else (if ((xs s1.1.toNatClampNeg) &&& 63) = 23 then (if am_dbin (s1.1 + 1) LN = true then ((f_X7_suspects_0 (xs (s1.1 + 1).toNatClampNeg) s1.2).bind (fun v132 => (if am_dbin (s1.1 + 1) LN = true then ((f_X8_suspects_43 (xs (s1.1 + 1).toNatClampNeg) s1.2).bind (fun v134 => (if v132 = v134 then (some (.inl ((s1.1 + 5), s1.2))) else (some (.inr (.inl (0, s1.2))))))) else none))) else none) else (if ((xs s1.1.toNatClampNeg) &&& 63) = 24 then (if am_dbin (s1.1 + 1) LN = true then (if am_dbin (s1.1 + 2) LN = true then ((f_X7_dump_0 (xs (s1.1 + 1).toNatClampNeg) (xs (s1.1 + 2).toNatClampNeg) s1.2).bind (fun q138 => (if am_dbin (s1.1 + 1) LN = true then (if am_dbin (s1.1 + 2) LN = true then ((f_X8_dump_43 (xs (s1.1 + 1).toNatClampNeg) (xs (s1.1 + 2).toNatClampNeg) q138.2).bind (fun q141 => (if q138.1 = q141.1 then (some (.inl ((s1.1 + 5), q141.2))) else (some (.inr (.inl (0, q141.2))))))) else none) else none))) else none) else none) else (if ((xs s1.1.toNatClampNeg) &&& 63) = 25 then (if am_dbin (s1.1 + 1) LN = true then ((f_X7_clear_0 (xs (s1.1 + 1).toNatClampNeg) s1.2).bind (fun q144 => (if am_dbin (s1.1 + 1) LN = true then ((f_X8_clear_43 (xs (s1.1 + 1).toNatClampNeg) q144.2).bind (fun q146 => (if q144.1 = q146.1 then (some (.inl ((s1.1 + 5), q146.2))) else (some (.inr (.inl (0, q146.2))))))) else none))) else none) else (if ((xs s1.1.toNatClampNeg) &&& 63) = 26 then (if am_dbin (s1.1 + 1) LN = true then ((f_X7_keep_0 (xs (s1.1 + 1).toNatClampNeg) s1.2).bind (fun q149 => (if am_dbin (s1.1 + 1) LN = true then ((f_X8_keep_43 (xs (s1.1 + 1).toNatClampNeg) q149.2).bind (fun q151 => (if q149.1 = q151.1 then (some (.inl ((s1.1 + 5), q151.2))) else (some (.inr (.inl (0, q151.2))))))) else none))) else none) else (if ((xs s1.1.toNatClampNeg) &&& 63) = 27 then (if am_dbin (s1.1 + 1) LN = true then ((f_X7_back_0 (xs (s1.1 + 1).toNatClampNeg) s1.2).bind (fun q154 => (if am_dbin (s1.1 + 1) LN = true then ((f_X8_back_43 (xs (s1.1 + 1).toNatClampNeg) q154.2).bind (fun q156 => (if q154.1 = q156.1 then (some (.inl ((s1.1 + 5), q156.2))) else (some (.inr (.inl (0, q156.2))))))) else none))) else none) else (if ((xs s1.1.toNatClampNeg) &&& 63) = 28 then (if am_dbin (s1.1 + 1) LN = true then (if am_dbin (s1.1 + 2) LN = true then ((f_X7_differs_0 (xs (s1.1 + 1).toNatClampNeg) (xs (s1.1 + 2).toNatClampNeg) s1.2).bind (fun v160 => (if am_dbin (s1.1 + 1) LN = true then (if am_dbin (s1.1 + 2) LN = true then ((f_X8_differs_43 (xs (s1.1 + 1).toNatClampNeg) (xs (s1.1 + 2).toNatClampNeg) s1.2).bind (fun q163 => (if v160 = q163.1 then (some (.inl ((s1.1 + 5), q163.2))) else (some (.inr (.inl (0, q163.2))))))) else none) else none))) else none) else none) else (if ((xs s1.1.toNatClampNeg) &&& 63) = 29 then (if am_dbin (s1.1 + 1) LN = true then (if am_dbin (s1.1 + 2) LN = true then (if am_dbin (s1.1 + 3) LN = true then ((f_X7_sheet_0 (xs (s1.1 + 1).toNatClampNeg) (xs (s1.1 + 2).toNatClampNeg) (xs (s1.1 + 3).toNatClampNeg) s1.2).bind (fun q168 => (if am_dbin (s1.1 + 1) LN = true then (if am_dbin (s1.1 + 2) LN = true then (if am_dbin (s1.1 + 3) LN = true then ((f_X8_sheet_43 (xs (s1.1 + 1).toNatClampNeg) (xs (s1.1 + 2).toNatClampNeg) (xs (s1.1 + 3).toNatClampNeg) q168.2).bind (fun q172 => (if q168.1 = q172.1 then (some (.inl ((s1.1 + 5), q172.2))) else (some (.inr (.inl (0, q172.2))))))) else none) else none) else none))) else none) else none) else none) else (if ((xs s1.1.toNatClampNeg) &&& 63) = 30 then (if am_dbin (s1.1 + 1) LN = true then (if am_dbin (s1.1 + 2) LN = true then (if am_dbin (s1.1 + 3) LN = true then ((f_X7_lay_0 (xs (s1.1 + 1).toNatClampNeg) (xs (s1.1 + 2).toNatClampNeg) (xs (s1.1 + 3).toNatClampNeg) s1.2).bind (fun q177 => (if am_dbin (s1.1 + 1) LN = true then (if am_dbin (s1.1 + 2) LN = true then (if am_dbin (s1.1 + 3) LN = true then ((f_X8_lay_43 (xs (s1.1 + 1).toNatClampNeg) (xs (s1.1 + 2).toNatClampNeg) (xs (s1.1 + 3).toNatClampNeg) q177.2).bind (fun q181 => (if q177.1 = q181.1 then (some (.inl ((s1.1 + 5), q181.2))) else (some (.inr (.inl (0, q181.2))))))) else none) else none) else none))) else none) else none) else none) else (if ((xs s1.1.toNatClampNeg) &&& 63) = 31 then (if am_dbin (s1.1 + 1) LN = true then (if am_dbin (s1.1 + 2) LN = true then (if am_dbin (s1.1 + 3) LN = true then (if am_dbin (s1.1 + 4) LN = true then ((f_X7_read_0 (xs (s1.1 + 1).toNatClampNeg) (xs (s1.1 + 2).toNatClampNeg) (xs (s1.1 + 3).toNatClampNeg) (xs (s1.1 + 4).toNatClampNeg) s1.2).bind (fun q187 => (if am_dbin (s1.1 + 1) LN = true then (if am_dbin (s1.1 + 2) LN = true then (if am_dbin (s1.1 + 3) LN = true then (if am_dbin (s1.1 + 4) LN = true then ((f_X8_read_43 (xs (s1.1 + 1).toNatClampNeg) (xs (s1.1 + 2).toNatClampNeg) (xs (s1.1 + 3).toNatClampNeg) (xs (s1.1 + 4).toNatClampNeg) q187.2).bind (fun q192 => (if q187.1 = q192.1 then (some (.inl ((s1.1 + 5), q192.2))) else (some (.inr (.inl (0, q192.2))))))) else none) else none) else none) else none))) else none) else none) else none) else none) else (if ((xs s1.1.toNatClampNeg) &&& 63) = 32 then (if (f_X7_torn_0 s1.2) = (f_X8_torn_43 s1.2) then (some (.inl ((s1.1 + 5), s1.2))) else (some (.inr (.inl (0, s1.2))))) else (if ((xs s1.1.toNatClampNeg) &&& 63) = 33 then (if am_dbin (s1.1 + 1) LN = true then ((f_X7_count_0 (xs (s1.1 + 1).toNatClampNeg) s1.2).bind (fun v196 => (if am_dbin (s1.1 + 1) LN = true then ((f_X8_count_43 (xs (s1.1 + 1).toNatClampNeg) s1.2).bind (fun v198 => (if v196 = v198 then (some (.inl ((s1.1 + 5), s1.2))) else (some (.inr (.inl (0, s1.2))))))) else none))) else none) else (some (.inl ((s1.1 + 5), s1.2))))))))))))))))))))))))))))))))))))) else none))) lp_F (a0, M)).bind (fun os200 => Sum.elim (fun u => (some u)) (fun s200 => (some (1, s200.2))) os200))
set_option maxRecDepth 20000 in
theorem t_L_law_1000 {LN : Nat} {xs : Nat → Int32} {kc ks : Nat} {a0 : Int32} {M : am_M} {t : Int32 × am_M} (h : f_L_law_1000 LN xs a0 M = some t) : oo LN xs kc ks 0 18 [some (.ref 1000), some (.ref 0), some (.ref 43), some (.int a0)] [] M (some (.int t.1), t.2) := by
  unfold f_L_law_1000 at h
  refine bd_i h (fun Os200 hOs200 h => ?_)
  refine lp_o (fun s1 => oo LN xs kc ks 0 18 [some (.ref 1000), some (.ref 0), some (.ref 43), some (.int s1.1)] [] s1.2 (some (.int t.1), t.2)) (fun oq => Sum.elim (fun u => u = t) (fun s200 => oo LN xs kc ks 0 1122 [some (.ref 1000), some (.ref 0), some (.ref 43), some (.int s200.1)] [] s200.2 (some (.int t.1), t.2)) oq) ?_ hOs200 ?_
  · intro s1 ws1 h hK
    refine o_iload_n k0_18 rfl ?_
    refine o_aload_n k0_19 rfl ?_
    refine o_alen k0_20 rfl rfl ?_
    refine o_iconst (v := 5) k0_21 (by decide) ?_
    refine o_isub k0_22 ?_
    refine o_icmp_gt k0_23 (fun hc2 => ?_) (fun hc2 => ?_)
    · rw [if_pos hc2] at h
      have h9 := Option.some.inj h
      subst h9
      exact hK
    · rw [if_neg hc2] at h
      refine o_aload_n k0_26 rfl ?_
      refine o_iload_n k0_27 rfl ?_
      obtain ⟨hc3, h⟩ := ck_i h
      refine o_iascr k0_28 hc3 ?_
      refine o_bipush (v := 63) k0_29 (by decide) ?_
      refine o_iand k0_31 ?_
      by_cases hx32_0 : ((xs s1.1.toNatClampNeg) &&& 63) = 0
      · rw [if_pos hx32_0] at h
        refine o_tswI (tgt := 184) (off := 152) k0_32 (by rw [hx32_0]; decide) (by rw [hx32_0]; decide) (by rw [hx32_0]; decide) (by decide) ?_
        refine o_aload_n k0_184 rfl ?_
        refine o_aload_n k0_185 rfl ?_
        refine o_iload_n k0_186 rfl ?_
        refine o_iconst (v := 1) k0_187 (by decide) ?_
        refine o_iadd k0_188 ?_
        obtain ⟨hc4, h⟩ := ck_i h
        refine o_iascr k0_189 hc4 ?_
        refine bd_i h (fun q5 hq5 h => ?_)
        refine o_call k0_190 pj_82 (fun _ => rfl) (by decide) rfl (as := [.ref 0, .int (xs (s1.1 + 1).toNatClampNeg)]) (rest := []) rfl (L0 := [some (.ref 0), some (.int (xs (s1.1 + 1).toNatClampNeg))]) rfl (t_X7_feed_0 hq5) ?_
        refine o_aload_n k0_193 rfl ?_
        refine o_aload_n k0_194 rfl ?_
        refine o_iload_n k0_195 rfl ?_
        refine o_iconst (v := 1) k0_196 (by decide) ?_
        refine o_iadd k0_197 ?_
        obtain ⟨hc6, h⟩ := ck_i h
        refine o_iascr k0_198 hc6 ?_
        refine bd_i h (fun q7 hq7 h => ?_)
        refine o_call k0_199 pj_132 (fun _ => rfl) (by decide) rfl (as := [.ref 43, .int (xs (s1.1 + 1).toNatClampNeg)]) (rest := [.int q5.1]) rfl (L0 := [some (.ref 43), some (.int (xs (s1.1 + 1).toNatClampNeg))]) rfl (t_X8_feed_43 hq7) ?_
        refine o_icmp_eq k0_202 (fun hc8 => ?_) (fun hc8 => ?_)
        · rw [if_pos hc8] at h
          refine o_iinc (w := s1.1 + 5) (L' := [some (.ref 1000), some (.ref 0), some (.ref 43), some (.int (s1.1 + 5))]) k0_1116 rfl rfl rfl ?_
          refine o_goto k0_1119 ?_
          have h9 := Option.some.inj h
          subst h9
          exact hK
        · rw [if_neg hc8] at h
          refine o_iconst (v := 0) k0_205 (by decide) ?_
          have h9 := Option.some.inj h
          subst h9
          have hK2 : (0, q7.2) = t := hK
          subst hK2
          exact o_iret pj_0 k0_206 rfl (nr_z (by decide))
      rw [if_neg hx32_0] at h
      by_cases hx32_1 : ((xs s1.1.toNatClampNeg) &&& 63) = 1
      · rw [if_pos hx32_1] at h
        refine o_tswI (tgt := 207) (off := 175) k0_32 (by rw [hx32_1]; decide) (by rw [hx32_1]; decide) (by rw [hx32_1]; decide) (by decide) ?_
        refine o_aload_n k0_207 rfl ?_
        refine o_aload_n k0_208 rfl ?_
        refine o_iload_n k0_209 rfl ?_
        refine o_iconst (v := 1) k0_210 (by decide) ?_
        refine o_iadd k0_211 ?_
        obtain ⟨hc9, h⟩ := ck_i h
        refine o_iascr k0_212 hc9 ?_
        refine bd_i h (fun q10 hq10 h => ?_)
        refine o_call k0_213 pj_83 (fun _ => rfl) (by decide) rfl (as := [.ref 0, .int (xs (s1.1 + 1).toNatClampNeg)]) (rest := []) rfl (L0 := [some (.ref 0), some (.int (xs (s1.1 + 1).toNatClampNeg)), none]) rfl (t_X7_end_0 hq10) ?_
        refine o_aload_n k0_216 rfl ?_
        refine o_aload_n k0_217 rfl ?_
        refine o_iload_n k0_218 rfl ?_
        refine o_iconst (v := 1) k0_219 (by decide) ?_
        refine o_iadd k0_220 ?_
        obtain ⟨hc11, h⟩ := ck_i h
        refine o_iascr k0_221 hc11 ?_
        refine bd_i h (fun q12 hq12 h => ?_)
        refine o_call k0_222 pj_133 (fun _ => rfl) (by decide) rfl (as := [.ref 43, .int (xs (s1.1 + 1).toNatClampNeg)]) (rest := [.int q10.1]) rfl (L0 := [some (.ref 43), some (.int (xs (s1.1 + 1).toNatClampNeg)), none]) rfl (t_X8_end_43 hq12) ?_
        refine o_icmp_eq k0_225 (fun hc13 => ?_) (fun hc13 => ?_)
        · rw [if_pos hc13] at h
          refine o_iinc (w := s1.1 + 5) (L' := [some (.ref 1000), some (.ref 0), some (.ref 43), some (.int (s1.1 + 5))]) k0_1116 rfl rfl rfl ?_
          refine o_goto k0_1119 ?_
          have h9 := Option.some.inj h
          subst h9
          exact hK
        · rw [if_neg hc13] at h
          refine o_iconst (v := 0) k0_228 (by decide) ?_
          have h9 := Option.some.inj h
          subst h9
          have hK2 : (0, q12.2) = t := hK
          subst hK2
          exact o_iret pj_0 k0_229 rfl (nr_z (by decide))
      rw [if_neg hx32_1] at h
      by_cases hx32_2 : ((xs s1.1.toNatClampNeg) &&& 63) = 2
      · rw [if_pos hx32_2] at h
        refine o_tswI (tgt := 230) (off := 198) k0_32 (by rw [hx32_2]; decide) (by rw [hx32_2]; decide) (by rw [hx32_2]; decide) (by decide) ?_
        refine o_aload_n k0_230 rfl ?_
        refine bd_i h (fun q14 hq14 h => ?_)
        refine o_call k0_231 pj_84 (fun _ => rfl) (by decide) rfl (as := [.ref 0]) (rest := []) rfl (L0 := [some (.ref 0), none, none]) rfl (t_X7_text_0 hq14) ?_
        refine o_aload_n k0_234 rfl ?_
        refine bd_i h (fun q15 hq15 h => ?_)
        refine o_call k0_235 pj_149 (fun _ => rfl) (by decide) rfl (as := [.ref 43]) (rest := [.int q14.1]) rfl (L0 := [some (.ref 43), none]) rfl (t_X8_text_43 hq15) ?_
        refine o_icmp_eq k0_238 (fun hc16 => ?_) (fun hc16 => ?_)
        · rw [if_pos hc16] at h
          refine o_iinc (w := s1.1 + 5) (L' := [some (.ref 1000), some (.ref 0), some (.ref 43), some (.int (s1.1 + 5))]) k0_1116 rfl rfl rfl ?_
          refine o_goto k0_1119 ?_
          have h9 := Option.some.inj h
          subst h9
          exact hK
        · rw [if_neg hc16] at h
          refine o_iconst (v := 0) k0_241 (by decide) ?_
          have h9 := Option.some.inj h
          subst h9
          have hK2 : (0, q15.2) = t := hK
          subst hK2
          exact o_iret pj_0 k0_242 rfl (nr_z (by decide))
      rw [if_neg hx32_2] at h
      by_cases hx32_3 : ((xs s1.1.toNatClampNeg) &&& 63) = 3
      · rw [if_pos hx32_3] at h
        refine o_tswI (tgt := 243) (off := 211) k0_32 (by rw [hx32_3]; decide) (by rw [hx32_3]; decide) (by rw [hx32_3]; decide) (by decide) ?_
        refine o_aload_n k0_243 rfl ?_
        refine o_call k0_244 pj_85 (fun _ => rfl) (by decide) rfl (as := [.ref 0]) (rest := []) rfl (L0 := [some (.ref 0)]) rfl (t_X7_fault_0 (M := s1.2) rfl) ?_
        refine o_aload_n k0_247 rfl ?_
        refine o_call k0_248 pj_150 (fun _ => rfl) (by decide) rfl (as := [.ref 43]) (rest := [.int (f_X7_fault_0 s1.2)]) rfl (L0 := [some (.ref 43)]) rfl (t_X8_fault_43 (M := s1.2) rfl) ?_
        refine o_icmp_eq k0_251 (fun hc17 => ?_) (fun hc17 => ?_)
        · rw [if_pos hc17] at h
          refine o_iinc (w := s1.1 + 5) (L' := [some (.ref 1000), some (.ref 0), some (.ref 43), some (.int (s1.1 + 5))]) k0_1116 rfl rfl rfl ?_
          refine o_goto k0_1119 ?_
          have h9 := Option.some.inj h
          subst h9
          exact hK
        · rw [if_neg hc17] at h
          refine o_iconst (v := 0) k0_254 (by decide) ?_
          have h9 := Option.some.inj h
          subst h9
          have hK2 : (0, s1.2) = t := hK
          subst hK2
          exact o_iret pj_0 k0_255 rfl (nr_z (by decide))
      rw [if_neg hx32_3] at h
      by_cases hx32_4 : ((xs s1.1.toNatClampNeg) &&& 63) = 4
      · rw [if_pos hx32_4] at h
        refine o_tswI (tgt := 256) (off := 224) k0_32 (by rw [hx32_4]; decide) (by rw [hx32_4]; decide) (by rw [hx32_4]; decide) (by decide) ?_
        refine o_aload_n k0_256 rfl ?_
        refine o_aload_n k0_257 rfl ?_
        refine o_iload_n k0_258 rfl ?_
        refine o_iconst (v := 1) k0_259 (by decide) ?_
        refine o_iadd k0_260 ?_
        obtain ⟨hc18, h⟩ := ck_i h
        refine o_iascr k0_261 hc18 ?_
        refine bd_i h (fun v19 hv19 h => ?_)
        refine o_call k0_262 pj_86 (fun _ => rfl) (by decide) rfl (as := [.ref 0, .int (xs (s1.1 + 1).toNatClampNeg)]) (rest := []) rfl (L0 := [some (.ref 0), some (.int (xs (s1.1 + 1).toNatClampNeg))]) rfl (t_X7_rule_0 hv19) ?_
        refine o_aload_n k0_265 rfl ?_
        refine o_aload_n k0_266 rfl ?_
        refine o_iload_n k0_267 rfl ?_
        refine o_iconst (v := 1) k0_268 (by decide) ?_
        refine o_iadd k0_269 ?_
        obtain ⟨hc20, h⟩ := ck_i h
        refine o_iascr k0_270 hc20 ?_
        refine bd_i h (fun v21 hv21 h => ?_)
        refine o_call k0_271 pj_158 (fun _ => rfl) (by decide) rfl (as := [.ref 43, .int (xs (s1.1 + 1).toNatClampNeg)]) (rest := [.int v19]) rfl (L0 := [some (.ref 43), some (.int (xs (s1.1 + 1).toNatClampNeg))]) rfl (t_X8_rule_43 hv21) ?_
        refine o_icmp_eq k0_274 (fun hc22 => ?_) (fun hc22 => ?_)
        · rw [if_pos hc22] at h
          refine o_iinc (w := s1.1 + 5) (L' := [some (.ref 1000), some (.ref 0), some (.ref 43), some (.int (s1.1 + 5))]) k0_1116 rfl rfl rfl ?_
          refine o_goto k0_1119 ?_
          have h9 := Option.some.inj h
          subst h9
          exact hK
        · rw [if_neg hc22] at h
          refine o_iconst (v := 0) k0_277 (by decide) ?_
          have h9 := Option.some.inj h
          subst h9
          have hK2 : (0, s1.2) = t := hK
          subst hK2
          exact o_iret pj_0 k0_278 rfl (nr_z (by decide))
      rw [if_neg hx32_4] at h
      by_cases hx32_5 : ((xs s1.1.toNatClampNeg) &&& 63) = 5
      · rw [if_pos hx32_5] at h
        refine o_tswI (tgt := 279) (off := 247) k0_32 (by rw [hx32_5]; decide) (by rw [hx32_5]; decide) (by rw [hx32_5]; decide) (by decide) ?_
        refine o_aload_n k0_279 rfl ?_
        refine o_aload_n k0_280 rfl ?_
        refine o_iload_n k0_281 rfl ?_
        refine o_iconst (v := 1) k0_282 (by decide) ?_
        refine o_iadd k0_283 ?_
        obtain ⟨hc23, h⟩ := ck_i h
        refine o_iascr k0_284 hc23 ?_
        refine o_aload_n k0_285 rfl ?_
        refine o_iload_n k0_286 rfl ?_
        refine o_iconst (v := 2) k0_287 (by decide) ?_
        refine o_iadd k0_288 ?_
        obtain ⟨hc24, h⟩ := ck_i h
        refine o_iascr k0_289 hc24 ?_
        refine o_aload_n k0_290 rfl ?_
        refine o_iload_n k0_291 rfl ?_
        refine o_iconst (v := 3) k0_292 (by decide) ?_
        refine o_iadd k0_293 ?_
        obtain ⟨hc25, h⟩ := ck_i h
        refine o_iascr k0_294 hc25 ?_
        refine bd_i h (fun v26 hv26 h => ?_)
        refine o_call k0_295 pj_87 (fun _ => rfl) (by decide) rfl (as := [.ref 0, .int (xs (s1.1 + 1).toNatClampNeg), .int (xs (s1.1 + 2).toNatClampNeg), .int (xs (s1.1 + 3).toNatClampNeg)]) (rest := []) rfl (L0 := [some (.ref 0), some (.int (xs (s1.1 + 1).toNatClampNeg)), some (.int (xs (s1.1 + 2).toNatClampNeg)), some (.int (xs (s1.1 + 3).toNatClampNeg))]) rfl (t_X7_cell_0 hv26) ?_
        refine o_aload_n k0_298 rfl ?_
        refine o_aload_n k0_299 rfl ?_
        refine o_iload_n k0_300 rfl ?_
        refine o_iconst (v := 1) k0_301 (by decide) ?_
        refine o_iadd k0_302 ?_
        obtain ⟨hc27, h⟩ := ck_i h
        refine o_iascr k0_303 hc27 ?_
        refine o_aload_n k0_304 rfl ?_
        refine o_iload_n k0_305 rfl ?_
        refine o_iconst (v := 2) k0_306 (by decide) ?_
        refine o_iadd k0_307 ?_
        obtain ⟨hc28, h⟩ := ck_i h
        refine o_iascr k0_308 hc28 ?_
        refine o_aload_n k0_309 rfl ?_
        refine o_iload_n k0_310 rfl ?_
        refine o_iconst (v := 3) k0_311 (by decide) ?_
        refine o_iadd k0_312 ?_
        obtain ⟨hc29, h⟩ := ck_i h
        refine o_iascr k0_313 hc29 ?_
        refine bd_i h (fun v30 hv30 h => ?_)
        refine o_call k0_314 pj_159 (fun _ => rfl) (by decide) rfl (as := [.ref 43, .int (xs (s1.1 + 1).toNatClampNeg), .int (xs (s1.1 + 2).toNatClampNeg), .int (xs (s1.1 + 3).toNatClampNeg)]) (rest := [.int v26]) rfl (L0 := [some (.ref 43), some (.int (xs (s1.1 + 1).toNatClampNeg)), some (.int (xs (s1.1 + 2).toNatClampNeg)), some (.int (xs (s1.1 + 3).toNatClampNeg))]) rfl (t_X8_cell_43 hv30) ?_
        refine o_icmp_eq k0_317 (fun hc31 => ?_) (fun hc31 => ?_)
        · rw [if_pos hc31] at h
          refine o_iinc (w := s1.1 + 5) (L' := [some (.ref 1000), some (.ref 0), some (.ref 43), some (.int (s1.1 + 5))]) k0_1116 rfl rfl rfl ?_
          refine o_goto k0_1119 ?_
          have h9 := Option.some.inj h
          subst h9
          exact hK
        · rw [if_neg hc31] at h
          refine o_iconst (v := 0) k0_320 (by decide) ?_
          have h9 := Option.some.inj h
          subst h9
          have hK2 : (0, s1.2) = t := hK
          subst hK2
          exact o_iret pj_0 k0_321 rfl (nr_z (by decide))
      rw [if_neg hx32_5] at h
      by_cases hx32_6 : ((xs s1.1.toNatClampNeg) &&& 63) = 6
      · rw [if_pos hx32_6] at h
        refine o_tswI (tgt := 322) (off := 290) k0_32 (by rw [hx32_6]; decide) (by rw [hx32_6]; decide) (by rw [hx32_6]; decide) (by decide) ?_
        refine o_aload_n k0_322 rfl ?_
        refine o_aload_n k0_323 rfl ?_
        refine o_iload_n k0_324 rfl ?_
        refine o_iconst (v := 1) k0_325 (by decide) ?_
        refine o_iadd k0_326 ?_
        obtain ⟨hc32, h⟩ := ck_i h
        refine o_iascr k0_327 hc32 ?_
        refine bd_i h (fun v33 hv33 h => ?_)
        refine o_call k0_328 pj_88 (fun _ => rfl) (by decide) rfl (as := [.ref 0, .int (xs (s1.1 + 1).toNatClampNeg)]) (rest := []) rfl (L0 := [some (.ref 0), some (.int (xs (s1.1 + 1).toNatClampNeg))]) rfl (t_X7_column_0 hv33) ?_
        refine o_aload_n k0_331 rfl ?_
        refine o_aload_n k0_332 rfl ?_
        refine o_iload_n k0_333 rfl ?_
        refine o_iconst (v := 1) k0_334 (by decide) ?_
        refine o_iadd k0_335 ?_
        obtain ⟨hc34, h⟩ := ck_i h
        refine o_iascr k0_336 hc34 ?_
        refine bd_i h (fun v35 hv35 h => ?_)
        refine o_call k0_337 pj_160 (fun _ => rfl) (by decide) rfl (as := [.ref 43, .int (xs (s1.1 + 1).toNatClampNeg)]) (rest := [.int v33]) rfl (L0 := [some (.ref 43), some (.int (xs (s1.1 + 1).toNatClampNeg))]) rfl (t_X8_column_43 hv35) ?_
        refine o_icmp_eq k0_340 (fun hc36 => ?_) (fun hc36 => ?_)
        · rw [if_pos hc36] at h
          refine o_iinc (w := s1.1 + 5) (L' := [some (.ref 1000), some (.ref 0), some (.ref 43), some (.int (s1.1 + 5))]) k0_1116 rfl rfl rfl ?_
          refine o_goto k0_1119 ?_
          have h9 := Option.some.inj h
          subst h9
          exact hK
        · rw [if_neg hc36] at h
          refine o_iconst (v := 0) k0_343 (by decide) ?_
          have h9 := Option.some.inj h
          subst h9
          have hK2 : (0, s1.2) = t := hK
          subst hK2
          exact o_iret pj_0 k0_344 rfl (nr_z (by decide))
      rw [if_neg hx32_6] at h
      by_cases hx32_7 : ((xs s1.1.toNatClampNeg) &&& 63) = 7
      · rw [if_pos hx32_7] at h
        refine o_tswI (tgt := 345) (off := 313) k0_32 (by rw [hx32_7]; decide) (by rw [hx32_7]; decide) (by rw [hx32_7]; decide) (by decide) ?_
        refine o_aload_n k0_345 rfl ?_
        refine o_aload_n k0_346 rfl ?_
        refine o_iload_n k0_347 rfl ?_
        refine o_iconst (v := 1) k0_348 (by decide) ?_
        refine o_iadd k0_349 ?_
        obtain ⟨hc37, h⟩ := ck_i h
        refine o_iascr k0_350 hc37 ?_
        refine o_aload_n k0_351 rfl ?_
        refine o_iload_n k0_352 rfl ?_
        refine o_iconst (v := 2) k0_353 (by decide) ?_
        refine o_iadd k0_354 ?_
        obtain ⟨hc38, h⟩ := ck_i h
        refine o_iascr k0_355 hc38 ?_
        refine bd_i h (fun v39 hv39 h => ?_)
        refine o_call k0_356 pj_89 (fun _ => rfl) (by decide) rfl (as := [.ref 0, .int (xs (s1.1 + 1).toNatClampNeg), .int (xs (s1.1 + 2).toNatClampNeg)]) (rest := []) rfl (L0 := [some (.ref 0), some (.int (xs (s1.1 + 1).toNatClampNeg)), some (.int (xs (s1.1 + 2).toNatClampNeg))]) rfl (t_X7_seen_0 hv39) ?_
        refine o_aload_n k0_359 rfl ?_
        refine o_aload_n k0_360 rfl ?_
        refine o_iload_n k0_361 rfl ?_
        refine o_iconst (v := 1) k0_362 (by decide) ?_
        refine o_iadd k0_363 ?_
        obtain ⟨hc40, h⟩ := ck_i h
        refine o_iascr k0_364 hc40 ?_
        refine o_aload_n k0_365 rfl ?_
        refine o_iload_n k0_366 rfl ?_
        refine o_iconst (v := 2) k0_367 (by decide) ?_
        refine o_iadd k0_368 ?_
        obtain ⟨hc41, h⟩ := ck_i h
        refine o_iascr k0_369 hc41 ?_
        refine bd_i h (fun v42 hv42 h => ?_)
        refine o_call k0_370 pj_161 (fun _ => rfl) (by decide) rfl (as := [.ref 43, .int (xs (s1.1 + 1).toNatClampNeg), .int (xs (s1.1 + 2).toNatClampNeg)]) (rest := [.int v39]) rfl (L0 := [some (.ref 43), some (.int (xs (s1.1 + 1).toNatClampNeg)), some (.int (xs (s1.1 + 2).toNatClampNeg))]) rfl (t_X8_seen_43 hv42) ?_
        refine o_icmp_eq k0_373 (fun hc43 => ?_) (fun hc43 => ?_)
        · rw [if_pos hc43] at h
          refine o_iinc (w := s1.1 + 5) (L' := [some (.ref 1000), some (.ref 0), some (.ref 43), some (.int (s1.1 + 5))]) k0_1116 rfl rfl rfl ?_
          refine o_goto k0_1119 ?_
          have h9 := Option.some.inj h
          subst h9
          exact hK
        · rw [if_neg hc43] at h
          refine o_iconst (v := 0) k0_376 (by decide) ?_
          have h9 := Option.some.inj h
          subst h9
          have hK2 : (0, s1.2) = t := hK
          subst hK2
          exact o_iret pj_0 k0_377 rfl (nr_z (by decide))
      rw [if_neg hx32_7] at h
      by_cases hx32_8 : ((xs s1.1.toNatClampNeg) &&& 63) = 8
      · rw [if_pos hx32_8] at h
        refine o_tswI (tgt := 378) (off := 346) k0_32 (by rw [hx32_8]; decide) (by rw [hx32_8]; decide) (by rw [hx32_8]; decide) (by decide) ?_
        refine o_aload_n k0_378 rfl ?_
        refine o_aload_n k0_379 rfl ?_
        refine o_iload_n k0_380 rfl ?_
        refine o_iconst (v := 1) k0_381 (by decide) ?_
        refine o_iadd k0_382 ?_
        obtain ⟨hc44, h⟩ := ck_i h
        refine o_iascr k0_383 hc44 ?_
        refine bd_i h (fun v45 hv45 h => ?_)
        refine o_call k0_384 pj_90 (fun _ => rfl) (by decide) rfl (as := [.ref 0, .int (xs (s1.1 + 1).toNatClampNeg)]) (rest := []) rfl (L0 := [some (.ref 0), some (.int (xs (s1.1 + 1).toNatClampNeg)), none, none]) rfl (t_X7_weak_0 hv45) ?_
        refine o_aload_n k0_387 rfl ?_
        refine o_aload_n k0_388 rfl ?_
        refine o_iload_n k0_389 rfl ?_
        refine o_iconst (v := 1) k0_390 (by decide) ?_
        refine o_iadd k0_391 ?_
        obtain ⟨hc46, h⟩ := ck_i h
        refine o_iascr k0_392 hc46 ?_
        refine bd_i h (fun v47 hv47 h => ?_)
        refine o_call k0_393 pj_163 (fun _ => rfl) (by decide) rfl (as := [.ref 43, .int (xs (s1.1 + 1).toNatClampNeg)]) (rest := [.int v45]) rfl (L0 := [some (.ref 43), some (.int (xs (s1.1 + 1).toNatClampNeg)), none, none]) rfl (t_X8_weak_43 hv47) ?_
        refine o_icmp_eq k0_396 (fun hc48 => ?_) (fun hc48 => ?_)
        · rw [if_pos hc48] at h
          refine o_iinc (w := s1.1 + 5) (L' := [some (.ref 1000), some (.ref 0), some (.ref 43), some (.int (s1.1 + 5))]) k0_1116 rfl rfl rfl ?_
          refine o_goto k0_1119 ?_
          have h9 := Option.some.inj h
          subst h9
          exact hK
        · rw [if_neg hc48] at h
          refine o_iconst (v := 0) k0_399 (by decide) ?_
          have h9 := Option.some.inj h
          subst h9
          have hK2 : (0, s1.2) = t := hK
          subst hK2
          exact o_iret pj_0 k0_400 rfl (nr_z (by decide))
      rw [if_neg hx32_8] at h
      by_cases hx32_9 : ((xs s1.1.toNatClampNeg) &&& 63) = 9
      · rw [if_pos hx32_9] at h
        refine o_tswI (tgt := 401) (off := 369) k0_32 (by rw [hx32_9]; decide) (by rw [hx32_9]; decide) (by rw [hx32_9]; decide) (by decide) ?_
        refine o_aload_n k0_401 rfl ?_
        refine o_aload_n k0_402 rfl ?_
        refine o_iload_n k0_403 rfl ?_
        refine o_iconst (v := 1) k0_404 (by decide) ?_
        refine o_iadd k0_405 ?_
        obtain ⟨hc49, h⟩ := ck_i h
        refine o_iascr k0_406 hc49 ?_
        refine o_aload_n k0_407 rfl ?_
        refine o_iload_n k0_408 rfl ?_
        refine o_iconst (v := 2) k0_409 (by decide) ?_
        refine o_iadd k0_410 ?_
        obtain ⟨hc50, h⟩ := ck_i h
        refine o_iascr k0_411 hc50 ?_
        refine o_aload_n k0_412 rfl ?_
        refine o_iload_n k0_413 rfl ?_
        refine o_iconst (v := 3) k0_414 (by decide) ?_
        refine o_iadd k0_415 ?_
        obtain ⟨hc51, h⟩ := ck_i h
        refine o_iascr k0_416 hc51 ?_
        refine bd_i h (fun v52 hv52 h => ?_)
        refine o_call k0_417 pj_91 (fun _ => rfl) (by decide) rfl (as := [.ref 0, .int (xs (s1.1 + 1).toNatClampNeg), .int (xs (s1.1 + 2).toNatClampNeg), .int (xs (s1.1 + 3).toNatClampNeg)]) (rest := []) rfl (L0 := [some (.ref 0), some (.int (xs (s1.1 + 1).toNatClampNeg)), some (.int (xs (s1.1 + 2).toNatClampNeg)), some (.int (xs (s1.1 + 3).toNatClampNeg))]) rfl (t_X7_hidden_0 hv52) ?_
        refine o_aload_n k0_420 rfl ?_
        refine o_aload_n k0_421 rfl ?_
        refine o_iload_n k0_422 rfl ?_
        refine o_iconst (v := 1) k0_423 (by decide) ?_
        refine o_iadd k0_424 ?_
        obtain ⟨hc53, h⟩ := ck_i h
        refine o_iascr k0_425 hc53 ?_
        refine o_aload_n k0_426 rfl ?_
        refine o_iload_n k0_427 rfl ?_
        refine o_iconst (v := 2) k0_428 (by decide) ?_
        refine o_iadd k0_429 ?_
        obtain ⟨hc54, h⟩ := ck_i h
        refine o_iascr k0_430 hc54 ?_
        refine o_aload_n k0_431 rfl ?_
        refine o_iload_n k0_432 rfl ?_
        refine o_iconst (v := 3) k0_433 (by decide) ?_
        refine o_iadd k0_434 ?_
        obtain ⟨hc55, h⟩ := ck_i h
        refine o_iascr k0_435 hc55 ?_
        refine bd_i h (fun q56 hq56 h => ?_)
        refine o_call k0_436 pj_169 (fun _ => rfl) (by decide) rfl (as := [.ref 43, .int (xs (s1.1 + 1).toNatClampNeg), .int (xs (s1.1 + 2).toNatClampNeg), .int (xs (s1.1 + 3).toNatClampNeg)]) (rest := [.int v52]) rfl (L0 := [some (.ref 43), some (.int (xs (s1.1 + 1).toNatClampNeg)), some (.int (xs (s1.1 + 2).toNatClampNeg)), some (.int (xs (s1.1 + 3).toNatClampNeg))]) rfl (t_X8_hidden_43 hq56) ?_
        refine o_icmp_eq k0_439 (fun hc57 => ?_) (fun hc57 => ?_)
        · rw [if_pos hc57] at h
          refine o_iinc (w := s1.1 + 5) (L' := [some (.ref 1000), some (.ref 0), some (.ref 43), some (.int (s1.1 + 5))]) k0_1116 rfl rfl rfl ?_
          refine o_goto k0_1119 ?_
          have h9 := Option.some.inj h
          subst h9
          exact hK
        · rw [if_neg hc57] at h
          refine o_iconst (v := 0) k0_442 (by decide) ?_
          have h9 := Option.some.inj h
          subst h9
          have hK2 : (0, q56.2) = t := hK
          subst hK2
          exact o_iret pj_0 k0_443 rfl (nr_z (by decide))
      rw [if_neg hx32_9] at h
      by_cases hx32_10 : ((xs s1.1.toNatClampNeg) &&& 63) = 10
      · rw [if_pos hx32_10] at h
        refine o_tswI (tgt := 444) (off := 412) k0_32 (by rw [hx32_10]; decide) (by rw [hx32_10]; decide) (by rw [hx32_10]; decide) (by decide) ?_
        refine o_aload_n k0_444 rfl ?_
        refine o_aload_n k0_445 rfl ?_
        refine o_iload_n k0_446 rfl ?_
        refine o_iconst (v := 1) k0_447 (by decide) ?_
        refine o_iadd k0_448 ?_
        obtain ⟨hc58, h⟩ := ck_i h
        refine o_iascr k0_449 hc58 ?_
        refine bd_i h (fun v59 hv59 h => ?_)
        refine o_call k0_450 pj_92 (fun _ => rfl) (by decide) rfl (as := [.ref 0, .int (xs (s1.1 + 1).toNatClampNeg)]) (rest := []) rfl (L0 := [some (.ref 0), some (.int (xs (s1.1 + 1).toNatClampNeg)), none]) rfl (t_X7_sure_0 hv59) ?_
        refine o_aload_n k0_453 rfl ?_
        refine o_aload_n k0_454 rfl ?_
        refine o_iload_n k0_455 rfl ?_
        refine o_iconst (v := 1) k0_456 (by decide) ?_
        refine o_iadd k0_457 ?_
        obtain ⟨hc60, h⟩ := ck_i h
        refine o_iascr k0_458 hc60 ?_
        refine bd_i h (fun q61 hq61 h => ?_)
        refine o_call k0_459 pj_170 (fun _ => rfl) (by decide) rfl (as := [.ref 43, .int (xs (s1.1 + 1).toNatClampNeg)]) (rest := [.int v59]) rfl (L0 := [some (.ref 43), some (.int (xs (s1.1 + 1).toNatClampNeg)), none]) rfl (t_X8_sure_43 hq61) ?_
        refine o_icmp_eq k0_462 (fun hc62 => ?_) (fun hc62 => ?_)
        · rw [if_pos hc62] at h
          refine o_iinc (w := s1.1 + 5) (L' := [some (.ref 1000), some (.ref 0), some (.ref 43), some (.int (s1.1 + 5))]) k0_1116 rfl rfl rfl ?_
          refine o_goto k0_1119 ?_
          have h9 := Option.some.inj h
          subst h9
          exact hK
        · rw [if_neg hc62] at h
          refine o_iconst (v := 0) k0_465 (by decide) ?_
          have h9 := Option.some.inj h
          subst h9
          have hK2 : (0, q61.2) = t := hK
          subst hK2
          exact o_iret pj_0 k0_466 rfl (nr_z (by decide))
      rw [if_neg hx32_10] at h
      by_cases hx32_11 : ((xs s1.1.toNatClampNeg) &&& 63) = 11
      · rw [if_pos hx32_11] at h
        refine o_tswI (tgt := 467) (off := 435) k0_32 (by rw [hx32_11]; decide) (by rw [hx32_11]; decide) (by rw [hx32_11]; decide) (by decide) ?_
        refine o_aload_n k0_467 rfl ?_
        refine o_aload_n k0_468 rfl ?_
        refine o_iload_n k0_469 rfl ?_
        refine o_iconst (v := 1) k0_470 (by decide) ?_
        refine o_iadd k0_471 ?_
        obtain ⟨hc63, h⟩ := ck_i h
        refine o_iascr k0_472 hc63 ?_
        refine bd_i h (fun v64 hv64 h => ?_)
        refine o_call k0_473 pj_93 (fun _ => rfl) (by decide) rfl (as := [.ref 0, .int (xs (s1.1 + 1).toNatClampNeg)]) (rest := []) rfl (L0 := [some (.ref 0), some (.int (xs (s1.1 + 1).toNatClampNeg)), none, none, none, none]) rfl (t_X7_hides_0 hv64) ?_
        refine o_aload_n k0_476 rfl ?_
        refine o_aload_n k0_477 rfl ?_
        refine o_iload_n k0_478 rfl ?_
        refine o_iconst (v := 1) k0_479 (by decide) ?_
        refine o_iadd k0_480 ?_
        obtain ⟨hc65, h⟩ := ck_i h
        refine o_iascr k0_481 hc65 ?_
        refine bd_i h (fun v66 hv66 h => ?_)
        refine o_call k0_482 pj_171 (fun _ => rfl) (by decide) rfl (as := [.ref 43, .int (xs (s1.1 + 1).toNatClampNeg)]) (rest := [.int v64]) rfl (L0 := [some (.ref 43), some (.int (xs (s1.1 + 1).toNatClampNeg)), none, none]) rfl (t_X8_hides_43 hv66) ?_
        refine o_icmp_eq k0_485 (fun hc67 => ?_) (fun hc67 => ?_)
        · rw [if_pos hc67] at h
          refine o_iinc (w := s1.1 + 5) (L' := [some (.ref 1000), some (.ref 0), some (.ref 43), some (.int (s1.1 + 5))]) k0_1116 rfl rfl rfl ?_
          refine o_goto k0_1119 ?_
          have h9 := Option.some.inj h
          subst h9
          exact hK
        · rw [if_neg hc67] at h
          refine o_iconst (v := 0) k0_488 (by decide) ?_
          have h9 := Option.some.inj h
          subst h9
          have hK2 : (0, s1.2) = t := hK
          subst hK2
          exact o_iret pj_0 k0_489 rfl (nr_z (by decide))
      rw [if_neg hx32_11] at h
      by_cases hx32_12 : ((xs s1.1.toNatClampNeg) &&& 63) = 12
      · rw [if_pos hx32_12] at h
        refine o_tswI (tgt := 490) (off := 458) k0_32 (by rw [hx32_12]; decide) (by rw [hx32_12]; decide) (by rw [hx32_12]; decide) (by decide) ?_
        refine o_aload_n k0_490 rfl ?_
        refine bd_i h (fun v68 hv68 h => ?_)
        refine o_call k0_491 pj_94 (fun _ => rfl) (by decide) rfl (as := [.ref 0]) (rest := []) rfl (L0 := [some (.ref 0)]) rfl (t_X7_watched_0 hv68) ?_
        refine o_aload_n k0_494 rfl ?_
        refine bd_i h (fun v69 hv69 h => ?_)
        refine o_call k0_495 pj_172 (fun _ => rfl) (by decide) rfl (as := [.ref 43]) (rest := [.int v68]) rfl (L0 := [some (.ref 43), none, none, none]) rfl (t_X8_watched_43 hv69) ?_
        refine o_icmp_eq k0_498 (fun hc70 => ?_) (fun hc70 => ?_)
        · rw [if_pos hc70] at h
          refine o_iinc (w := s1.1 + 5) (L' := [some (.ref 1000), some (.ref 0), some (.ref 43), some (.int (s1.1 + 5))]) k0_1116 rfl rfl rfl ?_
          refine o_goto k0_1119 ?_
          have h9 := Option.some.inj h
          subst h9
          exact hK
        · rw [if_neg hc70] at h
          refine o_iconst (v := 0) k0_501 (by decide) ?_
          have h9 := Option.some.inj h
          subst h9
          have hK2 : (0, s1.2) = t := hK
          subst hK2
          exact o_iret pj_0 k0_502 rfl (nr_z (by decide))
      rw [if_neg hx32_12] at h
      by_cases hx32_13 : ((xs s1.1.toNatClampNeg) &&& 63) = 13
      · rw [if_pos hx32_13] at h
        refine o_tswI (tgt := 503) (off := 471) k0_32 (by rw [hx32_13]; decide) (by rw [hx32_13]; decide) (by rw [hx32_13]; decide) (by decide) ?_
        refine o_aload_n k0_503 rfl ?_
        refine bd_i h (fun v71 hv71 h => ?_)
        refine o_call k0_504 pj_95 (fun _ => rfl) (by decide) rfl (as := [.ref 0]) (rest := []) rfl (L0 := [some (.ref 0), none, none, none, none, none]) rfl (t_X7_best_0 hv71) ?_
        refine o_aload_n k0_507 rfl ?_
        refine bd_i h (fun q72 hq72 h => ?_)
        refine o_call k0_508 pj_173 (fun _ => rfl) (by decide) rfl (as := [.ref 43]) (rest := [.int v71]) rfl (L0 := [some (.ref 43), none, none, none, none, none]) rfl (t_X8_best_43 hq72) ?_
        refine o_icmp_eq k0_511 (fun hc73 => ?_) (fun hc73 => ?_)
        · rw [if_pos hc73] at h
          refine o_iinc (w := s1.1 + 5) (L' := [some (.ref 1000), some (.ref 0), some (.ref 43), some (.int (s1.1 + 5))]) k0_1116 rfl rfl rfl ?_
          refine o_goto k0_1119 ?_
          have h9 := Option.some.inj h
          subst h9
          exact hK
        · rw [if_neg hc73] at h
          refine o_iconst (v := 0) k0_514 (by decide) ?_
          have h9 := Option.some.inj h
          subst h9
          have hK2 : (0, q72.2) = t := hK
          subst hK2
          exact o_iret pj_0 k0_515 rfl (nr_z (by decide))
      rw [if_neg hx32_13] at h
      by_cases hx32_14 : ((xs s1.1.toNatClampNeg) &&& 63) = 14
      · rw [if_pos hx32_14] at h
        refine o_tswI (tgt := 516) (off := 484) k0_32 (by rw [hx32_14]; decide) (by rw [hx32_14]; decide) (by rw [hx32_14]; decide) (by decide) ?_
        refine o_aload_n k0_516 rfl ?_
        refine o_aload_n k0_517 rfl ?_
        refine o_iload_n k0_518 rfl ?_
        refine o_iconst (v := 1) k0_519 (by decide) ?_
        refine o_iadd k0_520 ?_
        obtain ⟨hc74, h⟩ := ck_i h
        refine o_iascr k0_521 hc74 ?_
        refine o_aload_n k0_522 rfl ?_
        refine o_iload_n k0_523 rfl ?_
        refine o_iconst (v := 2) k0_524 (by decide) ?_
        refine o_iadd k0_525 ?_
        obtain ⟨hc75, h⟩ := ck_i h
        refine o_iascr k0_526 hc75 ?_
        refine o_aload_n k0_527 rfl ?_
        refine o_iload_n k0_528 rfl ?_
        refine o_iconst (v := 3) k0_529 (by decide) ?_
        refine o_iadd k0_530 ?_
        obtain ⟨hc76, h⟩ := ck_i h
        refine o_iascr k0_531 hc76 ?_
        refine bd_i h (fun q77 hq77 h => ?_)
        refine o_call k0_532 pj_97 (fun _ => rfl) (by decide) rfl (as := [.ref 0, .int (xs (s1.1 + 1).toNatClampNeg), .int (xs (s1.1 + 2).toNatClampNeg), .int (xs (s1.1 + 3).toNatClampNeg)]) (rest := []) rfl (L0 := [some (.ref 0), some (.int (xs (s1.1 + 1).toNatClampNeg)), some (.int (xs (s1.1 + 2).toNatClampNeg)), some (.int (xs (s1.1 + 3).toNatClampNeg))]) rfl (t_X7_set_0 hq77) ?_
        refine o_aload_n k0_535 rfl ?_
        refine o_aload_n k0_536 rfl ?_
        refine o_iload_n k0_537 rfl ?_
        refine o_iconst (v := 1) k0_538 (by decide) ?_
        refine o_iadd k0_539 ?_
        obtain ⟨hc78, h⟩ := ck_i h
        refine o_iascr k0_540 hc78 ?_
        refine o_aload_n k0_541 rfl ?_
        refine o_iload_n k0_542 rfl ?_
        refine o_iconst (v := 2) k0_543 (by decide) ?_
        refine o_iadd k0_544 ?_
        obtain ⟨hc79, h⟩ := ck_i h
        refine o_iascr k0_545 hc79 ?_
        refine o_aload_n k0_546 rfl ?_
        refine o_iload_n k0_547 rfl ?_
        refine o_iconst (v := 3) k0_548 (by decide) ?_
        refine o_iadd k0_549 ?_
        obtain ⟨hc80, h⟩ := ck_i h
        refine o_iascr k0_550 hc80 ?_
        refine bd_i h (fun q81 hq81 h => ?_)
        refine o_call k0_551 pj_175 (fun _ => rfl) (by decide) rfl (as := [.ref 43, .int (xs (s1.1 + 1).toNatClampNeg), .int (xs (s1.1 + 2).toNatClampNeg), .int (xs (s1.1 + 3).toNatClampNeg)]) (rest := [.int q77.1]) rfl (L0 := [some (.ref 43), some (.int (xs (s1.1 + 1).toNatClampNeg)), some (.int (xs (s1.1 + 2).toNatClampNeg)), some (.int (xs (s1.1 + 3).toNatClampNeg))]) rfl (t_X8_set_43 hq81) ?_
        refine o_icmp_eq k0_554 (fun hc82 => ?_) (fun hc82 => ?_)
        · rw [if_pos hc82] at h
          refine o_iinc (w := s1.1 + 5) (L' := [some (.ref 1000), some (.ref 0), some (.ref 43), some (.int (s1.1 + 5))]) k0_1116 rfl rfl rfl ?_
          refine o_goto k0_1119 ?_
          have h9 := Option.some.inj h
          subst h9
          exact hK
        · rw [if_neg hc82] at h
          refine o_iconst (v := 0) k0_557 (by decide) ?_
          have h9 := Option.some.inj h
          subst h9
          have hK2 : (0, q81.2) = t := hK
          subst hK2
          exact o_iret pj_0 k0_558 rfl (nr_z (by decide))
      rw [if_neg hx32_14] at h
      by_cases hx32_15 : ((xs s1.1.toNatClampNeg) &&& 63) = 15
      · rw [if_pos hx32_15] at h
        refine o_tswI (tgt := 559) (off := 527) k0_32 (by rw [hx32_15]; decide) (by rw [hx32_15]; decide) (by rw [hx32_15]; decide) (by decide) ?_
        refine o_aload_n k0_559 rfl ?_
        refine o_aload_n k0_560 rfl ?_
        refine o_iload_n k0_561 rfl ?_
        refine o_iconst (v := 1) k0_562 (by decide) ?_
        refine o_iadd k0_563 ?_
        obtain ⟨hc83, h⟩ := ck_i h
        refine o_iascr k0_564 hc83 ?_
        refine o_aload_n k0_565 rfl ?_
        refine o_iload_n k0_566 rfl ?_
        refine o_iconst (v := 2) k0_567 (by decide) ?_
        refine o_iadd k0_568 ?_
        obtain ⟨hc84, h⟩ := ck_i h
        refine o_iascr k0_569 hc84 ?_
        refine bd_i h (fun q85 hq85 h => ?_)
        refine o_call k0_570 pj_98 (fun _ => rfl) (by decide) rfl (as := [.ref 0, .int (xs (s1.1 + 1).toNatClampNeg), .int (xs (s1.1 + 2).toNatClampNeg)]) (rest := []) rfl (L0 := [some (.ref 0), some (.int (xs (s1.1 + 1).toNatClampNeg)), some (.int (xs (s1.1 + 2).toNatClampNeg))]) rfl (t_X7_put_0 hq85) ?_
        refine o_aload_n k0_573 rfl ?_
        refine o_aload_n k0_574 rfl ?_
        refine o_iload_n k0_575 rfl ?_
        refine o_iconst (v := 1) k0_576 (by decide) ?_
        refine o_iadd k0_577 ?_
        obtain ⟨hc86, h⟩ := ck_i h
        refine o_iascr k0_578 hc86 ?_
        refine o_aload_n k0_579 rfl ?_
        refine o_iload_n k0_580 rfl ?_
        refine o_iconst (v := 2) k0_581 (by decide) ?_
        refine o_iadd k0_582 ?_
        obtain ⟨hc87, h⟩ := ck_i h
        refine o_iascr k0_583 hc87 ?_
        refine bd_i h (fun q88 hq88 h => ?_)
        refine o_call k0_584 pj_176 (fun _ => rfl) (by decide) rfl (as := [.ref 43, .int (xs (s1.1 + 1).toNatClampNeg), .int (xs (s1.1 + 2).toNatClampNeg)]) (rest := [.int q85.1]) rfl (L0 := [some (.ref 43), some (.int (xs (s1.1 + 1).toNatClampNeg)), some (.int (xs (s1.1 + 2).toNatClampNeg))]) rfl (t_X8_put_43 hq88) ?_
        refine o_icmp_eq k0_587 (fun hc89 => ?_) (fun hc89 => ?_)
        · rw [if_pos hc89] at h
          refine o_iinc (w := s1.1 + 5) (L' := [some (.ref 1000), some (.ref 0), some (.ref 43), some (.int (s1.1 + 5))]) k0_1116 rfl rfl rfl ?_
          refine o_goto k0_1119 ?_
          have h9 := Option.some.inj h
          subst h9
          exact hK
        · rw [if_neg hc89] at h
          refine o_iconst (v := 0) k0_590 (by decide) ?_
          have h9 := Option.some.inj h
          subst h9
          have hK2 : (0, q88.2) = t := hK
          subst hK2
          exact o_iret pj_0 k0_591 rfl (nr_z (by decide))
      rw [if_neg hx32_15] at h
      by_cases hx32_16 : ((xs s1.1.toNatClampNeg) &&& 63) = 16
      · rw [if_pos hx32_16] at h
        refine o_tswI (tgt := 592) (off := 560) k0_32 (by rw [hx32_16]; decide) (by rw [hx32_16]; decide) (by rw [hx32_16]; decide) (by decide) ?_
        refine o_aload_n k0_592 rfl ?_
        refine o_aload_n k0_593 rfl ?_
        refine o_iload_n k0_594 rfl ?_
        refine o_iconst (v := 1) k0_595 (by decide) ?_
        refine o_iadd k0_596 ?_
        obtain ⟨hc90, h⟩ := ck_i h
        refine o_iascr k0_597 hc90 ?_
        refine bd_i h (fun q91 hq91 h => ?_)
        refine o_call k0_598 pj_99 (fun _ => rfl) (by decide) rfl (as := [.ref 0, .int (xs (s1.1 + 1).toNatClampNeg)]) (rest := []) rfl (L0 := [some (.ref 0), some (.int (xs (s1.1 + 1).toNatClampNeg)), none]) rfl (t_X7_out_0 hq91) ?_
        refine o_aload_n k0_601 rfl ?_
        refine o_aload_n k0_602 rfl ?_
        refine o_iload_n k0_603 rfl ?_
        refine o_iconst (v := 1) k0_604 (by decide) ?_
        refine o_iadd k0_605 ?_
        obtain ⟨hc92, h⟩ := ck_i h
        refine o_iascr k0_606 hc92 ?_
        refine bd_i h (fun q93 hq93 h => ?_)
        refine o_call k0_607 pj_177 (fun _ => rfl) (by decide) rfl (as := [.ref 43, .int (xs (s1.1 + 1).toNatClampNeg)]) (rest := [.int q91.1]) rfl (L0 := [some (.ref 43), some (.int (xs (s1.1 + 1).toNatClampNeg))]) rfl (t_X8_out_43 hq93) ?_
        refine o_icmp_eq k0_610 (fun hc94 => ?_) (fun hc94 => ?_)
        · rw [if_pos hc94] at h
          refine o_iinc (w := s1.1 + 5) (L' := [some (.ref 1000), some (.ref 0), some (.ref 43), some (.int (s1.1 + 5))]) k0_1116 rfl rfl rfl ?_
          refine o_goto k0_1119 ?_
          have h9 := Option.some.inj h
          subst h9
          exact hK
        · rw [if_neg hc94] at h
          refine o_iconst (v := 0) k0_613 (by decide) ?_
          have h9 := Option.some.inj h
          subst h9
          have hK2 : (0, q93.2) = t := hK
          subst hK2
          exact o_iret pj_0 k0_614 rfl (nr_z (by decide))
      rw [if_neg hx32_16] at h
      by_cases hx32_17 : ((xs s1.1.toNatClampNeg) &&& 63) = 17
      · rw [if_pos hx32_17] at h
        refine o_tswI (tgt := 615) (off := 583) k0_32 (by rw [hx32_17]; decide) (by rw [hx32_17]; decide) (by rw [hx32_17]; decide) (by decide) ?_
        refine o_aload_n k0_615 rfl ?_
        refine o_aload_n k0_616 rfl ?_
        refine o_iload_n k0_617 rfl ?_
        refine o_iconst (v := 1) k0_618 (by decide) ?_
        refine o_iadd k0_619 ?_
        obtain ⟨hc95, h⟩ := ck_i h
        refine o_iascr k0_620 hc95 ?_
        refine bd_i h (fun q96 hq96 h => ?_)
        refine o_call k0_621 pj_100 (fun _ => rfl) (by decide) rfl (as := [.ref 0, .int (xs (s1.1 + 1).toNatClampNeg)]) (rest := []) rfl (L0 := [some (.ref 0), some (.int (xs (s1.1 + 1).toNatClampNeg)), none, none, none]) rfl (t_X7_draw_0 hq96) ?_
        refine o_aload_n k0_624 rfl ?_
        refine o_aload_n k0_625 rfl ?_
        refine o_iload_n k0_626 rfl ?_
        refine o_iconst (v := 1) k0_627 (by decide) ?_
        refine o_iadd k0_628 ?_
        obtain ⟨hc97, h⟩ := ck_i h
        refine o_iascr k0_629 hc97 ?_
        refine bd_i h (fun q98 hq98 h => ?_)
        refine o_call k0_630 pj_178 (fun _ => rfl) (by decide) rfl (as := [.ref 43, .int (xs (s1.1 + 1).toNatClampNeg)]) (rest := [.int q96.1]) rfl (L0 := [some (.ref 43), some (.int (xs (s1.1 + 1).toNatClampNeg)), none, none, none, none]) rfl (t_X8_draw_43 hq98) ?_
        refine o_icmp_eq k0_633 (fun hc99 => ?_) (fun hc99 => ?_)
        · rw [if_pos hc99] at h
          refine o_iinc (w := s1.1 + 5) (L' := [some (.ref 1000), some (.ref 0), some (.ref 43), some (.int (s1.1 + 5))]) k0_1116 rfl rfl rfl ?_
          refine o_goto k0_1119 ?_
          have h9 := Option.some.inj h
          subst h9
          exact hK
        · rw [if_neg hc99] at h
          refine o_iconst (v := 0) k0_636 (by decide) ?_
          have h9 := Option.some.inj h
          subst h9
          have hK2 : (0, q98.2) = t := hK
          subst hK2
          exact o_iret pj_0 k0_637 rfl (nr_z (by decide))
      rw [if_neg hx32_17] at h
      by_cases hx32_18 : ((xs s1.1.toNatClampNeg) &&& 63) = 18
      · rw [if_pos hx32_18] at h
        refine o_tswI (tgt := 638) (off := 606) k0_32 (by rw [hx32_18]; decide) (by rw [hx32_18]; decide) (by rw [hx32_18]; decide) (by decide) ?_
        refine o_aload_n k0_638 rfl ?_
        refine o_aload_n k0_639 rfl ?_
        refine o_iload_n k0_640 rfl ?_
        refine o_iconst (v := 1) k0_641 (by decide) ?_
        refine o_iadd k0_642 ?_
        obtain ⟨hc100, h⟩ := ck_i h
        refine o_iascr k0_643 hc100 ?_
        refine o_aload_n k0_644 rfl ?_
        refine o_iload_n k0_645 rfl ?_
        refine o_iconst (v := 2) k0_646 (by decide) ?_
        refine o_iadd k0_647 ?_
        obtain ⟨hc101, h⟩ := ck_i h
        refine o_iascr k0_648 hc101 ?_
        refine o_aload_n k0_649 rfl ?_
        refine o_iload_n k0_650 rfl ?_
        refine o_iconst (v := 3) k0_651 (by decide) ?_
        refine o_iadd k0_652 ?_
        obtain ⟨hc102, h⟩ := ck_i h
        refine o_iascr k0_653 hc102 ?_
        refine bd_i h (fun q103 hq103 h => ?_)
        refine o_call k0_654 pj_103 (fun _ => rfl) (by decide) rfl (as := [.ref 0, .int (xs (s1.1 + 1).toNatClampNeg), .int (xs (s1.1 + 2).toNatClampNeg), .int (xs (s1.1 + 3).toNatClampNeg)]) (rest := []) rfl (L0 := [some (.ref 0), some (.int (xs (s1.1 + 1).toNatClampNeg)), some (.int (xs (s1.1 + 2).toNatClampNeg)), some (.int (xs (s1.1 + 3).toNatClampNeg))]) rfl (t_X7_want_0 hq103) ?_
        refine o_aload_n k0_657 rfl ?_
        refine o_aload_n k0_658 rfl ?_
        refine o_iload_n k0_659 rfl ?_
        refine o_iconst (v := 1) k0_660 (by decide) ?_
        refine o_iadd k0_661 ?_
        obtain ⟨hc104, h⟩ := ck_i h
        refine o_iascr k0_662 hc104 ?_
        refine o_aload_n k0_663 rfl ?_
        refine o_iload_n k0_664 rfl ?_
        refine o_iconst (v := 2) k0_665 (by decide) ?_
        refine o_iadd k0_666 ?_
        obtain ⟨hc105, h⟩ := ck_i h
        refine o_iascr k0_667 hc105 ?_
        refine o_aload_n k0_668 rfl ?_
        refine o_iload_n k0_669 rfl ?_
        refine o_iconst (v := 3) k0_670 (by decide) ?_
        refine o_iadd k0_671 ?_
        obtain ⟨hc106, h⟩ := ck_i h
        refine o_iascr k0_672 hc106 ?_
        refine bd_i h (fun q107 hq107 h => ?_)
        refine o_call k0_673 pj_179 (fun _ => rfl) (by decide) rfl (as := [.ref 43, .int (xs (s1.1 + 1).toNatClampNeg), .int (xs (s1.1 + 2).toNatClampNeg), .int (xs (s1.1 + 3).toNatClampNeg)]) (rest := [.int q103.1]) rfl (L0 := [some (.ref 43), some (.int (xs (s1.1 + 1).toNatClampNeg)), some (.int (xs (s1.1 + 2).toNatClampNeg)), some (.int (xs (s1.1 + 3).toNatClampNeg))]) rfl (t_X8_want_43 hq107) ?_
        refine o_icmp_eq k0_676 (fun hc108 => ?_) (fun hc108 => ?_)
        · rw [if_pos hc108] at h
          refine o_iinc (w := s1.1 + 5) (L' := [some (.ref 1000), some (.ref 0), some (.ref 43), some (.int (s1.1 + 5))]) k0_1116 rfl rfl rfl ?_
          refine o_goto k0_1119 ?_
          have h9 := Option.some.inj h
          subst h9
          exact hK
        · rw [if_neg hc108] at h
          refine o_iconst (v := 0) k0_679 (by decide) ?_
          have h9 := Option.some.inj h
          subst h9
          have hK2 : (0, q107.2) = t := hK
          subst hK2
          exact o_iret pj_0 k0_680 rfl (nr_z (by decide))
      rw [if_neg hx32_18] at h
      by_cases hx32_19 : ((xs s1.1.toNatClampNeg) &&& 63) = 19
      · rw [if_pos hx32_19] at h
        refine o_tswI (tgt := 681) (off := 649) k0_32 (by rw [hx32_19]; decide) (by rw [hx32_19]; decide) (by rw [hx32_19]; decide) (by decide) ?_
        refine o_aload_n k0_681 rfl ?_
        refine o_aload_n k0_682 rfl ?_
        refine o_iload_n k0_683 rfl ?_
        refine o_iconst (v := 1) k0_684 (by decide) ?_
        refine o_iadd k0_685 ?_
        obtain ⟨hc109, h⟩ := ck_i h
        refine o_iascr k0_686 hc109 ?_
        refine o_aload_n k0_687 rfl ?_
        refine o_iload_n k0_688 rfl ?_
        refine o_iconst (v := 2) k0_689 (by decide) ?_
        refine o_iadd k0_690 ?_
        obtain ⟨hc110, h⟩ := ck_i h
        refine o_iascr k0_691 hc110 ?_
        refine o_aload_n k0_692 rfl ?_
        refine o_iload_n k0_693 rfl ?_
        refine o_iconst (v := 3) k0_694 (by decide) ?_
        refine o_iadd k0_695 ?_
        obtain ⟨hc111, h⟩ := ck_i h
        refine o_iascr k0_696 hc111 ?_
        refine bd_i h (fun q112 hq112 h => ?_)
        refine o_call k0_697 pj_104 (fun _ => rfl) (by decide) rfl (as := [.ref 0, .int (xs (s1.1 + 1).toNatClampNeg), .int (xs (s1.1 + 2).toNatClampNeg), .int (xs (s1.1 + 3).toNatClampNeg)]) (rest := []) rfl (L0 := [some (.ref 0), some (.int (xs (s1.1 + 1).toNatClampNeg)), some (.int (xs (s1.1 + 2).toNatClampNeg)), some (.int (xs (s1.1 + 3).toNatClampNeg)), none]) rfl (t_X7_brought_0 hq112) ?_
        refine o_aload_n k0_700 rfl ?_
        refine o_aload_n k0_701 rfl ?_
        refine o_iload_n k0_702 rfl ?_
        refine o_iconst (v := 1) k0_703 (by decide) ?_
        refine o_iadd k0_704 ?_
        obtain ⟨hc113, h⟩ := ck_i h
        refine o_iascr k0_705 hc113 ?_
        refine o_aload_n k0_706 rfl ?_
        refine o_iload_n k0_707 rfl ?_
        refine o_iconst (v := 2) k0_708 (by decide) ?_
        refine o_iadd k0_709 ?_
        obtain ⟨hc114, h⟩ := ck_i h
        refine o_iascr k0_710 hc114 ?_
        refine o_aload_n k0_711 rfl ?_
        refine o_iload_n k0_712 rfl ?_
        refine o_iconst (v := 3) k0_713 (by decide) ?_
        refine o_iadd k0_714 ?_
        obtain ⟨hc115, h⟩ := ck_i h
        refine o_iascr k0_715 hc115 ?_
        refine bd_i h (fun v116 hv116 h => ?_)
        refine o_call k0_716 pj_183 (fun _ => rfl) (by decide) rfl (as := [.ref 43, .int (xs (s1.1 + 1).toNatClampNeg), .int (xs (s1.1 + 2).toNatClampNeg), .int (xs (s1.1 + 3).toNatClampNeg)]) (rest := [.int q112.1]) rfl (L0 := [some (.ref 43), some (.int (xs (s1.1 + 1).toNatClampNeg)), some (.int (xs (s1.1 + 2).toNatClampNeg)), some (.int (xs (s1.1 + 3).toNatClampNeg)), none, none]) rfl (t_X8_brought_43 hv116) ?_
        refine o_icmp_eq k0_719 (fun hc117 => ?_) (fun hc117 => ?_)
        · rw [if_pos hc117] at h
          refine o_iinc (w := s1.1 + 5) (L' := [some (.ref 1000), some (.ref 0), some (.ref 43), some (.int (s1.1 + 5))]) k0_1116 rfl rfl rfl ?_
          refine o_goto k0_1119 ?_
          have h9 := Option.some.inj h
          subst h9
          exact hK
        · rw [if_neg hc117] at h
          refine o_iconst (v := 0) k0_722 (by decide) ?_
          have h9 := Option.some.inj h
          subst h9
          have hK2 : (0, q112.2) = t := hK
          subst hK2
          exact o_iret pj_0 k0_723 rfl (nr_z (by decide))
      rw [if_neg hx32_19] at h
      by_cases hx32_20 : ((xs s1.1.toNatClampNeg) &&& 63) = 20
      · rw [if_pos hx32_20] at h
        refine o_tswI (tgt := 724) (off := 692) k0_32 (by rw [hx32_20]; decide) (by rw [hx32_20]; decide) (by rw [hx32_20]; decide) (by decide) ?_
        refine o_aload_n k0_724 rfl ?_
        refine o_aload_n k0_725 rfl ?_
        refine o_iload_n k0_726 rfl ?_
        refine o_iconst (v := 1) k0_727 (by decide) ?_
        refine o_iadd k0_728 ?_
        obtain ⟨hc118, h⟩ := ck_i h
        refine o_iascr k0_729 hc118 ?_
        refine bd_i h (fun q119 hq119 h => ?_)
        refine o_call k0_730 pj_105 (fun _ => rfl) (by decide) rfl (as := [.ref 0, .int (xs (s1.1 + 1).toNatClampNeg)]) (rest := []) rfl (L0 := [some (.ref 0), some (.int (xs (s1.1 + 1).toNatClampNeg)), none]) rfl (t_X7_seed_0 hq119) ?_
        refine o_aload_n k0_733 rfl ?_
        refine o_aload_n k0_734 rfl ?_
        refine o_iload_n k0_735 rfl ?_
        refine o_iconst (v := 1) k0_736 (by decide) ?_
        refine o_iadd k0_737 ?_
        obtain ⟨hc120, h⟩ := ck_i h
        refine o_iascr k0_738 hc120 ?_
        refine bd_i h (fun v121 hv121 h => ?_)
        refine o_call k0_739 pj_185 (fun _ => rfl) (by decide) rfl (as := [.ref 43, .int (xs (s1.1 + 1).toNatClampNeg)]) (rest := [.int q119.1]) rfl (L0 := [some (.ref 43), some (.int (xs (s1.1 + 1).toNatClampNeg)), none, none, none]) rfl (t_X8_seed_43 hv121) ?_
        refine o_icmp_eq k0_742 (fun hc122 => ?_) (fun hc122 => ?_)
        · rw [if_pos hc122] at h
          refine o_iinc (w := s1.1 + 5) (L' := [some (.ref 1000), some (.ref 0), some (.ref 43), some (.int (s1.1 + 5))]) k0_1116 rfl rfl rfl ?_
          refine o_goto k0_1119 ?_
          have h9 := Option.some.inj h
          subst h9
          exact hK
        · rw [if_neg hc122] at h
          refine o_iconst (v := 0) k0_745 (by decide) ?_
          have h9 := Option.some.inj h
          subst h9
          have hK2 : (0, q119.2) = t := hK
          subst hK2
          exact o_iret pj_0 k0_746 rfl (nr_z (by decide))
      rw [if_neg hx32_20] at h
      by_cases hx32_21 : ((xs s1.1.toNatClampNeg) &&& 63) = 21
      · rw [if_pos hx32_21] at h
        refine o_tswI (tgt := 747) (off := 715) k0_32 (by rw [hx32_21]; decide) (by rw [hx32_21]; decide) (by rw [hx32_21]; decide) (by decide) ?_
        refine o_aload_n k0_747 rfl ?_
        refine bd_i h (fun v123 hv123 h => ?_)
        refine o_call k0_748 pj_106 (fun _ => rfl) (by decide) rfl (as := [.ref 0]) (rest := []) rfl (L0 := [some (.ref 0), none, none, none]) rfl (t_X7_signature_0 hv123) ?_
        refine o_aload_n k0_751 rfl ?_
        refine bd_i h (fun v124 hv124 h => ?_)
        refine o_call k0_752 pj_188 (fun _ => rfl) (by decide) rfl (as := [.ref 43]) (rest := [.int v123]) rfl (L0 := [some (.ref 43), none, none, none, none]) rfl (t_X8_signature_43 hv124) ?_
        refine o_icmp_eq k0_755 (fun hc125 => ?_) (fun hc125 => ?_)
        · rw [if_pos hc125] at h
          refine o_iinc (w := s1.1 + 5) (L' := [some (.ref 1000), some (.ref 0), some (.ref 43), some (.int (s1.1 + 5))]) k0_1116 rfl rfl rfl ?_
          refine o_goto k0_1119 ?_
          have h9 := Option.some.inj h
          subst h9
          exact hK
        · rw [if_neg hc125] at h
          refine o_iconst (v := 0) k0_758 (by decide) ?_
          have h9 := Option.some.inj h
          subst h9
          have hK2 : (0, s1.2) = t := hK
          subst hK2
          exact o_iret pj_0 k0_759 rfl (nr_z (by decide))
      rw [if_neg hx32_21] at h
      by_cases hx32_22 : ((xs s1.1.toNatClampNeg) &&& 63) = 22
      · rw [if_pos hx32_22] at h
        refine o_tswI (tgt := 760) (off := 728) k0_32 (by rw [hx32_22]; decide) (by rw [hx32_22]; decide) (by rw [hx32_22]; decide) (by decide) ?_
        refine o_aload_n k0_760 rfl ?_
        refine o_aload_n k0_761 rfl ?_
        refine o_iload_n k0_762 rfl ?_
        refine o_iconst (v := 1) k0_763 (by decide) ?_
        refine o_iadd k0_764 ?_
        obtain ⟨hc126, h⟩ := ck_i h
        refine o_iascr k0_765 hc126 ?_
        refine bd_i h (fun q127 hq127 h => ?_)
        refine o_call k0_766 pj_107 (fun _ => rfl) (by decide) rfl (as := [.ref 0, .int (xs (s1.1 + 1).toNatClampNeg)]) (rest := []) rfl (L0 := [some (.ref 0), some (.int (xs (s1.1 + 1).toNatClampNeg))]) rfl (t_X7_alias_0 hq127) ?_
        refine o_aload_n k0_769 rfl ?_
        refine o_aload_n k0_770 rfl ?_
        refine o_iload_n k0_771 rfl ?_
        refine o_iconst (v := 1) k0_772 (by decide) ?_
        refine o_iadd k0_773 ?_
        obtain ⟨hc128, h⟩ := ck_i h
        refine o_iascr k0_774 hc128 ?_
        refine bd_i h (fun q129 hq129 h => ?_)
        refine o_call k0_775 pj_191 (fun _ => rfl) (by decide) rfl (as := [.ref 43, .int (xs (s1.1 + 1).toNatClampNeg)]) (rest := [.int q127.1]) rfl (L0 := [some (.ref 43), some (.int (xs (s1.1 + 1).toNatClampNeg)), none, none, none]) rfl (t_X8_alias_43 hq129) ?_
        refine o_icmp_eq k0_778 (fun hc130 => ?_) (fun hc130 => ?_)
        · rw [if_pos hc130] at h
          refine o_iinc (w := s1.1 + 5) (L' := [some (.ref 1000), some (.ref 0), some (.ref 43), some (.int (s1.1 + 5))]) k0_1116 rfl rfl rfl ?_
          refine o_goto k0_1119 ?_
          have h9 := Option.some.inj h
          subst h9
          exact hK
        · rw [if_neg hc130] at h
          refine o_iconst (v := 0) k0_781 (by decide) ?_
          have h9 := Option.some.inj h
          subst h9
          have hK2 : (0, q129.2) = t := hK
          subst hK2
          exact o_iret pj_0 k0_782 rfl (nr_z (by decide))
      rw [if_neg hx32_22] at h
      by_cases hx32_23 : ((xs s1.1.toNatClampNeg) &&& 63) = 23
      · rw [if_pos hx32_23] at h
        refine o_tswI (tgt := 783) (off := 751) k0_32 (by rw [hx32_23]; decide) (by rw [hx32_23]; decide) (by rw [hx32_23]; decide) (by decide) ?_
        refine o_aload_n k0_783 rfl ?_
        refine o_aload_n k0_784 rfl ?_
        refine o_iload_n k0_785 rfl ?_
        refine o_iconst (v := 1) k0_786 (by decide) ?_
        refine o_iadd k0_787 ?_
        obtain ⟨hc131, h⟩ := ck_i h
        refine o_iascr k0_788 hc131 ?_
        refine bd_i h (fun v132 hv132 h => ?_)
        refine o_call k0_789 pj_108 (fun _ => rfl) (by decide) rfl (as := [.ref 0, .int (xs (s1.1 + 1).toNatClampNeg)]) (rest := []) rfl (L0 := [some (.ref 0), some (.int (xs (s1.1 + 1).toNatClampNeg))]) rfl (t_X7_suspects_0 hv132) ?_
        refine o_aload_n k0_792 rfl ?_
        refine o_aload_n k0_793 rfl ?_
        refine o_iload_n k0_794 rfl ?_
        refine o_iconst (v := 1) k0_795 (by decide) ?_
        refine o_iadd k0_796 ?_
        obtain ⟨hc133, h⟩ := ck_i h
        refine o_iascr k0_797 hc133 ?_
        refine bd_i h (fun v134 hv134 h => ?_)
        refine o_call k0_798 pj_192 (fun _ => rfl) (by decide) rfl (as := [.ref 43, .int (xs (s1.1 + 1).toNatClampNeg)]) (rest := [.int v132]) rfl (L0 := [some (.ref 43), some (.int (xs (s1.1 + 1).toNatClampNeg))]) rfl (t_X8_suspects_43 hv134) ?_
        refine o_icmp_eq k0_801 (fun hc135 => ?_) (fun hc135 => ?_)
        · rw [if_pos hc135] at h
          refine o_iinc (w := s1.1 + 5) (L' := [some (.ref 1000), some (.ref 0), some (.ref 43), some (.int (s1.1 + 5))]) k0_1116 rfl rfl rfl ?_
          refine o_goto k0_1119 ?_
          have h9 := Option.some.inj h
          subst h9
          exact hK
        · rw [if_neg hc135] at h
          refine o_iconst (v := 0) k0_804 (by decide) ?_
          have h9 := Option.some.inj h
          subst h9
          have hK2 : (0, s1.2) = t := hK
          subst hK2
          exact o_iret pj_0 k0_805 rfl (nr_z (by decide))
      rw [if_neg hx32_23] at h
      by_cases hx32_24 : ((xs s1.1.toNatClampNeg) &&& 63) = 24
      · rw [if_pos hx32_24] at h
        refine o_tswI (tgt := 806) (off := 774) k0_32 (by rw [hx32_24]; decide) (by rw [hx32_24]; decide) (by rw [hx32_24]; decide) (by decide) ?_
        refine o_aload_n k0_806 rfl ?_
        refine o_aload_n k0_807 rfl ?_
        refine o_iload_n k0_808 rfl ?_
        refine o_iconst (v := 1) k0_809 (by decide) ?_
        refine o_iadd k0_810 ?_
        obtain ⟨hc136, h⟩ := ck_i h
        refine o_iascr k0_811 hc136 ?_
        refine o_aload_n k0_812 rfl ?_
        refine o_iload_n k0_813 rfl ?_
        refine o_iconst (v := 2) k0_814 (by decide) ?_
        refine o_iadd k0_815 ?_
        obtain ⟨hc137, h⟩ := ck_i h
        refine o_iascr k0_816 hc137 ?_
        refine bd_i h (fun q138 hq138 h => ?_)
        refine o_call k0_817 pj_109 (fun _ => rfl) (by decide) rfl (as := [.ref 0, .int (xs (s1.1 + 1).toNatClampNeg), .int (xs (s1.1 + 2).toNatClampNeg)]) (rest := []) rfl (L0 := [some (.ref 0), some (.int (xs (s1.1 + 1).toNatClampNeg)), some (.int (xs (s1.1 + 2).toNatClampNeg))]) rfl (t_X7_dump_0 hq138) ?_
        refine o_aload_n k0_820 rfl ?_
        refine o_aload_n k0_821 rfl ?_
        refine o_iload_n k0_822 rfl ?_
        refine o_iconst (v := 1) k0_823 (by decide) ?_
        refine o_iadd k0_824 ?_
        obtain ⟨hc139, h⟩ := ck_i h
        refine o_iascr k0_825 hc139 ?_
        refine o_aload_n k0_826 rfl ?_
        refine o_iload_n k0_827 rfl ?_
        refine o_iconst (v := 2) k0_828 (by decide) ?_
        refine o_iadd k0_829 ?_
        obtain ⟨hc140, h⟩ := ck_i h
        refine o_iascr k0_830 hc140 ?_
        refine bd_i h (fun q141 hq141 h => ?_)
        refine o_call k0_831 pj_194 (fun _ => rfl) (by decide) rfl (as := [.ref 43, .int (xs (s1.1 + 1).toNatClampNeg), .int (xs (s1.1 + 2).toNatClampNeg)]) (rest := [.int q138.1]) rfl (L0 := [some (.ref 43), some (.int (xs (s1.1 + 1).toNatClampNeg)), some (.int (xs (s1.1 + 2).toNatClampNeg)), none, none]) rfl (t_X8_dump_43 hq141) ?_
        refine o_icmp_eq k0_834 (fun hc142 => ?_) (fun hc142 => ?_)
        · rw [if_pos hc142] at h
          refine o_iinc (w := s1.1 + 5) (L' := [some (.ref 1000), some (.ref 0), some (.ref 43), some (.int (s1.1 + 5))]) k0_1116 rfl rfl rfl ?_
          refine o_goto k0_1119 ?_
          have h9 := Option.some.inj h
          subst h9
          exact hK
        · rw [if_neg hc142] at h
          refine o_iconst (v := 0) k0_837 (by decide) ?_
          have h9 := Option.some.inj h
          subst h9
          have hK2 : (0, q141.2) = t := hK
          subst hK2
          exact o_iret pj_0 k0_838 rfl (nr_z (by decide))
      rw [if_neg hx32_24] at h
      by_cases hx32_25 : ((xs s1.1.toNatClampNeg) &&& 63) = 25
      · rw [if_pos hx32_25] at h
        refine o_tswI (tgt := 839) (off := 807) k0_32 (by rw [hx32_25]; decide) (by rw [hx32_25]; decide) (by rw [hx32_25]; decide) (by decide) ?_
        refine o_aload_n k0_839 rfl ?_
        refine o_aload_n k0_840 rfl ?_
        refine o_iload_n k0_841 rfl ?_
        refine o_iconst (v := 1) k0_842 (by decide) ?_
        refine o_iadd k0_843 ?_
        obtain ⟨hc143, h⟩ := ck_i h
        refine o_iascr k0_844 hc143 ?_
        refine bd_i h (fun q144 hq144 h => ?_)
        refine o_call k0_845 pj_110 (fun _ => rfl) (by decide) rfl (as := [.ref 0, .int (xs (s1.1 + 1).toNatClampNeg)]) (rest := []) rfl (L0 := [some (.ref 0), some (.int (xs (s1.1 + 1).toNatClampNeg))]) rfl (t_X7_clear_0 hq144) ?_
        refine o_aload_n k0_848 rfl ?_
        refine o_aload_n k0_849 rfl ?_
        refine o_iload_n k0_850 rfl ?_
        refine o_iconst (v := 1) k0_851 (by decide) ?_
        refine o_iadd k0_852 ?_
        obtain ⟨hc145, h⟩ := ck_i h
        refine o_iascr k0_853 hc145 ?_
        refine bd_i h (fun q146 hq146 h => ?_)
        refine o_call k0_854 pj_195 (fun _ => rfl) (by decide) rfl (as := [.ref 43, .int (xs (s1.1 + 1).toNatClampNeg)]) (rest := [.int q144.1]) rfl (L0 := [some (.ref 43), some (.int (xs (s1.1 + 1).toNatClampNeg))]) rfl (t_X8_clear_43 hq146) ?_
        refine o_icmp_eq k0_857 (fun hc147 => ?_) (fun hc147 => ?_)
        · rw [if_pos hc147] at h
          refine o_iinc (w := s1.1 + 5) (L' := [some (.ref 1000), some (.ref 0), some (.ref 43), some (.int (s1.1 + 5))]) k0_1116 rfl rfl rfl ?_
          refine o_goto k0_1119 ?_
          have h9 := Option.some.inj h
          subst h9
          exact hK
        · rw [if_neg hc147] at h
          refine o_iconst (v := 0) k0_860 (by decide) ?_
          have h9 := Option.some.inj h
          subst h9
          have hK2 : (0, q146.2) = t := hK
          subst hK2
          exact o_iret pj_0 k0_861 rfl (nr_z (by decide))
      rw [if_neg hx32_25] at h
      by_cases hx32_26 : ((xs s1.1.toNatClampNeg) &&& 63) = 26
      · rw [if_pos hx32_26] at h
        refine o_tswI (tgt := 862) (off := 830) k0_32 (by rw [hx32_26]; decide) (by rw [hx32_26]; decide) (by rw [hx32_26]; decide) (by decide) ?_
        refine o_aload_n k0_862 rfl ?_
        refine o_aload_n k0_863 rfl ?_
        refine o_iload_n k0_864 rfl ?_
        refine o_iconst (v := 1) k0_865 (by decide) ?_
        refine o_iadd k0_866 ?_
        obtain ⟨hc148, h⟩ := ck_i h
        refine o_iascr k0_867 hc148 ?_
        refine bd_i h (fun q149 hq149 h => ?_)
        refine o_call k0_868 pj_111 (fun _ => rfl) (by decide) rfl (as := [.ref 0, .int (xs (s1.1 + 1).toNatClampNeg)]) (rest := []) rfl (L0 := [some (.ref 0), some (.int (xs (s1.1 + 1).toNatClampNeg)), none]) rfl (t_X7_keep_0 hq149) ?_
        refine o_aload_n k0_871 rfl ?_
        refine o_aload_n k0_872 rfl ?_
        refine o_iload_n k0_873 rfl ?_
        refine o_iconst (v := 1) k0_874 (by decide) ?_
        refine o_iadd k0_875 ?_
        obtain ⟨hc150, h⟩ := ck_i h
        refine o_iascr k0_876 hc150 ?_
        refine bd_i h (fun q151 hq151 h => ?_)
        refine o_call k0_877 pj_196 (fun _ => rfl) (by decide) rfl (as := [.ref 43, .int (xs (s1.1 + 1).toNatClampNeg)]) (rest := [.int q149.1]) rfl (L0 := [some (.ref 43), some (.int (xs (s1.1 + 1).toNatClampNeg)), none, none]) rfl (t_X8_keep_43 hq151) ?_
        refine o_icmp_eq k0_880 (fun hc152 => ?_) (fun hc152 => ?_)
        · rw [if_pos hc152] at h
          refine o_iinc (w := s1.1 + 5) (L' := [some (.ref 1000), some (.ref 0), some (.ref 43), some (.int (s1.1 + 5))]) k0_1116 rfl rfl rfl ?_
          refine o_goto k0_1119 ?_
          have h9 := Option.some.inj h
          subst h9
          exact hK
        · rw [if_neg hc152] at h
          refine o_iconst (v := 0) k0_883 (by decide) ?_
          have h9 := Option.some.inj h
          subst h9
          have hK2 : (0, q151.2) = t := hK
          subst hK2
          exact o_iret pj_0 k0_884 rfl (nr_z (by decide))
      rw [if_neg hx32_26] at h
      by_cases hx32_27 : ((xs s1.1.toNatClampNeg) &&& 63) = 27
      · rw [if_pos hx32_27] at h
        refine o_tswI (tgt := 885) (off := 853) k0_32 (by rw [hx32_27]; decide) (by rw [hx32_27]; decide) (by rw [hx32_27]; decide) (by decide) ?_
        refine o_aload_n k0_885 rfl ?_
        refine o_aload_n k0_886 rfl ?_
        refine o_iload_n k0_887 rfl ?_
        refine o_iconst (v := 1) k0_888 (by decide) ?_
        refine o_iadd k0_889 ?_
        obtain ⟨hc153, h⟩ := ck_i h
        refine o_iascr k0_890 hc153 ?_
        refine bd_i h (fun q154 hq154 h => ?_)
        refine o_call k0_891 pj_112 (fun _ => rfl) (by decide) rfl (as := [.ref 0, .int (xs (s1.1 + 1).toNatClampNeg)]) (rest := []) rfl (L0 := [some (.ref 0), some (.int (xs (s1.1 + 1).toNatClampNeg))]) rfl (t_X7_back_0 hq154) ?_
        refine o_aload_n k0_894 rfl ?_
        refine o_aload_n k0_895 rfl ?_
        refine o_iload_n k0_896 rfl ?_
        refine o_iconst (v := 1) k0_897 (by decide) ?_
        refine o_iadd k0_898 ?_
        obtain ⟨hc155, h⟩ := ck_i h
        refine o_iascr k0_899 hc155 ?_
        refine bd_i h (fun q156 hq156 h => ?_)
        refine o_call k0_900 pj_198 (fun _ => rfl) (by decide) rfl (as := [.ref 43, .int (xs (s1.1 + 1).toNatClampNeg)]) (rest := [.int q154.1]) rfl (L0 := [some (.ref 43), some (.int (xs (s1.1 + 1).toNatClampNeg))]) rfl (t_X8_back_43 hq156) ?_
        refine o_icmp_eq k0_903 (fun hc157 => ?_) (fun hc157 => ?_)
        · rw [if_pos hc157] at h
          refine o_iinc (w := s1.1 + 5) (L' := [some (.ref 1000), some (.ref 0), some (.ref 43), some (.int (s1.1 + 5))]) k0_1116 rfl rfl rfl ?_
          refine o_goto k0_1119 ?_
          have h9 := Option.some.inj h
          subst h9
          exact hK
        · rw [if_neg hc157] at h
          refine o_iconst (v := 0) k0_906 (by decide) ?_
          have h9 := Option.some.inj h
          subst h9
          have hK2 : (0, q156.2) = t := hK
          subst hK2
          exact o_iret pj_0 k0_907 rfl (nr_z (by decide))
      rw [if_neg hx32_27] at h
      by_cases hx32_28 : ((xs s1.1.toNatClampNeg) &&& 63) = 28
      · rw [if_pos hx32_28] at h
        refine o_tswI (tgt := 908) (off := 876) k0_32 (by rw [hx32_28]; decide) (by rw [hx32_28]; decide) (by rw [hx32_28]; decide) (by decide) ?_
        refine o_aload_n k0_908 rfl ?_
        refine o_aload_n k0_909 rfl ?_
        refine o_iload_n k0_910 rfl ?_
        refine o_iconst (v := 1) k0_911 (by decide) ?_
        refine o_iadd k0_912 ?_
        obtain ⟨hc158, h⟩ := ck_i h
        refine o_iascr k0_913 hc158 ?_
        refine o_aload_n k0_914 rfl ?_
        refine o_iload_n k0_915 rfl ?_
        refine o_iconst (v := 2) k0_916 (by decide) ?_
        refine o_iadd k0_917 ?_
        obtain ⟨hc159, h⟩ := ck_i h
        refine o_iascr k0_918 hc159 ?_
        refine bd_i h (fun v160 hv160 h => ?_)
        refine o_call k0_919 pj_113 (fun _ => rfl) (by decide) rfl (as := [.ref 0, .int (xs (s1.1 + 1).toNatClampNeg), .int (xs (s1.1 + 2).toNatClampNeg)]) (rest := []) rfl (L0 := [some (.ref 0), some (.int (xs (s1.1 + 1).toNatClampNeg)), some (.int (xs (s1.1 + 2).toNatClampNeg))]) rfl (t_X7_differs_0 hv160) ?_
        refine o_aload_n k0_922 rfl ?_
        refine o_aload_n k0_923 rfl ?_
        refine o_iload_n k0_924 rfl ?_
        refine o_iconst (v := 1) k0_925 (by decide) ?_
        refine o_iadd k0_926 ?_
        obtain ⟨hc161, h⟩ := ck_i h
        refine o_iascr k0_927 hc161 ?_
        refine o_aload_n k0_928 rfl ?_
        refine o_iload_n k0_929 rfl ?_
        refine o_iconst (v := 2) k0_930 (by decide) ?_
        refine o_iadd k0_931 ?_
        obtain ⟨hc162, h⟩ := ck_i h
        refine o_iascr k0_932 hc162 ?_
        refine bd_i h (fun q163 hq163 h => ?_)
        refine o_call k0_933 pj_203 (fun _ => rfl) (by decide) rfl (as := [.ref 43, .int (xs (s1.1 + 1).toNatClampNeg), .int (xs (s1.1 + 2).toNatClampNeg)]) (rest := [.int v160]) rfl (L0 := [some (.ref 43), some (.int (xs (s1.1 + 1).toNatClampNeg)), some (.int (xs (s1.1 + 2).toNatClampNeg)), none, none]) rfl (t_X8_differs_43 hq163) ?_
        refine o_icmp_eq k0_936 (fun hc164 => ?_) (fun hc164 => ?_)
        · rw [if_pos hc164] at h
          refine o_iinc (w := s1.1 + 5) (L' := [some (.ref 1000), some (.ref 0), some (.ref 43), some (.int (s1.1 + 5))]) k0_1116 rfl rfl rfl ?_
          refine o_goto k0_1119 ?_
          have h9 := Option.some.inj h
          subst h9
          exact hK
        · rw [if_neg hc164] at h
          refine o_iconst (v := 0) k0_939 (by decide) ?_
          have h9 := Option.some.inj h
          subst h9
          have hK2 : (0, q163.2) = t := hK
          subst hK2
          exact o_iret pj_0 k0_940 rfl (nr_z (by decide))
      rw [if_neg hx32_28] at h
      by_cases hx32_29 : ((xs s1.1.toNatClampNeg) &&& 63) = 29
      · rw [if_pos hx32_29] at h
        refine o_tswI (tgt := 941) (off := 909) k0_32 (by rw [hx32_29]; decide) (by rw [hx32_29]; decide) (by rw [hx32_29]; decide) (by decide) ?_
        refine o_aload_n k0_941 rfl ?_
        refine o_aload_n k0_942 rfl ?_
        refine o_iload_n k0_943 rfl ?_
        refine o_iconst (v := 1) k0_944 (by decide) ?_
        refine o_iadd k0_945 ?_
        obtain ⟨hc165, h⟩ := ck_i h
        refine o_iascr k0_946 hc165 ?_
        refine o_aload_n k0_947 rfl ?_
        refine o_iload_n k0_948 rfl ?_
        refine o_iconst (v := 2) k0_949 (by decide) ?_
        refine o_iadd k0_950 ?_
        obtain ⟨hc166, h⟩ := ck_i h
        refine o_iascr k0_951 hc166 ?_
        refine o_aload_n k0_952 rfl ?_
        refine o_iload_n k0_953 rfl ?_
        refine o_iconst (v := 3) k0_954 (by decide) ?_
        refine o_iadd k0_955 ?_
        obtain ⟨hc167, h⟩ := ck_i h
        refine o_iascr k0_956 hc167 ?_
        refine bd_i h (fun q168 hq168 h => ?_)
        refine o_call k0_957 pj_114 (fun _ => rfl) (by decide) rfl (as := [.ref 0, .int (xs (s1.1 + 1).toNatClampNeg), .int (xs (s1.1 + 2).toNatClampNeg), .int (xs (s1.1 + 3).toNatClampNeg)]) (rest := []) rfl (L0 := [some (.ref 0), some (.int (xs (s1.1 + 1).toNatClampNeg)), some (.int (xs (s1.1 + 2).toNatClampNeg)), some (.int (xs (s1.1 + 3).toNatClampNeg))]) rfl (t_X7_sheet_0 hq168) ?_
        refine o_aload_n k0_960 rfl ?_
        refine o_aload_n k0_961 rfl ?_
        refine o_iload_n k0_962 rfl ?_
        refine o_iconst (v := 1) k0_963 (by decide) ?_
        refine o_iadd k0_964 ?_
        obtain ⟨hc169, h⟩ := ck_i h
        refine o_iascr k0_965 hc169 ?_
        refine o_aload_n k0_966 rfl ?_
        refine o_iload_n k0_967 rfl ?_
        refine o_iconst (v := 2) k0_968 (by decide) ?_
        refine o_iadd k0_969 ?_
        obtain ⟨hc170, h⟩ := ck_i h
        refine o_iascr k0_970 hc170 ?_
        refine o_aload_n k0_971 rfl ?_
        refine o_iload_n k0_972 rfl ?_
        refine o_iconst (v := 3) k0_973 (by decide) ?_
        refine o_iadd k0_974 ?_
        obtain ⟨hc171, h⟩ := ck_i h
        refine o_iascr k0_975 hc171 ?_
        refine bd_i h (fun q172 hq172 h => ?_)
        refine o_call k0_976 pj_205 (fun _ => rfl) (by decide) rfl (as := [.ref 43, .int (xs (s1.1 + 1).toNatClampNeg), .int (xs (s1.1 + 2).toNatClampNeg), .int (xs (s1.1 + 3).toNatClampNeg)]) (rest := [.int q168.1]) rfl (L0 := [some (.ref 43), some (.int (xs (s1.1 + 1).toNatClampNeg)), some (.int (xs (s1.1 + 2).toNatClampNeg)), some (.int (xs (s1.1 + 3).toNatClampNeg)), none]) rfl (t_X8_sheet_43 hq172) ?_
        refine o_icmp_eq k0_979 (fun hc173 => ?_) (fun hc173 => ?_)
        · rw [if_pos hc173] at h
          refine o_iinc (w := s1.1 + 5) (L' := [some (.ref 1000), some (.ref 0), some (.ref 43), some (.int (s1.1 + 5))]) k0_1116 rfl rfl rfl ?_
          refine o_goto k0_1119 ?_
          have h9 := Option.some.inj h
          subst h9
          exact hK
        · rw [if_neg hc173] at h
          refine o_iconst (v := 0) k0_982 (by decide) ?_
          have h9 := Option.some.inj h
          subst h9
          have hK2 : (0, q172.2) = t := hK
          subst hK2
          exact o_iret pj_0 k0_983 rfl (nr_z (by decide))
      rw [if_neg hx32_29] at h
      by_cases hx32_30 : ((xs s1.1.toNatClampNeg) &&& 63) = 30
      · rw [if_pos hx32_30] at h
        refine o_tswI (tgt := 984) (off := 952) k0_32 (by rw [hx32_30]; decide) (by rw [hx32_30]; decide) (by rw [hx32_30]; decide) (by decide) ?_
        refine o_aload_n k0_984 rfl ?_
        refine o_aload_n k0_985 rfl ?_
        refine o_iload_n k0_986 rfl ?_
        refine o_iconst (v := 1) k0_987 (by decide) ?_
        refine o_iadd k0_988 ?_
        obtain ⟨hc174, h⟩ := ck_i h
        refine o_iascr k0_989 hc174 ?_
        refine o_aload_n k0_990 rfl ?_
        refine o_iload_n k0_991 rfl ?_
        refine o_iconst (v := 2) k0_992 (by decide) ?_
        refine o_iadd k0_993 ?_
        obtain ⟨hc175, h⟩ := ck_i h
        refine o_iascr k0_994 hc175 ?_
        refine o_aload_n k0_995 rfl ?_
        refine o_iload_n k0_996 rfl ?_
        refine o_iconst (v := 3) k0_997 (by decide) ?_
        refine o_iadd k0_998 ?_
        obtain ⟨hc176, h⟩ := ck_i h
        refine o_iascr k0_999 hc176 ?_
        refine bd_i h (fun q177 hq177 h => ?_)
        refine o_call k0_1000 pj_115 (fun _ => rfl) (by decide) rfl (as := [.ref 0, .int (xs (s1.1 + 1).toNatClampNeg), .int (xs (s1.1 + 2).toNatClampNeg), .int (xs (s1.1 + 3).toNatClampNeg)]) (rest := []) rfl (L0 := [some (.ref 0), some (.int (xs (s1.1 + 1).toNatClampNeg)), some (.int (xs (s1.1 + 2).toNatClampNeg)), some (.int (xs (s1.1 + 3).toNatClampNeg)), none, none]) rfl (t_X7_lay_0 hq177) ?_
        refine o_aload_n k0_1003 rfl ?_
        refine o_aload_n k0_1004 rfl ?_
        refine o_iload_n k0_1005 rfl ?_
        refine o_iconst (v := 1) k0_1006 (by decide) ?_
        refine o_iadd k0_1007 ?_
        obtain ⟨hc178, h⟩ := ck_i h
        refine o_iascr k0_1008 hc178 ?_
        refine o_aload_n k0_1009 rfl ?_
        refine o_iload_n k0_1010 rfl ?_
        refine o_iconst (v := 2) k0_1011 (by decide) ?_
        refine o_iadd k0_1012 ?_
        obtain ⟨hc179, h⟩ := ck_i h
        refine o_iascr k0_1013 hc179 ?_
        refine o_aload_n k0_1014 rfl ?_
        refine o_iload_n k0_1015 rfl ?_
        refine o_iconst (v := 3) k0_1016 (by decide) ?_
        refine o_iadd k0_1017 ?_
        obtain ⟨hc180, h⟩ := ck_i h
        refine o_iascr k0_1018 hc180 ?_
        refine bd_i h (fun q181 hq181 h => ?_)
        refine o_call k0_1019 pj_206 (fun _ => rfl) (by decide) rfl (as := [.ref 43, .int (xs (s1.1 + 1).toNatClampNeg), .int (xs (s1.1 + 2).toNatClampNeg), .int (xs (s1.1 + 3).toNatClampNeg)]) (rest := [.int q177.1]) rfl (L0 := [some (.ref 43), some (.int (xs (s1.1 + 1).toNatClampNeg)), some (.int (xs (s1.1 + 2).toNatClampNeg)), some (.int (xs (s1.1 + 3).toNatClampNeg))]) rfl (t_X8_lay_43 hq181) ?_
        refine o_icmp_eq k0_1022 (fun hc182 => ?_) (fun hc182 => ?_)
        · rw [if_pos hc182] at h
          refine o_iinc (w := s1.1 + 5) (L' := [some (.ref 1000), some (.ref 0), some (.ref 43), some (.int (s1.1 + 5))]) k0_1116 rfl rfl rfl ?_
          refine o_goto k0_1119 ?_
          have h9 := Option.some.inj h
          subst h9
          exact hK
        · rw [if_neg hc182] at h
          refine o_iconst (v := 0) k0_1025 (by decide) ?_
          have h9 := Option.some.inj h
          subst h9
          have hK2 : (0, q181.2) = t := hK
          subst hK2
          exact o_iret pj_0 k0_1026 rfl (nr_z (by decide))
      rw [if_neg hx32_30] at h
      by_cases hx32_31 : ((xs s1.1.toNatClampNeg) &&& 63) = 31
      · rw [if_pos hx32_31] at h
        refine o_tswI (tgt := 1027) (off := 995) k0_32 (by rw [hx32_31]; decide) (by rw [hx32_31]; decide) (by rw [hx32_31]; decide) (by decide) ?_
        refine o_aload_n k0_1027 rfl ?_
        refine o_aload_n k0_1028 rfl ?_
        refine o_iload_n k0_1029 rfl ?_
        refine o_iconst (v := 1) k0_1030 (by decide) ?_
        refine o_iadd k0_1031 ?_
        obtain ⟨hc183, h⟩ := ck_i h
        refine o_iascr k0_1032 hc183 ?_
        refine o_aload_n k0_1033 rfl ?_
        refine o_iload_n k0_1034 rfl ?_
        refine o_iconst (v := 2) k0_1035 (by decide) ?_
        refine o_iadd k0_1036 ?_
        obtain ⟨hc184, h⟩ := ck_i h
        refine o_iascr k0_1037 hc184 ?_
        refine o_aload_n k0_1038 rfl ?_
        refine o_iload_n k0_1039 rfl ?_
        refine o_iconst (v := 3) k0_1040 (by decide) ?_
        refine o_iadd k0_1041 ?_
        obtain ⟨hc185, h⟩ := ck_i h
        refine o_iascr k0_1042 hc185 ?_
        refine o_aload_n k0_1043 rfl ?_
        refine o_iload_n k0_1044 rfl ?_
        refine o_iconst (v := 4) k0_1045 (by decide) ?_
        refine o_iadd k0_1046 ?_
        obtain ⟨hc186, h⟩ := ck_i h
        refine o_iascr k0_1047 hc186 ?_
        refine bd_i h (fun q187 hq187 h => ?_)
        refine o_call k0_1048 pj_116 (fun _ => rfl) (by decide) rfl (as := [.ref 0, .int (xs (s1.1 + 1).toNatClampNeg), .int (xs (s1.1 + 2).toNatClampNeg), .int (xs (s1.1 + 3).toNatClampNeg), .int (xs (s1.1 + 4).toNatClampNeg)]) (rest := []) rfl (L0 := [some (.ref 0), some (.int (xs (s1.1 + 1).toNatClampNeg)), some (.int (xs (s1.1 + 2).toNatClampNeg)), some (.int (xs (s1.1 + 3).toNatClampNeg)), some (.int (xs (s1.1 + 4).toNatClampNeg)), none, none, none, none, none]) rfl (t_X7_read_0 hq187) ?_
        refine o_aload_n k0_1051 rfl ?_
        refine o_aload_n k0_1052 rfl ?_
        refine o_iload_n k0_1053 rfl ?_
        refine o_iconst (v := 1) k0_1054 (by decide) ?_
        refine o_iadd k0_1055 ?_
        obtain ⟨hc188, h⟩ := ck_i h
        refine o_iascr k0_1056 hc188 ?_
        refine o_aload_n k0_1057 rfl ?_
        refine o_iload_n k0_1058 rfl ?_
        refine o_iconst (v := 2) k0_1059 (by decide) ?_
        refine o_iadd k0_1060 ?_
        obtain ⟨hc189, h⟩ := ck_i h
        refine o_iascr k0_1061 hc189 ?_
        refine o_aload_n k0_1062 rfl ?_
        refine o_iload_n k0_1063 rfl ?_
        refine o_iconst (v := 3) k0_1064 (by decide) ?_
        refine o_iadd k0_1065 ?_
        obtain ⟨hc190, h⟩ := ck_i h
        refine o_iascr k0_1066 hc190 ?_
        refine o_aload_n k0_1067 rfl ?_
        refine o_iload_n k0_1068 rfl ?_
        refine o_iconst (v := 4) k0_1069 (by decide) ?_
        refine o_iadd k0_1070 ?_
        obtain ⟨hc191, h⟩ := ck_i h
        refine o_iascr k0_1071 hc191 ?_
        refine bd_i h (fun q192 hq192 h => ?_)
        refine o_call k0_1072 pj_207 (fun _ => rfl) (by decide) rfl (as := [.ref 43, .int (xs (s1.1 + 1).toNatClampNeg), .int (xs (s1.1 + 2).toNatClampNeg), .int (xs (s1.1 + 3).toNatClampNeg), .int (xs (s1.1 + 4).toNatClampNeg)]) (rest := [.int q187.1]) rfl (L0 := [some (.ref 43), some (.int (xs (s1.1 + 1).toNatClampNeg)), some (.int (xs (s1.1 + 2).toNatClampNeg)), some (.int (xs (s1.1 + 3).toNatClampNeg)), some (.int (xs (s1.1 + 4).toNatClampNeg)), none, none, none, none, none, none]) rfl (t_X8_read_43 hq192) ?_
        refine o_icmp_eq k0_1075 (fun hc193 => ?_) (fun hc193 => ?_)
        · rw [if_pos hc193] at h
          refine o_iinc (w := s1.1 + 5) (L' := [some (.ref 1000), some (.ref 0), some (.ref 43), some (.int (s1.1 + 5))]) k0_1116 rfl rfl rfl ?_
          refine o_goto k0_1119 ?_
          have h9 := Option.some.inj h
          subst h9
          exact hK
        · rw [if_neg hc193] at h
          refine o_iconst (v := 0) k0_1078 (by decide) ?_
          have h9 := Option.some.inj h
          subst h9
          have hK2 : (0, q192.2) = t := hK
          subst hK2
          exact o_iret pj_0 k0_1079 rfl (nr_z (by decide))
      rw [if_neg hx32_31] at h
      by_cases hx32_32 : ((xs s1.1.toNatClampNeg) &&& 63) = 32
      · rw [if_pos hx32_32] at h
        refine o_tswI (tgt := 1080) (off := 1048) k0_32 (by rw [hx32_32]; decide) (by rw [hx32_32]; decide) (by rw [hx32_32]; decide) (by decide) ?_
        refine o_aload_n k0_1080 rfl ?_
        refine o_call k0_1081 pj_117 (fun _ => rfl) (by decide) rfl (as := [.ref 0]) (rest := []) rfl (L0 := [some (.ref 0)]) rfl (t_X7_torn_0 (M := s1.2) rfl) ?_
        refine o_aload_n k0_1084 rfl ?_
        refine o_call k0_1085 pj_208 (fun _ => rfl) (by decide) rfl (as := [.ref 43]) (rest := [.int (f_X7_torn_0 s1.2)]) rfl (L0 := [some (.ref 43)]) rfl (t_X8_torn_43 (M := s1.2) rfl) ?_
        refine o_icmp_eq k0_1088 (fun hc194 => ?_) (fun hc194 => ?_)
        · rw [if_pos hc194] at h
          refine o_iinc (w := s1.1 + 5) (L' := [some (.ref 1000), some (.ref 0), some (.ref 43), some (.int (s1.1 + 5))]) k0_1116 rfl rfl rfl ?_
          refine o_goto k0_1119 ?_
          have h9 := Option.some.inj h
          subst h9
          exact hK
        · rw [if_neg hc194] at h
          refine o_iconst (v := 0) k0_1091 (by decide) ?_
          have h9 := Option.some.inj h
          subst h9
          have hK2 : (0, s1.2) = t := hK
          subst hK2
          exact o_iret pj_0 k0_1092 rfl (nr_z (by decide))
      rw [if_neg hx32_32] at h
      by_cases hx32_33 : ((xs s1.1.toNatClampNeg) &&& 63) = 33
      · rw [if_pos hx32_33] at h
        refine o_tswI (tgt := 1093) (off := 1061) k0_32 (by rw [hx32_33]; decide) (by rw [hx32_33]; decide) (by rw [hx32_33]; decide) (by decide) ?_
        refine o_aload_n k0_1093 rfl ?_
        refine o_aload_n k0_1094 rfl ?_
        refine o_iload_n k0_1095 rfl ?_
        refine o_iconst (v := 1) k0_1096 (by decide) ?_
        refine o_iadd k0_1097 ?_
        obtain ⟨hc195, h⟩ := ck_i h
        refine o_iascr k0_1098 hc195 ?_
        refine bd_i h (fun v196 hv196 h => ?_)
        refine o_call k0_1099 pj_118 (fun _ => rfl) (by decide) rfl (as := [.ref 0, .int (xs (s1.1 + 1).toNatClampNeg)]) (rest := []) rfl (L0 := [some (.ref 0), some (.int (xs (s1.1 + 1).toNatClampNeg))]) rfl (t_X7_count_0 hv196) ?_
        refine o_aload_n k0_1102 rfl ?_
        refine o_aload_n k0_1103 rfl ?_
        refine o_iload_n k0_1104 rfl ?_
        refine o_iconst (v := 1) k0_1105 (by decide) ?_
        refine o_iadd k0_1106 ?_
        obtain ⟨hc197, h⟩ := ck_i h
        refine o_iascr k0_1107 hc197 ?_
        refine bd_i h (fun v198 hv198 h => ?_)
        refine o_call k0_1108 pj_211 (fun _ => rfl) (by decide) rfl (as := [.ref 43, .int (xs (s1.1 + 1).toNatClampNeg)]) (rest := [.int v196]) rfl (L0 := [some (.ref 43), some (.int (xs (s1.1 + 1).toNatClampNeg))]) rfl (t_X8_count_43 hv198) ?_
        refine o_icmp_eq k0_1111 (fun hc199 => ?_) (fun hc199 => ?_)
        · rw [if_pos hc199] at h
          refine o_iinc (w := s1.1 + 5) (L' := [some (.ref 1000), some (.ref 0), some (.ref 43), some (.int (s1.1 + 5))]) k0_1116 rfl rfl rfl ?_
          refine o_goto k0_1119 ?_
          have h9 := Option.some.inj h
          subst h9
          exact hK
        · rw [if_neg hc199] at h
          refine o_iconst (v := 0) k0_1114 (by decide) ?_
          have h9 := Option.some.inj h
          subst h9
          have hK2 : (0, s1.2) = t := hK
          subst hK2
          exact o_iret pj_0 k0_1115 rfl (nr_z (by decide))
      rw [if_neg hx32_33] at h
      refine o_tswD (tgt := 1116) k0_32 (by have n0 := ne_lit (k := 0) 0 (by decide) hx32_0; have n1 := ne_lit (k := 1) 1 (by decide) hx32_1; have n2 := ne_lit (k := 2) 2 (by decide) hx32_2; have n3 := ne_lit (k := 3) 3 (by decide) hx32_3; have n4 := ne_lit (k := 4) 4 (by decide) hx32_4; have n5 := ne_lit (k := 5) 5 (by decide) hx32_5; have n6 := ne_lit (k := 6) 6 (by decide) hx32_6; have n7 := ne_lit (k := 7) 7 (by decide) hx32_7; have n8 := ne_lit (k := 8) 8 (by decide) hx32_8; have n9 := ne_lit (k := 9) 9 (by decide) hx32_9; have n10 := ne_lit (k := 10) 10 (by decide) hx32_10; have n11 := ne_lit (k := 11) 11 (by decide) hx32_11; have n12 := ne_lit (k := 12) 12 (by decide) hx32_12; have n13 := ne_lit (k := 13) 13 (by decide) hx32_13; have n14 := ne_lit (k := 14) 14 (by decide) hx32_14; have n15 := ne_lit (k := 15) 15 (by decide) hx32_15; have n16 := ne_lit (k := 16) 16 (by decide) hx32_16; have n17 := ne_lit (k := 17) 17 (by decide) hx32_17; have n18 := ne_lit (k := 18) 18 (by decide) hx32_18; have n19 := ne_lit (k := 19) 19 (by decide) hx32_19; have n20 := ne_lit (k := 20) 20 (by decide) hx32_20; have n21 := ne_lit (k := 21) 21 (by decide) hx32_21; have n22 := ne_lit (k := 22) 22 (by decide) hx32_22; have n23 := ne_lit (k := 23) 23 (by decide) hx32_23; have n24 := ne_lit (k := 24) 24 (by decide) hx32_24; have n25 := ne_lit (k := 25) 25 (by decide) hx32_25; have n26 := ne_lit (k := 26) 26 (by decide) hx32_26; have n27 := ne_lit (k := 27) 27 (by decide) hx32_27; have n28 := ne_lit (k := 28) 28 (by decide) hx32_28; have n29 := ne_lit (k := 29) 29 (by decide) hx32_29; have n30 := ne_lit (k := 30) 30 (by decide) hx32_30; have n31 := ne_lit (k := 31) 31 (by decide) hx32_31; have n32 := ne_lit (k := 32) 32 (by decide) hx32_32; have n33 := ne_lit (k := 33) 33 (by decide) hx32_33; omega) (by decide) ?_
      refine o_iinc (w := s1.1 + 5) (L' := [some (.ref 1000), some (.ref 0), some (.ref 43), some (.int (s1.1 + 5))]) k0_1116 rfl rfl rfl ?_
      refine o_goto k0_1119 ?_
      have h9 := Option.some.inj h
      subst h9
      exact hK
  · rcases Os200 with u | s200
    · exact Option.some.inj h
    · show oo LN xs kc ks 0 1122 [some (.ref 1000), some (.ref 0), some (.ref 43), some (.int s200.1)] [] s200.2 (some (.int t.1), t.2)
      replace h : (some (1, s200.2)) = some t := h
      refine o_iconst (v := 1) k0_1122 (by decide) ?_
      have h9 := Option.some.inj h
      subst h9
      exact o_iret pj_0 k0_1123 rfl (nr_z (by decide))
