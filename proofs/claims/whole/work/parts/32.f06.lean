/-! FUNCTIONS, on -/
def f_X0_explanations_9 (a0 : Int32) (a1 : Int32) (M : am_M) : Option Int32 := ((f_X0_mayDump_9 a0 a1 (M 9 1) 0 M).bind (fun v1 => (bl (if v1 = 0 then 0 else 65536) (fun (v3 : Int32) => ((lp (σ := Int32 × Int32) (ρ := Int32 × Int32) (fun (s4 : Int32 × Int32) => match s4 with | (x5, x6) => (if (M 9 1) ≤ x6 then (some (.inr (x5, x6))) else ((lp (σ := Int32 × Int32) (ρ := Int32 × Int32) (fun (s9 : Int32 × Int32) => match s9 with | (x10, x11) => (if 1 < x11 then (some (.inr (x10, x11))) else ((f_X0_mayDump_9 a0 a1 x6 x11 M).bind (fun v13 => (if v13 = 0 then (some (.inl (x10, (x11 + 1)))) else (bl ((x10 ||| ((1 : Int32) <<< ((((2 : Int32) * x6) + x11) &&& 31)))) (fun (v15 : Int32) => (some (.inl (v15, (x11 + 1))))))))))) lp_F (x5, 0)).bind (fun (s16 : Int32 × Int32) => match s16 with | (x17, x18) => (some (.inl (x17, (x6 + 1)))))))) lp_F (v3, 0)).bind (fun (s19 : Int32 × Int32) => match s19 with | (x20, x21) => (some x20)))))))
set_option maxRecDepth 20000 in
theorem t_X0_explanations_9 {LN : Nat} {xs : Nat → Int32} {a0 : Int32} {a1 : Int32} {M : am_M} {t : Int32} (h : f_X0_explanations_9 a0 a1 M = some t) : oo LN xs 0 0 28 0 [some (.ref 9), some (.int a0), some (.int a1), none, none, none] [] M (some (.int t), M) := by
  unfold f_X0_explanations_9 at h
  refine o_aload_n k28_0 rfl ?_
  refine o_iload_n k28_1 rfl ?_
  refine o_iload_n k28_2 rfl ?_
  refine o_aload_n k28_3 rfl ?_
  refine o_gf k28_4 (gf_9_1 _) ?_
  refine o_iconst (v := 0) k28_7 (by decide) ?_
  refine bd_i h (fun v1 hv1 h => ?_)
  refine o_call k28_8 pj_29 (fun _ => rfl) (by decide) rfl (as := [.ref 9, .int a0, .int a1, .int (M 9 1), .int 0]) (rest := []) rfl (L0 := [some (.ref 9), some (.int a0), some (.int a1), some (.int (M 9 1)), some (.int 0), none, none]) rfl (t_X0_mayDump_9 hv1) ?_
  refine bl_i h (fun v3 ev3 h => ?_)
  have hJ20 : ∀ (yv3 : Int32), yv3 = v3 → oo LN xs 0 0 28 20 [some (.ref 9), some (.int a0), some (.int a1), none, none, none] [.int yv3] M (some (.int t), M) := by
    intro yv3 hyv3
    rw [hyv3]
    refine o_istore_n (v := v3) (L' := [some (.ref 9), some (.int a0), some (.int a1), some (.int v3), none, none]) k28_20 rfl rfl ?_
    refine o_iconst (v := 0) k28_21 (by decide) ?_
    refine o_istore (v := 0) (L' := [some (.ref 9), some (.int a0), some (.int a1), some (.int v3), some (.int 0), none]) k28_22 rfl rfl ?_
    refine bd_i h (fun s19 hs19 h => ?_)
    refine lp_o (fun (s4 : Int32 × Int32) => match s4 with | (x5, x6) => ∀ (d7 : Option (Int32 ⊕ Int64)), oo LN xs 0 0 28 24 [some (.ref 9), some (.int a0), some (.int a1), some (.int x5), some (.int x6), (d7.map dv)] [] M (some (.int t), M)) (fun (s19 : Int32 × Int32) => match s19 with | (x20, x21) => ∀ (d22 : Option (Int32 ⊕ Int64)), oo LN xs 0 0 28 79 [some (.ref 9), some (.int a0), some (.int a1), some (.int x20), some (.int x21), (d22.map dv)] [] M (some (.int t), M)) ?_ hs19 ?_ none
    · rintro ⟨x5, x6⟩ ws4 h hK
      dsimp only at h
      show ∀ (d7 : Option (Int32 ⊕ Int64)), oo LN xs 0 0 28 24 [some (.ref 9), some (.int a0), some (.int a1), some (.int x5), some (.int x6), (d7.map dv)] [] M (some (.int t), M)
      intro d7
      refine o_iload k28_24 rfl ?_
      refine o_aload_n k28_26 rfl ?_
      refine o_gf k28_27 (gf_9_1 _) ?_
      refine o_icmp_ge k28_30 (fun hc8 => ?_) (fun hc8 => ?_)
      · rw [if_pos hc8] at h
        have h9 := Option.some.inj h
        subst h9
        exact hK d7
      · rw [if_neg hc8] at h
        refine o_iconst (v := 0) k28_33 (by decide) ?_
        refine o_istore (v := 0) (L' := [some (.ref 9), some (.int a0), some (.int a1), some (.int x5), some (.int x6), some (.int 0)]) k28_34 rfl rfl ?_
        refine bd_i h (fun s16 hs16 h => ?_)
        refine lp_o (fun (s9 : Int32 × Int32) => match s9 with | (x10, x11) => oo LN xs 0 0 28 36 [some (.ref 9), some (.int a0), some (.int a1), some (.int x10), some (.int x6), some (.int x11)] [] M (some (.int t), M)) (fun (s16 : Int32 × Int32) => match s16 with | (x17, x18) => oo LN xs 0 0 28 73 [some (.ref 9), some (.int a0), some (.int a1), some (.int x17), some (.int x6), some (.int x18)] [] M (some (.int t), M)) ?_ hs16 ?_
        · rintro ⟨x10, x11⟩ ws9 h hK
          dsimp only at h
          show oo LN xs 0 0 28 36 [some (.ref 9), some (.int a0), some (.int a1), some (.int x10), some (.int x6), some (.int x11)] [] M (some (.int t), M)
          refine o_iload k28_36 rfl ?_
          refine o_iconst (v := 1) k28_38 (by decide) ?_
          refine o_icmp_gt k28_39 (fun hc12 => ?_) (fun hc12 => ?_)
          · rw [if_pos hc12] at h
            have h9 := Option.some.inj h
            subst h9
            exact hK
          · rw [if_neg hc12] at h
            refine o_aload_n k28_42 rfl ?_
            refine o_iload_n k28_43 rfl ?_
            refine o_iload_n k28_44 rfl ?_
            refine o_iload k28_45 rfl ?_
            refine o_iload k28_47 rfl ?_
            refine bd_i h (fun v13 hv13 h => ?_)
            refine o_call k28_49 pj_29 (fun _ => rfl) (by decide) rfl (as := [.ref 9, .int a0, .int a1, .int x6, .int x11]) (rest := []) rfl (L0 := [some (.ref 9), some (.int a0), some (.int a1), some (.int x6), some (.int x11), none, none]) rfl (t_X0_mayDump_9 hv13) ?_
            refine o_if_eq k28_52 (fun hc14 => ?_) (fun hc14 => ?_)
            · rw [if_pos hc14] at h
              refine o_iinc (k := 1) (L' := [some (.ref 9), some (.int a0), some (.int a1), some (.int x10), some (.int x6), some (.int (x11 + 1))]) k28_67 rfl (by decide) rfl ?_
              refine o_goto k28_70 ?_
              have h9 := Option.some.inj h
              subst h9
              exact hK
            · rw [if_neg hc14] at h
              refine o_iload_n k28_55 rfl ?_
              refine o_iconst (v := 1) k28_56 (by decide) ?_
              refine o_iconst (v := 2) k28_57 (by decide) ?_
              refine o_iload k28_58 rfl ?_
              refine o_imul k28_60 ?_
              refine o_iload k28_61 rfl ?_
              refine o_iadd k28_63 ?_
              refine o_ishl k28_64 ?_
              refine o_ior k28_65 ?_
              refine bl_i h (fun v15 ev15 h => ?_)
              refine o_istore_n (v := v15) k28_66 ev15 (L' := [some (.ref 9), some (.int a0), some (.int a1), some (.int v15), some (.int x6), some (.int x11)]) rfl ?_
              refine o_iinc (k := 1) (L' := [some (.ref 9), some (.int a0), some (.int a1), some (.int v15), some (.int x6), some (.int (x11 + 1))]) k28_67 rfl (by decide) rfl ?_
              refine o_goto k28_70 ?_
              have h9 := Option.some.inj h
              subst h9
              exact hK
        · obtain ⟨x17, x18⟩ := s16
          show oo LN xs 0 0 28 73 [some (.ref 9), some (.int a0), some (.int a1), some (.int x17), some (.int x6), some (.int x18)] [] M (some (.int t), M)
          dsimp only at h
          refine o_iinc (k := 1) (L' := [some (.ref 9), some (.int a0), some (.int a1), some (.int x17), some (.int (x6 + 1)), some (.int x18)]) k28_73 rfl (by decide) rfl ?_
          refine o_goto k28_76 ?_
          have h9 := Option.some.inj h
          subst h9
          exact hK (some (.inl x18))
    · obtain ⟨x20, x21⟩ := s19
      show ∀ (d22 : Option (Int32 ⊕ Int64)), oo LN xs 0 0 28 79 [some (.ref 9), some (.int a0), some (.int a1), some (.int x20), some (.int x21), (d22.map dv)] [] M (some (.int t), M)
      dsimp only at h
      intro d22
      refine o_iload_n k28_79 rfl ?_
      have h9 := Option.some.inj h
      subst h9
      exact o_iret pj_28 k28_80 rfl nr_i
  refine o_if_eq k28_11 (fun hc2 => ?_) (fun hc2 => ?_)
  · skip
    refine o_iconst (v := 0) k28_19 (by decide) ?_
    exact hJ20 _ (by simp only [ev3, if_pos hc2])
  · skip
    refine o_ldc k28_14 ?_
    refine o_goto k28_16 ?_
    exact hJ20 _ (by simp only [ev3, if_neg hc2])
def f_X7_dump_0 (a0 : Int32) (a1 : Int32) (M : am_M) : Option (Int32 × am_M) := (if (f_X0_hasChain_9 a0 M) = 0 then (some ((-1), M)) else (if a1 < 0 then (some ((-1), M)) else (if a1 < ((1 : Int32) <<< ((M 9 1) &&& 31)) then (if am_dbin a0 8 = true then ((f_X0_explanations_9 a0 a1 M).bind (fun v5 => (if am_dbin a0 8 = true then (bl (am_up M 13 a0.toNatClampNeg ((M 13 a0.toNatClampNeg) &&& v5)) (fun (M7 : am_M) => (if am_dbin a0 8 = true then (some ((f_J6_bitCount_0f7a4 (M7 13 a0.toNatClampNeg)), M7)) else none))) else none))) else none) else (some ((-1), M)))))
set_option maxRecDepth 20000 in
theorem t_X7_dump_0 {LN : Nat} {xs : Nat → Int32} {a0 : Int32} {a1 : Int32} {M : am_M} {t : Int32 × am_M} (h : f_X7_dump_0 a0 a1 M = some t) : oo LN xs 0 0 109 0 [some (.ref 0), some (.int a0), some (.int a1)] [] M (some (.int t.1), t.2) := by
  unfold f_X7_dump_0 at h
  refine o_aload_n k109_0 rfl ?_
  refine o_gf k109_1 (gf_0_2 _) ?_
  refine o_iload_n k109_4 rfl ?_
  refine o_call k109_5 pj_7 (fun _ => rfl) (by decide) rfl (as := [.ref 9, .int a0]) (rest := []) rfl (L0 := [some (.ref 9), some (.int a0)]) rfl (t_X0_hasChain_9 (M := M) (a0 := a0) rfl) ?_
  refine o_if_eq k109_8 (fun hc1 => ?_) (fun hc1 => ?_)
  · rw [if_pos hc1] at h
    refine o_iconst (v := (-1)) k109_28 (by decide) ?_
    have h9 := Option.some.inj h
    subst h9
    exact o_iret pj_109 k109_29 rfl nr_i
  · rw [if_neg hc1] at h
    refine o_iload_n k109_11 rfl ?_
    refine o_if_lt k109_12 (fun hc2 => ?_) (fun hc2 => ?_)
    · rw [if_pos hc2] at h
      refine o_iconst (v := (-1)) k109_28 (by decide) ?_
      have h9 := Option.some.inj h
      subst h9
      exact o_iret pj_109 k109_29 rfl nr_i
    · rw [if_neg hc2] at h
      refine o_iload_n k109_15 rfl ?_
      refine o_iconst (v := 1) k109_16 (by decide) ?_
      refine o_aload_n k109_17 rfl ?_
      refine o_gf k109_18 (gf_0_2 _) ?_
      refine o_gf k109_21 (gf_9_1 _) ?_
      refine o_ishl k109_24 ?_
      refine o_icmp_lt k109_25 (fun hc3 => ?_) (fun hc3 => ?_)
      · rw [if_pos hc3] at h
        refine o_aload_n k109_30 rfl ?_
        refine o_gf k109_31 (gf_0_2 _) ?_
        refine o_gf k109_34 (gf_9_10 _) ?_
        refine o_iload_n k109_37 rfl ?_
        refine o_dup2 k109_38 ?_
        obtain ⟨hc4, h⟩ := ck_i h
        refine o_iald k109_39 rfl ia_13 hc4 ?_
        refine o_aload_n k109_40 rfl ?_
        refine o_gf k109_41 (gf_0_2 _) ?_
        refine o_iload_n k109_44 rfl ?_
        refine o_iload_n k109_45 rfl ?_
        refine bd_i h (fun v5 hv5 h => ?_)
        refine o_call k109_46 pj_28 (fun _ => rfl) (by decide) rfl (as := [.ref 9, .int a0, .int a1]) (rest := [.int (M 13 a0.toNatClampNeg), .int a0, .ref 13]) rfl (L0 := [some (.ref 9), some (.int a0), some (.int a1), none, none, none]) rfl (t_X0_explanations_9 hv5) ?_
        refine o_iand k109_49 ?_
        obtain ⟨hc6, h⟩ := ck_i h
        refine bl_i h (fun M7 eM7 h => ?_)
        refine o_iast (M' := M7) k109_50 eM7 ia_13 hc6 ?_
        refine o_aload_n k109_51 rfl ?_
        refine o_gf k109_52 (gf_0_2 _) ?_
        refine o_gf k109_55 (gf_9_10 _) ?_
        refine o_iload_n k109_58 rfl ?_
        obtain ⟨hc8, h⟩ := ck_i h
        refine o_iald k109_59 rfl ia_13 hc8 ?_
        refine o_call k109_60 pj_212 (fun _ => rfl) (by decide) rfl (as := [.int (M7 13 a0.toNatClampNeg)]) (rest := []) rfl (L0 := [some (.int (M7 13 a0.toNatClampNeg))]) rfl (t_J6_bitCount_0f7a4 (M := M7) (a0 := (M7 13 a0.toNatClampNeg)) rfl) ?_
        have h9 := Option.some.inj h
        subst h9
        exact o_iret pj_109 k109_63 rfl nr_i
      · rw [if_neg hc3] at h
        refine o_iconst (v := (-1)) k109_28 (by decide) ?_
        have h9 := Option.some.inj h
        subst h9
        exact o_iret pj_109 k109_29 rfl nr_i
def f_X8_mayDump_43 (a0 : Int32) (a1 : Int32) (a2 : Int32) (a3 : Int32) (M : am_M) : Option Int32 := ((lp (σ := Int32 × Int32) (ρ := Int32 × Int32) (fun (s1 : Int32 × Int32) => match s1 with | (x2, x3) => (if (M 44 (1 : Int32).toNatClampNeg) ≤ x3 then (some (.inr (x2, x3))) else (if x2 = 0 then (some (.inl (0, (x3 + 1)))) else (if a1 ≤ x3 then (if a2 = ((a3 >>> (x3 &&& 31)) &&& 1) then (some (.inl (1, (x3 + 1)))) else (some (.inl (0, (x3 + 1))))) else ((f_X8_cellOf_43 a0 x3 M).bind (fun v10 => (if v10 = 2 then (some (.inl (1, (x3 + 1)))) else ((f_X8_cellOf_43 a0 x3 M).bind (fun v12 => (if v12 = ((a3 >>> (x3 &&& 31)) &&& 1) then (some (.inl (1, (x3 + 1)))) else (some (.inl (0, (x3 + 1)))))))))))))) lp_F (1, 0)).bind (fun (s14 : Int32 × Int32) => match s14 with | (x15, x16) => (if x15 = 0 ∨ x15 = 1 then (some x15) else none)))
set_option maxRecDepth 20000 in
theorem t_X8_mayDump_43 {LN : Nat} {xs : Nat → Int32} {a0 : Int32} {a1 : Int32} {a2 : Int32} {a3 : Int32} {M : am_M} {t : Int32} (h : f_X8_mayDump_43 a0 a1 a2 a3 M = some t) : oo LN xs 0 0 193 0 [some (.ref 43), some (.int a0), some (.int a1), some (.int a2), some (.int a3), none, none, none] [] M (some (.int t), M) := by
  unfold f_X8_mayDump_43 at h
  refine o_iconst (v := 1) k193_0 (by decide) ?_
  refine o_istore (v := 1) (L' := [some (.ref 43), some (.int a0), some (.int a1), some (.int a2), some (.int a3), some (.int 1), none, none]) k193_1 rfl rfl ?_
  refine o_iconst (v := 0) k193_3 (by decide) ?_
  refine o_istore (v := 0) (L' := [some (.ref 43), some (.int a0), some (.int a1), some (.int a2), some (.int a3), some (.int 1), some (.int 0), none]) k193_4 rfl rfl ?_
  refine bd_i h (fun s14 hs14 h => ?_)
  refine lp_o (fun (s1 : Int32 × Int32) => match s1 with | (x2, x3) => ∀ (d4 : Option (Int32 ⊕ Int64)), oo LN xs 0 0 193 6 [some (.ref 43), some (.int a0), some (.int a1), some (.int a2), some (.int a3), some (.int x2), some (.int x3), (d4.map dv)] [] M (some (.int t), M)) (fun (s14 : Int32 × Int32) => match s14 with | (x15, x16) => ∀ (d17 : Option (Int32 ⊕ Int64)), oo LN xs 0 0 193 82 [some (.ref 43), some (.int a0), some (.int a1), some (.int a2), some (.int a3), some (.int x15), some (.int x16), (d17.map dv)] [] M (some (.int t), M)) ?_ hs14 ?_ none
  · rintro ⟨x2, x3⟩ ws1 h hK
    dsimp only at h
    show ∀ (d4 : Option (Int32 ⊕ Int64)), oo LN xs 0 0 193 6 [some (.ref 43), some (.int a0), some (.int a1), some (.int a2), some (.int a3), some (.int x2), some (.int x3), (d4.map dv)] [] M (some (.int t), M)
    intro d4
    refine o_iload k193_6 rfl ?_
    refine o_aload_n k193_8 rfl ?_
    refine o_gf k193_9 (gf_43_0 _) ?_
    refine o_iconst (v := 1) k193_12 (by decide) ?_
    refine o_iald k193_13 rfl ia_44 (by decide) ?_
    refine o_icmp_ge k193_14 (fun hc6 => ?_) (fun hc6 => ?_)
    · rw [if_pos hc6] at h
      have h9 := Option.some.inj h
      subst h9
      exact hK d4
    · rw [if_neg hc6] at h
      refine o_iload k193_17 rfl ?_
      refine o_iload k193_19 rfl ?_
      refine o_ishr k193_21 ?_
      refine o_iconst (v := 1) k193_22 (by decide) ?_
      refine o_iand k193_23 ?_
      refine o_istore (v := ((a3 >>> (x3 &&& 31)) &&& 1)) (L' := [some (.ref 43), some (.int a0), some (.int a1), some (.int a2), some (.int a3), some (.int x2), some (.int x3), some (.int ((a3 >>> (x3 &&& 31)) &&& 1))]) k193_24 rfl rfl ?_
      refine o_iload k193_26 rfl ?_
      refine o_if_eq k193_28 (fun hc7 => ?_) (fun hc7 => ?_)
      · rw [if_pos hc7] at h
        refine o_iconst (v := 0) k193_73 (by decide) ?_
        refine o_istore (v := 0) (L' := [some (.ref 43), some (.int a0), some (.int a1), some (.int a2), some (.int a3), some (.int 0), some (.int x3), some (.int ((a3 >>> (x3 &&& 31)) &&& 1))]) k193_74 rfl rfl ?_
        refine o_iinc (k := 1) (L' := [some (.ref 43), some (.int a0), some (.int a1), some (.int a2), some (.int a3), some (.int 0), some (.int (x3 + 1)), some (.int ((a3 >>> (x3 &&& 31)) &&& 1))]) k193_76 rfl (by decide) rfl ?_
        refine o_goto k193_79 ?_
        have h9 := Option.some.inj h
        subst h9
        exact hK (some (.inl ((a3 >>> (x3 &&& 31)) &&& 1)))
      · rw [if_neg hc7] at h
        refine o_iload k193_31 rfl ?_
        refine o_iload_n k193_33 rfl ?_
        refine o_icmp_ge k193_34 (fun hc8 => ?_) (fun hc8 => ?_)
        · rw [if_pos hc8] at h
          refine o_iload_n k193_63 rfl ?_
          refine o_iload k193_64 rfl ?_
          refine o_icmp_ne k193_66 (fun hc9 => ?_) (fun hc9 => ?_)
          · rw [if_neg hc9] at h
            refine o_iconst (v := 0) k193_73 (by decide) ?_
            refine o_istore (v := 0) (L' := [some (.ref 43), some (.int a0), some (.int a1), some (.int a2), some (.int a3), some (.int 0), some (.int x3), some (.int ((a3 >>> (x3 &&& 31)) &&& 1))]) k193_74 rfl rfl ?_
            refine o_iinc (k := 1) (L' := [some (.ref 43), some (.int a0), some (.int a1), some (.int a2), some (.int a3), some (.int 0), some (.int (x3 + 1)), some (.int ((a3 >>> (x3 &&& 31)) &&& 1))]) k193_76 rfl (by decide) rfl ?_
            refine o_goto k193_79 ?_
            have h9 := Option.some.inj h
            subst h9
            exact hK (some (.inl ((a3 >>> (x3 &&& 31)) &&& 1)))
          · rw [if_pos hc9] at h
            refine o_iconst (v := 1) k193_69 (by decide) ?_
            refine o_goto k193_70 ?_
            refine o_istore (v := 1) (L' := [some (.ref 43), some (.int a0), some (.int a1), some (.int a2), some (.int a3), some (.int 1), some (.int x3), some (.int ((a3 >>> (x3 &&& 31)) &&& 1))]) k193_74 rfl rfl ?_
            refine o_iinc (k := 1) (L' := [some (.ref 43), some (.int a0), some (.int a1), some (.int a2), some (.int a3), some (.int 1), some (.int (x3 + 1)), some (.int ((a3 >>> (x3 &&& 31)) &&& 1))]) k193_76 rfl (by decide) rfl ?_
            refine o_goto k193_79 ?_
            have h9 := Option.some.inj h
            subst h9
            exact hK (some (.inl ((a3 >>> (x3 &&& 31)) &&& 1)))
        · rw [if_neg hc8] at h
          refine o_aload_n k193_37 rfl ?_
          refine o_iload_n k193_38 rfl ?_
          refine o_iload k193_39 rfl ?_
          refine bd_i h (fun v10 hv10 h => ?_)
          refine o_call k193_41 pj_154 (fun _ => rfl) (by decide) rfl (as := [.ref 43, .int a0, .int x3]) (rest := []) rfl (L0 := [some (.ref 43), some (.int a0), some (.int x3)]) rfl (t_X8_cellOf_43 hv10) ?_
          refine o_iconst (v := 2) k193_44 (by decide) ?_
          refine o_icmp_eq k193_45 (fun hc11 => ?_) (fun hc11 => ?_)
          · rw [if_pos hc11] at h
            refine o_iconst (v := 1) k193_69 (by decide) ?_
            refine o_goto k193_70 ?_
            refine o_istore (v := 1) (L' := [some (.ref 43), some (.int a0), some (.int a1), some (.int a2), some (.int a3), some (.int 1), some (.int x3), some (.int ((a3 >>> (x3 &&& 31)) &&& 1))]) k193_74 rfl rfl ?_
            refine o_iinc (k := 1) (L' := [some (.ref 43), some (.int a0), some (.int a1), some (.int a2), some (.int a3), some (.int 1), some (.int (x3 + 1)), some (.int ((a3 >>> (x3 &&& 31)) &&& 1))]) k193_76 rfl (by decide) rfl ?_
            refine o_goto k193_79 ?_
            have h9 := Option.some.inj h
            subst h9
            exact hK (some (.inl ((a3 >>> (x3 &&& 31)) &&& 1)))
          · rw [if_neg hc11] at h
            refine o_aload_n k193_48 rfl ?_
            refine o_iload_n k193_49 rfl ?_
            refine o_iload k193_50 rfl ?_
            refine bd_i h (fun v12 hv12 h => ?_)
            refine o_call k193_52 pj_154 (fun _ => rfl) (by decide) rfl (as := [.ref 43, .int a0, .int x3]) (rest := []) rfl (L0 := [some (.ref 43), some (.int a0), some (.int x3)]) rfl (t_X8_cellOf_43 hv12) ?_
            refine o_iload k193_55 rfl ?_
            refine o_icmp_ne k193_57 (fun hc13 => ?_) (fun hc13 => ?_)
            · rw [if_neg hc13] at h
              refine o_iconst (v := 0) k193_73 (by decide) ?_
              refine o_istore (v := 0) (L' := [some (.ref 43), some (.int a0), some (.int a1), some (.int a2), some (.int a3), some (.int 0), some (.int x3), some (.int ((a3 >>> (x3 &&& 31)) &&& 1))]) k193_74 rfl rfl ?_
              refine o_iinc (k := 1) (L' := [some (.ref 43), some (.int a0), some (.int a1), some (.int a2), some (.int a3), some (.int 0), some (.int (x3 + 1)), some (.int ((a3 >>> (x3 &&& 31)) &&& 1))]) k193_76 rfl (by decide) rfl ?_
              refine o_goto k193_79 ?_
              have h9 := Option.some.inj h
              subst h9
              exact hK (some (.inl ((a3 >>> (x3 &&& 31)) &&& 1)))
            · rw [if_pos hc13] at h
              refine o_goto k193_60 ?_
              refine o_iconst (v := 1) k193_69 (by decide) ?_
              refine o_goto k193_70 ?_
              refine o_istore (v := 1) (L' := [some (.ref 43), some (.int a0), some (.int a1), some (.int a2), some (.int a3), some (.int 1), some (.int x3), some (.int ((a3 >>> (x3 &&& 31)) &&& 1))]) k193_74 rfl rfl ?_
              refine o_iinc (k := 1) (L' := [some (.ref 43), some (.int a0), some (.int a1), some (.int a2), some (.int a3), some (.int 1), some (.int (x3 + 1)), some (.int ((a3 >>> (x3 &&& 31)) &&& 1))]) k193_76 rfl (by decide) rfl ?_
              refine o_goto k193_79 ?_
              have h9 := Option.some.inj h
              subst h9
              exact hK (some (.inl ((a3 >>> (x3 &&& 31)) &&& 1)))
  · obtain ⟨x15, x16⟩ := s14
    show ∀ (d17 : Option (Int32 ⊕ Int64)), oo LN xs 0 0 193 82 [some (.ref 43), some (.int a0), some (.int a1), some (.int a2), some (.int a3), some (.int x15), some (.int x16), (d17.map dv)] [] M (some (.int t), M)
    dsimp only at h
    intro d17
    refine o_iload k193_82 rfl ?_
    obtain ⟨hc18, h⟩ := ck_i h
    have h9 := Option.some.inj h
    subst h9
    exact o_iret pj_193 k193_84 rfl (nr_z hc18)
def f_X8_dump_43 (a0 : Int32) (a1 : Int32) (M : am_M) : Option (Int32 × am_M) := ((f_X8_isChain_43 a0 M).bind (fun v1 => (if v1 = 0 then (some ((-1), M)) else (if (f_X8_in a1.toInt64 0 ((((1 : Int32) <<< ((M 44 (1 : Int32).toNatClampNeg) &&& 31)) - 1).toInt64)) = 0 then (some ((-1), M)) else ((lp (σ := Int32 × Int32) (ρ := Int32 × Int32) (fun (s5 : Int32 × Int32) => match s5 with | (x6, x7) => (if ((2 : Int32) * (M 44 (1 : Int32).toNatClampNeg)) ≤ x7 then (some (.inr (x6, x7))) else ((f_X8_mayDump_43 a0 (x7 / 2) (x7 - x7 / 2 * 2) a1 M).bind (fun v10 => (some (.inl ((x6 ||| ((f_X8_flag v10) <<< (x7 &&& 31))), (x7 + 1)))))))) lp_F (0, 0)).bind (fun (s11 : Int32 × Int32) => match s11 with | (x12, x13) => ((f_X8_mayDump_43 a0 (M 44 (1 : Int32).toNatClampNeg) 0 a1 M).bind (fun v15 => (if am_dbin ((143 : Int32) + a0) 151 = true then (if am_dbin ((143 : Int32) + a0) 151 = true then (bl (am_up M 44 ((143 : Int32) + a0).toNatClampNeg ((M 44 ((143 : Int32) + a0).toNatClampNeg) &&& (x12 ||| ((f_X8_flag v15) <<< ((16 : Int32) &&& 31))))) (fun (M18 : am_M) => (if am_dbin ((143 : Int32) + a0) 151 = true then ((f_X8_bitsOf (M18 44 ((143 : Int32) + a0).toNatClampNeg)).bind (fun v20 => (some (v20, M18)))) else none))) else none) else none)))))))))
set_option maxRecDepth 20000 in
theorem t_X8_dump_43 {LN : Nat} {xs : Nat → Int32} {a0 : Int32} {a1 : Int32} {M : am_M} {t : Int32 × am_M} (h : f_X8_dump_43 a0 a1 M = some t) : oo LN xs 0 0 194 0 [some (.ref 43), some (.int a0), some (.int a1), none, none] [] M (some (.int t.1), t.2) := by
  unfold f_X8_dump_43 at h
  refine o_aload_n k194_0 rfl ?_
  refine o_iload_n k194_1 rfl ?_
  refine bd_i h (fun v1 hv1 h => ?_)
  refine o_call k194_2 pj_151 (fun _ => rfl) (by decide) rfl (as := [.ref 43, .int a0]) (rest := []) rfl (L0 := [some (.ref 43), some (.int a0)]) rfl (t_X8_isChain_43 hv1) ?_
  refine o_if_eq k194_5 (fun hc2 => ?_) (fun hc2 => ?_)
  · rw [if_pos hc2] at h
    refine o_iconst (v := (-1)) k194_28 (by decide) ?_
    have h9 := Option.some.inj h
    subst h9
    exact o_iret pj_194 k194_29 rfl nr_i
  · rw [if_neg hc2] at h
    refine o_iload_n k194_8 rfl ?_
    refine o_i2l k194_9 ?_
    refine o_lconst (v := 0) k194_10 (by decide) ?_
    refine o_iconst (v := 1) k194_11 (by decide) ?_
    refine o_aload_n k194_12 rfl ?_
    refine o_gf k194_13 (gf_43_0 _) ?_
    refine o_iconst (v := 1) k194_16 (by decide) ?_
    refine o_iald k194_17 rfl ia_44 (by decide) ?_
    refine o_ishl k194_18 ?_
    refine o_iconst (v := 1) k194_19 (by decide) ?_
    refine o_isub k194_20 ?_
    refine o_i2l k194_21 ?_
    refine o_call k194_22 pj_125 (fun _ => rfl) (by decide) rfl (as := [.long a1.toInt64, .long 0, .long ((((1 : Int32) <<< ((M 44 (1 : Int32).toNatClampNeg) &&& 31)) - 1).toInt64)]) (rest := []) rfl (L0 := [some (.long a1.toInt64), none, some (.long 0), none, some (.long ((((1 : Int32) <<< ((M 44 (1 : Int32).toNatClampNeg) &&& 31)) - 1).toInt64)), none]) rfl (t_X8_in (M := M) (a0 := a1.toInt64) (a1 := 0) (a2 := ((((1 : Int32) <<< ((M 44 (1 : Int32).toNatClampNeg) &&& 31)) - 1).toInt64)) rfl) ?_
    refine o_if_ne k194_25 (fun hc4 => ?_) (fun hc4 => ?_)
    · rw [if_neg hc4] at h
      refine o_iconst (v := 0) k194_30 (by decide) ?_
      refine o_istore_n (v := 0) (L' := [some (.ref 43), some (.int a0), some (.int a1), some (.int 0), none]) k194_31 rfl rfl ?_
      refine o_iconst (v := 0) k194_32 (by decide) ?_
      refine o_istore (v := 0) (L' := [some (.ref 43), some (.int a0), some (.int a1), some (.int 0), some (.int 0)]) k194_33 rfl rfl ?_
      refine bd_i h (fun s11 hs11 h => ?_)
      refine lp_o (fun (s5 : Int32 × Int32) => match s5 with | (x6, x7) => oo LN xs 0 0 194 35 [some (.ref 43), some (.int a0), some (.int a1), some (.int x6), some (.int x7)] [] M (some (.int t.1), t.2)) (fun (s11 : Int32 × Int32) => match s11 with | (x12, x13) => oo LN xs 0 0 194 77 [some (.ref 43), some (.int a0), some (.int a1), some (.int x12), some (.int x13)] [] M (some (.int t.1), t.2)) ?_ hs11 ?_
      · rintro ⟨x6, x7⟩ ws5 h hK
        dsimp only at h
        show oo LN xs 0 0 194 35 [some (.ref 43), some (.int a0), some (.int a1), some (.int x6), some (.int x7)] [] M (some (.int t.1), t.2)
        refine o_iload k194_35 rfl ?_
        refine o_iconst (v := 2) k194_37 (by decide) ?_
        refine o_aload_n k194_38 rfl ?_
        refine o_gf k194_39 (gf_43_0 _) ?_
        refine o_iconst (v := 1) k194_42 (by decide) ?_
        refine o_iald k194_43 rfl ia_44 (by decide) ?_
        refine o_imul k194_44 ?_
        refine o_icmp_ge k194_45 (fun hc9 => ?_) (fun hc9 => ?_)
        · rw [if_pos hc9] at h
          have h9 := Option.some.inj h
          subst h9
          exact hK
        · rw [if_neg hc9] at h
          refine o_iload_n k194_48 rfl ?_
          refine o_aload_n k194_49 rfl ?_
          refine o_iload_n k194_50 rfl ?_
          refine o_iload k194_51 rfl ?_
          refine o_iconst (v := 2) k194_53 (by decide) ?_
          refine o_idiv k194_54 (by decide) ?_
          refine o_iload k194_55 rfl ?_
          refine o_iconst (v := 2) k194_57 (by decide) ?_
          refine o_irem k194_58 (by decide) ?_
          refine o_iload_n k194_59 rfl ?_
          refine bd_i h (fun v10 hv10 h => ?_)
          refine o_call k194_60 pj_193 (fun _ => rfl) (by decide) rfl (as := [.ref 43, .int a0, .int (x7 / 2), .int (x7 - x7 / 2 * 2), .int a1]) (rest := [.int x6]) rfl (L0 := [some (.ref 43), some (.int a0), some (.int (x7 / 2)), some (.int (x7 - x7 / 2 * 2)), some (.int a1), none, none, none]) rfl (t_X8_mayDump_43 hv10) ?_
          refine o_call k194_63 pj_126 (fun _ => rfl) (by decide) rfl (as := [.int v10]) (rest := [.int x6]) rfl (L0 := [some (.int v10)]) rfl (t_X8_flag (M := M) (a0 := v10) rfl) ?_
          refine o_iload k194_66 rfl ?_
          refine o_ishl k194_68 ?_
          refine o_ior k194_69 ?_
          refine o_istore_n (v := (x6 ||| ((f_X8_flag v10) <<< (x7 &&& 31)))) (L' := [some (.ref 43), some (.int a0), some (.int a1), some (.int (x6 ||| ((f_X8_flag v10) <<< (x7 &&& 31)))), some (.int x7)]) k194_70 rfl rfl ?_
          refine o_iinc (k := 1) (L' := [some (.ref 43), some (.int a0), some (.int a1), some (.int (x6 ||| ((f_X8_flag v10) <<< (x7 &&& 31)))), some (.int (x7 + 1))]) k194_71 rfl (by decide) rfl ?_
          refine o_goto k194_74 ?_
          have h9 := Option.some.inj h
          subst h9
          exact hK
      · obtain ⟨x12, x13⟩ := s11
        show oo LN xs 0 0 194 77 [some (.ref 43), some (.int a0), some (.int a1), some (.int x12), some (.int x13)] [] M (some (.int t.1), t.2)
        dsimp only at h
        refine o_iload_n k194_77 rfl ?_
        refine o_aload_n k194_78 rfl ?_
        refine o_iload_n k194_79 rfl ?_
        refine o_aload_n k194_80 rfl ?_
        refine o_gf k194_81 (gf_43_0 _) ?_
        refine o_iconst (v := 1) k194_84 (by decide) ?_
        refine o_iald k194_85 rfl ia_44 (by decide) ?_
        refine o_iconst (v := 0) k194_86 (by decide) ?_
        refine o_iload_n k194_87 rfl ?_
        refine bd_i h (fun v15 hv15 h => ?_)
        refine o_call k194_88 pj_193 (fun _ => rfl) (by decide) rfl (as := [.ref 43, .int a0, .int (M 44 (1 : Int32).toNatClampNeg), .int 0, .int a1]) (rest := [.int x12]) rfl (L0 := [some (.ref 43), some (.int a0), some (.int (M 44 (1 : Int32).toNatClampNeg)), some (.int 0), some (.int a1), none, none, none]) rfl (t_X8_mayDump_43 hv15) ?_
        refine o_call k194_91 pj_126 (fun _ => rfl) (by decide) rfl (as := [.int v15]) (rest := [.int x12]) rfl (L0 := [some (.int v15)]) rfl (t_X8_flag (M := M) (a0 := v15) rfl) ?_
        refine o_bipush (v := 16) k194_94 (by decide) ?_
        refine o_ishl k194_96 ?_
        refine o_ior k194_97 ?_
        refine o_istore_n (v := (x12 ||| ((f_X8_flag v15) <<< ((16 : Int32) &&& 31)))) (L' := [some (.ref 43), some (.int a0), some (.int a1), some (.int (x12 ||| ((f_X8_flag v15) <<< ((16 : Int32) &&& 31)))), some (.int x13)]) k194_98 rfl rfl ?_
        refine o_aload_n k194_99 rfl ?_
        refine o_gf k194_100 (gf_43_0 _) ?_
        refine o_sipush (v := 143) k194_103 (by decide) ?_
        refine o_iload_n k194_106 rfl ?_
        refine o_iadd k194_107 ?_
        refine o_dup2 k194_108 ?_
        obtain ⟨hc16, h⟩ := ck_i h
        refine o_iald k194_109 rfl ia_44 hc16 ?_
        refine o_iload_n k194_110 rfl ?_
        refine o_iand k194_111 ?_
        obtain ⟨hc17, h⟩ := ck_i h
        refine bl_i h (fun M18 eM18 h => ?_)
        refine o_iast (M' := M18) k194_112 eM18 ia_44 hc17 ?_
        refine o_aload_n k194_113 rfl ?_
        refine o_gf k194_114 (gf_43_0 _) ?_
        refine o_sipush (v := 143) k194_117 (by decide) ?_
        refine o_iload_n k194_120 rfl ?_
        refine o_iadd k194_121 ?_
        obtain ⟨hc19, h⟩ := ck_i h
        refine o_iald k194_122 rfl ia_44 hc19 ?_
        refine bd_i h (fun v20 hv20 h => ?_)
        refine o_call k194_123 pj_128 (fun _ => rfl) (by decide) rfl (as := [.int (M18 44 ((143 : Int32) + a0).toNatClampNeg)]) (rest := []) rfl (L0 := [some (.int (M18 44 ((143 : Int32) + a0).toNatClampNeg)), none, none]) rfl (t_X8_bitsOf hv20) ?_
        have h9 := Option.some.inj h
        subst h9
        exact o_iret pj_194 k194_126 rfl nr_i
    · rw [if_pos hc4] at h
      refine o_iconst (v := (-1)) k194_28 (by decide) ?_
      have h9 := Option.some.inj h
      subst h9
      exact o_iret pj_194 k194_29 rfl nr_i
def f_X0_allSuspicions_9 (M : am_M) : Int32 := ((65536 : Int32) ||| (((1 : Int32) <<< (((2 : Int32) * (M 9 1)) &&& 31)) - 1))
set_option maxRecDepth 20000 in
theorem t_X0_allSuspicions_9 {LN : Nat} {xs : Nat → Int32} {M : am_M} {t : Int32} (h : f_X0_allSuspicions_9 M = t) : oo LN xs 0 0 27 0 [some (.ref 9)] [] M (some (.int t), M) := by
  unfold f_X0_allSuspicions_9 at h
  refine o_ldc k27_0 ?_
  refine o_iconst (v := 1) k27_2 (by decide) ?_
  refine o_iconst (v := 2) k27_3 (by decide) ?_
  refine o_aload_n k27_4 rfl ?_
  refine o_gf k27_5 (gf_9_1 _) ?_
  refine o_imul k27_8 ?_
  refine o_ishl k27_9 ?_
  refine o_iconst (v := 1) k27_10 (by decide) ?_
  refine o_isub k27_11 ?_
  refine o_ior k27_12 ?_
  subst h
  exact o_iret pj_27 k27_13 rfl nr_i
def f_X7_exchange_13 (a0 : Int32) (a1 : Int32) (M : am_M) : Option (Int32 × am_M) := (if am_dbin a0 8 = true then (if am_dbin a0 8 = true then (bl (am_up M 13 a0.toNatClampNeg a1) (fun (M3 : am_M) => (some ((M 13 a0.toNatClampNeg), M3)))) else none) else none)
set_option maxRecDepth 20000 in
theorem t_X7_exchange_13 {LN : Nat} {xs : Nat → Int32} {a0 : Int32} {a1 : Int32} {M : am_M} {t : Int32 × am_M} (h : f_X7_exchange_13 a0 a1 M = some t) : oo LN xs 0 0 102 0 [some (.ref 13), some (.int a0), some (.int a1), none] [] M (some (.int t.1), t.2) := by
  unfold f_X7_exchange_13 at h
  refine o_aload_n k102_0 rfl ?_
  refine o_iload_n k102_1 rfl ?_
  obtain ⟨hc1, h⟩ := ck_i h
  refine o_iald k102_2 rfl ia_13 hc1 ?_
  refine o_istore_n (v := (M 13 a0.toNatClampNeg)) (L' := [some (.ref 13), some (.int a0), some (.int a1), some (.int (M 13 a0.toNatClampNeg))]) k102_3 rfl rfl ?_
  refine o_aload_n k102_4 rfl ?_
  refine o_iload_n k102_5 rfl ?_
  refine o_iload_n k102_6 rfl ?_
  obtain ⟨hc2, h⟩ := ck_i h
  refine bl_i h (fun M3 eM3 h => ?_)
  refine o_iast (M' := M3) k102_7 eM3 ia_13 hc2 ?_
  refine o_iload_n k102_8 rfl ?_
  have h9 := Option.some.inj h
  subst h9
  exact o_iret pj_102 k102_9 rfl nr_i
def f_X7_clear_0 (a0 : Int32) (M : am_M) : Option (Int32 × am_M) := (if (f_X0_hasChain_9 a0 M) = 0 then (some ((-1), M)) else ((f_X7_exchange_13 a0 (f_X0_allSuspicions_9 M) M).bind (fun q2 => (some ((f_J6_bitCount_0f7a4 q2.1), q2.2)))))
set_option maxRecDepth 20000 in
theorem t_X7_clear_0 {LN : Nat} {xs : Nat → Int32} {a0 : Int32} {M : am_M} {t : Int32 × am_M} (h : f_X7_clear_0 a0 M = some t) : oo LN xs 0 0 110 0 [some (.ref 0), some (.int a0)] [] M (some (.int t.1), t.2) := by
  unfold f_X7_clear_0 at h
  refine o_aload_n k110_0 rfl ?_
  refine o_gf k110_1 (gf_0_2 _) ?_
  refine o_iload_n k110_4 rfl ?_
  refine o_call k110_5 pj_7 (fun _ => rfl) (by decide) rfl (as := [.ref 9, .int a0]) (rest := []) rfl (L0 := [some (.ref 9), some (.int a0)]) rfl (t_X0_hasChain_9 (M := M) (a0 := a0) rfl) ?_
  refine o_if_ne k110_8 (fun hc1 => ?_) (fun hc1 => ?_)
  · rw [if_neg hc1] at h
    refine o_aload_n k110_13 rfl ?_
    refine o_gf k110_14 (gf_0_2 _) ?_
    refine o_gf k110_17 (gf_9_10 _) ?_
    refine o_iload_n k110_20 rfl ?_
    refine o_aload_n k110_21 rfl ?_
    refine o_gf k110_22 (gf_0_2 _) ?_
    refine o_call k110_25 pj_27 (fun _ => rfl) (by decide) rfl (as := [.ref 9]) (rest := [.int a0, .ref 13]) rfl (L0 := [some (.ref 9)]) rfl (t_X0_allSuspicions_9 (M := M) rfl) ?_
    refine bd_i h (fun q2 hq2 h => ?_)
    refine o_call k110_28 pj_102 (fun _ => rfl) (by decide) rfl (as := [.ref 13, .int a0, .int (f_X0_allSuspicions_9 M)]) (rest := []) rfl (L0 := [some (.ref 13), some (.int a0), some (.int (f_X0_allSuspicions_9 M)), none]) rfl (t_X7_exchange_13 hq2) ?_
    refine o_call k110_31 pj_212 (fun _ => rfl) (by decide) rfl (as := [.int q2.1]) (rest := []) rfl (L0 := [some (.int q2.1)]) rfl (t_J6_bitCount_0f7a4 (M := q2.2) (a0 := q2.1) rfl) ?_
    have h9 := Option.some.inj h
    subst h9
    exact o_iret pj_110 k110_34 rfl nr_i
  · rw [if_pos hc1] at h
    refine o_iconst (v := (-1)) k110_11 (by decide) ?_
    have h9 := Option.some.inj h
    subst h9
    exact o_iret pj_110 k110_12 rfl nr_i
def f_X8_clear_43 (a0 : Int32) (M : am_M) : Option (Int32 × am_M) := ((f_X8_isChain_43 a0 M).bind (fun v1 => (if v1 = 0 then (some ((-1), M)) else ((f_X8_becomes_43 ((143 : Int32) + a0) (f_X8_allSuspects (M 44 (1 : Int32).toNatClampNeg)) M).bind (fun q4 => ((f_X8_bitsOf q4.1).bind (fun v5 => (some (v5, q4.2)))))))))
set_option maxRecDepth 20000 in
theorem t_X8_clear_43 {LN : Nat} {xs : Nat → Int32} {a0 : Int32} {M : am_M} {t : Int32 × am_M} (h : f_X8_clear_43 a0 M = some t) : oo LN xs 0 0 195 0 [some (.ref 43), some (.int a0)] [] M (some (.int t.1), t.2) := by
  unfold f_X8_clear_43 at h
  refine o_aload_n k195_0 rfl ?_
  refine o_iload_n k195_1 rfl ?_
  refine bd_i h (fun v1 hv1 h => ?_)
  refine o_call k195_2 pj_151 (fun _ => rfl) (by decide) rfl (as := [.ref 43, .int a0]) (rest := []) rfl (L0 := [some (.ref 43), some (.int a0)]) rfl (t_X8_isChain_43 hv1) ?_
  refine o_if_eq k195_5 (fun hc2 => ?_) (fun hc2 => ?_)
  · rw [if_pos hc2] at h
    refine o_iconst (v := (-1)) k195_32 (by decide) ?_
    have h9 := Option.some.inj h
    subst h9
    exact o_iret pj_195 k195_33 rfl nr_i
  · rw [if_neg hc2] at h
    refine o_aload_n k195_8 rfl ?_
    refine o_sipush (v := 143) k195_9 (by decide) ?_
    refine o_iload_n k195_12 rfl ?_
    refine o_iadd k195_13 ?_
    refine o_aload_n k195_14 rfl ?_
    refine o_gf k195_15 (gf_43_0 _) ?_
    refine o_iconst (v := 1) k195_18 (by decide) ?_
    refine o_iald k195_19 rfl ia_44 (by decide) ?_
    refine o_call k195_20 pj_130 (fun _ => rfl) (by decide) rfl (as := [.int (M 44 (1 : Int32).toNatClampNeg)]) (rest := [.int ((143 : Int32) + a0), .ref 43]) rfl (L0 := [some (.int (M 44 (1 : Int32).toNatClampNeg))]) rfl (t_X8_allSuspects (M := M) (a0 := (M 44 (1 : Int32).toNatClampNeg)) rfl) ?_
    refine bd_i h (fun q4 hq4 h => ?_)
    refine o_call k195_23 pj_174 (fun _ => rfl) (by decide) rfl (as := [.ref 43, .int ((143 : Int32) + a0), .int (f_X8_allSuspects (M 44 (1 : Int32).toNatClampNeg))]) (rest := []) rfl (L0 := [some (.ref 43), some (.int ((143 : Int32) + a0)), some (.int (f_X8_allSuspects (M 44 (1 : Int32).toNatClampNeg))), none]) rfl (t_X8_becomes_43 hq4) ?_
    refine bd_i h (fun v5 hv5 h => ?_)
    refine o_call k195_26 pj_128 (fun _ => rfl) (by decide) rfl (as := [.int q4.1]) (rest := []) rfl (L0 := [some (.int q4.1), none, none]) rfl (t_X8_bitsOf hv5) ?_
    refine o_goto k195_29 ?_
    have h9 := Option.some.inj h
    subst h9
    exact o_iret pj_195 k195_33 rfl nr_i
def f_X7_isImage (a0 : Int32) : Int32 := (if a0 < 0 then 0 else (if 2 ≤ a0 then 0 else 1))
set_option maxRecDepth 20000 in
theorem t_X7_isImage {LN : Nat} {xs : Nat → Int32} {a0 : Int32} {M : am_M} {t : Int32} (h : f_X7_isImage a0 = t) : oo LN xs 0 0 121 0 [some (.int a0)] [] M (some (.int t), M) := by
  unfold f_X7_isImage at h
  refine o_iload_n k121_0 rfl ?_
  refine o_if_lt k121_1 (fun hc1 => ?_) (fun hc1 => ?_)
  · rw [if_pos hc1] at h
    refine o_iconst (v := 0) k121_13 (by decide) ?_
    subst h
    exact o_iret pj_121 k121_14 rfl (nr_z (by decide))
  · rw [if_neg hc1] at h
    refine o_iload_n k121_4 rfl ?_
    refine o_iconst (v := 2) k121_5 (by decide) ?_
    refine o_icmp_ge k121_6 (fun hc2 => ?_) (fun hc2 => ?_)
    · rw [if_pos hc2] at h
      refine o_iconst (v := 0) k121_13 (by decide) ?_
      subst h
      exact o_iret pj_121 k121_14 rfl (nr_z (by decide))
    · rw [if_neg hc2] at h
      refine o_iconst (v := 1) k121_9 (by decide) ?_
      refine o_goto k121_10 ?_
      subst h
      exact o_iret pj_121 k121_14 rfl (nr_z (by decide))
def f_X0_becomeLike_15_9 (M : am_M) : Option am_M := (bl (am_up M 15 0 (M 9 0)) (fun (M1 : am_M) => (bl (am_up M1 15 1 (M1 9 1)) (fun (M2 : am_M) => (bl (am_up M2 15 2 (M2 9 2)) (fun (M3 : am_M) => (bl (am_up M3 15 3 (M3 9 3)) (fun (M4 : am_M) => (bl (am_up M4 15 4 (M4 9 4)) (fun (M5 : am_M) => (bl (am_up M5 15 5 (M5 9 5)) (fun (M6 : am_M) => (bl (am_up M6 15 6 (M6 9 6)) (fun (M7 : am_M) => (bl (am_wr M7 16 (va_cpy (M7 10) (M7 16) 0 0 64)) (fun (M8 : am_M) => (bl (am_wr M8 17 (va_cpy (M8 11) (M8 17) 0 0 64)) (fun (M9 : am_M) => (bl (am_wr M9 18 (va_cpy (M9 12) (M9 18) 0 0 8)) (fun (M10 : am_M) => (bl (am_wr M10 19 (va_cpy (M10 13) (M10 19) 0 0 8)) (fun (M11 : am_M) => (some M11)))))))))))))))))))))))
set_option maxRecDepth 20000 in
theorem t_X0_becomeLike_15_9 {LN : Nat} {xs : Nat → Int32} {M : am_M} {t : am_M} (h : f_X0_becomeLike_15_9 M = some t) : oo LN xs 0 0 4 0 [some (.ref 15), some (.ref 9)] [] M (none, t) := by
  unfold f_X0_becomeLike_15_9 at h
  refine o_aload_n k4_0 rfl ?_
  refine o_aload_n k4_1 rfl ?_
  refine o_gf k4_2 (gf_9_0 _) ?_
  refine bl_i h (fun M1 eM1 h => ?_)
  refine o_pf (M' := M1) k4_5 (pf_15_0 eM1) ?_
  refine o_aload_n k4_8 rfl ?_
  refine o_aload_n k4_9 rfl ?_
  refine o_gf k4_10 (gf_9_1 _) ?_
  refine bl_i h (fun M2 eM2 h => ?_)
  refine o_pf (M' := M2) k4_13 (pf_15_1 eM2) ?_
  refine o_aload_n k4_16 rfl ?_
  refine o_aload_n k4_17 rfl ?_
  refine o_gf k4_18 (gf_9_2 _) ?_
  refine bl_i h (fun M3 eM3 h => ?_)
  refine o_pf (M' := M3) k4_21 (pf_15_2 eM3) ?_
  refine o_aload_n k4_24 rfl ?_
  refine o_aload_n k4_25 rfl ?_
  refine o_gf k4_26 (gf_9_3 _) ?_
  refine bl_i h (fun M4 eM4 h => ?_)
  refine o_pf (M' := M4) k4_29 (pf_15_3 eM4) ?_
  refine o_aload_n k4_32 rfl ?_
  refine o_aload_n k4_33 rfl ?_
  refine o_gf k4_34 (gf_9_4 _) ?_
  refine bl_i h (fun M5 eM5 h => ?_)
  refine o_pf (M' := M5) k4_37 (pf_15_4 eM5) ?_
  refine o_aload_n k4_40 rfl ?_
  refine o_aload_n k4_41 rfl ?_
  refine o_gf k4_42 (gf_9_5 _) ?_
  refine bl_i h (fun M6 eM6 h => ?_)
  refine o_pf (M' := M6) k4_45 (pf_15_5 eM6) ?_
  refine o_aload_n k4_48 rfl ?_
  refine o_aload_n k4_49 rfl ?_
  refine o_gf k4_50 (gf_9_6 _) ?_
  refine bl_i h (fun M7 eM7 h => ?_)
  refine o_pf (M' := M7) k4_53 (pf_15_6 eM7) ?_
  refine o_aload_n k4_56 rfl ?_
  refine o_gf k4_57 (gf_9_7 _) ?_
  refine o_iconst (v := 0) k4_60 (by decide) ?_
  refine o_aload_n k4_61 rfl ?_
  refine o_gf k4_62 (gf_15_7 _) ?_
  refine o_iconst (v := 0) k4_65 (by decide) ?_
  refine o_bipush (v := 64) k4_66 (by decide) ?_
  refine bl_i h (fun M8 eM8 h => ?_)
  refine o_copy (M2 := M8) k4_68 eM8 (by decide) rfl ?_
  refine o_aload_n k4_71 rfl ?_
  refine o_gf k4_72 (gf_9_8 _) ?_
  refine o_iconst (v := 0) k4_75 (by decide) ?_
  refine o_aload_n k4_76 rfl ?_
  refine o_gf k4_77 (gf_15_8 _) ?_
  refine o_iconst (v := 0) k4_80 (by decide) ?_
  refine o_bipush (v := 64) k4_81 (by decide) ?_
  refine bl_i h (fun M9 eM9 h => ?_)
  refine o_copy (M2 := M9) k4_83 eM9 (by decide) rfl ?_
  refine o_aload_n k4_86 rfl ?_
  refine o_gf k4_87 (gf_9_9 _) ?_
  refine o_iconst (v := 0) k4_90 (by decide) ?_
  refine o_aload_n k4_91 rfl ?_
  refine o_gf k4_92 (gf_15_9 _) ?_
  refine o_iconst (v := 0) k4_95 (by decide) ?_
  refine o_bipush (v := 8) k4_96 (by decide) ?_
  refine bl_i h (fun M10 eM10 h => ?_)
  refine o_copy (M2 := M10) k4_98 eM10 (by decide) rfl ?_
  refine o_aload_n k4_101 rfl ?_
  refine o_gf k4_102 (gf_9_10 _) ?_
  refine o_iconst (v := 0) k4_105 (by decide) ?_
  refine o_aload_n k4_106 rfl ?_
  refine o_gf k4_107 (gf_15_10 _) ?_
  refine o_iconst (v := 0) k4_110 (by decide) ?_
  refine o_bipush (v := 8) k4_111 (by decide) ?_
  refine bl_i h (fun M11 eM11 h => ?_)
  refine o_copy (M2 := M11) k4_113 eM11 (by decide) rfl ?_
  have h9 := Option.some.inj h
  subst h9
  exact o_vret pj_4 k4_116 rfl
def f_X0_becomeLike_20_9 (M : am_M) : Option am_M := (bl (am_up M 20 0 (M 9 0)) (fun (M1 : am_M) => (bl (am_up M1 20 1 (M1 9 1)) (fun (M2 : am_M) => (bl (am_up M2 20 2 (M2 9 2)) (fun (M3 : am_M) => (bl (am_up M3 20 3 (M3 9 3)) (fun (M4 : am_M) => (bl (am_up M4 20 4 (M4 9 4)) (fun (M5 : am_M) => (bl (am_up M5 20 5 (M5 9 5)) (fun (M6 : am_M) => (bl (am_up M6 20 6 (M6 9 6)) (fun (M7 : am_M) => (bl (am_wr M7 21 (va_cpy (M7 10) (M7 21) 0 0 64)) (fun (M8 : am_M) => (bl (am_wr M8 22 (va_cpy (M8 11) (M8 22) 0 0 64)) (fun (M9 : am_M) => (bl (am_wr M9 23 (va_cpy (M9 12) (M9 23) 0 0 8)) (fun (M10 : am_M) => (bl (am_wr M10 24 (va_cpy (M10 13) (M10 24) 0 0 8)) (fun (M11 : am_M) => (some M11)))))))))))))))))))))))
set_option maxRecDepth 20000 in
theorem t_X0_becomeLike_20_9 {LN : Nat} {xs : Nat → Int32} {M : am_M} {t : am_M} (h : f_X0_becomeLike_20_9 M = some t) : oo LN xs 0 0 4 0 [some (.ref 20), some (.ref 9)] [] M (none, t) := by
  unfold f_X0_becomeLike_20_9 at h
  refine o_aload_n k4_0 rfl ?_
  refine o_aload_n k4_1 rfl ?_
  refine o_gf k4_2 (gf_9_0 _) ?_
  refine bl_i h (fun M1 eM1 h => ?_)
  refine o_pf (M' := M1) k4_5 (pf_20_0 eM1) ?_
  refine o_aload_n k4_8 rfl ?_
  refine o_aload_n k4_9 rfl ?_
  refine o_gf k4_10 (gf_9_1 _) ?_
  refine bl_i h (fun M2 eM2 h => ?_)
  refine o_pf (M' := M2) k4_13 (pf_20_1 eM2) ?_
  refine o_aload_n k4_16 rfl ?_
  refine o_aload_n k4_17 rfl ?_
  refine o_gf k4_18 (gf_9_2 _) ?_
  refine bl_i h (fun M3 eM3 h => ?_)
  refine o_pf (M' := M3) k4_21 (pf_20_2 eM3) ?_
  refine o_aload_n k4_24 rfl ?_
  refine o_aload_n k4_25 rfl ?_
  refine o_gf k4_26 (gf_9_3 _) ?_
  refine bl_i h (fun M4 eM4 h => ?_)
  refine o_pf (M' := M4) k4_29 (pf_20_3 eM4) ?_
  refine o_aload_n k4_32 rfl ?_
  refine o_aload_n k4_33 rfl ?_
  refine o_gf k4_34 (gf_9_4 _) ?_
  refine bl_i h (fun M5 eM5 h => ?_)
  refine o_pf (M' := M5) k4_37 (pf_20_4 eM5) ?_
  refine o_aload_n k4_40 rfl ?_
  refine o_aload_n k4_41 rfl ?_
  refine o_gf k4_42 (gf_9_5 _) ?_
  refine bl_i h (fun M6 eM6 h => ?_)
  refine o_pf (M' := M6) k4_45 (pf_20_5 eM6) ?_
  refine o_aload_n k4_48 rfl ?_
  refine o_aload_n k4_49 rfl ?_
  refine o_gf k4_50 (gf_9_6 _) ?_
  refine bl_i h (fun M7 eM7 h => ?_)
  refine o_pf (M' := M7) k4_53 (pf_20_6 eM7) ?_
  refine o_aload_n k4_56 rfl ?_
  refine o_gf k4_57 (gf_9_7 _) ?_
  refine o_iconst (v := 0) k4_60 (by decide) ?_
  refine o_aload_n k4_61 rfl ?_
  refine o_gf k4_62 (gf_20_7 _) ?_
  refine o_iconst (v := 0) k4_65 (by decide) ?_
  refine o_bipush (v := 64) k4_66 (by decide) ?_
  refine bl_i h (fun M8 eM8 h => ?_)
  refine o_copy (M2 := M8) k4_68 eM8 (by decide) rfl ?_
  refine o_aload_n k4_71 rfl ?_
  refine o_gf k4_72 (gf_9_8 _) ?_
  refine o_iconst (v := 0) k4_75 (by decide) ?_
  refine o_aload_n k4_76 rfl ?_
  refine o_gf k4_77 (gf_20_8 _) ?_
  refine o_iconst (v := 0) k4_80 (by decide) ?_
  refine o_bipush (v := 64) k4_81 (by decide) ?_
  refine bl_i h (fun M9 eM9 h => ?_)
  refine o_copy (M2 := M9) k4_83 eM9 (by decide) rfl ?_
  refine o_aload_n k4_86 rfl ?_
  refine o_gf k4_87 (gf_9_9 _) ?_
  refine o_iconst (v := 0) k4_90 (by decide) ?_
  refine o_aload_n k4_91 rfl ?_
  refine o_gf k4_92 (gf_20_9 _) ?_
  refine o_iconst (v := 0) k4_95 (by decide) ?_
  refine o_bipush (v := 8) k4_96 (by decide) ?_
  refine bl_i h (fun M10 eM10 h => ?_)
  refine o_copy (M2 := M10) k4_98 eM10 (by decide) rfl ?_
  refine o_aload_n k4_101 rfl ?_
  refine o_gf k4_102 (gf_9_10 _) ?_
  refine o_iconst (v := 0) k4_105 (by decide) ?_
  refine o_aload_n k4_106 rfl ?_
  refine o_gf k4_107 (gf_20_10 _) ?_
  refine o_iconst (v := 0) k4_110 (by decide) ?_
  refine o_bipush (v := 8) k4_111 (by decide) ?_
  refine bl_i h (fun M11 eM11 h => ?_)
  refine o_copy (M2 := M11) k4_113 eM11 (by decide) rfl ?_
  have h9 := Option.some.inj h
  subst h9
  exact o_vret pj_4 k4_116 rfl
def f_X7_keep_0 (a0 : Int32) (M : am_M) : Option (Int32 × am_M) := (if (f_X7_isImage a0) = 0 then (some ((-1), M)) else (if am_dbin a0 2 = true then (bl (if (M 25 a0.toNatClampNeg) = 0 then 0 else 1) (fun (v4 : Int32) => (if a0 = 0 then ((f_X0_becomeLike_15_9 M).bind (fun q5 => (if am_dbin a0 2 = true then (bl (am_up q5 25 a0.toNatClampNeg (vp_nar .boolean 1)) (fun (M7 : am_M) => (some (v4, M7)))) else none))) else (if a0 = 1 then ((f_X0_becomeLike_20_9 M).bind (fun q8 => (if am_dbin a0 2 = true then (bl (am_up q8 25 a0.toNatClampNeg (vp_nar .boolean 1)) (fun (M10 : am_M) => (some (v4, M10)))) else none))) else none)))) else none))
set_option maxRecDepth 20000 in
theorem t_X7_keep_0 {LN : Nat} {xs : Nat → Int32} {a0 : Int32} {M : am_M} {t : Int32 × am_M} (h : f_X7_keep_0 a0 M = some t) : oo LN xs 0 0 111 0 [some (.ref 0), some (.int a0), none] [] M (some (.int t.1), t.2) := by
  unfold f_X7_keep_0 at h
  refine o_iload_n k111_0 rfl ?_
  refine o_call k111_1 pj_121 (fun _ => rfl) (by decide) rfl (as := [.int a0]) (rest := []) rfl (L0 := [some (.int a0)]) rfl (t_X7_isImage (M := M) (a0 := a0) rfl) ?_
  refine o_if_ne k111_4 (fun hc1 => ?_) (fun hc1 => ?_)
  · rw [if_neg hc1] at h
    refine o_aload_n k111_9 rfl ?_
    refine o_gf k111_10 (gf_0_4 _) ?_
    refine o_iload_n k111_13 rfl ?_
    obtain ⟨hc2, h⟩ := ck_i h
    refine o_bald k111_14 ba_25 hc2 ?_
    refine bl_i h (fun v4 ev4 h => ?_)
    have hJ23 : ∀ (yv4 : Int32), yv4 = v4 → oo LN xs 0 0 111 23 [some (.ref 0), some (.int a0), none] [.int yv4] M (some (.int t.1), t.2) := by
      intro yv4 hyv4
      rw [hyv4]
      refine o_istore_n (v := v4) (L' := [some (.ref 0), some (.int a0), some (.int v4)]) k111_23 rfl rfl ?_
      refine o_aload_n k111_24 rfl ?_
      refine o_gf k111_25 (gf_0_3 _) ?_
      refine o_iload_n k111_28 rfl ?_
      by_cases hX1 : a0 = 0
      · rw [if_pos hX1] at h
        refine o_aald (v := .ref 15) k111_29 (by rw [hX1]; exact aal_14_0) ?_
        refine o_aload_n k111_30 rfl ?_
        refine o_gf k111_31 (gf_0_2 _) ?_
        refine bd_i h (fun q5 hq5 h => ?_)
        refine o_call k111_34 pj_4 (fun _ => rfl) (by decide) rfl (as := [.ref 15, .ref 9]) (rest := []) rfl (L0 := [some (.ref 15), some (.ref 9)]) rfl (t_X0_becomeLike_15_9 hq5) ?_
        refine o_aload_n k111_37 rfl ?_
        refine o_gf k111_38 (gf_0_4 _) ?_
        refine o_iload_n k111_41 rfl ?_
        refine o_iconst (v := 1) k111_42 (by decide) ?_
        obtain ⟨hc6, h⟩ := ck_i h
        refine bl_i h (fun M7 eM7 h => ?_)
        refine o_bast (M' := M7) k111_43 eM7 ba_25 hc6 ?_
        refine o_iload_n k111_44 rfl ?_
        have h9 := Option.some.inj h
        subst h9
        exact o_iret pj_111 k111_45 rfl nr_i
      rw [if_neg hX1] at h
      by_cases hX2 : a0 = 1
      · rw [if_pos hX2] at h
        refine o_aald (v := .ref 20) k111_29 (by rw [hX2]; exact aal_14_1) ?_
        refine o_aload_n k111_30 rfl ?_
        refine o_gf k111_31 (gf_0_2 _) ?_
        refine bd_i h (fun q8 hq8 h => ?_)
        refine o_call k111_34 pj_4 (fun _ => rfl) (by decide) rfl (as := [.ref 20, .ref 9]) (rest := []) rfl (L0 := [some (.ref 20), some (.ref 9)]) rfl (t_X0_becomeLike_20_9 hq8) ?_
        refine o_aload_n k111_37 rfl ?_
        refine o_gf k111_38 (gf_0_4 _) ?_
        refine o_iload_n k111_41 rfl ?_
        refine o_iconst (v := 1) k111_42 (by decide) ?_
        obtain ⟨hc9, h⟩ := ck_i h
        refine bl_i h (fun M10 eM10 h => ?_)
        refine o_bast (M' := M10) k111_43 eM10 ba_25 hc9 ?_
        refine o_iload_n k111_44 rfl ?_
        have h9 := Option.some.inj h
        subst h9
        exact o_iret pj_111 k111_45 rfl nr_i
      rw [if_neg hX2] at h
      cases h
    refine o_if_eq k111_15 (fun hc3 => ?_) (fun hc3 => ?_)
    · skip
      refine o_iconst (v := 0) k111_22 (by decide) ?_
      exact hJ23 _ (by simp only [ev4, if_pos hc3])
    · skip
      refine o_iconst (v := 1) k111_18 (by decide) ?_
      refine o_goto k111_19 ?_
      exact hJ23 _ (by simp only [ev4, if_neg hc3])
  · rw [if_pos hc1] at h
    refine o_iconst (v := (-1)) k111_7 (by decide) ?_
    have h9 := Option.some.inj h
    subst h9
    exact o_iret pj_111 k111_8 rfl nr_i
def f_X8_keep_43 (a0 : Int32) (M : am_M) : Option (Int32 × am_M) := (if (f_X8_in a0.toInt64 0 1) = 0 then (some ((-1), M)) else (if am_dbin a0 2 = true then (if am_dbin a0 2 = true then (bl (am_up M 46 a0.toNatClampNeg (vp_nar .boolean 1)) (fun (M4 : am_M) => ((lp (σ := Int32 × am_M) (ρ := Int32 × am_M) (fun (s5 : Int32 × am_M) => match s5 with | (x6, M7) => (if 151 ≤ x6 then (some (.inr (x6, M7))) else (if am_dbin x6 151 = true then (if am_dbin (((151 : Int32) * a0) + x6) 302 = true then (bl (am_up M7 45 (((151 : Int32) * a0) + x6).toNatClampNeg (M7 44 x6.toNatClampNeg)) (fun (M11 : am_M) => (some (.inl ((x6 + 1), M11))))) else none) else none))) lp_F (0, M4)).bind (fun (s12 : Int32 × am_M) => match s12 with | (x13, M14) => (some ((f_X8_flag (M 46 a0.toNatClampNeg)), M14)))))) else none) else none))
set_option maxRecDepth 20000 in
theorem t_X8_keep_43 {LN : Nat} {xs : Nat → Int32} {a0 : Int32} {M : am_M} {t : Int32 × am_M} (h : f_X8_keep_43 a0 M = some t) : oo LN xs 0 0 196 0 [some (.ref 43), some (.int a0), none, none] [] M (some (.int t.1), t.2) := by
  unfold f_X8_keep_43 at h
  refine o_iload_n k196_0 rfl ?_
  refine o_i2l k196_1 ?_
  refine o_lconst (v := 0) k196_2 (by decide) ?_
  refine o_lconst (v := 1) k196_3 (by decide) ?_
  refine o_call k196_4 pj_125 (fun _ => rfl) (by decide) rfl (as := [.long a0.toInt64, .long 0, .long 1]) (rest := []) rfl (L0 := [some (.long a0.toInt64), none, some (.long 0), none, some (.long 1), none]) rfl (t_X8_in (M := M) (a0 := a0.toInt64) (a1 := 0) (a2 := 1) rfl) ?_
  refine o_if_ne k196_7 (fun hc1 => ?_) (fun hc1 => ?_)
  · rw [if_neg hc1] at h
    refine o_aload_n k196_12 rfl ?_
    refine o_gf k196_13 (gf_43_2 _) ?_
    refine o_iload_n k196_16 rfl ?_
    obtain ⟨hc2, h⟩ := ck_i h
    refine o_bald k196_17 ba_46 hc2 ?_
    refine o_call k196_18 pj_126 (fun _ => rfl) (by decide) rfl (as := [.int (M 46 a0.toNatClampNeg)]) (rest := []) rfl (L0 := [some (.int (M 46 a0.toNatClampNeg))]) rfl (t_X8_flag (M := M) (a0 := (M 46 a0.toNatClampNeg)) rfl) ?_
    refine o_istore_n (v := (f_X8_flag (M 46 a0.toNatClampNeg))) (L' := [some (.ref 43), some (.int a0), some (.int (f_X8_flag (M 46 a0.toNatClampNeg))), none]) k196_21 rfl rfl ?_
    refine o_aload_n k196_22 rfl ?_
    refine o_gf k196_23 (gf_43_2 _) ?_
    refine o_iload_n k196_26 rfl ?_
    refine o_iconst (v := 1) k196_27 (by decide) ?_
    obtain ⟨hc3, h⟩ := ck_i h
    refine bl_i h (fun M4 eM4 h => ?_)
    refine o_bast (M' := M4) k196_28 eM4 ba_46 hc3 ?_
    refine o_iconst (v := 0) k196_29 (by decide) ?_
    refine o_istore_n (v := 0) (L' := [some (.ref 43), some (.int a0), some (.int (f_X8_flag (M 46 a0.toNatClampNeg))), some (.int 0)]) k196_30 rfl rfl ?_
    refine bd_i h (fun s12 hs12 h => ?_)
    refine lp_o (fun (s5 : Int32 × am_M) => match s5 with | (x6, M7) => oo LN xs 0 0 196 31 [some (.ref 43), some (.int a0), some (.int (f_X8_flag (M 46 a0.toNatClampNeg))), some (.int x6)] [] M7 (some (.int t.1), t.2)) (fun (s12 : Int32 × am_M) => match s12 with | (x13, M14) => oo LN xs 0 0 196 62 [some (.ref 43), some (.int a0), some (.int (f_X8_flag (M 46 a0.toNatClampNeg))), some (.int x13)] [] M14 (some (.int t.1), t.2)) ?_ hs12 ?_
    · rintro ⟨x6, M7⟩ ws5 h hK
      dsimp only at h
      show oo LN xs 0 0 196 31 [some (.ref 43), some (.int a0), some (.int (f_X8_flag (M 46 a0.toNatClampNeg))), some (.int x6)] [] M7 (some (.int t.1), t.2)
      refine o_iload_n k196_31 rfl ?_
      refine o_sipush (v := 151) k196_32 (by decide) ?_
      refine o_icmp_ge k196_35 (fun hc8 => ?_) (fun hc8 => ?_)
      · rw [if_pos hc8] at h
        have h9 := Option.some.inj h
        subst h9
        exact hK
      · rw [if_neg hc8] at h
        refine o_aload_n k196_38 rfl ?_
        refine o_gf k196_39 (gf_43_1 _) ?_
        refine o_sipush (v := 151) k196_42 (by decide) ?_
        refine o_iload_n k196_45 rfl ?_
        refine o_imul k196_46 ?_
        refine o_iload_n k196_47 rfl ?_
        refine o_iadd k196_48 ?_
        refine o_aload_n k196_49 rfl ?_
        refine o_gf k196_50 (gf_43_0 _) ?_
        refine o_iload_n k196_53 rfl ?_
        obtain ⟨hc9, h⟩ := ck_i h
        refine o_iald k196_54 rfl ia_44 hc9 ?_
        obtain ⟨hc10, h⟩ := ck_i h
        refine bl_i h (fun M11 eM11 h => ?_)
        refine o_iast (M' := M11) k196_55 eM11 ia_45 hc10 ?_
        refine o_iinc (k := 1) (L' := [some (.ref 43), some (.int a0), some (.int (f_X8_flag (M 46 a0.toNatClampNeg))), some (.int (x6 + 1))]) k196_56 rfl (by decide) rfl ?_
        refine o_goto k196_59 ?_
        have h9 := Option.some.inj h
        subst h9
        exact hK
    · obtain ⟨x13, M14⟩ := s12
      show oo LN xs 0 0 196 62 [some (.ref 43), some (.int a0), some (.int (f_X8_flag (M 46 a0.toNatClampNeg))), some (.int x13)] [] M14 (some (.int t.1), t.2)
      dsimp only at h
      refine o_iload_n k196_62 rfl ?_
      have h9 := Option.some.inj h
      subst h9
      exact o_iret pj_196 k196_63 rfl nr_i
  · rw [if_pos hc1] at h
    refine o_iconst (v := (-1)) k196_10 (by decide) ?_
    have h9 := Option.some.inj h
    subst h9
    exact o_iret pj_196 k196_11 rfl nr_i
def f_X0_becomeLike_9_15 (M : am_M) : Option am_M := (bl (am_up M 9 0 (M 15 0)) (fun (M1 : am_M) => (bl (am_up M1 9 1 (M1 15 1)) (fun (M2 : am_M) => (bl (am_up M2 9 2 (M2 15 2)) (fun (M3 : am_M) => (bl (am_up M3 9 3 (M3 15 3)) (fun (M4 : am_M) => (bl (am_up M4 9 4 (M4 15 4)) (fun (M5 : am_M) => (bl (am_up M5 9 5 (M5 15 5)) (fun (M6 : am_M) => (bl (am_up M6 9 6 (M6 15 6)) (fun (M7 : am_M) => (bl (am_wr M7 10 (va_cpy (M7 16) (M7 10) 0 0 64)) (fun (M8 : am_M) => (bl (am_wr M8 11 (va_cpy (M8 17) (M8 11) 0 0 64)) (fun (M9 : am_M) => (bl (am_wr M9 12 (va_cpy (M9 18) (M9 12) 0 0 8)) (fun (M10 : am_M) => (bl (am_wr M10 13 (va_cpy (M10 19) (M10 13) 0 0 8)) (fun (M11 : am_M) => (some M11)))))))))))))))))))))))
set_option maxRecDepth 20000 in
theorem t_X0_becomeLike_9_15 {LN : Nat} {xs : Nat → Int32} {M : am_M} {t : am_M} (h : f_X0_becomeLike_9_15 M = some t) : oo LN xs 0 0 4 0 [some (.ref 9), some (.ref 15)] [] M (none, t) := by
  unfold f_X0_becomeLike_9_15 at h
  refine o_aload_n k4_0 rfl ?_
  refine o_aload_n k4_1 rfl ?_
  refine o_gf k4_2 (gf_15_0 _) ?_
  refine bl_i h (fun M1 eM1 h => ?_)
  refine o_pf (M' := M1) k4_5 (pf_9_0 eM1) ?_
  refine o_aload_n k4_8 rfl ?_
  refine o_aload_n k4_9 rfl ?_
  refine o_gf k4_10 (gf_15_1 _) ?_
  refine bl_i h (fun M2 eM2 h => ?_)
  refine o_pf (M' := M2) k4_13 (pf_9_1 eM2) ?_
  refine o_aload_n k4_16 rfl ?_
  refine o_aload_n k4_17 rfl ?_
  refine o_gf k4_18 (gf_15_2 _) ?_
  refine bl_i h (fun M3 eM3 h => ?_)
  refine o_pf (M' := M3) k4_21 (pf_9_2 eM3) ?_
  refine o_aload_n k4_24 rfl ?_
  refine o_aload_n k4_25 rfl ?_
  refine o_gf k4_26 (gf_15_3 _) ?_
  refine bl_i h (fun M4 eM4 h => ?_)
  refine o_pf (M' := M4) k4_29 (pf_9_3 eM4) ?_
  refine o_aload_n k4_32 rfl ?_
  refine o_aload_n k4_33 rfl ?_
  refine o_gf k4_34 (gf_15_4 _) ?_
  refine bl_i h (fun M5 eM5 h => ?_)
  refine o_pf (M' := M5) k4_37 (pf_9_4 eM5) ?_
  refine o_aload_n k4_40 rfl ?_
  refine o_aload_n k4_41 rfl ?_
  refine o_gf k4_42 (gf_15_5 _) ?_
  refine bl_i h (fun M6 eM6 h => ?_)
  refine o_pf (M' := M6) k4_45 (pf_9_5 eM6) ?_
  refine o_aload_n k4_48 rfl ?_
  refine o_aload_n k4_49 rfl ?_
  refine o_gf k4_50 (gf_15_6 _) ?_
  refine bl_i h (fun M7 eM7 h => ?_)
  refine o_pf (M' := M7) k4_53 (pf_9_6 eM7) ?_
  refine o_aload_n k4_56 rfl ?_
  refine o_gf k4_57 (gf_15_7 _) ?_
  refine o_iconst (v := 0) k4_60 (by decide) ?_
  refine o_aload_n k4_61 rfl ?_
  refine o_gf k4_62 (gf_9_7 _) ?_
  refine o_iconst (v := 0) k4_65 (by decide) ?_
  refine o_bipush (v := 64) k4_66 (by decide) ?_
  refine bl_i h (fun M8 eM8 h => ?_)
  refine o_copy (M2 := M8) k4_68 eM8 (by decide) rfl ?_
  refine o_aload_n k4_71 rfl ?_
  refine o_gf k4_72 (gf_15_8 _) ?_
  refine o_iconst (v := 0) k4_75 (by decide) ?_
  refine o_aload_n k4_76 rfl ?_
  refine o_gf k4_77 (gf_9_8 _) ?_
  refine o_iconst (v := 0) k4_80 (by decide) ?_
  refine o_bipush (v := 64) k4_81 (by decide) ?_
  refine bl_i h (fun M9 eM9 h => ?_)
  refine o_copy (M2 := M9) k4_83 eM9 (by decide) rfl ?_
  refine o_aload_n k4_86 rfl ?_
  refine o_gf k4_87 (gf_15_9 _) ?_
  refine o_iconst (v := 0) k4_90 (by decide) ?_
  refine o_aload_n k4_91 rfl ?_
  refine o_gf k4_92 (gf_9_9 _) ?_
  refine o_iconst (v := 0) k4_95 (by decide) ?_
  refine o_bipush (v := 8) k4_96 (by decide) ?_
  refine bl_i h (fun M10 eM10 h => ?_)
  refine o_copy (M2 := M10) k4_98 eM10 (by decide) rfl ?_
  refine o_aload_n k4_101 rfl ?_
  refine o_gf k4_102 (gf_15_10 _) ?_
  refine o_iconst (v := 0) k4_105 (by decide) ?_
  refine o_aload_n k4_106 rfl ?_
  refine o_gf k4_107 (gf_9_10 _) ?_
  refine o_iconst (v := 0) k4_110 (by decide) ?_
  refine o_bipush (v := 8) k4_111 (by decide) ?_
  refine bl_i h (fun M11 eM11 h => ?_)
  refine o_copy (M2 := M11) k4_113 eM11 (by decide) rfl ?_
  have h9 := Option.some.inj h
  subst h9
  exact o_vret pj_4 k4_116 rfl
def f_X0_becomeLike_9_20 (M : am_M) : Option am_M := (bl (am_up M 9 0 (M 20 0)) (fun (M1 : am_M) => (bl (am_up M1 9 1 (M1 20 1)) (fun (M2 : am_M) => (bl (am_up M2 9 2 (M2 20 2)) (fun (M3 : am_M) => (bl (am_up M3 9 3 (M3 20 3)) (fun (M4 : am_M) => (bl (am_up M4 9 4 (M4 20 4)) (fun (M5 : am_M) => (bl (am_up M5 9 5 (M5 20 5)) (fun (M6 : am_M) => (bl (am_up M6 9 6 (M6 20 6)) (fun (M7 : am_M) => (bl (am_wr M7 10 (va_cpy (M7 21) (M7 10) 0 0 64)) (fun (M8 : am_M) => (bl (am_wr M8 11 (va_cpy (M8 22) (M8 11) 0 0 64)) (fun (M9 : am_M) => (bl (am_wr M9 12 (va_cpy (M9 23) (M9 12) 0 0 8)) (fun (M10 : am_M) => (bl (am_wr M10 13 (va_cpy (M10 24) (M10 13) 0 0 8)) (fun (M11 : am_M) => (some M11)))))))))))))))))))))))
set_option maxRecDepth 20000 in
theorem t_X0_becomeLike_9_20 {LN : Nat} {xs : Nat → Int32} {M : am_M} {t : am_M} (h : f_X0_becomeLike_9_20 M = some t) : oo LN xs 0 0 4 0 [some (.ref 9), some (.ref 20)] [] M (none, t) := by
  unfold f_X0_becomeLike_9_20 at h
  refine o_aload_n k4_0 rfl ?_
  refine o_aload_n k4_1 rfl ?_
  refine o_gf k4_2 (gf_20_0 _) ?_
  refine bl_i h (fun M1 eM1 h => ?_)
  refine o_pf (M' := M1) k4_5 (pf_9_0 eM1) ?_
  refine o_aload_n k4_8 rfl ?_
  refine o_aload_n k4_9 rfl ?_
  refine o_gf k4_10 (gf_20_1 _) ?_
  refine bl_i h (fun M2 eM2 h => ?_)
  refine o_pf (M' := M2) k4_13 (pf_9_1 eM2) ?_
  refine o_aload_n k4_16 rfl ?_
  refine o_aload_n k4_17 rfl ?_
  refine o_gf k4_18 (gf_20_2 _) ?_
  refine bl_i h (fun M3 eM3 h => ?_)
  refine o_pf (M' := M3) k4_21 (pf_9_2 eM3) ?_
  refine o_aload_n k4_24 rfl ?_
  refine o_aload_n k4_25 rfl ?_
  refine o_gf k4_26 (gf_20_3 _) ?_
  refine bl_i h (fun M4 eM4 h => ?_)
  refine o_pf (M' := M4) k4_29 (pf_9_3 eM4) ?_
  refine o_aload_n k4_32 rfl ?_
  refine o_aload_n k4_33 rfl ?_
  refine o_gf k4_34 (gf_20_4 _) ?_
  refine bl_i h (fun M5 eM5 h => ?_)
  refine o_pf (M' := M5) k4_37 (pf_9_4 eM5) ?_
  refine o_aload_n k4_40 rfl ?_
  refine o_aload_n k4_41 rfl ?_
  refine o_gf k4_42 (gf_20_5 _) ?_
  refine bl_i h (fun M6 eM6 h => ?_)
  refine o_pf (M' := M6) k4_45 (pf_9_5 eM6) ?_
  refine o_aload_n k4_48 rfl ?_
  refine o_aload_n k4_49 rfl ?_
  refine o_gf k4_50 (gf_20_6 _) ?_
  refine bl_i h (fun M7 eM7 h => ?_)
  refine o_pf (M' := M7) k4_53 (pf_9_6 eM7) ?_
  refine o_aload_n k4_56 rfl ?_
  refine o_gf k4_57 (gf_20_7 _) ?_
  refine o_iconst (v := 0) k4_60 (by decide) ?_
  refine o_aload_n k4_61 rfl ?_
  refine o_gf k4_62 (gf_9_7 _) ?_
  refine o_iconst (v := 0) k4_65 (by decide) ?_
  refine o_bipush (v := 64) k4_66 (by decide) ?_
  refine bl_i h (fun M8 eM8 h => ?_)
  refine o_copy (M2 := M8) k4_68 eM8 (by decide) rfl ?_
  refine o_aload_n k4_71 rfl ?_
  refine o_gf k4_72 (gf_20_8 _) ?_
  refine o_iconst (v := 0) k4_75 (by decide) ?_
  refine o_aload_n k4_76 rfl ?_
  refine o_gf k4_77 (gf_9_8 _) ?_
  refine o_iconst (v := 0) k4_80 (by decide) ?_
  refine o_bipush (v := 64) k4_81 (by decide) ?_
  refine bl_i h (fun M9 eM9 h => ?_)
  refine o_copy (M2 := M9) k4_83 eM9 (by decide) rfl ?_
  refine o_aload_n k4_86 rfl ?_
  refine o_gf k4_87 (gf_20_9 _) ?_
  refine o_iconst (v := 0) k4_90 (by decide) ?_
  refine o_aload_n k4_91 rfl ?_
  refine o_gf k4_92 (gf_9_9 _) ?_
  refine o_iconst (v := 0) k4_95 (by decide) ?_
  refine o_bipush (v := 8) k4_96 (by decide) ?_
  refine bl_i h (fun M10 eM10 h => ?_)
  refine o_copy (M2 := M10) k4_98 eM10 (by decide) rfl ?_
  refine o_aload_n k4_101 rfl ?_
  refine o_gf k4_102 (gf_20_10 _) ?_
  refine o_iconst (v := 0) k4_105 (by decide) ?_
  refine o_aload_n k4_106 rfl ?_
  refine o_gf k4_107 (gf_9_10 _) ?_
  refine o_iconst (v := 0) k4_110 (by decide) ?_
  refine o_bipush (v := 8) k4_111 (by decide) ?_
  refine bl_i h (fun M11 eM11 h => ?_)
  refine o_copy (M2 := M11) k4_113 eM11 (by decide) rfl ?_
  have h9 := Option.some.inj h
  subst h9
  exact o_vret pj_4 k4_116 rfl
def f_X7_back_0 (a0 : Int32) (M : am_M) : Option (Int32 × am_M) := (if (f_X7_isImage a0) = 0 then (some ((-1), M)) else (if am_dbin a0 2 = true then (if (M 25 a0.toNatClampNeg) = 0 then (some ((-2), M)) else (if a0 = 0 then ((f_X0_becomeLike_9_15 M).bind (fun q4 => (some ((q4 9 0), q4)))) else (if a0 = 1 then ((f_X0_becomeLike_9_20 M).bind (fun q5 => (some ((q5 9 0), q5)))) else none))) else none))
set_option maxRecDepth 20000 in
theorem t_X7_back_0 {LN : Nat} {xs : Nat → Int32} {a0 : Int32} {M : am_M} {t : Int32 × am_M} (h : f_X7_back_0 a0 M = some t) : oo LN xs 0 0 112 0 [some (.ref 0), some (.int a0)] [] M (some (.int t.1), t.2) := by
  unfold f_X7_back_0 at h
  refine o_iload_n k112_0 rfl ?_
  refine o_call k112_1 pj_121 (fun _ => rfl) (by decide) rfl (as := [.int a0]) (rest := []) rfl (L0 := [some (.int a0)]) rfl (t_X7_isImage (M := M) (a0 := a0) rfl) ?_
  refine o_if_ne k112_4 (fun hc1 => ?_) (fun hc1 => ?_)
  · rw [if_neg hc1] at h
    refine o_aload_n k112_9 rfl ?_
    refine o_gf k112_10 (gf_0_4 _) ?_
    refine o_iload_n k112_13 rfl ?_
    obtain ⟨hc2, h⟩ := ck_i h
    refine o_bald k112_14 ba_25 hc2 ?_
    refine o_if_ne k112_15 (fun hc3 => ?_) (fun hc3 => ?_)
    · rw [if_neg hc3] at h
      refine o_aload_n k112_21 rfl ?_
      refine o_gf k112_22 (gf_0_2 _) ?_
      refine o_aload_n k112_25 rfl ?_
      refine o_gf k112_26 (gf_0_3 _) ?_
      refine o_iload_n k112_29 rfl ?_
      by_cases hX1 : a0 = 0
      · rw [if_pos hX1] at h
        refine o_aald (v := .ref 15) k112_30 (by rw [hX1]; exact aal_14_0) ?_
        refine bd_i h (fun q4 hq4 h => ?_)
        refine o_call k112_31 pj_4 (fun _ => rfl) (by decide) rfl (as := [.ref 9, .ref 15]) (rest := []) rfl (L0 := [some (.ref 9), some (.ref 15)]) rfl (t_X0_becomeLike_9_15 hq4) ?_
        refine o_aload_n k112_34 rfl ?_
        refine o_gf k112_35 (gf_0_2 _) ?_
        refine o_gf k112_38 (gf_9_0 _) ?_
        have h9 := Option.some.inj h
        subst h9
        exact o_iret pj_112 k112_41 rfl nr_i
      rw [if_neg hX1] at h
      by_cases hX2 : a0 = 1
      · rw [if_pos hX2] at h
        refine o_aald (v := .ref 20) k112_30 (by rw [hX2]; exact aal_14_1) ?_
        refine bd_i h (fun q5 hq5 h => ?_)
        refine o_call k112_31 pj_4 (fun _ => rfl) (by decide) rfl (as := [.ref 9, .ref 20]) (rest := []) rfl (L0 := [some (.ref 9), some (.ref 20)]) rfl (t_X0_becomeLike_9_20 hq5) ?_
        refine o_aload_n k112_34 rfl ?_
        refine o_gf k112_35 (gf_0_2 _) ?_
        refine o_gf k112_38 (gf_9_0 _) ?_
        have h9 := Option.some.inj h
        subst h9
        exact o_iret pj_112 k112_41 rfl nr_i
      rw [if_neg hX2] at h
      cases h
    · rw [if_pos hc3] at h
      refine o_bipush (v := (-2)) k112_18 (by decide) ?_
      have h9 := Option.some.inj h
      subst h9
      exact o_iret pj_112 k112_20 rfl nr_i
  · rw [if_pos hc1] at h
    refine o_iconst (v := (-1)) k112_7 (by decide) ?_
    have h9 := Option.some.inj h
    subst h9
    exact o_iret pj_112 k112_8 rfl nr_i
def f_X8_takes_43 (a0 : Int32) (M : am_M) : Option am_M := ((lp (σ := Int32 × am_M) (ρ := Int32 × am_M) (fun (s1 : Int32 × am_M) => match s1 with | (x2, M3) => (if 151 ≤ x2 then (some (.inr (x2, M3))) else (if am_dbin (((151 : Int32) * a0) + x2) 302 = true then (if am_dbin x2 151 = true then (bl (am_up M3 44 x2.toNatClampNeg (M3 45 (((151 : Int32) * a0) + x2).toNatClampNeg)) (fun (M7 : am_M) => (some (.inl ((x2 + 1), M7))))) else none) else none))) lp_F (0, M)).bind (fun (s8 : Int32 × am_M) => match s8 with | (x9, M10) => (some M10)))
set_option maxRecDepth 20000 in
theorem t_X8_takes_43 {LN : Nat} {xs : Nat → Int32} {a0 : Int32} {M : am_M} {t : am_M} (h : f_X8_takes_43 a0 M = some t) : oo LN xs 0 0 197 0 [some (.ref 43), some (.int a0), none] [] M (none, t) := by
  unfold f_X8_takes_43 at h
  refine o_iconst (v := 0) k197_0 (by decide) ?_
  refine o_istore_n (v := 0) (L' := [some (.ref 43), some (.int a0), some (.int 0)]) k197_1 rfl rfl ?_
  refine bd_i h (fun s8 hs8 h => ?_)
  refine lp_o (fun (s1 : Int32 × am_M) => match s1 with | (x2, M3) => oo LN xs 0 0 197 2 [some (.ref 43), some (.int a0), some (.int x2)] [] M3 (none, t)) (fun (s8 : Int32 × am_M) => match s8 with | (x9, M10) => oo LN xs 0 0 197 33 [some (.ref 43), some (.int a0), some (.int x9)] [] M10 (none, t)) ?_ hs8 ?_
  · rintro ⟨x2, M3⟩ ws1 h hK
    dsimp only at h
    show oo LN xs 0 0 197 2 [some (.ref 43), some (.int a0), some (.int x2)] [] M3 (none, t)
    refine o_iload_n k197_2 rfl ?_
    refine o_sipush (v := 151) k197_3 (by decide) ?_
    refine o_icmp_ge k197_6 (fun hc4 => ?_) (fun hc4 => ?_)
    · rw [if_pos hc4] at h
      have h9 := Option.some.inj h
      subst h9
      exact hK
    · rw [if_neg hc4] at h
      refine o_aload_n k197_9 rfl ?_
      refine o_gf k197_10 (gf_43_0 _) ?_
      refine o_iload_n k197_13 rfl ?_
      refine o_aload_n k197_14 rfl ?_
      refine o_gf k197_15 (gf_43_1 _) ?_
      refine o_sipush (v := 151) k197_18 (by decide) ?_
      refine o_iload_n k197_21 rfl ?_
      refine o_imul k197_22 ?_
      refine o_iload_n k197_23 rfl ?_
      refine o_iadd k197_24 ?_
      obtain ⟨hc5, h⟩ := ck_i h
      refine o_iald k197_25 rfl ia_45 hc5 ?_
      obtain ⟨hc6, h⟩ := ck_i h
      refine bl_i h (fun M7 eM7 h => ?_)
      refine o_iast (M' := M7) k197_26 eM7 ia_44 hc6 ?_
      refine o_iinc (k := 1) (L' := [some (.ref 43), some (.int a0), some (.int (x2 + 1))]) k197_27 rfl (by decide) rfl ?_
      refine o_goto k197_30 ?_
      have h9 := Option.some.inj h
      subst h9
      exact hK
  · obtain ⟨x9, M10⟩ := s8
    show oo LN xs 0 0 197 33 [some (.ref 43), some (.int a0), some (.int x9)] [] M10 (none, t)
    dsimp only at h
    have h9 := Option.some.inj h
    subst h9
    exact o_vret pj_197 k197_33 rfl
def f_X8_back_43 (a0 : Int32) (M : am_M) : Option (Int32 × am_M) := (if (f_X8_in a0.toInt64 0 1) = 0 then (some ((-1), M)) else (if am_dbin a0 2 = true then (if (M 46 a0.toNatClampNeg) = 0 then (some ((-2), M)) else ((f_X8_takes_43 a0 M).bind (fun q4 => (some ((q4 44 (0 : Int32).toNatClampNeg), q4))))) else none))
set_option maxRecDepth 20000 in
theorem t_X8_back_43 {LN : Nat} {xs : Nat → Int32} {a0 : Int32} {M : am_M} {t : Int32 × am_M} (h : f_X8_back_43 a0 M = some t) : oo LN xs 0 0 198 0 [some (.ref 43), some (.int a0)] [] M (some (.int t.1), t.2) := by
  unfold f_X8_back_43 at h
  refine o_iload_n k198_0 rfl ?_
  refine o_i2l k198_1 ?_
  refine o_lconst (v := 0) k198_2 (by decide) ?_
  refine o_lconst (v := 1) k198_3 (by decide) ?_
  refine o_call k198_4 pj_125 (fun _ => rfl) (by decide) rfl (as := [.long a0.toInt64, .long 0, .long 1]) (rest := []) rfl (L0 := [some (.long a0.toInt64), none, some (.long 0), none, some (.long 1), none]) rfl (t_X8_in (M := M) (a0 := a0.toInt64) (a1 := 0) (a2 := 1) rfl) ?_
  refine o_if_ne k198_7 (fun hc1 => ?_) (fun hc1 => ?_)
  · rw [if_neg hc1] at h
    refine o_aload_n k198_12 rfl ?_
    refine o_gf k198_13 (gf_43_2 _) ?_
    refine o_iload_n k198_16 rfl ?_
    obtain ⟨hc2, h⟩ := ck_i h
    refine o_bald k198_17 ba_46 hc2 ?_
    refine o_if_ne k198_18 (fun hc3 => ?_) (fun hc3 => ?_)
    · rw [if_neg hc3] at h
      refine o_aload_n k198_24 rfl ?_
      refine o_iload_n k198_25 rfl ?_
      refine bd_i h (fun q4 hq4 h => ?_)
      refine o_call k198_26 pj_197 (fun _ => rfl) (by decide) rfl (as := [.ref 43, .int a0]) (rest := []) rfl (L0 := [some (.ref 43), some (.int a0), none]) rfl (t_X8_takes_43 hq4) ?_
      refine o_aload_n k198_29 rfl ?_
      refine o_gf k198_30 (gf_43_0 _) ?_
      refine o_iconst (v := 0) k198_33 (by decide) ?_
      refine o_iald k198_34 rfl ia_44 (by decide) ?_
      have h9 := Option.some.inj h
      subst h9
      exact o_iret pj_198 k198_35 rfl nr_i
    · rw [if_pos hc3] at h
      refine o_bipush (v := (-2)) k198_21 (by decide) ?_
      have h9 := Option.some.inj h
      subst h9
      exact o_iret pj_198 k198_23 rfl nr_i
  · rw [if_pos hc1] at h
    refine o_iconst (v := (-1)) k198_10 (by decide) ?_
    have h9 := Option.some.inj h
    subst h9
    exact o_iret pj_198 k198_11 rfl nr_i
def f_X0_isShapedLike_9_15 (M : am_M) : Int32 := (if (M 9 0) = (M 15 0) then (if (M 9 1) = (M 15 1) then (if (M 9 2) = (M 15 2) then 1 else 0) else 0) else 0)
set_option maxRecDepth 20000 in
theorem t_X0_isShapedLike_9_15 {LN : Nat} {xs : Nat → Int32} {M : am_M} {t : Int32} (h : f_X0_isShapedLike_9_15 M = t) : oo LN xs 0 0 30 0 [some (.ref 9), some (.ref 15)] [] M (some (.int t), M) := by
  unfold f_X0_isShapedLike_9_15 at h
  refine o_aload_n k30_0 rfl ?_
  refine o_gf k30_1 (gf_9_0 _) ?_
  refine o_aload_n k30_4 rfl ?_
  refine o_gf k30_5 (gf_15_0 _) ?_
  refine o_icmp_ne k30_8 (fun hc1 => ?_) (fun hc1 => ?_)
  · rw [if_neg hc1] at h
    refine o_iconst (v := 0) k30_37 (by decide) ?_
    subst h
    exact o_iret pj_30 k30_38 rfl (nr_z (by decide))
  · rw [if_pos hc1] at h
    refine o_aload_n k30_11 rfl ?_
    refine o_gf k30_12 (gf_9_1 _) ?_
    refine o_aload_n k30_15 rfl ?_
    refine o_gf k30_16 (gf_15_1 _) ?_
    refine o_icmp_ne k30_19 (fun hc2 => ?_) (fun hc2 => ?_)
    · rw [if_neg hc2] at h
      refine o_iconst (v := 0) k30_37 (by decide) ?_
      subst h
      exact o_iret pj_30 k30_38 rfl (nr_z (by decide))
    · rw [if_pos hc2] at h
      refine o_aload_n k30_22 rfl ?_
      refine o_gf k30_23 (gf_9_2 _) ?_
      refine o_aload_n k30_26 rfl ?_
      refine o_gf k30_27 (gf_15_2 _) ?_
      refine o_icmp_ne k30_30 (fun hc3 => ?_) (fun hc3 => ?_)
      · rw [if_neg hc3] at h
        refine o_iconst (v := 0) k30_37 (by decide) ?_
        subst h
        exact o_iret pj_30 k30_38 rfl (nr_z (by decide))
      · rw [if_pos hc3] at h
        refine o_iconst (v := 1) k30_33 (by decide) ?_
        refine o_goto k30_34 ?_
        subst h
        exact o_iret pj_30 k30_38 rfl (nr_z (by decide))
def f_X0_isOtherwise (a0 : Int32) (a1 : Int32) : Int32 := (if a0 = 2 then 0 else (if a1 = 2 then 0 else (if a0 = a1 then 0 else 1)))
set_option maxRecDepth 20000 in
theorem t_X0_isOtherwise {LN : Nat} {xs : Nat → Int32} {a0 : Int32} {a1 : Int32} {M : am_M} {t : Int32} (h : f_X0_isOtherwise a0 a1 = t) : oo LN xs 0 0 31 0 [some (.int a0), some (.int a1)] [] M (some (.int t), M) := by
  unfold f_X0_isOtherwise at h
  refine o_iload_n k31_0 rfl ?_
  refine o_iconst (v := 2) k31_1 (by decide) ?_
  refine o_icmp_eq k31_2 (fun hc1 => ?_) (fun hc1 => ?_)
  · rw [if_pos hc1] at h
    refine o_iconst (v := 0) k31_19 (by decide) ?_
    subst h
    exact o_iret pj_31 k31_20 rfl (nr_z (by decide))
  · rw [if_neg hc1] at h
    refine o_iload_n k31_5 rfl ?_
    refine o_iconst (v := 2) k31_6 (by decide) ?_
    refine o_icmp_eq k31_7 (fun hc2 => ?_) (fun hc2 => ?_)
    · rw [if_pos hc2] at h
      refine o_iconst (v := 0) k31_19 (by decide) ?_
      subst h
      exact o_iret pj_31 k31_20 rfl (nr_z (by decide))
    · rw [if_neg hc2] at h
      refine o_iload_n k31_10 rfl ?_
      refine o_iload_n k31_11 rfl ?_
      refine o_icmp_eq k31_12 (fun hc3 => ?_) (fun hc3 => ?_)
      · rw [if_pos hc3] at h
        refine o_iconst (v := 0) k31_19 (by decide) ?_
        subst h
        exact o_iret pj_31 k31_20 rfl (nr_z (by decide))
      · rw [if_neg hc3] at h
        refine o_iconst (v := 1) k31_15 (by decide) ?_
        refine o_goto k31_16 ?_
        subst h
        exact o_iret pj_31 k31_20 rfl (nr_z (by decide))
def f_X0_cellsOtherwise_9_15 (M : am_M) : Option Int32 := ((lp (σ := Int32 × Int32) (ρ := Int32 × Int32) (fun (s1 : Int32 × Int32) => match s1 with | (x2, x3) => (if (M 9 0) ≤ x3 then (some (.inr (x2, x3))) else ((lp (σ := Int32 × Int32) (ρ := Int32 × Int32) (fun (s6 : Int32 × Int32) => match s6 with | (x7, x8) => (if (M 9 1) ≤ x8 then (some (.inr (x7, x8))) else (if am_dbin (f_X0_at x3 x8) 64 = true then (if am_dbin (f_X0_at x3 x8) 64 = true then (if (f_X0_isOtherwise (M 10 (f_X0_at x3 x8).toNatClampNeg) (M 16 (f_X0_at x3 x8).toNatClampNeg)) = 0 then (some (.inl (x7, (x8 + 1)))) else (some (.inl ((x7 + 1), (x8 + 1))))) else none) else none))) lp_F (x2, 0)).bind (fun (s13 : Int32 × Int32) => match s13 with | (x14, x15) => (some (.inl (x14, (x3 + 1)))))))) lp_F (0, 0)).bind (fun (s16 : Int32 × Int32) => match s16 with | (x17, x18) => (some x17)))
set_option maxRecDepth 20000 in
theorem t_X0_cellsOtherwise_9_15 {LN : Nat} {xs : Nat → Int32} {M : am_M} {t : Int32} (h : f_X0_cellsOtherwise_9_15 M = some t) : oo LN xs 0 0 33 0 [some (.ref 9), some (.ref 15), none, none, none] [] M (some (.int t), M) := by
  unfold f_X0_cellsOtherwise_9_15 at h
  refine o_iconst (v := 0) k33_0 (by decide) ?_
  refine o_istore_n (v := 0) (L' := [some (.ref 9), some (.ref 15), some (.int 0), none, none]) k33_1 rfl rfl ?_
  refine o_iconst (v := 0) k33_2 (by decide) ?_
  refine o_istore_n (v := 0) (L' := [some (.ref 9), some (.ref 15), some (.int 0), some (.int 0), none]) k33_3 rfl rfl ?_
  refine bd_i h (fun s16 hs16 h => ?_)
  refine lp_o (fun (s1 : Int32 × Int32) => match s1 with | (x2, x3) => ∀ (d4 : Option (Int32 ⊕ Int64)), oo LN xs 0 0 33 4 [some (.ref 9), some (.ref 15), some (.int x2), some (.int x3), (d4.map dv)] [] M (some (.int t), M)) (fun (s16 : Int32 × Int32) => match s16 with | (x17, x18) => ∀ (d19 : Option (Int32 ⊕ Int64)), oo LN xs 0 0 33 67 [some (.ref 9), some (.ref 15), some (.int x17), some (.int x18), (d19.map dv)] [] M (some (.int t), M)) ?_ hs16 ?_ none
  · rintro ⟨x2, x3⟩ ws1 h hK
    dsimp only at h
    show ∀ (d4 : Option (Int32 ⊕ Int64)), oo LN xs 0 0 33 4 [some (.ref 9), some (.ref 15), some (.int x2), some (.int x3), (d4.map dv)] [] M (some (.int t), M)
    intro d4
    refine o_iload_n k33_4 rfl ?_
    refine o_aload_n k33_5 rfl ?_
    refine o_gf k33_6 (gf_9_0 _) ?_
    refine o_icmp_ge k33_9 (fun hc5 => ?_) (fun hc5 => ?_)
    · rw [if_pos hc5] at h
      have h9 := Option.some.inj h
      subst h9
      exact hK d4
    · rw [if_neg hc5] at h
      refine o_iconst (v := 0) k33_12 (by decide) ?_
      refine o_istore (v := 0) (L' := [some (.ref 9), some (.ref 15), some (.int x2), some (.int x3), some (.int 0)]) k33_13 rfl rfl ?_
      refine bd_i h (fun s13 hs13 h => ?_)
      refine lp_o (fun (s6 : Int32 × Int32) => match s6 with | (x7, x8) => oo LN xs 0 0 33 15 [some (.ref 9), some (.ref 15), some (.int x7), some (.int x3), some (.int x8)] [] M (some (.int t), M)) (fun (s13 : Int32 × Int32) => match s13 with | (x14, x15) => oo LN xs 0 0 33 61 [some (.ref 9), some (.ref 15), some (.int x14), some (.int x3), some (.int x15)] [] M (some (.int t), M)) ?_ hs13 ?_
      · rintro ⟨x7, x8⟩ ws6 h hK
        dsimp only at h
        show oo LN xs 0 0 33 15 [some (.ref 9), some (.ref 15), some (.int x7), some (.int x3), some (.int x8)] [] M (some (.int t), M)
        refine o_iload k33_15 rfl ?_
        refine o_aload_n k33_17 rfl ?_
        refine o_gf k33_18 (gf_9_1 _) ?_
        refine o_icmp_ge k33_21 (fun hc9 => ?_) (fun hc9 => ?_)
        · rw [if_pos hc9] at h
          have h9 := Option.some.inj h
          subst h9
          exact hK
        · rw [if_neg hc9] at h
          refine o_aload_n k33_24 rfl ?_
          refine o_gf k33_25 (gf_9_7 _) ?_
          refine o_iload_n k33_28 rfl ?_
          refine o_iload k33_29 rfl ?_
          refine o_call k33_31 pj_5 (fun _ => rfl) (by decide) rfl (as := [.int x3, .int x8]) (rest := [.ref 10]) rfl (L0 := [some (.int x3), some (.int x8)]) rfl (t_X0_at (M := M) (a0 := x3) (a1 := x8) rfl) ?_
          obtain ⟨hc10, h⟩ := ck_i h
          refine o_iald k33_34 rfl ia_10 hc10 ?_
          refine o_aload_n k33_35 rfl ?_
          refine o_gf k33_36 (gf_15_7 _) ?_
          refine o_iload_n k33_39 rfl ?_
          refine o_iload k33_40 rfl ?_
          refine o_call k33_42 pj_5 (fun _ => rfl) (by decide) rfl (as := [.int x3, .int x8]) (rest := [.ref 16, .int (M 10 (f_X0_at x3 x8).toNatClampNeg)]) rfl (L0 := [some (.int x3), some (.int x8)]) rfl (t_X0_at (M := M) (a0 := x3) (a1 := x8) rfl) ?_
          obtain ⟨hc11, h⟩ := ck_i h
          refine o_iald k33_45 rfl ia_16 hc11 ?_
          refine o_call k33_46 pj_31 (fun _ => rfl) (by decide) rfl (as := [.int (M 10 (f_X0_at x3 x8).toNatClampNeg), .int (M 16 (f_X0_at x3 x8).toNatClampNeg)]) (rest := []) rfl (L0 := [some (.int (M 10 (f_X0_at x3 x8).toNatClampNeg)), some (.int (M 16 (f_X0_at x3 x8).toNatClampNeg))]) rfl (t_X0_isOtherwise (M := M) (a0 := (M 10 (f_X0_at x3 x8).toNatClampNeg)) (a1 := (M 16 (f_X0_at x3 x8).toNatClampNeg)) rfl) ?_
          refine o_if_eq k33_49 (fun hc12 => ?_) (fun hc12 => ?_)
          · rw [if_pos hc12] at h
            refine o_iinc (k := 1) (L' := [some (.ref 9), some (.ref 15), some (.int x7), some (.int x3), some (.int (x8 + 1))]) k33_55 rfl (by decide) rfl ?_
            refine o_goto k33_58 ?_
            have h9 := Option.some.inj h
            subst h9
            exact hK
          · rw [if_neg hc12] at h
            refine o_iinc (k := 1) (L' := [some (.ref 9), some (.ref 15), some (.int (x7 + 1)), some (.int x3), some (.int x8)]) k33_52 rfl (by decide) rfl ?_
            refine o_iinc (k := 1) (L' := [some (.ref 9), some (.ref 15), some (.int (x7 + 1)), some (.int x3), some (.int (x8 + 1))]) k33_55 rfl (by decide) rfl ?_
            refine o_goto k33_58 ?_
            have h9 := Option.some.inj h
            subst h9
            exact hK
      · obtain ⟨x14, x15⟩ := s13
        show oo LN xs 0 0 33 61 [some (.ref 9), some (.ref 15), some (.int x14), some (.int x3), some (.int x15)] [] M (some (.int t), M)
        dsimp only at h
        refine o_iinc (k := 1) (L' := [some (.ref 9), some (.ref 15), some (.int x14), some (.int (x3 + 1)), some (.int x15)]) k33_61 rfl (by decide) rfl ?_
        refine o_goto k33_64 ?_
        have h9 := Option.some.inj h
        subst h9
        exact hK (some (.inl x15))
  · obtain ⟨x17, x18⟩ := s16
    show ∀ (d19 : Option (Int32 ⊕ Int64)), oo LN xs 0 0 33 67 [some (.ref 9), some (.ref 15), some (.int x17), some (.int x18), (d19.map dv)] [] M (some (.int t), M)
    dsimp only at h
    intro d19
    refine o_iload_n k33_67 rfl ?_
    have h9 := Option.some.inj h
    subst h9
    exact o_iret pj_33 k33_68 rfl nr_i
def f_X0_cellsOtherwise_9_20 (M : am_M) : Option Int32 := ((lp (σ := Int32 × Int32) (ρ := Int32 × Int32) (fun (s1 : Int32 × Int32) => match s1 with | (x2, x3) => (if (M 9 0) ≤ x3 then (some (.inr (x2, x3))) else ((lp (σ := Int32 × Int32) (ρ := Int32 × Int32) (fun (s6 : Int32 × Int32) => match s6 with | (x7, x8) => (if (M 9 1) ≤ x8 then (some (.inr (x7, x8))) else (if am_dbin (f_X0_at x3 x8) 64 = true then (if am_dbin (f_X0_at x3 x8) 64 = true then (if (f_X0_isOtherwise (M 10 (f_X0_at x3 x8).toNatClampNeg) (M 21 (f_X0_at x3 x8).toNatClampNeg)) = 0 then (some (.inl (x7, (x8 + 1)))) else (some (.inl ((x7 + 1), (x8 + 1))))) else none) else none))) lp_F (x2, 0)).bind (fun (s13 : Int32 × Int32) => match s13 with | (x14, x15) => (some (.inl (x14, (x3 + 1)))))))) lp_F (0, 0)).bind (fun (s16 : Int32 × Int32) => match s16 with | (x17, x18) => (some x17)))
set_option maxRecDepth 20000 in
theorem t_X0_cellsOtherwise_9_20 {LN : Nat} {xs : Nat → Int32} {M : am_M} {t : Int32} (h : f_X0_cellsOtherwise_9_20 M = some t) : oo LN xs 0 0 33 0 [some (.ref 9), some (.ref 20), none, none, none] [] M (some (.int t), M) := by
  unfold f_X0_cellsOtherwise_9_20 at h
  refine o_iconst (v := 0) k33_0 (by decide) ?_
  refine o_istore_n (v := 0) (L' := [some (.ref 9), some (.ref 20), some (.int 0), none, none]) k33_1 rfl rfl ?_
  refine o_iconst (v := 0) k33_2 (by decide) ?_
  refine o_istore_n (v := 0) (L' := [some (.ref 9), some (.ref 20), some (.int 0), some (.int 0), none]) k33_3 rfl rfl ?_
  refine bd_i h (fun s16 hs16 h => ?_)
  refine lp_o (fun (s1 : Int32 × Int32) => match s1 with | (x2, x3) => ∀ (d4 : Option (Int32 ⊕ Int64)), oo LN xs 0 0 33 4 [some (.ref 9), some (.ref 20), some (.int x2), some (.int x3), (d4.map dv)] [] M (some (.int t), M)) (fun (s16 : Int32 × Int32) => match s16 with | (x17, x18) => ∀ (d19 : Option (Int32 ⊕ Int64)), oo LN xs 0 0 33 67 [some (.ref 9), some (.ref 20), some (.int x17), some (.int x18), (d19.map dv)] [] M (some (.int t), M)) ?_ hs16 ?_ none
  · rintro ⟨x2, x3⟩ ws1 h hK
    dsimp only at h
    show ∀ (d4 : Option (Int32 ⊕ Int64)), oo LN xs 0 0 33 4 [some (.ref 9), some (.ref 20), some (.int x2), some (.int x3), (d4.map dv)] [] M (some (.int t), M)
    intro d4
    refine o_iload_n k33_4 rfl ?_
    refine o_aload_n k33_5 rfl ?_
    refine o_gf k33_6 (gf_9_0 _) ?_
    refine o_icmp_ge k33_9 (fun hc5 => ?_) (fun hc5 => ?_)
    · rw [if_pos hc5] at h
      have h9 := Option.some.inj h
      subst h9
      exact hK d4
    · rw [if_neg hc5] at h
      refine o_iconst (v := 0) k33_12 (by decide) ?_
      refine o_istore (v := 0) (L' := [some (.ref 9), some (.ref 20), some (.int x2), some (.int x3), some (.int 0)]) k33_13 rfl rfl ?_
      refine bd_i h (fun s13 hs13 h => ?_)
      refine lp_o (fun (s6 : Int32 × Int32) => match s6 with | (x7, x8) => oo LN xs 0 0 33 15 [some (.ref 9), some (.ref 20), some (.int x7), some (.int x3), some (.int x8)] [] M (some (.int t), M)) (fun (s13 : Int32 × Int32) => match s13 with | (x14, x15) => oo LN xs 0 0 33 61 [some (.ref 9), some (.ref 20), some (.int x14), some (.int x3), some (.int x15)] [] M (some (.int t), M)) ?_ hs13 ?_
      · rintro ⟨x7, x8⟩ ws6 h hK
        dsimp only at h
        show oo LN xs 0 0 33 15 [some (.ref 9), some (.ref 20), some (.int x7), some (.int x3), some (.int x8)] [] M (some (.int t), M)
        refine o_iload k33_15 rfl ?_
        refine o_aload_n k33_17 rfl ?_
        refine o_gf k33_18 (gf_9_1 _) ?_
        refine o_icmp_ge k33_21 (fun hc9 => ?_) (fun hc9 => ?_)
        · rw [if_pos hc9] at h
          have h9 := Option.some.inj h
          subst h9
          exact hK
        · rw [if_neg hc9] at h
          refine o_aload_n k33_24 rfl ?_
          refine o_gf k33_25 (gf_9_7 _) ?_
          refine o_iload_n k33_28 rfl ?_
          refine o_iload k33_29 rfl ?_
          refine o_call k33_31 pj_5 (fun _ => rfl) (by decide) rfl (as := [.int x3, .int x8]) (rest := [.ref 10]) rfl (L0 := [some (.int x3), some (.int x8)]) rfl (t_X0_at (M := M) (a0 := x3) (a1 := x8) rfl) ?_
          obtain ⟨hc10, h⟩ := ck_i h
          refine o_iald k33_34 rfl ia_10 hc10 ?_
          refine o_aload_n k33_35 rfl ?_
          refine o_gf k33_36 (gf_20_7 _) ?_
          refine o_iload_n k33_39 rfl ?_
          refine o_iload k33_40 rfl ?_
          refine o_call k33_42 pj_5 (fun _ => rfl) (by decide) rfl (as := [.int x3, .int x8]) (rest := [.ref 21, .int (M 10 (f_X0_at x3 x8).toNatClampNeg)]) rfl (L0 := [some (.int x3), some (.int x8)]) rfl (t_X0_at (M := M) (a0 := x3) (a1 := x8) rfl) ?_
          obtain ⟨hc11, h⟩ := ck_i h
          refine o_iald k33_45 rfl ia_21 hc11 ?_
          refine o_call k33_46 pj_31 (fun _ => rfl) (by decide) rfl (as := [.int (M 10 (f_X0_at x3 x8).toNatClampNeg), .int (M 21 (f_X0_at x3 x8).toNatClampNeg)]) (rest := []) rfl (L0 := [some (.int (M 10 (f_X0_at x3 x8).toNatClampNeg)), some (.int (M 21 (f_X0_at x3 x8).toNatClampNeg))]) rfl (t_X0_isOtherwise (M := M) (a0 := (M 10 (f_X0_at x3 x8).toNatClampNeg)) (a1 := (M 21 (f_X0_at x3 x8).toNatClampNeg)) rfl) ?_
          refine o_if_eq k33_49 (fun hc12 => ?_) (fun hc12 => ?_)
          · rw [if_pos hc12] at h
            refine o_iinc (k := 1) (L' := [some (.ref 9), some (.ref 20), some (.int x7), some (.int x3), some (.int (x8 + 1))]) k33_55 rfl (by decide) rfl ?_
            refine o_goto k33_58 ?_
            have h9 := Option.some.inj h
            subst h9
            exact hK
          · rw [if_neg hc12] at h
            refine o_iinc (k := 1) (L' := [some (.ref 9), some (.ref 20), some (.int (x7 + 1)), some (.int x3), some (.int x8)]) k33_52 rfl (by decide) rfl ?_
            refine o_iinc (k := 1) (L' := [some (.ref 9), some (.ref 20), some (.int (x7 + 1)), some (.int x3), some (.int (x8 + 1))]) k33_55 rfl (by decide) rfl ?_
            refine o_goto k33_58 ?_
            have h9 := Option.some.inj h
            subst h9
            exact hK
      · obtain ⟨x14, x15⟩ := s13
        show oo LN xs 0 0 33 61 [some (.ref 9), some (.ref 20), some (.int x14), some (.int x3), some (.int x15)] [] M (some (.int t), M)
        dsimp only at h
        refine o_iinc (k := 1) (L' := [some (.ref 9), some (.ref 20), some (.int x14), some (.int (x3 + 1)), some (.int x15)]) k33_61 rfl (by decide) rfl ?_
        refine o_goto k33_64 ?_
        have h9 := Option.some.inj h
        subst h9
        exact hK (some (.inl x15))
  · obtain ⟨x17, x18⟩ := s16
    show ∀ (d19 : Option (Int32 ⊕ Int64)), oo LN xs 0 0 33 67 [some (.ref 9), some (.ref 20), some (.int x17), some (.int x18), (d19.map dv)] [] M (some (.int t), M)
    dsimp only at h
    intro d19
    refine o_iload_n k33_67 rfl ?_
    have h9 := Option.some.inj h
    subst h9
    exact o_iret pj_33 k33_68 rfl nr_i
def f_X0_seenAt_15 (a0 : Int32) (a1 : Int32) (M : am_M) : Option Int32 := ((lp (σ := Int32 × Int32) (ρ := (Int32) ⊕ (Int32 × Int32)) (fun (s1 : Int32 × Int32) => match s1 with | (x2, x3) => (if (M 15 0) ≤ x3 then (some (.inr (.inr (x2, x3)))) else (if (f_X0_isIn x3 (M 15 3)) = 0 then (if am_dbin x3 8 = true then (if (f_X0_isIn a1 (M 18 x3.toNatClampNeg)) = 0 then (some (.inl (x2, (x3 + 1)))) else (if am_dbin (f_X0_at x3 a0) 64 = true then (if (M 16 (f_X0_at x3 a0).toNatClampNeg) = 2 then (some (.inr (.inl 2))) else (some (.inl ((x2 ^^^ (M 16 (f_X0_at x3 a0).toNatClampNeg)), (x3 + 1))))) else none)) else none) else (some (.inl (x2, (x3 + 1))))))) lp_F (0, 0)).bind (fun os11 => Sum.elim (fun u => (some u)) (fun (s11 : Int32 × Int32) => match s11 with | (x12, x13) => (some x12)) os11))
set_option maxRecDepth 20000 in
theorem t_X0_seenAt_15 {LN : Nat} {xs : Nat → Int32} {a0 : Int32} {a1 : Int32} {M : am_M} {t : Int32} (h : f_X0_seenAt_15 a0 a1 M = some t) : oo LN xs 0 0 16 0 [some (.ref 15), some (.int a0), some (.int a1), none, none, none] [] M (some (.int t), M) := by
  unfold f_X0_seenAt_15 at h
  refine o_iconst (v := 0) k16_0 (by decide) ?_
  refine o_istore_n (v := 0) (L' := [some (.ref 15), some (.int a0), some (.int a1), some (.int 0), none, none]) k16_1 rfl rfl ?_
  refine o_iconst (v := 0) k16_2 (by decide) ?_
  refine o_istore (v := 0) (L' := [some (.ref 15), some (.int a0), some (.int a1), some (.int 0), some (.int 0), none]) k16_3 rfl rfl ?_
  refine bd_i h (fun Os11 hOs11 h => ?_)
  refine lp_o (fun (s1 : Int32 × Int32) => match s1 with | (x2, x3) => ∀ (d4 : Option (Int32 ⊕ Int64)), oo LN xs 0 0 16 5 [some (.ref 15), some (.int a0), some (.int a1), some (.int x2), some (.int x3), (d4.map dv)] [] M (some (.int t), M)) (fun oq => Sum.elim (fun u => u = t) (fun (s11 : Int32 × Int32) => match s11 with | (x12, x13) => ∀ (d14 : Option (Int32 ⊕ Int64)), oo LN xs 0 0 16 72 [some (.ref 15), some (.int a0), some (.int a1), some (.int x12), some (.int x13), (d14.map dv)] [] M (some (.int t), M)) oq) ?_ hOs11 ?_ none
  · rintro ⟨x2, x3⟩ ws1 h hK
    dsimp only at h
    show ∀ (d4 : Option (Int32 ⊕ Int64)), oo LN xs 0 0 16 5 [some (.ref 15), some (.int a0), some (.int a1), some (.int x2), some (.int x3), (d4.map dv)] [] M (some (.int t), M)
    intro d4
    refine o_iload k16_5 rfl ?_
    refine o_aload_n k16_7 rfl ?_
    refine o_gf k16_8 (gf_15_0 _) ?_
    refine o_icmp_ge k16_11 (fun hc5 => ?_) (fun hc5 => ?_)
    · rw [if_pos hc5] at h
      have h9 := Option.some.inj h
      subst h9
      exact hK d4
    · rw [if_neg hc5] at h
      refine o_iload k16_14 rfl ?_
      refine o_aload_n k16_16 rfl ?_
      refine o_gf k16_17 (gf_15_3 _) ?_
      refine o_call k16_20 pj_6 (fun _ => rfl) (by decide) (by rcases d4 with _ | (x | x) <;> rfl) (as := [.int x3, .int (M 15 3)]) (rest := []) rfl (L0 := [some (.int x3), some (.int (M 15 3))]) rfl (t_X0_isIn (M := M) (a0 := x3) (a1 := (M 15 3)) rfl) ?_
      refine o_if_ne k16_23 (fun hc6 => ?_) (fun hc6 => ?_)
      · rw [if_neg hc6] at h
        refine o_iinc (k := 1) (L' := [some (.ref 15), some (.int a0), some (.int a1), some (.int x2), some (.int (x3 + 1)), (d4.map dv)]) k16_66 rfl (by decide) rfl ?_
        refine o_goto k16_69 ?_
        have h9 := Option.some.inj h
        subst h9
        exact hK d4
      · rw [if_pos hc6] at h
        refine o_iload_n k16_26 rfl ?_
        refine o_aload_n k16_27 rfl ?_
        refine o_gf k16_28 (gf_15_9 _) ?_
        refine o_iload k16_31 rfl ?_
        obtain ⟨hc7, h⟩ := ck_i h
        refine o_iald k16_33 rfl ia_18 hc7 ?_
        refine o_call k16_34 pj_6 (fun _ => rfl) (by decide) (by rcases d4 with _ | (x | x) <;> rfl) (as := [.int a1, .int (M 18 x3.toNatClampNeg)]) (rest := []) rfl (L0 := [some (.int a1), some (.int (M 18 x3.toNatClampNeg))]) rfl (t_X0_isIn (M := M) (a0 := a1) (a1 := (M 18 x3.toNatClampNeg)) rfl) ?_
        refine o_if_eq k16_37 (fun hc8 => ?_) (fun hc8 => ?_)
        · rw [if_pos hc8] at h
          refine o_iinc (k := 1) (L' := [some (.ref 15), some (.int a0), some (.int a1), some (.int x2), some (.int (x3 + 1)), (d4.map dv)]) k16_66 rfl (by decide) rfl ?_
          refine o_goto k16_69 ?_
          have h9 := Option.some.inj h
          subst h9
          exact hK d4
        · rw [if_neg hc8] at h
          refine o_aload_n k16_40 rfl ?_
          refine o_gf k16_41 (gf_15_7 _) ?_
          refine o_iload k16_44 rfl ?_
          refine o_iload_n k16_46 rfl ?_
          refine o_call k16_47 pj_5 (fun _ => rfl) (by decide) (by rcases d4 with _ | (x | x) <;> rfl) (as := [.int x3, .int a0]) (rest := [.ref 16]) rfl (L0 := [some (.int x3), some (.int a0)]) rfl (t_X0_at (M := M) (a0 := x3) (a1 := a0) rfl) ?_
          obtain ⟨hc9, h⟩ := ck_i h
          refine o_iald k16_50 rfl ia_16 hc9 ?_
          refine o_istore (v := (M 16 (f_X0_at x3 a0).toNatClampNeg)) (L' := [some (.ref 15), some (.int a0), some (.int a1), some (.int x2), some (.int x3), some (.int (M 16 (f_X0_at x3 a0).toNatClampNeg))]) k16_51 rfl rfl ?_
          refine o_iload k16_53 rfl ?_
          refine o_iconst (v := 2) k16_55 (by decide) ?_
          refine o_icmp_ne k16_56 (fun hc10 => ?_) (fun hc10 => ?_)
          · rw [if_neg hc10] at h
            refine o_iload_n k16_61 rfl ?_
            refine o_iload k16_62 rfl ?_
            refine o_ixor k16_64 ?_
            refine o_istore_n (v := (x2 ^^^ (M 16 (f_X0_at x3 a0).toNatClampNeg))) (L' := [some (.ref 15), some (.int a0), some (.int a1), some (.int (x2 ^^^ (M 16 (f_X0_at x3 a0).toNatClampNeg))), some (.int x3), some (.int (M 16 (f_X0_at x3 a0).toNatClampNeg))]) k16_65 rfl rfl ?_
            refine o_iinc (k := 1) (L' := [some (.ref 15), some (.int a0), some (.int a1), some (.int (x2 ^^^ (M 16 (f_X0_at x3 a0).toNatClampNeg))), some (.int (x3 + 1)), some (.int (M 16 (f_X0_at x3 a0).toNatClampNeg))]) k16_66 rfl (by decide) rfl ?_
            refine o_goto k16_69 ?_
            have h9 := Option.some.inj h
            subst h9
            exact hK (some (.inl (M 16 (f_X0_at x3 a0).toNatClampNeg)))
          · rw [if_pos hc10] at h
            refine o_iconst (v := 2) k16_59 (by decide) ?_
            have h9 := Option.some.inj h
            subst h9
            have hK2 : 2 = t := hK
            subst hK2
            exact o_iret pj_16 k16_60 rfl nr_i
  · rcases Os11 with u | ⟨x12, x13⟩
    · exact Option.some.inj h
    · show ∀ (d14 : Option (Int32 ⊕ Int64)), oo LN xs 0 0 16 72 [some (.ref 15), some (.int a0), some (.int a1), some (.int x12), some (.int x13), (d14.map dv)] [] M (some (.int t), M)
      rw [el_r] at h
      dsimp only at h
      intro d14
      refine o_iload_n k16_72 rfl ?_
      have h9 := Option.some.inj h
      subst h9
      exact o_iret pj_16 k16_73 rfl nr_i
def f_X0_seenOtherwise_9_15 (M : am_M) : Option Int32 := ((lp (σ := Int32 × Int32) (ρ := Int32 × Int32) (fun (s1 : Int32 × Int32) => match s1 with | (x2, x3) => (if (M 9 1) ≤ x3 then (some (.inr (x2, x3))) else ((lp (σ := Int32 × Int32) (ρ := Int32 × Int32) (fun (s6 : Int32 × Int32) => match s6 with | (x7, x8) => (if (M 9 2) ≤ x8 then (some (.inr (x7, x8))) else ((f_X0_seenAt_9 x3 x8 M).bind (fun v10 => ((f_X0_seenAt_15 x3 x8 M).bind (fun v11 => (if (f_X0_isOtherwise v10 v11) = 0 then (some (.inl (x7, (x8 + 1)))) else (some (.inl ((x7 + 1), (x8 + 1))))))))))) lp_F (x2, 0)).bind (fun (s13 : Int32 × Int32) => match s13 with | (x14, x15) => (some (.inl (x14, (x3 + 1)))))))) lp_F (0, 0)).bind (fun (s16 : Int32 × Int32) => match s16 with | (x17, x18) => (some x17)))
set_option maxRecDepth 20000 in
theorem t_X0_seenOtherwise_9_15 {LN : Nat} {xs : Nat → Int32} {M : am_M} {t : Int32} (h : f_X0_seenOtherwise_9_15 M = some t) : oo LN xs 0 0 32 0 [some (.ref 9), some (.ref 15), none, none, none] [] M (some (.int t), M) := by
  unfold f_X0_seenOtherwise_9_15 at h
  refine o_iconst (v := 0) k32_0 (by decide) ?_
  refine o_istore_n (v := 0) (L' := [some (.ref 9), some (.ref 15), some (.int 0), none, none]) k32_1 rfl rfl ?_
  refine o_iconst (v := 0) k32_2 (by decide) ?_
  refine o_istore_n (v := 0) (L' := [some (.ref 9), some (.ref 15), some (.int 0), some (.int 0), none]) k32_3 rfl rfl ?_
  refine bd_i h (fun s16 hs16 h => ?_)
  refine lp_o (fun (s1 : Int32 × Int32) => match s1 with | (x2, x3) => ∀ (d4 : Option (Int32 ⊕ Int64)), oo LN xs 0 0 32 4 [some (.ref 9), some (.ref 15), some (.int x2), some (.int x3), (d4.map dv)] [] M (some (.int t), M)) (fun (s16 : Int32 × Int32) => match s16 with | (x17, x18) => ∀ (d19 : Option (Int32 ⊕ Int64)), oo LN xs 0 0 32 59 [some (.ref 9), some (.ref 15), some (.int x17), some (.int x18), (d19.map dv)] [] M (some (.int t), M)) ?_ hs16 ?_ none
  · rintro ⟨x2, x3⟩ ws1 h hK
    dsimp only at h
    show ∀ (d4 : Option (Int32 ⊕ Int64)), oo LN xs 0 0 32 4 [some (.ref 9), some (.ref 15), some (.int x2), some (.int x3), (d4.map dv)] [] M (some (.int t), M)
    intro d4
    refine o_iload_n k32_4 rfl ?_
    refine o_aload_n k32_5 rfl ?_
    refine o_gf k32_6 (gf_9_1 _) ?_
    refine o_icmp_ge k32_9 (fun hc5 => ?_) (fun hc5 => ?_)
    · rw [if_pos hc5] at h
      have h9 := Option.some.inj h
      subst h9
      exact hK d4
    · rw [if_neg hc5] at h
      refine o_iconst (v := 0) k32_12 (by decide) ?_
      refine o_istore (v := 0) (L' := [some (.ref 9), some (.ref 15), some (.int x2), some (.int x3), some (.int 0)]) k32_13 rfl rfl ?_
      refine bd_i h (fun s13 hs13 h => ?_)
      refine lp_o (fun (s6 : Int32 × Int32) => match s6 with | (x7, x8) => oo LN xs 0 0 32 15 [some (.ref 9), some (.ref 15), some (.int x7), some (.int x3), some (.int x8)] [] M (some (.int t), M)) (fun (s13 : Int32 × Int32) => match s13 with | (x14, x15) => oo LN xs 0 0 32 53 [some (.ref 9), some (.ref 15), some (.int x14), some (.int x3), some (.int x15)] [] M (some (.int t), M)) ?_ hs13 ?_
      · rintro ⟨x7, x8⟩ ws6 h hK
        dsimp only at h
        show oo LN xs 0 0 32 15 [some (.ref 9), some (.ref 15), some (.int x7), some (.int x3), some (.int x8)] [] M (some (.int t), M)
        refine o_iload k32_15 rfl ?_
        refine o_aload_n k32_17 rfl ?_
        refine o_gf k32_18 (gf_9_2 _) ?_
        refine o_icmp_ge k32_21 (fun hc9 => ?_) (fun hc9 => ?_)
        · rw [if_pos hc9] at h
          have h9 := Option.some.inj h
          subst h9
          exact hK
        · rw [if_neg hc9] at h
          refine o_aload_n k32_24 rfl ?_
          refine o_iload_n k32_25 rfl ?_
          refine o_iload k32_26 rfl ?_
          refine bd_i h (fun v10 hv10 h => ?_)
          refine o_call k32_28 pj_16 (fun _ => rfl) (by decide) rfl (as := [.ref 9, .int x3, .int x8]) (rest := []) rfl (L0 := [some (.ref 9), some (.int x3), some (.int x8), none, none, none]) rfl (t_X0_seenAt_9 hv10) ?_
          refine o_aload_n k32_31 rfl ?_
          refine o_iload_n k32_32 rfl ?_
          refine o_iload k32_33 rfl ?_
          refine bd_i h (fun v11 hv11 h => ?_)
          refine o_call k32_35 pj_16 (fun _ => rfl) (by decide) rfl (as := [.ref 15, .int x3, .int x8]) (rest := [.int v10]) rfl (L0 := [some (.ref 15), some (.int x3), some (.int x8), none, none, none]) rfl (t_X0_seenAt_15 hv11) ?_
          refine o_call k32_38 pj_31 (fun _ => rfl) (by decide) rfl (as := [.int v10, .int v11]) (rest := []) rfl (L0 := [some (.int v10), some (.int v11)]) rfl (t_X0_isOtherwise (M := M) (a0 := v10) (a1 := v11) rfl) ?_
          refine o_if_eq k32_41 (fun hc12 => ?_) (fun hc12 => ?_)
          · rw [if_pos hc12] at h
            refine o_iinc (k := 1) (L' := [some (.ref 9), some (.ref 15), some (.int x7), some (.int x3), some (.int (x8 + 1))]) k32_47 rfl (by decide) rfl ?_
            refine o_goto k32_50 ?_
            have h9 := Option.some.inj h
            subst h9
            exact hK
          · rw [if_neg hc12] at h
            refine o_iinc (k := 1) (L' := [some (.ref 9), some (.ref 15), some (.int (x7 + 1)), some (.int x3), some (.int x8)]) k32_44 rfl (by decide) rfl ?_
            refine o_iinc (k := 1) (L' := [some (.ref 9), some (.ref 15), some (.int (x7 + 1)), some (.int x3), some (.int (x8 + 1))]) k32_47 rfl (by decide) rfl ?_
            refine o_goto k32_50 ?_
            have h9 := Option.some.inj h
            subst h9
            exact hK
      · obtain ⟨x14, x15⟩ := s13
        show oo LN xs 0 0 32 53 [some (.ref 9), some (.ref 15), some (.int x14), some (.int x3), some (.int x15)] [] M (some (.int t), M)
        dsimp only at h
        refine o_iinc (k := 1) (L' := [some (.ref 9), some (.ref 15), some (.int x14), some (.int (x3 + 1)), some (.int x15)]) k32_53 rfl (by decide) rfl ?_
        refine o_goto k32_56 ?_
        have h9 := Option.some.inj h
        subst h9
        exact hK (some (.inl x15))
  · obtain ⟨x17, x18⟩ := s16
    show ∀ (d19 : Option (Int32 ⊕ Int64)), oo LN xs 0 0 32 59 [some (.ref 9), some (.ref 15), some (.int x17), some (.int x18), (d19.map dv)] [] M (some (.int t), M)
    dsimp only at h
    intro d19
    refine o_iload_n k32_59 rfl ?_
    have h9 := Option.some.inj h
    subst h9
    exact o_iret pj_32 k32_60 rfl nr_i
def f_X0_seenAt_20 (a0 : Int32) (a1 : Int32) (M : am_M) : Option Int32 := ((lp (σ := Int32 × Int32) (ρ := (Int32) ⊕ (Int32 × Int32)) (fun (s1 : Int32 × Int32) => match s1 with | (x2, x3) => (if (M 20 0) ≤ x3 then (some (.inr (.inr (x2, x3)))) else (if (f_X0_isIn x3 (M 20 3)) = 0 then (if am_dbin x3 8 = true then (if (f_X0_isIn a1 (M 23 x3.toNatClampNeg)) = 0 then (some (.inl (x2, (x3 + 1)))) else (if am_dbin (f_X0_at x3 a0) 64 = true then (if (M 21 (f_X0_at x3 a0).toNatClampNeg) = 2 then (some (.inr (.inl 2))) else (some (.inl ((x2 ^^^ (M 21 (f_X0_at x3 a0).toNatClampNeg)), (x3 + 1))))) else none)) else none) else (some (.inl (x2, (x3 + 1))))))) lp_F (0, 0)).bind (fun os11 => Sum.elim (fun u => (some u)) (fun (s11 : Int32 × Int32) => match s11 with | (x12, x13) => (some x12)) os11))
set_option maxRecDepth 20000 in
theorem t_X0_seenAt_20 {LN : Nat} {xs : Nat → Int32} {a0 : Int32} {a1 : Int32} {M : am_M} {t : Int32} (h : f_X0_seenAt_20 a0 a1 M = some t) : oo LN xs 0 0 16 0 [some (.ref 20), some (.int a0), some (.int a1), none, none, none] [] M (some (.int t), M) := by
  unfold f_X0_seenAt_20 at h
  refine o_iconst (v := 0) k16_0 (by decide) ?_
  refine o_istore_n (v := 0) (L' := [some (.ref 20), some (.int a0), some (.int a1), some (.int 0), none, none]) k16_1 rfl rfl ?_
  refine o_iconst (v := 0) k16_2 (by decide) ?_
  refine o_istore (v := 0) (L' := [some (.ref 20), some (.int a0), some (.int a1), some (.int 0), some (.int 0), none]) k16_3 rfl rfl ?_
  refine bd_i h (fun Os11 hOs11 h => ?_)
  refine lp_o (fun (s1 : Int32 × Int32) => match s1 with | (x2, x3) => ∀ (d4 : Option (Int32 ⊕ Int64)), oo LN xs 0 0 16 5 [some (.ref 20), some (.int a0), some (.int a1), some (.int x2), some (.int x3), (d4.map dv)] [] M (some (.int t), M)) (fun oq => Sum.elim (fun u => u = t) (fun (s11 : Int32 × Int32) => match s11 with | (x12, x13) => ∀ (d14 : Option (Int32 ⊕ Int64)), oo LN xs 0 0 16 72 [some (.ref 20), some (.int a0), some (.int a1), some (.int x12), some (.int x13), (d14.map dv)] [] M (some (.int t), M)) oq) ?_ hOs11 ?_ none
  · rintro ⟨x2, x3⟩ ws1 h hK
    dsimp only at h
    show ∀ (d4 : Option (Int32 ⊕ Int64)), oo LN xs 0 0 16 5 [some (.ref 20), some (.int a0), some (.int a1), some (.int x2), some (.int x3), (d4.map dv)] [] M (some (.int t), M)
    intro d4
    refine o_iload k16_5 rfl ?_
    refine o_aload_n k16_7 rfl ?_
    refine o_gf k16_8 (gf_20_0 _) ?_
    refine o_icmp_ge k16_11 (fun hc5 => ?_) (fun hc5 => ?_)
    · rw [if_pos hc5] at h
      have h9 := Option.some.inj h
      subst h9
      exact hK d4
    · rw [if_neg hc5] at h
      refine o_iload k16_14 rfl ?_
      refine o_aload_n k16_16 rfl ?_
      refine o_gf k16_17 (gf_20_3 _) ?_
      refine o_call k16_20 pj_6 (fun _ => rfl) (by decide) (by rcases d4 with _ | (x | x) <;> rfl) (as := [.int x3, .int (M 20 3)]) (rest := []) rfl (L0 := [some (.int x3), some (.int (M 20 3))]) rfl (t_X0_isIn (M := M) (a0 := x3) (a1 := (M 20 3)) rfl) ?_
      refine o_if_ne k16_23 (fun hc6 => ?_) (fun hc6 => ?_)
      · rw [if_neg hc6] at h
        refine o_iinc (k := 1) (L' := [some (.ref 20), some (.int a0), some (.int a1), some (.int x2), some (.int (x3 + 1)), (d4.map dv)]) k16_66 rfl (by decide) rfl ?_
        refine o_goto k16_69 ?_
        have h9 := Option.some.inj h
        subst h9
        exact hK d4
      · rw [if_pos hc6] at h
        refine o_iload_n k16_26 rfl ?_
        refine o_aload_n k16_27 rfl ?_
        refine o_gf k16_28 (gf_20_9 _) ?_
        refine o_iload k16_31 rfl ?_
        obtain ⟨hc7, h⟩ := ck_i h
        refine o_iald k16_33 rfl ia_23 hc7 ?_
        refine o_call k16_34 pj_6 (fun _ => rfl) (by decide) (by rcases d4 with _ | (x | x) <;> rfl) (as := [.int a1, .int (M 23 x3.toNatClampNeg)]) (rest := []) rfl (L0 := [some (.int a1), some (.int (M 23 x3.toNatClampNeg))]) rfl (t_X0_isIn (M := M) (a0 := a1) (a1 := (M 23 x3.toNatClampNeg)) rfl) ?_
        refine o_if_eq k16_37 (fun hc8 => ?_) (fun hc8 => ?_)
        · rw [if_pos hc8] at h
          refine o_iinc (k := 1) (L' := [some (.ref 20), some (.int a0), some (.int a1), some (.int x2), some (.int (x3 + 1)), (d4.map dv)]) k16_66 rfl (by decide) rfl ?_
          refine o_goto k16_69 ?_
          have h9 := Option.some.inj h
          subst h9
          exact hK d4
        · rw [if_neg hc8] at h
          refine o_aload_n k16_40 rfl ?_
          refine o_gf k16_41 (gf_20_7 _) ?_
          refine o_iload k16_44 rfl ?_
          refine o_iload_n k16_46 rfl ?_
          refine o_call k16_47 pj_5 (fun _ => rfl) (by decide) (by rcases d4 with _ | (x | x) <;> rfl) (as := [.int x3, .int a0]) (rest := [.ref 21]) rfl (L0 := [some (.int x3), some (.int a0)]) rfl (t_X0_at (M := M) (a0 := x3) (a1 := a0) rfl) ?_
          obtain ⟨hc9, h⟩ := ck_i h
          refine o_iald k16_50 rfl ia_21 hc9 ?_
          refine o_istore (v := (M 21 (f_X0_at x3 a0).toNatClampNeg)) (L' := [some (.ref 20), some (.int a0), some (.int a1), some (.int x2), some (.int x3), some (.int (M 21 (f_X0_at x3 a0).toNatClampNeg))]) k16_51 rfl rfl ?_
          refine o_iload k16_53 rfl ?_
          refine o_iconst (v := 2) k16_55 (by decide) ?_
          refine o_icmp_ne k16_56 (fun hc10 => ?_) (fun hc10 => ?_)
          · rw [if_neg hc10] at h
            refine o_iload_n k16_61 rfl ?_
            refine o_iload k16_62 rfl ?_
            refine o_ixor k16_64 ?_
            refine o_istore_n (v := (x2 ^^^ (M 21 (f_X0_at x3 a0).toNatClampNeg))) (L' := [some (.ref 20), some (.int a0), some (.int a1), some (.int (x2 ^^^ (M 21 (f_X0_at x3 a0).toNatClampNeg))), some (.int x3), some (.int (M 21 (f_X0_at x3 a0).toNatClampNeg))]) k16_65 rfl rfl ?_
            refine o_iinc (k := 1) (L' := [some (.ref 20), some (.int a0), some (.int a1), some (.int (x2 ^^^ (M 21 (f_X0_at x3 a0).toNatClampNeg))), some (.int (x3 + 1)), some (.int (M 21 (f_X0_at x3 a0).toNatClampNeg))]) k16_66 rfl (by decide) rfl ?_
            refine o_goto k16_69 ?_
            have h9 := Option.some.inj h
            subst h9
            exact hK (some (.inl (M 21 (f_X0_at x3 a0).toNatClampNeg)))
          · rw [if_pos hc10] at h
            refine o_iconst (v := 2) k16_59 (by decide) ?_
            have h9 := Option.some.inj h
            subst h9
            have hK2 : 2 = t := hK
            subst hK2
            exact o_iret pj_16 k16_60 rfl nr_i
  · rcases Os11 with u | ⟨x12, x13⟩
    · exact Option.some.inj h
    · show ∀ (d14 : Option (Int32 ⊕ Int64)), oo LN xs 0 0 16 72 [some (.ref 20), some (.int a0), some (.int a1), some (.int x12), some (.int x13), (d14.map dv)] [] M (some (.int t), M)
      rw [el_r] at h
      dsimp only at h
      intro d14
      refine o_iload_n k16_72 rfl ?_
      have h9 := Option.some.inj h
      subst h9
      exact o_iret pj_16 k16_73 rfl nr_i
def f_X0_seenOtherwise_9_20 (M : am_M) : Option Int32 := ((lp (σ := Int32 × Int32) (ρ := Int32 × Int32) (fun (s1 : Int32 × Int32) => match s1 with | (x2, x3) => (if (M 9 1) ≤ x3 then (some (.inr (x2, x3))) else ((lp (σ := Int32 × Int32) (ρ := Int32 × Int32) (fun (s6 : Int32 × Int32) => match s6 with | (x7, x8) => (if (M 9 2) ≤ x8 then (some (.inr (x7, x8))) else ((f_X0_seenAt_9 x3 x8 M).bind (fun v10 => ((f_X0_seenAt_20 x3 x8 M).bind (fun v11 => (if (f_X0_isOtherwise v10 v11) = 0 then (some (.inl (x7, (x8 + 1)))) else (some (.inl ((x7 + 1), (x8 + 1))))))))))) lp_F (x2, 0)).bind (fun (s13 : Int32 × Int32) => match s13 with | (x14, x15) => (some (.inl (x14, (x3 + 1)))))))) lp_F (0, 0)).bind (fun (s16 : Int32 × Int32) => match s16 with | (x17, x18) => (some x17)))
set_option maxRecDepth 20000 in
theorem t_X0_seenOtherwise_9_20 {LN : Nat} {xs : Nat → Int32} {M : am_M} {t : Int32} (h : f_X0_seenOtherwise_9_20 M = some t) : oo LN xs 0 0 32 0 [some (.ref 9), some (.ref 20), none, none, none] [] M (some (.int t), M) := by
  unfold f_X0_seenOtherwise_9_20 at h
  refine o_iconst (v := 0) k32_0 (by decide) ?_
  refine o_istore_n (v := 0) (L' := [some (.ref 9), some (.ref 20), some (.int 0), none, none]) k32_1 rfl rfl ?_
  refine o_iconst (v := 0) k32_2 (by decide) ?_
  refine o_istore_n (v := 0) (L' := [some (.ref 9), some (.ref 20), some (.int 0), some (.int 0), none]) k32_3 rfl rfl ?_
  refine bd_i h (fun s16 hs16 h => ?_)
  refine lp_o (fun (s1 : Int32 × Int32) => match s1 with | (x2, x3) => ∀ (d4 : Option (Int32 ⊕ Int64)), oo LN xs 0 0 32 4 [some (.ref 9), some (.ref 20), some (.int x2), some (.int x3), (d4.map dv)] [] M (some (.int t), M)) (fun (s16 : Int32 × Int32) => match s16 with | (x17, x18) => ∀ (d19 : Option (Int32 ⊕ Int64)), oo LN xs 0 0 32 59 [some (.ref 9), some (.ref 20), some (.int x17), some (.int x18), (d19.map dv)] [] M (some (.int t), M)) ?_ hs16 ?_ none
  · rintro ⟨x2, x3⟩ ws1 h hK
    dsimp only at h
    show ∀ (d4 : Option (Int32 ⊕ Int64)), oo LN xs 0 0 32 4 [some (.ref 9), some (.ref 20), some (.int x2), some (.int x3), (d4.map dv)] [] M (some (.int t), M)
    intro d4
    refine o_iload_n k32_4 rfl ?_
    refine o_aload_n k32_5 rfl ?_
    refine o_gf k32_6 (gf_9_1 _) ?_
    refine o_icmp_ge k32_9 (fun hc5 => ?_) (fun hc5 => ?_)
    · rw [if_pos hc5] at h
      have h9 := Option.some.inj h
      subst h9
      exact hK d4
    · rw [if_neg hc5] at h
      refine o_iconst (v := 0) k32_12 (by decide) ?_
      refine o_istore (v := 0) (L' := [some (.ref 9), some (.ref 20), some (.int x2), some (.int x3), some (.int 0)]) k32_13 rfl rfl ?_
      refine bd_i h (fun s13 hs13 h => ?_)
      refine lp_o (fun (s6 : Int32 × Int32) => match s6 with | (x7, x8) => oo LN xs 0 0 32 15 [some (.ref 9), some (.ref 20), some (.int x7), some (.int x3), some (.int x8)] [] M (some (.int t), M)) (fun (s13 : Int32 × Int32) => match s13 with | (x14, x15) => oo LN xs 0 0 32 53 [some (.ref 9), some (.ref 20), some (.int x14), some (.int x3), some (.int x15)] [] M (some (.int t), M)) ?_ hs13 ?_
      · rintro ⟨x7, x8⟩ ws6 h hK
        dsimp only at h
        show oo LN xs 0 0 32 15 [some (.ref 9), some (.ref 20), some (.int x7), some (.int x3), some (.int x8)] [] M (some (.int t), M)
        refine o_iload k32_15 rfl ?_
        refine o_aload_n k32_17 rfl ?_
        refine o_gf k32_18 (gf_9_2 _) ?_
        refine o_icmp_ge k32_21 (fun hc9 => ?_) (fun hc9 => ?_)
        · rw [if_pos hc9] at h
          have h9 := Option.some.inj h
          subst h9
          exact hK
        · rw [if_neg hc9] at h
          refine o_aload_n k32_24 rfl ?_
          refine o_iload_n k32_25 rfl ?_
          refine o_iload k32_26 rfl ?_
          refine bd_i h (fun v10 hv10 h => ?_)
          refine o_call k32_28 pj_16 (fun _ => rfl) (by decide) rfl (as := [.ref 9, .int x3, .int x8]) (rest := []) rfl (L0 := [some (.ref 9), some (.int x3), some (.int x8), none, none, none]) rfl (t_X0_seenAt_9 hv10) ?_
          refine o_aload_n k32_31 rfl ?_
          refine o_iload_n k32_32 rfl ?_
          refine o_iload k32_33 rfl ?_
          refine bd_i h (fun v11 hv11 h => ?_)
          refine o_call k32_35 pj_16 (fun _ => rfl) (by decide) rfl (as := [.ref 20, .int x3, .int x8]) (rest := [.int v10]) rfl (L0 := [some (.ref 20), some (.int x3), some (.int x8), none, none, none]) rfl (t_X0_seenAt_20 hv11) ?_
          refine o_call k32_38 pj_31 (fun _ => rfl) (by decide) rfl (as := [.int v10, .int v11]) (rest := []) rfl (L0 := [some (.int v10), some (.int v11)]) rfl (t_X0_isOtherwise (M := M) (a0 := v10) (a1 := v11) rfl) ?_
          refine o_if_eq k32_41 (fun hc12 => ?_) (fun hc12 => ?_)
          · rw [if_pos hc12] at h
            refine o_iinc (k := 1) (L' := [some (.ref 9), some (.ref 20), some (.int x7), some (.int x3), some (.int (x8 + 1))]) k32_47 rfl (by decide) rfl ?_
            refine o_goto k32_50 ?_
            have h9 := Option.some.inj h
            subst h9
            exact hK
          · rw [if_neg hc12] at h
            refine o_iinc (k := 1) (L' := [some (.ref 9), some (.ref 20), some (.int (x7 + 1)), some (.int x3), some (.int x8)]) k32_44 rfl (by decide) rfl ?_
            refine o_iinc (k := 1) (L' := [some (.ref 9), some (.ref 20), some (.int (x7 + 1)), some (.int x3), some (.int (x8 + 1))]) k32_47 rfl (by decide) rfl ?_
            refine o_goto k32_50 ?_
            have h9 := Option.some.inj h
            subst h9
            exact hK
      · obtain ⟨x14, x15⟩ := s13
        show oo LN xs 0 0 32 53 [some (.ref 9), some (.ref 20), some (.int x14), some (.int x3), some (.int x15)] [] M (some (.int t), M)
        dsimp only at h
        refine o_iinc (k := 1) (L' := [some (.ref 9), some (.ref 20), some (.int x14), some (.int (x3 + 1)), some (.int x15)]) k32_53 rfl (by decide) rfl ?_
        refine o_goto k32_56 ?_
        have h9 := Option.some.inj h
        subst h9
        exact hK (some (.inl x15))
  · obtain ⟨x17, x18⟩ := s16
    show ∀ (d19 : Option (Int32 ⊕ Int64)), oo LN xs 0 0 32 59 [some (.ref 9), some (.ref 20), some (.int x17), some (.int x18), (d19.map dv)] [] M (some (.int t), M)
    dsimp only at h
    intro d19
    refine o_iload_n k32_59 rfl ?_
    have h9 := Option.some.inj h
    subst h9
    exact o_iret pj_32 k32_60 rfl nr_i
def f_X0_isShapedLike_9_20 (M : am_M) : Int32 := (if (M 9 0) = (M 20 0) then (if (M 9 1) = (M 20 1) then (if (M 9 2) = (M 20 2) then 1 else 0) else 0) else 0)
set_option maxRecDepth 20000 in
theorem t_X0_isShapedLike_9_20 {LN : Nat} {xs : Nat → Int32} {M : am_M} {t : Int32} (h : f_X0_isShapedLike_9_20 M = t) : oo LN xs 0 0 30 0 [some (.ref 9), some (.ref 20)] [] M (some (.int t), M) := by
  unfold f_X0_isShapedLike_9_20 at h
  refine o_aload_n k30_0 rfl ?_
  refine o_gf k30_1 (gf_9_0 _) ?_
  refine o_aload_n k30_4 rfl ?_
  refine o_gf k30_5 (gf_20_0 _) ?_
  refine o_icmp_ne k30_8 (fun hc1 => ?_) (fun hc1 => ?_)
  · rw [if_neg hc1] at h
    refine o_iconst (v := 0) k30_37 (by decide) ?_
    subst h
    exact o_iret pj_30 k30_38 rfl (nr_z (by decide))
  · rw [if_pos hc1] at h
    refine o_aload_n k30_11 rfl ?_
    refine o_gf k30_12 (gf_9_1 _) ?_
    refine o_aload_n k30_15 rfl ?_
    refine o_gf k30_16 (gf_20_1 _) ?_
    refine o_icmp_ne k30_19 (fun hc2 => ?_) (fun hc2 => ?_)
    · rw [if_neg hc2] at h
      refine o_iconst (v := 0) k30_37 (by decide) ?_
      subst h
      exact o_iret pj_30 k30_38 rfl (nr_z (by decide))
    · rw [if_pos hc2] at h
      refine o_aload_n k30_22 rfl ?_
      refine o_gf k30_23 (gf_9_2 _) ?_
      refine o_aload_n k30_26 rfl ?_
      refine o_gf k30_27 (gf_20_2 _) ?_
      refine o_icmp_ne k30_30 (fun hc3 => ?_) (fun hc3 => ?_)
      · rw [if_neg hc3] at h
        refine o_iconst (v := 0) k30_37 (by decide) ?_
        subst h
        exact o_iret pj_30 k30_38 rfl (nr_z (by decide))
      · rw [if_pos hc3] at h
        refine o_iconst (v := 1) k30_33 (by decide) ?_
        refine o_goto k30_34 ?_
        subst h
        exact o_iret pj_30 k30_38 rfl (nr_z (by decide))
def f_X7_differs_0 (a0 : Int32) (a1 : Int32) (M : am_M) : Option Int32 := (if (f_X7_isImage a0) = 0 then (some (-1)) else (if a1 < 0 then (some (-1)) else (if a1 ≤ 1 then (if am_dbin a0 2 = true then (if (M 25 a0.toNatClampNeg) = 0 then (some (-2)) else (if a0 = 0 then (if (f_X0_isShapedLike_9_15 M) = 0 then (some (-2)) else (if a1 = 0 then (if a0 = 0 then ((f_X0_seenOtherwise_9_15 M).bind (fun v10 => (some v10))) else (if a0 = 1 then ((f_X0_seenOtherwise_9_20 M).bind (fun v11 => (some v11))) else none)) else (if a0 = 0 then ((f_X0_cellsOtherwise_9_15 M).bind (fun v8 => (some v8))) else (if a0 = 1 then ((f_X0_cellsOtherwise_9_20 M).bind (fun v9 => (some v9))) else none)))) else (if a0 = 1 then (if (f_X0_isShapedLike_9_20 M) = 0 then (some (-2)) else (if a1 = 0 then (if a0 = 0 then ((f_X0_seenOtherwise_9_15 M).bind (fun v16 => (some v16))) else (if a0 = 1 then ((f_X0_seenOtherwise_9_20 M).bind (fun v17 => (some v17))) else none)) else (if a0 = 0 then ((f_X0_cellsOtherwise_9_15 M).bind (fun v14 => (some v14))) else (if a0 = 1 then ((f_X0_cellsOtherwise_9_20 M).bind (fun v15 => (some v15))) else none)))) else none))) else none) else (some (-1)))))
set_option maxRecDepth 20000 in
theorem t_X7_differs_0 {LN : Nat} {xs : Nat → Int32} {a0 : Int32} {a1 : Int32} {M : am_M} {t : Int32} (h : f_X7_differs_0 a0 a1 M = some t) : oo LN xs 0 0 113 0 [some (.ref 0), some (.int a0), some (.int a1)] [] M (some (.int t), M) := by
  unfold f_X7_differs_0 at h
  refine o_iload_n k113_0 rfl ?_
  refine o_call k113_1 pj_121 (fun _ => rfl) (by decide) rfl (as := [.int a0]) (rest := []) rfl (L0 := [some (.int a0)]) rfl (t_X7_isImage (M := M) (a0 := a0) rfl) ?_
  refine o_if_eq k113_4 (fun hc1 => ?_) (fun hc1 => ?_)
  · rw [if_pos hc1] at h
    refine o_iconst (v := (-1)) k113_16 (by decide) ?_
    have h9 := Option.some.inj h
    subst h9
    exact o_iret pj_113 k113_17 rfl nr_i
  · rw [if_neg hc1] at h
    refine o_iload_n k113_7 rfl ?_
    refine o_if_lt k113_8 (fun hc2 => ?_) (fun hc2 => ?_)
    · rw [if_pos hc2] at h
      refine o_iconst (v := (-1)) k113_16 (by decide) ?_
      have h9 := Option.some.inj h
      subst h9
      exact o_iret pj_113 k113_17 rfl nr_i
    · rw [if_neg hc2] at h
      refine o_iload_n k113_11 rfl ?_
      refine o_iconst (v := 1) k113_12 (by decide) ?_
      refine o_icmp_le k113_13 (fun hc3 => ?_) (fun hc3 => ?_)
      · rw [if_pos hc3] at h
        refine o_aload_n k113_18 rfl ?_
        refine o_gf k113_19 (gf_0_4 _) ?_
        refine o_iload_n k113_22 rfl ?_
        obtain ⟨hc4, h⟩ := ck_i h
        refine o_bald k113_23 ba_25 hc4 ?_
        refine o_if_eq k113_24 (fun hc5 => ?_) (fun hc5 => ?_)
        · rw [if_pos hc5] at h
          refine o_bipush (v := (-2)) k113_43 (by decide) ?_
          have h9 := Option.some.inj h
          subst h9
          exact o_iret pj_113 k113_45 rfl nr_i
        · rw [if_neg hc5] at h
          refine o_aload_n k113_27 rfl ?_
          refine o_gf k113_28 (gf_0_2 _) ?_
          refine o_aload_n k113_31 rfl ?_
          refine o_gf k113_32 (gf_0_3 _) ?_
          refine o_iload_n k113_35 rfl ?_
          by_cases hX1 : a0 = 0
          · rw [if_pos hX1] at h
            refine o_aald (v := .ref 15) k113_36 (by rw [hX1]; exact aal_14_0) ?_
            refine o_call k113_37 pj_30 (fun _ => rfl) (by decide) rfl (as := [.ref 9, .ref 15]) (rest := []) rfl (L0 := [some (.ref 9), some (.ref 15)]) rfl (t_X0_isShapedLike_9_15 (M := M) rfl) ?_
            refine o_if_ne k113_40 (fun hc6 => ?_) (fun hc6 => ?_)
            · rw [if_neg hc6] at h
              refine o_iload_n k113_46 rfl ?_
              refine o_if_ne k113_47 (fun hc7 => ?_) (fun hc7 => ?_)
              · rw [if_neg hc7] at h
                refine o_aload_n k113_66 rfl ?_
                refine o_gf k113_67 (gf_0_2 _) ?_
                refine o_aload_n k113_70 rfl ?_
                refine o_gf k113_71 (gf_0_3 _) ?_
                refine o_iload_n k113_74 rfl ?_
                by_cases hX2 : a0 = 0
                · rw [if_pos hX2] at h
                  refine o_aald (v := .ref 15) k113_75 (by rw [hX2]; exact aal_14_0) ?_
                  refine bd_i h (fun v8 hv8 h => ?_)
                  refine o_call k113_76 pj_33 (fun _ => rfl) (by decide) rfl (as := [.ref 9, .ref 15]) (rest := []) rfl (L0 := [some (.ref 9), some (.ref 15), none, none, none]) rfl (t_X0_cellsOtherwise_9_15 hv8) ?_
                  have h9 := Option.some.inj h
                  subst h9
                  exact o_iret pj_113 k113_79 rfl nr_i
                rw [if_neg hX2] at h
                by_cases hX3 : a0 = 1
                · rw [if_pos hX3] at h
                  refine o_aald (v := .ref 20) k113_75 (by rw [hX3]; exact aal_14_1) ?_
                  refine bd_i h (fun v9 hv9 h => ?_)
                  refine o_call k113_76 pj_33 (fun _ => rfl) (by decide) rfl (as := [.ref 9, .ref 20]) (rest := []) rfl (L0 := [some (.ref 9), some (.ref 20), none, none, none]) rfl (t_X0_cellsOtherwise_9_20 hv9) ?_
                  have h9 := Option.some.inj h
                  subst h9
                  exact o_iret pj_113 k113_79 rfl nr_i
                rw [if_neg hX3] at h
                cases h
              · rw [if_pos hc7] at h
                refine o_aload_n k113_50 rfl ?_
                refine o_gf k113_51 (gf_0_2 _) ?_
                refine o_aload_n k113_54 rfl ?_
                refine o_gf k113_55 (gf_0_3 _) ?_
                refine o_iload_n k113_58 rfl ?_
                by_cases hX4 : a0 = 0
                · rw [if_pos hX4] at h
                  refine o_aald (v := .ref 15) k113_59 (by rw [hX4]; exact aal_14_0) ?_
                  refine bd_i h (fun v10 hv10 h => ?_)
                  refine o_call k113_60 pj_32 (fun _ => rfl) (by decide) rfl (as := [.ref 9, .ref 15]) (rest := []) rfl (L0 := [some (.ref 9), some (.ref 15), none, none, none]) rfl (t_X0_seenOtherwise_9_15 hv10) ?_
                  refine o_goto k113_63 ?_
                  have h9 := Option.some.inj h
                  subst h9
                  exact o_iret pj_113 k113_79 rfl nr_i
                rw [if_neg hX4] at h
                by_cases hX5 : a0 = 1
                · rw [if_pos hX5] at h
                  refine o_aald (v := .ref 20) k113_59 (by rw [hX5]; exact aal_14_1) ?_
                  refine bd_i h (fun v11 hv11 h => ?_)
                  refine o_call k113_60 pj_32 (fun _ => rfl) (by decide) rfl (as := [.ref 9, .ref 20]) (rest := []) rfl (L0 := [some (.ref 9), some (.ref 20), none, none, none]) rfl (t_X0_seenOtherwise_9_20 hv11) ?_
                  refine o_goto k113_63 ?_
                  have h9 := Option.some.inj h
                  subst h9
                  exact o_iret pj_113 k113_79 rfl nr_i
                rw [if_neg hX5] at h
                cases h
            · rw [if_pos hc6] at h
              refine o_bipush (v := (-2)) k113_43 (by decide) ?_
              have h9 := Option.some.inj h
              subst h9
              exact o_iret pj_113 k113_45 rfl nr_i
          rw [if_neg hX1] at h
          by_cases hX6 : a0 = 1
          · rw [if_pos hX6] at h
            refine o_aald (v := .ref 20) k113_36 (by rw [hX6]; exact aal_14_1) ?_
            refine o_call k113_37 pj_30 (fun _ => rfl) (by decide) rfl (as := [.ref 9, .ref 20]) (rest := []) rfl (L0 := [some (.ref 9), some (.ref 20)]) rfl (t_X0_isShapedLike_9_20 (M := M) rfl) ?_
            refine o_if_ne k113_40 (fun hc12 => ?_) (fun hc12 => ?_)
            · rw [if_neg hc12] at h
              refine o_iload_n k113_46 rfl ?_
              refine o_if_ne k113_47 (fun hc13 => ?_) (fun hc13 => ?_)
              · rw [if_neg hc13] at h
                refine o_aload_n k113_66 rfl ?_
                refine o_gf k113_67 (gf_0_2 _) ?_
                refine o_aload_n k113_70 rfl ?_
                refine o_gf k113_71 (gf_0_3 _) ?_
                refine o_iload_n k113_74 rfl ?_
                by_cases hX7 : a0 = 0
                · rw [if_pos hX7] at h
                  refine o_aald (v := .ref 15) k113_75 (by rw [hX7]; exact aal_14_0) ?_
                  refine bd_i h (fun v14 hv14 h => ?_)
                  refine o_call k113_76 pj_33 (fun _ => rfl) (by decide) rfl (as := [.ref 9, .ref 15]) (rest := []) rfl (L0 := [some (.ref 9), some (.ref 15), none, none, none]) rfl (t_X0_cellsOtherwise_9_15 hv14) ?_
                  have h9 := Option.some.inj h
                  subst h9
                  exact o_iret pj_113 k113_79 rfl nr_i
                rw [if_neg hX7] at h
                by_cases hX8 : a0 = 1
                · rw [if_pos hX8] at h
                  refine o_aald (v := .ref 20) k113_75 (by rw [hX8]; exact aal_14_1) ?_
                  refine bd_i h (fun v15 hv15 h => ?_)
                  refine o_call k113_76 pj_33 (fun _ => rfl) (by decide) rfl (as := [.ref 9, .ref 20]) (rest := []) rfl (L0 := [some (.ref 9), some (.ref 20), none, none, none]) rfl (t_X0_cellsOtherwise_9_20 hv15) ?_
                  have h9 := Option.some.inj h
                  subst h9
                  exact o_iret pj_113 k113_79 rfl nr_i
                rw [if_neg hX8] at h
                cases h
              · rw [if_pos hc13] at h
                refine o_aload_n k113_50 rfl ?_
                refine o_gf k113_51 (gf_0_2 _) ?_
                refine o_aload_n k113_54 rfl ?_
                refine o_gf k113_55 (gf_0_3 _) ?_
                refine o_iload_n k113_58 rfl ?_
                by_cases hX9 : a0 = 0
                · rw [if_pos hX9] at h
                  refine o_aald (v := .ref 15) k113_59 (by rw [hX9]; exact aal_14_0) ?_
                  refine bd_i h (fun v16 hv16 h => ?_)
                  refine o_call k113_60 pj_32 (fun _ => rfl) (by decide) rfl (as := [.ref 9, .ref 15]) (rest := []) rfl (L0 := [some (.ref 9), some (.ref 15), none, none, none]) rfl (t_X0_seenOtherwise_9_15 hv16) ?_
                  refine o_goto k113_63 ?_
                  have h9 := Option.some.inj h
                  subst h9
                  exact o_iret pj_113 k113_79 rfl nr_i
                rw [if_neg hX9] at h
                by_cases hX10 : a0 = 1
                · rw [if_pos hX10] at h
                  refine o_aald (v := .ref 20) k113_59 (by rw [hX10]; exact aal_14_1) ?_
                  refine bd_i h (fun v17 hv17 h => ?_)
                  refine o_call k113_60 pj_32 (fun _ => rfl) (by decide) rfl (as := [.ref 9, .ref 20]) (rest := []) rfl (L0 := [some (.ref 9), some (.ref 20), none, none, none]) rfl (t_X0_seenOtherwise_9_20 hv17) ?_
                  refine o_goto k113_63 ?_
                  have h9 := Option.some.inj h
                  subst h9
                  exact o_iret pj_113 k113_79 rfl nr_i
                rw [if_neg hX10] at h
                cases h
            · rw [if_pos hc12] at h
              refine o_bipush (v := (-2)) k113_43 (by decide) ?_
              have h9 := Option.some.inj h
              subst h9
              exact o_iret pj_113 k113_45 rfl nr_i
          rw [if_neg hX6] at h
          cases h
      · rw [if_neg hc3] at h
        refine o_iconst (v := (-1)) k113_16 (by decide) ?_
        have h9 := Option.some.inj h
        subst h9
        exact o_iret pj_113 k113_17 rfl nr_i
