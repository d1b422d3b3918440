/-! FUNCTIONS, on -/
def f_X8_differ (a0 : Int32) (a1 : Int32) : Int32 := (if a0 = a1 then 0 else (if a0 = 2 then 0 else (if a1 = 2 then 0 else 1)))
set_option maxRecDepth 20000 in
theorem t_X8_differ {LN : Nat} {xs : Nat → Int32} {a0 : Int32} {a1 : Int32} {M : am_M} {t : Int32} (h : f_X8_differ a0 a1 = t) : oo LN xs 0 0 200 0 [some (.int a0), some (.int a1)] [] M (some (.int t), M) := by
  unfold f_X8_differ at h
  refine o_iload_n k200_0 rfl ?_
  refine o_iload_n k200_1 rfl ?_
  refine o_icmp_eq k200_2 (fun hc1 => ?_) (fun hc1 => ?_)
  · rw [if_pos hc1] at h
    refine o_iconst (v := 0) k200_19 (by decide) ?_
    subst h
    exact o_iret pj_200 k200_20 rfl (nr_z (by decide))
  · rw [if_neg hc1] at h
    refine o_iload_n k200_5 rfl ?_
    refine o_iconst (v := 2) k200_6 (by decide) ?_
    refine o_icmp_eq k200_7 (fun hc2 => ?_) (fun hc2 => ?_)
    · rw [if_pos hc2] at h
      refine o_iconst (v := 0) k200_19 (by decide) ?_
      subst h
      exact o_iret pj_200 k200_20 rfl (nr_z (by decide))
    · rw [if_neg hc2] at h
      refine o_iload_n k200_10 rfl ?_
      refine o_iconst (v := 2) k200_11 (by decide) ?_
      refine o_icmp_eq k200_12 (fun hc3 => ?_) (fun hc3 => ?_)
      · rw [if_pos hc3] at h
        refine o_iconst (v := 0) k200_19 (by decide) ?_
        subst h
        exact o_iret pj_200 k200_20 rfl (nr_z (by decide))
      · rw [if_neg hc3] at h
        refine o_iconst (v := 1) k200_15 (by decide) ?_
        refine o_goto k200_16 ?_
        subst h
        exact o_iret pj_200 k200_20 rfl (nr_z (by decide))
def f_X8_cellsDiffer_43 (a0 : Int32) (M : am_M) : Option Int32 := ((lp (σ := Int32 × Int32) (ρ := Int32 × Int32) (fun (s1 : Int32 × Int32) => match s1 with | (x2, x3) => (if (M 44 (0 : Int32).toNatClampNeg) ≤ x3 then (some (.inr (x2, x3))) else ((lp (σ := Int32 × Int32) (ρ := Int32 × Int32) (fun (s7 : Int32 × Int32) => match s7 with | (x8, x9) => (if (M 44 (1 : Int32).toNatClampNeg) ≤ x9 then (some (.inr (x8, x9))) else ((f_X8_cellOf_43 x3 x9 M).bind (fun v12 => (if am_dbin (((((151 : Int32) * a0) + 7) + ((8 : Int32) * x3)) + x9) 302 = true then (bl ((x8 + (f_X8_flag (f_X8_differ v12 (M 45 (((((151 : Int32) * a0) + 7) + ((8 : Int32) * x3)) + x9).toNatClampNeg))))) (fun (v14 : Int32) => (some (.inl (v14, (x9 + 1)))))) else none))))) lp_F (x2, 0)).bind (fun (s15 : Int32 × Int32) => match s15 with | (x16, x17) => (some (.inl (x16, (x3 + 1)))))))) lp_F (0, 0)).bind (fun (s18 : Int32 × Int32) => match s18 with | (x19, x20) => (some x19)))
set_option maxRecDepth 20000 in
theorem t_X8_cellsDiffer_43 {LN : Nat} {xs : Nat → Int32} {a0 : Int32} {M : am_M} {t : Int32} (h : f_X8_cellsDiffer_43 a0 M = some t) : oo LN xs 0 0 202 0 [some (.ref 43), some (.int a0), none, none, none] [] M (some (.int t), M) := by
  unfold f_X8_cellsDiffer_43 at h
  refine o_iconst (v := 0) k202_0 (by decide) ?_
  refine o_istore_n (v := 0) (L' := [some (.ref 43), some (.int a0), some (.int 0), none, none]) k202_1 rfl rfl ?_
  refine o_iconst (v := 0) k202_2 (by decide) ?_
  refine o_istore_n (v := 0) (L' := [some (.ref 43), some (.int a0), some (.int 0), some (.int 0), none]) k202_3 rfl rfl ?_
  refine bd_i h (fun s18 hs18 h => ?_)
  refine lp_o (fun (s1 : Int32 × Int32) => match s1 with | (x2, x3) => ∀ (d4 : Option (Int32 ⊕ Int64)), oo LN xs 0 0 202 4 [some (.ref 43), some (.int a0), some (.int x2), some (.int x3), (d4.map dv)] [] M (some (.int t), M)) (fun (s18 : Int32 × Int32) => match s18 with | (x19, x20) => ∀ (d21 : Option (Int32 ⊕ Int64)), oo LN xs 0 0 202 77 [some (.ref 43), some (.int a0), some (.int x19), some (.int x20), (d21.map dv)] [] M (some (.int t), M)) ?_ hs18 ?_ none
  · rintro ⟨x2, x3⟩ ws1 h hK
    dsimp only at h
    show ∀ (d4 : Option (Int32 ⊕ Int64)), oo LN xs 0 0 202 4 [some (.ref 43), some (.int a0), some (.int x2), some (.int x3), (d4.map dv)] [] M (some (.int t), M)
    intro d4
    refine o_iload_n k202_4 rfl ?_
    refine o_aload_n k202_5 rfl ?_
    refine o_gf k202_6 (gf_43_0 _) ?_
    refine o_iconst (v := 0) k202_9 (by decide) ?_
    refine o_iald k202_10 rfl ia_44 (by decide) ?_
    refine o_icmp_ge k202_11 (fun hc6 => ?_) (fun hc6 => ?_)
    · rw [if_pos hc6] at h
      have h9 := Option.some.inj h
      subst h9
      exact hK d4
    · rw [if_neg hc6] at h
      refine o_iconst (v := 0) k202_14 (by decide) ?_
      refine o_istore (v := 0) (L' := [some (.ref 43), some (.int a0), some (.int x2), some (.int x3), some (.int 0)]) k202_15 rfl rfl ?_
      refine bd_i h (fun s15 hs15 h => ?_)
      refine lp_o (fun (s7 : Int32 × Int32) => match s7 with | (x8, x9) => oo LN xs 0 0 202 17 [some (.ref 43), some (.int a0), some (.int x8), some (.int x3), some (.int x9)] [] M (some (.int t), M)) (fun (s15 : Int32 × Int32) => match s15 with | (x16, x17) => oo LN xs 0 0 202 71 [some (.ref 43), some (.int a0), some (.int x16), some (.int x3), some (.int x17)] [] M (some (.int t), M)) ?_ hs15 ?_
      · rintro ⟨x8, x9⟩ ws7 h hK
        dsimp only at h
        show oo LN xs 0 0 202 17 [some (.ref 43), some (.int a0), some (.int x8), some (.int x3), some (.int x9)] [] M (some (.int t), M)
        refine o_iload k202_17 rfl ?_
        refine o_aload_n k202_19 rfl ?_
        refine o_gf k202_20 (gf_43_0 _) ?_
        refine o_iconst (v := 1) k202_23 (by decide) ?_
        refine o_iald k202_24 rfl ia_44 (by decide) ?_
        refine o_icmp_ge k202_25 (fun hc11 => ?_) (fun hc11 => ?_)
        · rw [if_pos hc11] at h
          have h9 := Option.some.inj h
          subst h9
          exact hK
        · rw [if_neg hc11] at h
          refine o_iload_n k202_28 rfl ?_
          refine o_aload_n k202_29 rfl ?_
          refine o_iload_n k202_30 rfl ?_
          refine o_iload k202_31 rfl ?_
          refine bd_i h (fun v12 hv12 h => ?_)
          refine o_call k202_33 pj_154 (fun _ => rfl) (by decide) rfl (as := [.ref 43, .int x3, .int x9]) (rest := [.int x8]) rfl (L0 := [some (.ref 43), some (.int x3), some (.int x9)]) rfl (t_X8_cellOf_43 hv12) ?_
          refine o_aload_n k202_36 rfl ?_
          refine o_gf k202_37 (gf_43_1 _) ?_
          refine o_sipush (v := 151) k202_40 (by decide) ?_
          refine o_iload_n k202_43 rfl ?_
          refine o_imul k202_44 ?_
          refine o_bipush (v := 7) k202_45 (by decide) ?_
          refine o_iadd k202_47 ?_
          refine o_bipush (v := 8) k202_48 (by decide) ?_
          refine o_iload_n k202_50 rfl ?_
          refine o_imul k202_51 ?_
          refine o_iadd k202_52 ?_
          refine o_iload k202_53 rfl ?_
          refine o_iadd k202_55 ?_
          obtain ⟨hc13, h⟩ := ck_i h
          refine o_iald k202_56 rfl ia_45 hc13 ?_
          refine o_call k202_57 pj_200 (fun _ => rfl) (by decide) rfl (as := [.int v12, .int (M 45 (((((151 : Int32) * a0) + 7) + ((8 : Int32) * x3)) + x9).toNatClampNeg)]) (rest := [.int x8]) rfl (L0 := [some (.int v12), some (.int (M 45 (((((151 : Int32) * a0) + 7) + ((8 : Int32) * x3)) + x9).toNatClampNeg))]) rfl (t_X8_differ (M := M) (a0 := v12) (a1 := (M 45 (((((151 : Int32) * a0) + 7) + ((8 : Int32) * x3)) + x9).toNatClampNeg)) rfl) ?_
          refine o_call k202_60 pj_126 (fun _ => rfl) (by decide) rfl (as := [.int (f_X8_differ v12 (M 45 (((((151 : Int32) * a0) + 7) + ((8 : Int32) * x3)) + x9).toNatClampNeg))]) (rest := [.int x8]) rfl (L0 := [some (.int (f_X8_differ v12 (M 45 (((((151 : Int32) * a0) + 7) + ((8 : Int32) * x3)) + x9).toNatClampNeg)))]) rfl (t_X8_flag (M := M) (a0 := (f_X8_differ v12 (M 45 (((((151 : Int32) * a0) + 7) + ((8 : Int32) * x3)) + x9).toNatClampNeg))) rfl) ?_
          refine o_iadd k202_63 ?_
          refine bl_i h (fun v14 ev14 h => ?_)
          refine o_istore_n (v := v14) k202_64 ev14 (L' := [some (.ref 43), some (.int a0), some (.int v14), some (.int x3), some (.int x9)]) rfl ?_
          refine o_iinc (k := 1) (L' := [some (.ref 43), some (.int a0), some (.int v14), some (.int x3), some (.int (x9 + 1))]) k202_65 rfl (by decide) rfl ?_
          refine o_goto k202_68 ?_
          have h9 := Option.some.inj h
          subst h9
          exact hK
      · obtain ⟨x16, x17⟩ := s15
        show oo LN xs 0 0 202 71 [some (.ref 43), some (.int a0), some (.int x16), some (.int x3), some (.int x17)] [] M (some (.int t), M)
        dsimp only at h
        refine o_iinc (k := 1) (L' := [some (.ref 43), some (.int a0), some (.int x16), some (.int (x3 + 1)), some (.int x17)]) k202_71 rfl (by decide) rfl ?_
        refine o_goto k202_74 ?_
        have h9 := Option.some.inj h
        subst h9
        exact hK (some (.inl x17))
  · obtain ⟨x19, x20⟩ := s18
    show ∀ (d21 : Option (Int32 ⊕ Int64)), oo LN xs 0 0 202 77 [some (.ref 43), some (.int a0), some (.int x19), some (.int x20), (d21.map dv)] [] M (some (.int t), M)
    dsimp only at h
    intro d21
    refine o_iload_n k202_77 rfl ?_
    have h9 := Option.some.inj h
    subst h9
    exact o_iret pj_202 k202_78 rfl nr_i
def f_X8_findSeen_43_52 (M : am_M) : Option am_M := ((lp (σ := Int32 × am_M) (ρ := Int32 × am_M) (fun (s1 : Int32 × am_M) => match s1 with | (x2, M3) => (if (M3 44 (1 : Int32).toNatClampNeg) ≤ x2 then (some (.inr (x2, M3))) else ((lp (σ := Int32 × am_M) (ρ := Int32 × am_M) (fun (s7 : Int32 × am_M) => match s7 with | (x8, M9) => (if (M9 44 (2 : Int32).toNatClampNeg) ≤ x8 then (some (.inr (x8, M9))) else ((f_X8_seenAt_43 x2 x8 M9).bind (fun v12 => (if am_dbin (((8 : Int32) * x2) + x8) 64 = true then (bl (am_up M9 52 (((8 : Int32) * x2) + x8).toNatClampNeg v12) (fun (M14 : am_M) => (some (.inl ((x8 + 1), M14))))) else none))))) lp_F (0, M3)).bind (fun (s15 : Int32 × am_M) => match s15 with | (x16, M17) => (some (.inl ((x2 + 1), M17))))))) lp_F (0, M)).bind (fun (s18 : Int32 × am_M) => match s18 with | (x19, M20) => (some M20)))
set_option maxRecDepth 20000 in
theorem t_X8_findSeen_43_52 {LN : Nat} {xs : Nat → Int32} {M : am_M} {t : am_M} (h : f_X8_findSeen_43_52 M = some t) : oo LN xs 0 0 199 0 [some (.ref 43), some (.ref 52), none, none] [] M (none, t) := by
  unfold f_X8_findSeen_43_52 at h
  refine o_iconst (v := 0) k199_0 (by decide) ?_
  refine o_istore_n (v := 0) (L' := [some (.ref 43), some (.ref 52), some (.int 0), none]) k199_1 rfl rfl ?_
  refine bd_i h (fun s18 hs18 h => ?_)
  refine lp_o (fun (s1 : Int32 × am_M) => match s1 with | (x2, M3) => ∀ (d4 : Option (Int32 ⊕ Int64)), oo LN xs 0 0 199 2 [some (.ref 43), some (.ref 52), some (.int x2), (d4.map dv)] [] M3 (none, t)) (fun (s18 : Int32 × am_M) => match s18 with | (x19, M20) => ∀ (d21 : Option (Int32 ⊕ Int64)), oo LN xs 0 0 199 50 [some (.ref 43), some (.ref 52), some (.int x19), (d21.map dv)] [] M20 (none, t)) ?_ hs18 ?_ none
  · rintro ⟨x2, M3⟩ ws1 h hK
    dsimp only at h
    show ∀ (d4 : Option (Int32 ⊕ Int64)), oo LN xs 0 0 199 2 [some (.ref 43), some (.ref 52), some (.int x2), (d4.map dv)] [] M3 (none, t)
    intro d4
    refine o_iload_n k199_2 rfl ?_
    refine o_aload_n k199_3 rfl ?_
    refine o_gf k199_4 (gf_43_0 _) ?_
    refine o_iconst (v := 1) k199_7 (by decide) ?_
    refine o_iald k199_8 rfl ia_44 (by decide) ?_
    refine o_icmp_ge k199_9 (fun hc6 => ?_) (fun hc6 => ?_)
    · rw [if_pos hc6] at h
      have h9 := Option.some.inj h
      subst h9
      exact hK d4
    · rw [if_neg hc6] at h
      refine o_iconst (v := 0) k199_12 (by decide) ?_
      refine o_istore_n (v := 0) (L' := [some (.ref 43), some (.ref 52), some (.int x2), some (.int 0)]) k199_13 rfl rfl ?_
      refine bd_i h (fun s15 hs15 h => ?_)
      refine lp_o (fun (s7 : Int32 × am_M) => match s7 with | (x8, M9) => oo LN xs 0 0 199 14 [some (.ref 43), some (.ref 52), some (.int x2), some (.int x8)] [] M9 (none, t)) (fun (s15 : Int32 × am_M) => match s15 with | (x16, M17) => oo LN xs 0 0 199 44 [some (.ref 43), some (.ref 52), some (.int x2), some (.int x16)] [] M17 (none, t)) ?_ hs15 ?_
      · rintro ⟨x8, M9⟩ ws7 h hK
        dsimp only at h
        show oo LN xs 0 0 199 14 [some (.ref 43), some (.ref 52), some (.int x2), some (.int x8)] [] M9 (none, t)
        refine o_iload_n k199_14 rfl ?_
        refine o_aload_n k199_15 rfl ?_
        refine o_gf k199_16 (gf_43_0 _) ?_
        refine o_iconst (v := 2) k199_19 (by decide) ?_
        refine o_iald k199_20 rfl ia_44 (by decide) ?_
        refine o_icmp_ge k199_21 (fun hc11 => ?_) (fun hc11 => ?_)
        · rw [if_pos hc11] at h
          have h9 := Option.some.inj h
          subst h9
          exact hK
        · rw [if_neg hc11] at h
          refine o_aload_n k199_24 rfl ?_
          refine o_bipush (v := 8) k199_25 (by decide) ?_
          refine o_iload_n k199_27 rfl ?_
          refine o_imul k199_28 ?_
          refine o_iload_n k199_29 rfl ?_
          refine o_iadd k199_30 ?_
          refine o_aload_n k199_31 rfl ?_
          refine o_iload_n k199_32 rfl ?_
          refine o_iload_n k199_33 rfl ?_
          refine bd_i h (fun v12 hv12 h => ?_)
          refine o_call k199_34 pj_155 (fun _ => rfl) (by decide) rfl (as := [.ref 43, .int x2, .int x8]) (rest := [.int (((8 : Int32) * x2) + x8), .ref 52]) rfl (L0 := [some (.ref 43), some (.int x2), some (.int x8), none, none]) rfl (t_X8_seenAt_43 hv12) ?_
          obtain ⟨hc13, h⟩ := ck_i h
          refine bl_i h (fun M14 eM14 h => ?_)
          refine o_iast (M' := M14) k199_37 eM14 ia_52 hc13 ?_
          refine o_iinc (k := 1) (L' := [some (.ref 43), some (.ref 52), some (.int x2), some (.int (x8 + 1))]) k199_38 rfl (by decide) rfl ?_
          refine o_goto k199_41 ?_
          have h9 := Option.some.inj h
          subst h9
          exact hK
      · obtain ⟨x16, M17⟩ := s15
        show oo LN xs 0 0 199 44 [some (.ref 43), some (.ref 52), some (.int x2), some (.int x16)] [] M17 (none, t)
        dsimp only at h
        refine o_iinc (k := 1) (L' := [some (.ref 43), some (.ref 52), some (.int (x2 + 1)), some (.int x16)]) k199_44 rfl (by decide) rfl ?_
        refine o_goto k199_47 ?_
        have h9 := Option.some.inj h
        subst h9
        exact hK (some (.inl x16))
  · obtain ⟨x19, M20⟩ := s18
    show ∀ (d21 : Option (Int32 ⊕ Int64)), oo LN xs 0 0 199 50 [some (.ref 43), some (.ref 52), some (.int x19), (d21.map dv)] [] M20 (none, t)
    dsimp only at h
    intro d21
    have h9 := Option.some.inj h
    subst h9
    exact o_vret pj_199 k199_50 rfl
def f_X8_findSeen_43_53 (M : am_M) : Option am_M := ((lp (σ := Int32 × am_M) (ρ := Int32 × am_M) (fun (s1 : Int32 × am_M) => match s1 with | (x2, M3) => (if (M3 44 (1 : Int32).toNatClampNeg) ≤ x2 then (some (.inr (x2, M3))) else ((lp (σ := Int32 × am_M) (ρ := Int32 × am_M) (fun (s7 : Int32 × am_M) => match s7 with | (x8, M9) => (if (M9 44 (2 : Int32).toNatClampNeg) ≤ x8 then (some (.inr (x8, M9))) else ((f_X8_seenAt_43 x2 x8 M9).bind (fun v12 => (if am_dbin (((8 : Int32) * x2) + x8) 64 = true then (bl (am_up M9 53 (((8 : Int32) * x2) + x8).toNatClampNeg v12) (fun (M14 : am_M) => (some (.inl ((x8 + 1), M14))))) else none))))) lp_F (0, M3)).bind (fun (s15 : Int32 × am_M) => match s15 with | (x16, M17) => (some (.inl ((x2 + 1), M17))))))) lp_F (0, M)).bind (fun (s18 : Int32 × am_M) => match s18 with | (x19, M20) => (some M20)))
set_option maxRecDepth 20000 in
theorem t_X8_findSeen_43_53 {LN : Nat} {xs : Nat → Int32} {M : am_M} {t : am_M} (h : f_X8_findSeen_43_53 M = some t) : oo LN xs 0 0 199 0 [some (.ref 43), some (.ref 53), none, none] [] M (none, t) := by
  unfold f_X8_findSeen_43_53 at h
  refine o_iconst (v := 0) k199_0 (by decide) ?_
  refine o_istore_n (v := 0) (L' := [some (.ref 43), some (.ref 53), some (.int 0), none]) k199_1 rfl rfl ?_
  refine bd_i h (fun s18 hs18 h => ?_)
  refine lp_o (fun (s1 : Int32 × am_M) => match s1 with | (x2, M3) => ∀ (d4 : Option (Int32 ⊕ Int64)), oo LN xs 0 0 199 2 [some (.ref 43), some (.ref 53), some (.int x2), (d4.map dv)] [] M3 (none, t)) (fun (s18 : Int32 × am_M) => match s18 with | (x19, M20) => ∀ (d21 : Option (Int32 ⊕ Int64)), oo LN xs 0 0 199 50 [some (.ref 43), some (.ref 53), some (.int x19), (d21.map dv)] [] M20 (none, t)) ?_ hs18 ?_ none
  · rintro ⟨x2, M3⟩ ws1 h hK
    dsimp only at h
    show ∀ (d4 : Option (Int32 ⊕ Int64)), oo LN xs 0 0 199 2 [some (.ref 43), some (.ref 53), some (.int x2), (d4.map dv)] [] M3 (none, t)
    intro d4
    refine o_iload_n k199_2 rfl ?_
    refine o_aload_n k199_3 rfl ?_
    refine o_gf k199_4 (gf_43_0 _) ?_
    refine o_iconst (v := 1) k199_7 (by decide) ?_
    refine o_iald k199_8 rfl ia_44 (by decide) ?_
    refine o_icmp_ge k199_9 (fun hc6 => ?_) (fun hc6 => ?_)
    · rw [if_pos hc6] at h
      have h9 := Option.some.inj h
      subst h9
      exact hK d4
    · rw [if_neg hc6] at h
      refine o_iconst (v := 0) k199_12 (by decide) ?_
      refine o_istore_n (v := 0) (L' := [some (.ref 43), some (.ref 53), some (.int x2), some (.int 0)]) k199_13 rfl rfl ?_
      refine bd_i h (fun s15 hs15 h => ?_)
      refine lp_o (fun (s7 : Int32 × am_M) => match s7 with | (x8, M9) => oo LN xs 0 0 199 14 [some (.ref 43), some (.ref 53), some (.int x2), some (.int x8)] [] M9 (none, t)) (fun (s15 : Int32 × am_M) => match s15 with | (x16, M17) => oo LN xs 0 0 199 44 [some (.ref 43), some (.ref 53), some (.int x2), some (.int x16)] [] M17 (none, t)) ?_ hs15 ?_
      · rintro ⟨x8, M9⟩ ws7 h hK
        dsimp only at h
        show oo LN xs 0 0 199 14 [some (.ref 43), some (.ref 53), some (.int x2), some (.int x8)] [] M9 (none, t)
        refine o_iload_n k199_14 rfl ?_
        refine o_aload_n k199_15 rfl ?_
        refine o_gf k199_16 (gf_43_0 _) ?_
        refine o_iconst (v := 2) k199_19 (by decide) ?_
        refine o_iald k199_20 rfl ia_44 (by decide) ?_
        refine o_icmp_ge k199_21 (fun hc11 => ?_) (fun hc11 => ?_)
        · rw [if_pos hc11] at h
          have h9 := Option.some.inj h
          subst h9
          exact hK
        · rw [if_neg hc11] at h
          refine o_aload_n k199_24 rfl ?_
          refine o_bipush (v := 8) k199_25 (by decide) ?_
          refine o_iload_n k199_27 rfl ?_
          refine o_imul k199_28 ?_
          refine o_iload_n k199_29 rfl ?_
          refine o_iadd k199_30 ?_
          refine o_aload_n k199_31 rfl ?_
          refine o_iload_n k199_32 rfl ?_
          refine o_iload_n k199_33 rfl ?_
          refine bd_i h (fun v12 hv12 h => ?_)
          refine o_call k199_34 pj_155 (fun _ => rfl) (by decide) rfl (as := [.ref 43, .int x2, .int x8]) (rest := [.int (((8 : Int32) * x2) + x8), .ref 53]) rfl (L0 := [some (.ref 43), some (.int x2), some (.int x8), none, none]) rfl (t_X8_seenAt_43 hv12) ?_
          obtain ⟨hc13, h⟩ := ck_i h
          refine bl_i h (fun M14 eM14 h => ?_)
          refine o_iast (M' := M14) k199_37 eM14 ia_53 hc13 ?_
          refine o_iinc (k := 1) (L' := [some (.ref 43), some (.ref 53), some (.int x2), some (.int (x8 + 1))]) k199_38 rfl (by decide) rfl ?_
          refine o_goto k199_41 ?_
          have h9 := Option.some.inj h
          subst h9
          exact hK
      · obtain ⟨x16, M17⟩ := s15
        show oo LN xs 0 0 199 44 [some (.ref 43), some (.ref 53), some (.int x2), some (.int x16)] [] M17 (none, t)
        dsimp only at h
        refine o_iinc (k := 1) (L' := [some (.ref 43), some (.ref 53), some (.int (x2 + 1)), some (.int x16)]) k199_44 rfl (by decide) rfl ?_
        refine o_goto k199_47 ?_
        have h9 := Option.some.inj h
        subst h9
        exact hK (some (.inl x16))
  · obtain ⟨x19, M20⟩ := s18
    show ∀ (d21 : Option (Int32 ⊕ Int64)), oo LN xs 0 0 199 50 [some (.ref 43), some (.ref 53), some (.int x19), (d21.map dv)] [] M20 (none, t)
    dsimp only at h
    intro d21
    have h9 := Option.some.inj h
    subst h9
    exact o_vret pj_199 k199_50 rfl
def f_X8_seenDiffers_43 (a0 : Int32) (M : am_M) : Option (Int32 × am_M) := ((f_X8_findSeen_43_52 M).bind (fun q1 => ((lp (σ := Int32 × am_M) (ρ := Int32 × am_M) (fun (s2 : Int32 × am_M) => match s2 with | (x3, M4) => (if 151 ≤ x3 then (some (.inr (x3, M4))) else (if am_dbin x3 151 = true then (if am_dbin x3 151 = true then (bl (am_up M4 51 x3.toNatClampNeg (M4 44 x3.toNatClampNeg)) (fun (M8 : am_M) => (some (.inl ((x3 + 1), M8))))) else none) else none))) lp_F (0, q1)).bind (fun (s9 : Int32 × am_M) => match s9 with | (x10, M11) => ((f_X8_takes_43 a0 M11).bind (fun q12 => ((f_X8_findSeen_43_53 q12).bind (fun q13 => ((lp (σ := Int32 × am_M) (ρ := Int32 × am_M) (fun (s14 : Int32 × am_M) => match s14 with | (x15, M16) => (if 151 ≤ x15 then (some (.inr (x15, M16))) else (if am_dbin x15 151 = true then (if am_dbin x15 151 = true then (bl (am_up M16 44 x15.toNatClampNeg (M16 51 x15.toNatClampNeg)) (fun (M20 : am_M) => (some (.inl ((x15 + 1), M20))))) else none) else none))) lp_F (0, q13)).bind (fun (s21 : Int32 × am_M) => match s21 with | (x22, M23) => ((lp (σ := Int32 × Int32) (ρ := Int32 × Int32) (fun (s24 : Int32 × Int32) => match s24 with | (x25, x26) => (if (M23 44 (1 : Int32).toNatClampNeg) ≤ x26 then (some (.inr (x25, x26))) else ((lp (σ := Int32 × Int32) (ρ := Int32 × Int32) (fun (s30 : Int32 × Int32) => match s30 with | (x31, x32) => (if (M23 44 (2 : Int32).toNatClampNeg) ≤ x32 then (some (.inr (x31, x32))) else (if am_dbin (((8 : Int32) * x26) + x32) 64 = true then (if am_dbin (((8 : Int32) * x26) + x32) 64 = true then (bl ((x31 + (f_X8_flag (f_X8_differ (M23 52 (((8 : Int32) * x26) + x32).toNatClampNeg) (M23 53 (((8 : Int32) * x26) + x32).toNatClampNeg))))) (fun (v37 : Int32) => (some (.inl (v37, (x32 + 1)))))) else none) else none))) lp_F (x25, 0)).bind (fun (s38 : Int32 × Int32) => match s38 with | (x39, x40) => (some (.inl (x39, (x26 + 1)))))))) lp_F (0, 0)).bind (fun (s41 : Int32 × Int32) => match s41 with | (x42, x43) => (some (x42, M23))))))))))))))
set_option maxRecDepth 20000 in
theorem t_X8_seenDiffers_43 {LN : Nat} {xs : Nat → Int32} {a0 : Int32} {M : am_M} {t : Int32 × am_M} (h : f_X8_seenDiffers_43 a0 M = some t) : oo LN xs 0 0 201 0 [some (.ref 43), some (.int a0), none, none, none] [] M (some (.int t.1), t.2) := by
  unfold f_X8_seenDiffers_43 at h
  refine o_aload_n k201_0 rfl ?_
  refine o_aload_n k201_1 rfl ?_
  refine o_gf k201_2 (gf_43_25 _) ?_
  refine bd_i h (fun q1 hq1 h => ?_)
  refine o_call k201_5 pj_199 (fun _ => rfl) (by decide) rfl (as := [.ref 43, .ref 52]) (rest := []) rfl (L0 := [some (.ref 43), some (.ref 52), none, none]) rfl (t_X8_findSeen_43_52 hq1) ?_
  refine o_iconst (v := 0) k201_8 (by decide) ?_
  refine o_istore_n (v := 0) (L' := [some (.ref 43), some (.int a0), some (.int 0), none, none]) k201_9 rfl rfl ?_
  refine bd_i h (fun s9 hs9 h => ?_)
  refine lp_o (fun (s2 : Int32 × am_M) => match s2 with | (x3, M4) => oo LN xs 0 0 201 10 [some (.ref 43), some (.int a0), some (.int x3), none, none] [] M4 (some (.int t.1), t.2)) (fun (s9 : Int32 × am_M) => match s9 with | (x10, M11) => oo LN xs 0 0 201 35 [some (.ref 43), some (.int a0), some (.int x10), none, none] [] M11 (some (.int t.1), t.2)) ?_ hs9 ?_
  · rintro ⟨x3, M4⟩ ws2 h hK
    dsimp only at h
    show oo LN xs 0 0 201 10 [some (.ref 43), some (.int a0), some (.int x3), none, none] [] M4 (some (.int t.1), t.2)
    refine o_iload_n k201_10 rfl ?_
    refine o_sipush (v := 151) k201_11 (by decide) ?_
    refine o_icmp_ge k201_14 (fun hc5 => ?_) (fun hc5 => ?_)
    · rw [if_pos hc5] at h
      have h9 := Option.some.inj h
      subst h9
      exact hK
    · rw [if_neg hc5] at h
      refine o_aload_n k201_17 rfl ?_
      refine o_gf k201_18 (gf_43_24 _) ?_
      refine o_iload_n k201_21 rfl ?_
      refine o_aload_n k201_22 rfl ?_
      refine o_gf k201_23 (gf_43_0 _) ?_
      refine o_iload_n k201_26 rfl ?_
      obtain ⟨hc6, h⟩ := ck_i h
      refine o_iald k201_27 rfl ia_44 hc6 ?_
      obtain ⟨hc7, h⟩ := ck_i h
      refine bl_i h (fun M8 eM8 h => ?_)
      refine o_iast (M' := M8) k201_28 eM8 ia_51 hc7 ?_
      refine o_iinc (k := 1) (L' := [some (.ref 43), some (.int a0), some (.int (x3 + 1)), none, none]) k201_29 rfl (by decide) rfl ?_
      refine o_goto k201_32 ?_
      have h9 := Option.some.inj h
      subst h9
      exact hK
  · obtain ⟨x10, M11⟩ := s9
    show oo LN xs 0 0 201 35 [some (.ref 43), some (.int a0), some (.int x10), none, none] [] M11 (some (.int t.1), t.2)
    dsimp only at h
    refine o_aload_n k201_35 rfl ?_
    refine o_iload_n k201_36 rfl ?_
    refine bd_i h (fun q12 hq12 h => ?_)
    refine o_call k201_37 pj_197 (fun _ => rfl) (by decide) rfl (as := [.ref 43, .int a0]) (rest := []) rfl (L0 := [some (.ref 43), some (.int a0), none]) rfl (t_X8_takes_43 hq12) ?_
    refine o_aload_n k201_40 rfl ?_
    refine o_aload_n k201_41 rfl ?_
    refine o_gf k201_42 (gf_43_26 _) ?_
    refine bd_i h (fun q13 hq13 h => ?_)
    refine o_call k201_45 pj_199 (fun _ => rfl) (by decide) rfl (as := [.ref 43, .ref 53]) (rest := []) rfl (L0 := [some (.ref 43), some (.ref 53), none, none]) rfl (t_X8_findSeen_43_53 hq13) ?_
    refine o_iconst (v := 0) k201_48 (by decide) ?_
    refine o_istore_n (v := 0) (L' := [some (.ref 43), some (.int a0), some (.int 0), none, none]) k201_49 rfl rfl ?_
    refine bd_i h (fun s21 hs21 h => ?_)
    refine lp_o (fun (s14 : Int32 × am_M) => match s14 with | (x15, M16) => oo LN xs 0 0 201 50 [some (.ref 43), some (.int a0), some (.int x15), none, none] [] M16 (some (.int t.1), t.2)) (fun (s21 : Int32 × am_M) => match s21 with | (x22, M23) => oo LN xs 0 0 201 75 [some (.ref 43), some (.int a0), some (.int x22), none, none] [] M23 (some (.int t.1), t.2)) ?_ hs21 ?_
    · rintro ⟨x15, M16⟩ ws14 h hK
      dsimp only at h
      show oo LN xs 0 0 201 50 [some (.ref 43), some (.int a0), some (.int x15), none, none] [] M16 (some (.int t.1), t.2)
      refine o_iload_n k201_50 rfl ?_
      refine o_sipush (v := 151) k201_51 (by decide) ?_
      refine o_icmp_ge k201_54 (fun hc17 => ?_) (fun hc17 => ?_)
      · rw [if_pos hc17] at h
        have h9 := Option.some.inj h
        subst h9
        exact hK
      · rw [if_neg hc17] at h
        refine o_aload_n k201_57 rfl ?_
        refine o_gf k201_58 (gf_43_0 _) ?_
        refine o_iload_n k201_61 rfl ?_
        refine o_aload_n k201_62 rfl ?_
        refine o_gf k201_63 (gf_43_24 _) ?_
        refine o_iload_n k201_66 rfl ?_
        obtain ⟨hc18, h⟩ := ck_i h
        refine o_iald k201_67 rfl ia_51 hc18 ?_
        obtain ⟨hc19, h⟩ := ck_i h
        refine bl_i h (fun M20 eM20 h => ?_)
        refine o_iast (M' := M20) k201_68 eM20 ia_44 hc19 ?_
        refine o_iinc (k := 1) (L' := [some (.ref 43), some (.int a0), some (.int (x15 + 1)), none, none]) k201_69 rfl (by decide) rfl ?_
        refine o_goto k201_72 ?_
        have h9 := Option.some.inj h
        subst h9
        exact hK
    · obtain ⟨x22, M23⟩ := s21
      show oo LN xs 0 0 201 75 [some (.ref 43), some (.int a0), some (.int x22), none, none] [] M23 (some (.int t.1), t.2)
      dsimp only at h
      refine o_iconst (v := 0) k201_75 (by decide) ?_
      refine o_istore_n (v := 0) (L' := [some (.ref 43), some (.int a0), some (.int 0), none, none]) k201_76 rfl rfl ?_
      refine o_iconst (v := 0) k201_77 (by decide) ?_
      refine o_istore_n (v := 0) (L' := [some (.ref 43), some (.int a0), some (.int 0), some (.int 0), none]) k201_78 rfl rfl ?_
      refine bd_i h (fun s41 hs41 h => ?_)
      refine lp_o (fun (s24 : Int32 × Int32) => match s24 with | (x25, x26) => ∀ (d27 : Option (Int32 ⊕ Int64)), oo LN xs 0 0 201 79 [some (.ref 43), some (.int a0), some (.int x25), some (.int x26), (d27.map dv)] [] M23 (some (.int t.1), t.2)) (fun (s41 : Int32 × Int32) => match s41 with | (x42, x43) => ∀ (d44 : Option (Int32 ⊕ Int64)), oo LN xs 0 0 201 148 [some (.ref 43), some (.int a0), some (.int x42), some (.int x43), (d44.map dv)] [] M23 (some (.int t.1), t.2)) ?_ hs41 ?_ none
      · rintro ⟨x25, x26⟩ ws24 h hK
        dsimp only at h
        show ∀ (d27 : Option (Int32 ⊕ Int64)), oo LN xs 0 0 201 79 [some (.ref 43), some (.int a0), some (.int x25), some (.int x26), (d27.map dv)] [] M23 (some (.int t.1), t.2)
        intro d27
        refine o_iload_n k201_79 rfl ?_
        refine o_aload_n k201_80 rfl ?_
        refine o_gf k201_81 (gf_43_0 _) ?_
        refine o_iconst (v := 1) k201_84 (by decide) ?_
        refine o_iald k201_85 rfl ia_44 (by decide) ?_
        refine o_icmp_ge k201_86 (fun hc29 => ?_) (fun hc29 => ?_)
        · rw [if_pos hc29] at h
          have h9 := Option.some.inj h
          subst h9
          exact hK d27
        · rw [if_neg hc29] at h
          refine o_iconst (v := 0) k201_89 (by decide) ?_
          refine o_istore (v := 0) (L' := [some (.ref 43), some (.int a0), some (.int x25), some (.int x26), some (.int 0)]) k201_90 rfl rfl ?_
          refine bd_i h (fun s38 hs38 h => ?_)
          refine lp_o (fun (s30 : Int32 × Int32) => match s30 with | (x31, x32) => oo LN xs 0 0 201 92 [some (.ref 43), some (.int a0), some (.int x31), some (.int x26), some (.int x32)] [] M23 (some (.int t.1), t.2)) (fun (s38 : Int32 × Int32) => match s38 with | (x39, x40) => oo LN xs 0 0 201 142 [some (.ref 43), some (.int a0), some (.int x39), some (.int x26), some (.int x40)] [] M23 (some (.int t.1), t.2)) ?_ hs38 ?_
          · rintro ⟨x31, x32⟩ ws30 h hK
            dsimp only at h
            show oo LN xs 0 0 201 92 [some (.ref 43), some (.int a0), some (.int x31), some (.int x26), some (.int x32)] [] M23 (some (.int t.1), t.2)
            refine o_iload k201_92 rfl ?_
            refine o_aload_n k201_94 rfl ?_
            refine o_gf k201_95 (gf_43_0 _) ?_
            refine o_iconst (v := 2) k201_98 (by decide) ?_
            refine o_iald k201_99 rfl ia_44 (by decide) ?_
            refine o_icmp_ge k201_100 (fun hc34 => ?_) (fun hc34 => ?_)
            · rw [if_pos hc34] at h
              have h9 := Option.some.inj h
              subst h9
              exact hK
            · rw [if_neg hc34] at h
              refine o_iload_n k201_103 rfl ?_
              refine o_aload_n k201_104 rfl ?_
              refine o_gf k201_105 (gf_43_25 _) ?_
              refine o_bipush (v := 8) k201_108 (by decide) ?_
              refine o_iload_n k201_110 rfl ?_
              refine o_imul k201_111 ?_
              refine o_iload k201_112 rfl ?_
              refine o_iadd k201_114 ?_
              obtain ⟨hc35, h⟩ := ck_i h
              refine o_iald k201_115 rfl ia_52 hc35 ?_
              refine o_aload_n k201_116 rfl ?_
              refine o_gf k201_117 (gf_43_26 _) ?_
              refine o_bipush (v := 8) k201_120 (by decide) ?_
              refine o_iload_n k201_122 rfl ?_
              refine o_imul k201_123 ?_
              refine o_iload k201_124 rfl ?_
              refine o_iadd k201_126 ?_
              obtain ⟨hc36, h⟩ := ck_i h
              refine o_iald k201_127 rfl ia_53 hc36 ?_
              refine o_call k201_128 pj_200 (fun _ => rfl) (by decide) rfl (as := [.int (M23 52 (((8 : Int32) * x26) + x32).toNatClampNeg), .int (M23 53 (((8 : Int32) * x26) + x32).toNatClampNeg)]) (rest := [.int x31]) rfl (L0 := [some (.int (M23 52 (((8 : Int32) * x26) + x32).toNatClampNeg)), some (.int (M23 53 (((8 : Int32) * x26) + x32).toNatClampNeg))]) rfl (t_X8_differ (M := M23) (a0 := (M23 52 (((8 : Int32) * x26) + x32).toNatClampNeg)) (a1 := (M23 53 (((8 : Int32) * x26) + x32).toNatClampNeg)) rfl) ?_
              refine o_call k201_131 pj_126 (fun _ => rfl) (by decide) rfl (as := [.int (f_X8_differ (M23 52 (((8 : Int32) * x26) + x32).toNatClampNeg) (M23 53 (((8 : Int32) * x26) + x32).toNatClampNeg))]) (rest := [.int x31]) rfl (L0 := [some (.int (f_X8_differ (M23 52 (((8 : Int32) * x26) + x32).toNatClampNeg) (M23 53 (((8 : Int32) * x26) + x32).toNatClampNeg)))]) rfl (t_X8_flag (M := M23) (a0 := (f_X8_differ (M23 52 (((8 : Int32) * x26) + x32).toNatClampNeg) (M23 53 (((8 : Int32) * x26) + x32).toNatClampNeg))) rfl) ?_
              refine o_iadd k201_134 ?_
              refine bl_i h (fun v37 ev37 h => ?_)
              refine o_istore_n (v := v37) k201_135 ev37 (L' := [some (.ref 43), some (.int a0), some (.int v37), some (.int x26), some (.int x32)]) rfl ?_
              refine o_iinc (k := 1) (L' := [some (.ref 43), some (.int a0), some (.int v37), some (.int x26), some (.int (x32 + 1))]) k201_136 rfl (by decide) rfl ?_
              refine o_goto k201_139 ?_
              have h9 := Option.some.inj h
              subst h9
              exact hK
          · obtain ⟨x39, x40⟩ := s38
            show oo LN xs 0 0 201 142 [some (.ref 43), some (.int a0), some (.int x39), some (.int x26), some (.int x40)] [] M23 (some (.int t.1), t.2)
            dsimp only at h
            refine o_iinc (k := 1) (L' := [some (.ref 43), some (.int a0), some (.int x39), some (.int (x26 + 1)), some (.int x40)]) k201_142 rfl (by decide) rfl ?_
            refine o_goto k201_145 ?_
            have h9 := Option.some.inj h
            subst h9
            exact hK (some (.inl x40))
      · obtain ⟨x42, x43⟩ := s41
        show ∀ (d44 : Option (Int32 ⊕ Int64)), oo LN xs 0 0 201 148 [some (.ref 43), some (.int a0), some (.int x42), some (.int x43), (d44.map dv)] [] M23 (some (.int t.1), t.2)
        dsimp only at h
        intro d44
        refine o_iload_n k201_148 rfl ?_
        have h9 := Option.some.inj h
        subst h9
        exact o_iret pj_201 k201_149 rfl nr_i
def f_X8_differs_43 (a0 : Int32) (a1 : Int32) (M : am_M) : Option (Int32 × am_M) := (if (f_X8_in a0.toInt64 0 1) = 0 then (some ((-1), M)) else ((f_X8_isPart a1).bind (fun v2 => (if v2 = 0 then (some ((-1), M)) else (if am_dbin a0 2 = true then ((lp (σ := Int32 × Int32) (ρ := Int32 × Int32) (fun (s5 : Int32 × Int32) => match s5 with | (x6, x7) => (if 2 < x7 then (some (.inr (x6, x7))) else (if x6 = 0 then (some (.inl (0, (x7 + 1)))) else (if am_dbin (((151 : Int32) * a0) + x7) 302 = true then (if am_dbin x7 151 = true then (if (M 45 (((151 : Int32) * a0) + x7).toNatClampNeg) = (M 44 x7.toNatClampNeg) then (some (.inl (1, (x7 + 1)))) else (some (.inl (0, (x7 + 1))))) else none) else none)))) lp_F ((M 46 a0.toNatClampNeg), 0)).bind (fun (s13 : Int32 × Int32) => match s13 with | (x14, x15) => (if x14 = 0 then (some ((-2), M)) else (if a1 = 0 then ((f_X8_seenDiffers_43 a0 M).bind (fun q19 => (some (q19.1, q19.2)))) else ((f_X8_cellsDiffer_43 a0 M).bind (fun v18 => (some (v18, M)))))))) else none)))))
set_option maxRecDepth 20000 in
theorem t_X8_differs_43 {LN : Nat} {xs : Nat → Int32} {a0 : Int32} {a1 : Int32} {M : am_M} {t : Int32 × am_M} (h : f_X8_differs_43 a0 a1 M = some t) : oo LN xs 0 0 203 0 [some (.ref 43), some (.int a0), some (.int a1), none, none] [] M (some (.int t.1), t.2) := by
  unfold f_X8_differs_43 at h
  refine o_iload_n k203_0 rfl ?_
  refine o_i2l k203_1 ?_
  refine o_lconst (v := 0) k203_2 (by decide) ?_
  refine o_lconst (v := 1) k203_3 (by decide) ?_
  refine o_call k203_4 pj_125 (fun _ => rfl) (by decide) rfl (as := [.long a0.toInt64, .long 0, .long 1]) (rest := []) rfl (L0 := [some (.long a0.toInt64), none, some (.long 0), none, some (.long 1), none]) rfl (t_X8_in (M := M) (a0 := a0.toInt64) (a1 := 0) (a2 := 1) rfl) ?_
  refine o_if_eq k203_7 (fun hc1 => ?_) (fun hc1 => ?_)
  · rw [if_pos hc1] at h
    refine o_iconst (v := (-1)) k203_17 (by decide) ?_
    have h9 := Option.some.inj h
    subst h9
    exact o_iret pj_203 k203_18 rfl nr_i
  · rw [if_neg hc1] at h
    refine o_iload_n k203_10 rfl ?_
    refine bd_i h (fun v2 hv2 h => ?_)
    refine o_call k203_11 pj_153 (fun _ => rfl) (by decide) rfl (as := [.int a1]) (rest := []) rfl (L0 := [some (.int a1)]) rfl (t_X8_isPart hv2) ?_
    refine o_if_ne k203_14 (fun hc3 => ?_) (fun hc3 => ?_)
    · rw [if_neg hc3] at h
      refine o_aload_n k203_19 rfl ?_
      refine o_gf k203_20 (gf_43_2 _) ?_
      refine o_iload_n k203_23 rfl ?_
      obtain ⟨hc4, h⟩ := ck_i h
      refine o_bald k203_24 ba_46 hc4 ?_
      refine o_istore_n (v := (M 46 a0.toNatClampNeg)) (L' := [some (.ref 43), some (.int a0), some (.int a1), some (.int (M 46 a0.toNatClampNeg)), none]) k203_25 rfl rfl ?_
      refine o_iconst (v := 0) k203_26 (by decide) ?_
      refine o_istore (v := 0) (L' := [some (.ref 43), some (.int a0), some (.int a1), some (.int (M 46 a0.toNatClampNeg)), some (.int 0)]) k203_27 rfl rfl ?_
      refine bd_i h (fun s13 hs13 h => ?_)
      refine lp_o (fun (s5 : Int32 × Int32) => match s5 with | (x6, x7) => oo LN xs 0 0 203 29 [some (.ref 43), some (.int a0), some (.int a1), some (.int x6), some (.int x7)] [] M (some (.int t.1), t.2)) (fun (s13 : Int32 × Int32) => match s13 with | (x14, x15) => oo LN xs 0 0 203 74 [some (.ref 43), some (.int a0), some (.int a1), some (.int x14), some (.int x15)] [] M (some (.int t.1), t.2)) ?_ hs13 ?_
      · rintro ⟨x6, x7⟩ ws5 h hK
        dsimp only at h
        show oo LN xs 0 0 203 29 [some (.ref 43), some (.int a0), some (.int a1), some (.int x6), some (.int x7)] [] M (some (.int t.1), t.2)
        refine o_iload k203_29 rfl ?_
        refine o_iconst (v := 2) k203_31 (by decide) ?_
        refine o_icmp_gt k203_32 (fun hc8 => ?_) (fun hc8 => ?_)
        · rw [if_pos hc8] at h
          have h9 := Option.some.inj h
          subst h9
          exact hK
        · rw [if_neg hc8] at h
          refine o_iload_n k203_35 rfl ?_
          refine o_if_eq k203_36 (fun hc9 => ?_) (fun hc9 => ?_)
          · rw [if_pos hc9] at h
            refine o_iconst (v := 0) k203_66 (by decide) ?_
            refine o_istore_n (v := 0) (L' := [some (.ref 43), some (.int a0), some (.int a1), some (.int 0), some (.int x7)]) k203_67 rfl rfl ?_
            refine o_iinc (k := 1) (L' := [some (.ref 43), some (.int a0), some (.int a1), some (.int 0), some (.int (x7 + 1))]) k203_68 rfl (by decide) rfl ?_
            refine o_goto k203_71 ?_
            have h9 := Option.some.inj h
            subst h9
            exact hK
          · rw [if_neg hc9] at h
            refine o_aload_n k203_39 rfl ?_
            refine o_gf k203_40 (gf_43_1 _) ?_
            refine o_sipush (v := 151) k203_43 (by decide) ?_
            refine o_iload_n k203_46 rfl ?_
            refine o_imul k203_47 ?_
            refine o_iload k203_48 rfl ?_
            refine o_iadd k203_50 ?_
            obtain ⟨hc10, h⟩ := ck_i h
            refine o_iald k203_51 rfl ia_45 hc10 ?_
            refine o_aload_n k203_52 rfl ?_
            refine o_gf k203_53 (gf_43_0 _) ?_
            refine o_iload k203_56 rfl ?_
            obtain ⟨hc11, h⟩ := ck_i h
            refine o_iald k203_58 rfl ia_44 hc11 ?_
            refine o_icmp_ne k203_59 (fun hc12 => ?_) (fun hc12 => ?_)
            · rw [if_neg hc12] at h
              refine o_iconst (v := 0) k203_66 (by decide) ?_
              refine o_istore_n (v := 0) (L' := [some (.ref 43), some (.int a0), some (.int a1), some (.int 0), some (.int x7)]) k203_67 rfl rfl ?_
              refine o_iinc (k := 1) (L' := [some (.ref 43), some (.int a0), some (.int a1), some (.int 0), some (.int (x7 + 1))]) k203_68 rfl (by decide) rfl ?_
              refine o_goto k203_71 ?_
              have h9 := Option.some.inj h
              subst h9
              exact hK
            · rw [if_pos hc12] at h
              refine o_iconst (v := 1) k203_62 (by decide) ?_
              refine o_goto k203_63 ?_
              refine o_istore_n (v := 1) (L' := [some (.ref 43), some (.int a0), some (.int a1), some (.int 1), some (.int x7)]) k203_67 rfl rfl ?_
              refine o_iinc (k := 1) (L' := [some (.ref 43), some (.int a0), some (.int a1), some (.int 1), some (.int (x7 + 1))]) k203_68 rfl (by decide) rfl ?_
              refine o_goto k203_71 ?_
              have h9 := Option.some.inj h
              subst h9
              exact hK
      · obtain ⟨x14, x15⟩ := s13
        show oo LN xs 0 0 203 74 [some (.ref 43), some (.int a0), some (.int a1), some (.int x14), some (.int x15)] [] M (some (.int t.1), t.2)
        dsimp only at h
        refine o_iload_n k203_74 rfl ?_
        refine o_if_ne k203_75 (fun hc16 => ?_) (fun hc16 => ?_)
        · rw [if_neg hc16] at h
          refine o_iload_n k203_81 rfl ?_
          refine o_if_ne k203_82 (fun hc17 => ?_) (fun hc17 => ?_)
          · rw [if_neg hc17] at h
            refine o_aload_n k203_93 rfl ?_
            refine o_iload_n k203_94 rfl ?_
            refine bd_i h (fun v18 hv18 h => ?_)
            refine o_call k203_95 pj_202 (fun _ => rfl) (by decide) rfl (as := [.ref 43, .int a0]) (rest := []) rfl (L0 := [some (.ref 43), some (.int a0), none, none, none]) rfl (t_X8_cellsDiffer_43 hv18) ?_
            have h9 := Option.some.inj h
            subst h9
            exact o_iret pj_203 k203_98 rfl nr_i
          · rw [if_pos hc17] at h
            refine o_aload_n k203_85 rfl ?_
            refine o_iload_n k203_86 rfl ?_
            refine bd_i h (fun q19 hq19 h => ?_)
            refine o_call k203_87 pj_201 (fun _ => rfl) (by decide) rfl (as := [.ref 43, .int a0]) (rest := []) rfl (L0 := [some (.ref 43), some (.int a0), none, none, none]) rfl (t_X8_seenDiffers_43 hq19) ?_
            refine o_goto k203_90 ?_
            have h9 := Option.some.inj h
            subst h9
            exact o_iret pj_203 k203_98 rfl nr_i
        · rw [if_pos hc16] at h
          refine o_bipush (v := (-2)) k203_78 (by decide) ?_
          have h9 := Option.some.inj h
          subst h9
          exact o_iret pj_203 k203_80 rfl nr_i
    · rw [if_pos hc3] at h
      refine o_iconst (v := (-1)) k203_17 (by decide) ?_
      have h9 := Option.some.inj h
      subst h9
      exact o_iret pj_203 k203_18 rfl nr_i
def f_X7_isSheet (a0 : Int32) : Int32 := (if a0 < 0 then 0 else (if 4 ≤ a0 then 0 else 1))
set_option maxRecDepth 20000 in
theorem t_X7_isSheet {LN : Nat} {xs : Nat → Int32} {a0 : Int32} {M : am_M} {t : Int32} (h : f_X7_isSheet a0 = t) : oo LN xs 0 0 122 0 [some (.int a0)] [] M (some (.int t), M) := by
  unfold f_X7_isSheet at h
  refine o_iload_n k122_0 rfl ?_
  refine o_if_lt k122_1 (fun hc1 => ?_) (fun hc1 => ?_)
  · rw [if_pos hc1] at h
    refine o_iconst (v := 0) k122_13 (by decide) ?_
    subst h
    exact o_iret pj_122 k122_14 rfl (nr_z (by decide))
  · rw [if_neg hc1] at h
    refine o_iload_n k122_4 rfl ?_
    refine o_iconst (v := 4) k122_5 (by decide) ?_
    refine o_icmp_ge k122_6 (fun hc2 => ?_) (fun hc2 => ?_)
    · rw [if_pos hc2] at h
      refine o_iconst (v := 0) k122_13 (by decide) ?_
      subst h
      exact o_iret pj_122 k122_14 rfl (nr_z (by decide))
    · rw [if_neg hc2] at h
      refine o_iconst (v := 1) k122_9 (by decide) ?_
      refine o_goto k122_10 ?_
      subst h
      exact o_iret pj_122 k122_14 rfl (nr_z (by decide))
def f_X7_isLane (a0 : Int32) : Int32 := (if a0 < 0 then 0 else (if 3 ≤ a0 then 0 else 1))
set_option maxRecDepth 20000 in
theorem t_X7_isLane {LN : Nat} {xs : Nat → Int32} {a0 : Int32} {M : am_M} {t : Int32} (h : f_X7_isLane a0 = t) : oo LN xs 0 0 123 0 [some (.int a0)] [] M (some (.int t), M) := by
  unfold f_X7_isLane at h
  refine o_iload_n k123_0 rfl ?_
  refine o_if_lt k123_1 (fun hc1 => ?_) (fun hc1 => ?_)
  · rw [if_pos hc1] at h
    refine o_iconst (v := 0) k123_13 (by decide) ?_
    subst h
    exact o_iret pj_123 k123_14 rfl (nr_z (by decide))
  · rw [if_neg hc1] at h
    refine o_iload_n k123_4 rfl ?_
    refine o_iconst (v := 3) k123_5 (by decide) ?_
    refine o_icmp_ge k123_6 (fun hc2 => ?_) (fun hc2 => ?_)
    · rw [if_pos hc2] at h
      refine o_iconst (v := 0) k123_13 (by decide) ?_
      subst h
      exact o_iret pj_123 k123_14 rfl (nr_z (by decide))
    · rw [if_neg hc2] at h
      refine o_iconst (v := 1) k123_9 (by decide) ?_
      refine o_goto k123_10 ?_
      subst h
      exact o_iret pj_123 k123_14 rfl (nr_z (by decide))
def f_J7_fill_53178_36 (a0 : Int32) (M : am_M) : Option am_M := ((lp (σ := Int32 × am_M) (ρ := Int32 × am_M) (fun (s1 : Int32 × am_M) => match s1 with | (x2, M3) => (if 40 ≤ x2 then (some (.inr (x2, M3))) else (if am_dbin x2 40 = true then (bl (am_up M3 36 x2.toNatClampNeg a0) (fun (M6 : am_M) => (some (.inl ((x2 + 1), M6))))) else none))) lp_F (0, M)).bind (fun (s7 : Int32 × am_M) => match s7 with | (x8, M9) => (some M9)))
set_option maxRecDepth 20000 in
theorem t_J7_fill_53178_36 {LN : Nat} {xs : Nat → Int32} {a0 : Int32} {M : am_M} {t : am_M} (h : f_J7_fill_53178_36 a0 M = some t) : oo LN xs 0 0 219 0 [some (.ref 36), some (.int a0), none, none] [] M (none, t) := by
  unfold f_J7_fill_53178_36 at h
  refine o_iconst (v := 0) k219_0 (by decide) ?_
  refine o_istore_n (v := 0) (L' := [some (.ref 36), some (.int a0), some (.int 0), none]) k219_1 rfl rfl ?_
  refine o_aload_n k219_2 rfl ?_
  refine o_alen (v := 40) k219_3 rfl (by decide) ?_
  refine o_istore_n (v := 40) (L' := [some (.ref 36), some (.int a0), some (.int 0), some (.int 40)]) k219_4 rfl rfl ?_
  refine bd_i h (fun s7 hs7 h => ?_)
  refine lp_o (fun (s1 : Int32 × am_M) => match s1 with | (x2, M3) => oo LN xs 0 0 219 5 [some (.ref 36), some (.int a0), some (.int x2), some (.int 40)] [] M3 (none, t)) (fun (s7 : Int32 × am_M) => match s7 with | (x8, M9) => oo LN xs 0 0 219 20 [some (.ref 36), some (.int a0), some (.int x8), some (.int 40)] [] M9 (none, t)) ?_ hs7 ?_
  · rintro ⟨x2, M3⟩ ws1 h hK
    dsimp only at h
    show oo LN xs 0 0 219 5 [some (.ref 36), some (.int a0), some (.int x2), some (.int 40)] [] M3 (none, t)
    refine o_iload_n k219_5 rfl ?_
    refine o_iload_n k219_6 rfl ?_
    refine o_icmp_ge k219_7 (fun hc4 => ?_) (fun hc4 => ?_)
    · rw [if_pos hc4] at h
      have h9 := Option.some.inj h
      subst h9
      exact hK
    · rw [if_neg hc4] at h
      refine o_aload_n k219_10 rfl ?_
      refine o_iload_n k219_11 rfl ?_
      refine o_iload_n k219_12 rfl ?_
      obtain ⟨hc5, h⟩ := ck_i h
      refine bl_i h (fun M6 eM6 h => ?_)
      refine o_iast (M' := M6) k219_13 eM6 ia_36 hc5 ?_
      refine o_iinc (k := 1) (L' := [some (.ref 36), some (.int a0), some (.int (x2 + 1)), some (.int 40)]) k219_14 rfl (by decide) rfl ?_
      refine o_goto k219_17 ?_
      have h9 := Option.some.inj h
      subst h9
      exact hK
  · obtain ⟨x8, M9⟩ := s7
    show oo LN xs 0 0 219 20 [some (.ref 36), some (.int a0), some (.int x8), some (.int 40)] [] M9 (none, t)
    dsimp only at h
    have h9 := Option.some.inj h
    subst h9
    exact o_vret pj_219 k219_20 rfl
def f_X3_renew_35 (a0 : Int32) (a1 : Int32) (M : am_M) : Option am_M := (bl (am_up M 35 0 a0) (fun (M1 : am_M) => (bl (am_up M1 35 1 a1) (fun (M2 : am_M) => ((f_J7_fill_53178_36 0 M2).bind (fun q3 => (some q3)))))))
set_option maxRecDepth 20000 in
theorem t_X3_renew_35 {LN : Nat} {xs : Nat → Int32} {a0 : Int32} {a1 : Int32} {M : am_M} {t : am_M} (h : f_X3_renew_35 a0 a1 M = some t) : oo LN xs 0 0 46 0 [some (.ref 35), some (.int a0), some (.int a1)] [] M (none, t) := by
  unfold f_X3_renew_35 at h
  refine o_aload_n k46_0 rfl ?_
  refine o_iload_n k46_1 rfl ?_
  refine bl_i h (fun M1 eM1 h => ?_)
  refine o_pf (M' := M1) k46_2 (pf_35_0 eM1) ?_
  refine o_aload_n k46_5 rfl ?_
  refine o_iload_n k46_6 rfl ?_
  refine bl_i h (fun M2 eM2 h => ?_)
  refine o_pf (M' := M2) k46_7 (pf_35_1 eM2) ?_
  refine o_aload_n k46_10 rfl ?_
  refine o_gf k46_11 (gf_35_2 _) ?_
  refine o_iconst (v := 0) k46_14 (by decide) ?_
  refine bd_i h (fun q3 hq3 h => ?_)
  refine o_call k46_15 pj_219 (fun _ => rfl) (by decide) rfl (as := [.ref 36, .int 0]) (rest := []) rfl (L0 := [some (.ref 36), some (.int 0), none, none]) rfl (t_J7_fill_53178_36 hq3) ?_
  have h9 := Option.some.inj h
  subst h9
  exact o_vret pj_46 k46_18 rfl
def f_J7_fill_53178_38 (a0 : Int32) (M : am_M) : Option am_M := ((lp (σ := Int32 × am_M) (ρ := Int32 × am_M) (fun (s1 : Int32 × am_M) => match s1 with | (x2, M3) => (if 40 ≤ x2 then (some (.inr (x2, M3))) else (if am_dbin x2 40 = true then (bl (am_up M3 38 x2.toNatClampNeg a0) (fun (M6 : am_M) => (some (.inl ((x2 + 1), M6))))) else none))) lp_F (0, M)).bind (fun (s7 : Int32 × am_M) => match s7 with | (x8, M9) => (some M9)))
set_option maxRecDepth 20000 in
theorem t_J7_fill_53178_38 {LN : Nat} {xs : Nat → Int32} {a0 : Int32} {M : am_M} {t : am_M} (h : f_J7_fill_53178_38 a0 M = some t) : oo LN xs 0 0 219 0 [some (.ref 38), some (.int a0), none, none] [] M (none, t) := by
  unfold f_J7_fill_53178_38 at h
  refine o_iconst (v := 0) k219_0 (by decide) ?_
  refine o_istore_n (v := 0) (L' := [some (.ref 38), some (.int a0), some (.int 0), none]) k219_1 rfl rfl ?_
  refine o_aload_n k219_2 rfl ?_
  refine o_alen (v := 40) k219_3 rfl (by decide) ?_
  refine o_istore_n (v := 40) (L' := [some (.ref 38), some (.int a0), some (.int 0), some (.int 40)]) k219_4 rfl rfl ?_
  refine bd_i h (fun s7 hs7 h => ?_)
  refine lp_o (fun (s1 : Int32 × am_M) => match s1 with | (x2, M3) => oo LN xs 0 0 219 5 [some (.ref 38), some (.int a0), some (.int x2), some (.int 40)] [] M3 (none, t)) (fun (s7 : Int32 × am_M) => match s7 with | (x8, M9) => oo LN xs 0 0 219 20 [some (.ref 38), some (.int a0), some (.int x8), some (.int 40)] [] M9 (none, t)) ?_ hs7 ?_
  · rintro ⟨x2, M3⟩ ws1 h hK
    dsimp only at h
    show oo LN xs 0 0 219 5 [some (.ref 38), some (.int a0), some (.int x2), some (.int 40)] [] M3 (none, t)
    refine o_iload_n k219_5 rfl ?_
    refine o_iload_n k219_6 rfl ?_
    refine o_icmp_ge k219_7 (fun hc4 => ?_) (fun hc4 => ?_)
    · rw [if_pos hc4] at h
      have h9 := Option.some.inj h
      subst h9
      exact hK
    · rw [if_neg hc4] at h
      refine o_aload_n k219_10 rfl ?_
      refine o_iload_n k219_11 rfl ?_
      refine o_iload_n k219_12 rfl ?_
      obtain ⟨hc5, h⟩ := ck_i h
      refine bl_i h (fun M6 eM6 h => ?_)
      refine o_iast (M' := M6) k219_13 eM6 ia_38 hc5 ?_
      refine o_iinc (k := 1) (L' := [some (.ref 38), some (.int a0), some (.int (x2 + 1)), some (.int 40)]) k219_14 rfl (by decide) rfl ?_
      refine o_goto k219_17 ?_
      have h9 := Option.some.inj h
      subst h9
      exact hK
  · obtain ⟨x8, M9⟩ := s7
    show oo LN xs 0 0 219 20 [some (.ref 38), some (.int a0), some (.int x8), some (.int 40)] [] M9 (none, t)
    dsimp only at h
    have h9 := Option.some.inj h
    subst h9
    exact o_vret pj_219 k219_20 rfl
def f_X3_renew_37 (a0 : Int32) (a1 : Int32) (M : am_M) : Option am_M := (bl (am_up M 37 0 a0) (fun (M1 : am_M) => (bl (am_up M1 37 1 a1) (fun (M2 : am_M) => ((f_J7_fill_53178_38 0 M2).bind (fun q3 => (some q3)))))))
set_option maxRecDepth 20000 in
theorem t_X3_renew_37 {LN : Nat} {xs : Nat → Int32} {a0 : Int32} {a1 : Int32} {M : am_M} {t : am_M} (h : f_X3_renew_37 a0 a1 M = some t) : oo LN xs 0 0 46 0 [some (.ref 37), some (.int a0), some (.int a1)] [] M (none, t) := by
  unfold f_X3_renew_37 at h
  refine o_aload_n k46_0 rfl ?_
  refine o_iload_n k46_1 rfl ?_
  refine bl_i h (fun M1 eM1 h => ?_)
  refine o_pf (M' := M1) k46_2 (pf_37_0 eM1) ?_
  refine o_aload_n k46_5 rfl ?_
  refine o_iload_n k46_6 rfl ?_
  refine bl_i h (fun M2 eM2 h => ?_)
  refine o_pf (M' := M2) k46_7 (pf_37_1 eM2) ?_
  refine o_aload_n k46_10 rfl ?_
  refine o_gf k46_11 (gf_37_2 _) ?_
  refine o_iconst (v := 0) k46_14 (by decide) ?_
  refine bd_i h (fun q3 hq3 h => ?_)
  refine o_call k46_15 pj_219 (fun _ => rfl) (by decide) rfl (as := [.ref 38, .int 0]) (rest := []) rfl (L0 := [some (.ref 38), some (.int 0), none, none]) rfl (t_J7_fill_53178_38 hq3) ?_
  have h9 := Option.some.inj h
  subst h9
  exact o_vret pj_46 k46_18 rfl
def f_J7_fill_53178_40 (a0 : Int32) (M : am_M) : Option am_M := ((lp (σ := Int32 × am_M) (ρ := Int32 × am_M) (fun (s1 : Int32 × am_M) => match s1 with | (x2, M3) => (if 40 ≤ x2 then (some (.inr (x2, M3))) else (if am_dbin x2 40 = true then (bl (am_up M3 40 x2.toNatClampNeg a0) (fun (M6 : am_M) => (some (.inl ((x2 + 1), M6))))) else none))) lp_F (0, M)).bind (fun (s7 : Int32 × am_M) => match s7 with | (x8, M9) => (some M9)))
set_option maxRecDepth 20000 in
theorem t_J7_fill_53178_40 {LN : Nat} {xs : Nat → Int32} {a0 : Int32} {M : am_M} {t : am_M} (h : f_J7_fill_53178_40 a0 M = some t) : oo LN xs 0 0 219 0 [some (.ref 40), some (.int a0), none, none] [] M (none, t) := by
  unfold f_J7_fill_53178_40 at h
  refine o_iconst (v := 0) k219_0 (by decide) ?_
  refine o_istore_n (v := 0) (L' := [some (.ref 40), some (.int a0), some (.int 0), none]) k219_1 rfl rfl ?_
  refine o_aload_n k219_2 rfl ?_
  refine o_alen (v := 40) k219_3 rfl (by decide) ?_
  refine o_istore_n (v := 40) (L' := [some (.ref 40), some (.int a0), some (.int 0), some (.int 40)]) k219_4 rfl rfl ?_
  refine bd_i h (fun s7 hs7 h => ?_)
  refine lp_o (fun (s1 : Int32 × am_M) => match s1 with | (x2, M3) => oo LN xs 0 0 219 5 [some (.ref 40), some (.int a0), some (.int x2), some (.int 40)] [] M3 (none, t)) (fun (s7 : Int32 × am_M) => match s7 with | (x8, M9) => oo LN xs 0 0 219 20 [some (.ref 40), some (.int a0), some (.int x8), some (.int 40)] [] M9 (none, t)) ?_ hs7 ?_
  · rintro ⟨x2, M3⟩ ws1 h hK
    dsimp only at h
    show oo LN xs 0 0 219 5 [some (.ref 40), some (.int a0), some (.int x2), some (.int 40)] [] M3 (none, t)
    refine o_iload_n k219_5 rfl ?_
    refine o_iload_n k219_6 rfl ?_
    refine o_icmp_ge k219_7 (fun hc4 => ?_) (fun hc4 => ?_)
    · rw [if_pos hc4] at h
      have h9 := Option.some.inj h
      subst h9
      exact hK
    · rw [if_neg hc4] at h
      refine o_aload_n k219_10 rfl ?_
      refine o_iload_n k219_11 rfl ?_
      refine o_iload_n k219_12 rfl ?_
      obtain ⟨hc5, h⟩ := ck_i h
      refine bl_i h (fun M6 eM6 h => ?_)
      refine o_iast (M' := M6) k219_13 eM6 ia_40 hc5 ?_
      refine o_iinc (k := 1) (L' := [some (.ref 40), some (.int a0), some (.int (x2 + 1)), some (.int 40)]) k219_14 rfl (by decide) rfl ?_
      refine o_goto k219_17 ?_
      have h9 := Option.some.inj h
      subst h9
      exact hK
  · obtain ⟨x8, M9⟩ := s7
    show oo LN xs 0 0 219 20 [some (.ref 40), some (.int a0), some (.int x8), some (.int 40)] [] M9 (none, t)
    dsimp only at h
    have h9 := Option.some.inj h
    subst h9
    exact o_vret pj_219 k219_20 rfl
def f_X3_renew_39 (a0 : Int32) (a1 : Int32) (M : am_M) : Option am_M := (bl (am_up M 39 0 a0) (fun (M1 : am_M) => (bl (am_up M1 39 1 a1) (fun (M2 : am_M) => ((f_J7_fill_53178_40 0 M2).bind (fun q3 => (some q3)))))))
set_option maxRecDepth 20000 in
theorem t_X3_renew_39 {LN : Nat} {xs : Nat → Int32} {a0 : Int32} {a1 : Int32} {M : am_M} {t : am_M} (h : f_X3_renew_39 a0 a1 M = some t) : oo LN xs 0 0 46 0 [some (.ref 39), some (.int a0), some (.int a1)] [] M (none, t) := by
  unfold f_X3_renew_39 at h
  refine o_aload_n k46_0 rfl ?_
  refine o_iload_n k46_1 rfl ?_
  refine bl_i h (fun M1 eM1 h => ?_)
  refine o_pf (M' := M1) k46_2 (pf_39_0 eM1) ?_
  refine o_aload_n k46_5 rfl ?_
  refine o_iload_n k46_6 rfl ?_
  refine bl_i h (fun M2 eM2 h => ?_)
  refine o_pf (M' := M2) k46_7 (pf_39_1 eM2) ?_
  refine o_aload_n k46_10 rfl ?_
  refine o_gf k46_11 (gf_39_2 _) ?_
  refine o_iconst (v := 0) k46_14 (by decide) ?_
  refine bd_i h (fun q3 hq3 h => ?_)
  refine o_call k46_15 pj_219 (fun _ => rfl) (by decide) rfl (as := [.ref 40, .int 0]) (rest := []) rfl (L0 := [some (.ref 40), some (.int 0), none, none]) rfl (t_J7_fill_53178_40 hq3) ?_
  have h9 := Option.some.inj h
  subst h9
  exact o_vret pj_46 k46_18 rfl
def f_J7_fill_53178_42 (a0 : Int32) (M : am_M) : Option am_M := ((lp (σ := Int32 × am_M) (ρ := Int32 × am_M) (fun (s1 : Int32 × am_M) => match s1 with | (x2, M3) => (if 40 ≤ x2 then (some (.inr (x2, M3))) else (if am_dbin x2 40 = true then (bl (am_up M3 42 x2.toNatClampNeg a0) (fun (M6 : am_M) => (some (.inl ((x2 + 1), M6))))) else none))) lp_F (0, M)).bind (fun (s7 : Int32 × am_M) => match s7 with | (x8, M9) => (some M9)))
set_option maxRecDepth 20000 in
theorem t_J7_fill_53178_42 {LN : Nat} {xs : Nat → Int32} {a0 : Int32} {M : am_M} {t : am_M} (h : f_J7_fill_53178_42 a0 M = some t) : oo LN xs 0 0 219 0 [some (.ref 42), some (.int a0), none, none] [] M (none, t) := by
  unfold f_J7_fill_53178_42 at h
  refine o_iconst (v := 0) k219_0 (by decide) ?_
  refine o_istore_n (v := 0) (L' := [some (.ref 42), some (.int a0), some (.int 0), none]) k219_1 rfl rfl ?_
  refine o_aload_n k219_2 rfl ?_
  refine o_alen (v := 40) k219_3 rfl (by decide) ?_
  refine o_istore_n (v := 40) (L' := [some (.ref 42), some (.int a0), some (.int 0), some (.int 40)]) k219_4 rfl rfl ?_
  refine bd_i h (fun s7 hs7 h => ?_)
  refine lp_o (fun (s1 : Int32 × am_M) => match s1 with | (x2, M3) => oo LN xs 0 0 219 5 [some (.ref 42), some (.int a0), some (.int x2), some (.int 40)] [] M3 (none, t)) (fun (s7 : Int32 × am_M) => match s7 with | (x8, M9) => oo LN xs 0 0 219 20 [some (.ref 42), some (.int a0), some (.int x8), some (.int 40)] [] M9 (none, t)) ?_ hs7 ?_
  · rintro ⟨x2, M3⟩ ws1 h hK
    dsimp only at h
    show oo LN xs 0 0 219 5 [some (.ref 42), some (.int a0), some (.int x2), some (.int 40)] [] M3 (none, t)
    refine o_iload_n k219_5 rfl ?_
    refine o_iload_n k219_6 rfl ?_
    refine o_icmp_ge k219_7 (fun hc4 => ?_) (fun hc4 => ?_)
    · rw [if_pos hc4] at h
      have h9 := Option.some.inj h
      subst h9
      exact hK
    · rw [if_neg hc4] at h
      refine o_aload_n k219_10 rfl ?_
      refine o_iload_n k219_11 rfl ?_
      refine o_iload_n k219_12 rfl ?_
      obtain ⟨hc5, h⟩ := ck_i h
      refine bl_i h (fun M6 eM6 h => ?_)
      refine o_iast (M' := M6) k219_13 eM6 ia_42 hc5 ?_
      refine o_iinc (k := 1) (L' := [some (.ref 42), some (.int a0), some (.int (x2 + 1)), some (.int 40)]) k219_14 rfl (by decide) rfl ?_
      refine o_goto k219_17 ?_
      have h9 := Option.some.inj h
      subst h9
      exact hK
  · obtain ⟨x8, M9⟩ := s7
    show oo LN xs 0 0 219 20 [some (.ref 42), some (.int a0), some (.int x8), some (.int 40)] [] M9 (none, t)
    dsimp only at h
    have h9 := Option.some.inj h
    subst h9
    exact o_vret pj_219 k219_20 rfl
def f_X3_renew_41 (a0 : Int32) (a1 : Int32) (M : am_M) : Option am_M := (bl (am_up M 41 0 a0) (fun (M1 : am_M) => (bl (am_up M1 41 1 a1) (fun (M2 : am_M) => ((f_J7_fill_53178_42 0 M2).bind (fun q3 => (some q3)))))))
set_option maxRecDepth 20000 in
theorem t_X3_renew_41 {LN : Nat} {xs : Nat → Int32} {a0 : Int32} {a1 : Int32} {M : am_M} {t : am_M} (h : f_X3_renew_41 a0 a1 M = some t) : oo LN xs 0 0 46 0 [some (.ref 41), some (.int a0), some (.int a1)] [] M (none, t) := by
  unfold f_X3_renew_41 at h
  refine o_aload_n k46_0 rfl ?_
  refine o_iload_n k46_1 rfl ?_
  refine bl_i h (fun M1 eM1 h => ?_)
  refine o_pf (M' := M1) k46_2 (pf_41_0 eM1) ?_
  refine o_aload_n k46_5 rfl ?_
  refine o_iload_n k46_6 rfl ?_
  refine bl_i h (fun M2 eM2 h => ?_)
  refine o_pf (M' := M2) k46_7 (pf_41_1 eM2) ?_
  refine o_aload_n k46_10 rfl ?_
  refine o_gf k46_11 (gf_41_2 _) ?_
  refine o_iconst (v := 0) k46_14 (by decide) ?_
  refine bd_i h (fun q3 hq3 h => ?_)
  refine o_call k46_15 pj_219 (fun _ => rfl) (by decide) rfl (as := [.ref 42, .int 0]) (rest := []) rfl (L0 := [some (.ref 42), some (.int 0), none, none]) rfl (t_J7_fill_53178_42 hq3) ?_
  have h9 := Option.some.inj h
  subst h9
  exact o_vret pj_46 k46_18 rfl
def f_X7_sheet_0 (a0 : Int32) (a1 : Int32) (a2 : Int32) (M : am_M) : Option (Int32 × am_M) := (if (f_X7_isSheet a0) = 0 then (some ((-1), M)) else (if (f_X7_isLane a1) = 0 then (some ((-1), M)) else (if a2 ≤ 40 then (if 0 ≤ a2 then (if a0 = 0 then ((f_X3_renew_35 a1 a2 M).bind (fun q5 => (some (1, q5)))) else (if a0 = 1 then ((f_X3_renew_37 a1 a2 M).bind (fun q6 => (some (1, q6)))) else (if a0 = 2 then ((f_X3_renew_39 a1 a2 M).bind (fun q7 => (some (1, q7)))) else (if a0 = 3 then ((f_X3_renew_41 a1 a2 M).bind (fun q8 => (some (1, q8)))) else none)))) else (some ((-14), M))) else (some ((-1), M)))))
set_option maxRecDepth 20000 in
theorem t_X7_sheet_0 {LN : Nat} {xs : Nat → Int32} {a0 : Int32} {a1 : Int32} {a2 : Int32} {M : am_M} {t : Int32 × am_M} (h : f_X7_sheet_0 a0 a1 a2 M = some t) : oo LN xs 0 0 114 0 [some (.ref 0), some (.int a0), some (.int a1), some (.int a2)] [] M (some (.int t.1), t.2) := by
  unfold f_X7_sheet_0 at h
  refine o_iload_n k114_0 rfl ?_
  refine o_call k114_1 pj_122 (fun _ => rfl) (by decide) rfl (as := [.int a0]) (rest := []) rfl (L0 := [some (.int a0)]) rfl (t_X7_isSheet (M := M) (a0 := a0) rfl) ?_
  refine o_if_eq k114_4 (fun hc1 => ?_) (fun hc1 => ?_)
  · rw [if_pos hc1] at h
    refine o_iconst (v := (-1)) k114_20 (by decide) ?_
    have h9 := Option.some.inj h
    subst h9
    exact o_iret pj_114 k114_21 rfl nr_i
  · rw [if_neg hc1] at h
    refine o_iload_n k114_7 rfl ?_
    refine o_call k114_8 pj_123 (fun _ => rfl) (by decide) rfl (as := [.int a1]) (rest := []) rfl (L0 := [some (.int a1)]) rfl (t_X7_isLane (M := M) (a0 := a1) rfl) ?_
    refine o_if_eq k114_11 (fun hc2 => ?_) (fun hc2 => ?_)
    · rw [if_pos hc2] at h
      refine o_iconst (v := (-1)) k114_20 (by decide) ?_
      have h9 := Option.some.inj h
      subst h9
      exact o_iret pj_114 k114_21 rfl nr_i
    · rw [if_neg hc2] at h
      refine o_iload_n k114_14 rfl ?_
      refine o_bipush (v := 40) k114_15 (by decide) ?_
      refine o_icmp_le k114_17 (fun hc3 => ?_) (fun hc3 => ?_)
      · rw [if_pos hc3] at h
        refine o_iload_n k114_22 rfl ?_
        refine o_if_ge k114_23 (fun hc4 => ?_) (fun hc4 => ?_)
        · rw [if_pos hc4] at h
          refine o_aload_n k114_29 rfl ?_
          refine o_gf k114_30 (gf_0_7 _) ?_
          refine o_iload_n k114_33 rfl ?_
          by_cases hX1 : a0 = 0
          · rw [if_pos hX1] at h
            refine o_aald (v := .ref 35) k114_34 (by rw [hX1]; exact aal_34_0) ?_
            refine o_iload_n k114_35 rfl ?_
            refine o_iload_n k114_36 rfl ?_
            refine bd_i h (fun q5 hq5 h => ?_)
            refine o_call k114_37 pj_46 (fun _ => rfl) (by decide) rfl (as := [.ref 35, .int a1, .int a2]) (rest := []) rfl (L0 := [some (.ref 35), some (.int a1), some (.int a2)]) rfl (t_X3_renew_35 hq5) ?_
            refine o_iconst (v := 1) k114_40 (by decide) ?_
            have h9 := Option.some.inj h
            subst h9
            exact o_iret pj_114 k114_41 rfl nr_i
          rw [if_neg hX1] at h
          by_cases hX2 : a0 = 1
          · rw [if_pos hX2] at h
            refine o_aald (v := .ref 37) k114_34 (by rw [hX2]; exact aal_34_1) ?_
            refine o_iload_n k114_35 rfl ?_
            refine o_iload_n k114_36 rfl ?_
            refine bd_i h (fun q6 hq6 h => ?_)
            refine o_call k114_37 pj_46 (fun _ => rfl) (by decide) rfl (as := [.ref 37, .int a1, .int a2]) (rest := []) rfl (L0 := [some (.ref 37), some (.int a1), some (.int a2)]) rfl (t_X3_renew_37 hq6) ?_
            refine o_iconst (v := 1) k114_40 (by decide) ?_
            have h9 := Option.some.inj h
            subst h9
            exact o_iret pj_114 k114_41 rfl nr_i
          rw [if_neg hX2] at h
          by_cases hX3 : a0 = 2
          · rw [if_pos hX3] at h
            refine o_aald (v := .ref 39) k114_34 (by rw [hX3]; exact aal_34_2) ?_
            refine o_iload_n k114_35 rfl ?_
            refine o_iload_n k114_36 rfl ?_
            refine bd_i h (fun q7 hq7 h => ?_)
            refine o_call k114_37 pj_46 (fun _ => rfl) (by decide) rfl (as := [.ref 39, .int a1, .int a2]) (rest := []) rfl (L0 := [some (.ref 39), some (.int a1), some (.int a2)]) rfl (t_X3_renew_39 hq7) ?_
            refine o_iconst (v := 1) k114_40 (by decide) ?_
            have h9 := Option.some.inj h
            subst h9
            exact o_iret pj_114 k114_41 rfl nr_i
          rw [if_neg hX3] at h
          by_cases hX4 : a0 = 3
          · rw [if_pos hX4] at h
            refine o_aald (v := .ref 41) k114_34 (by rw [hX4]; exact aal_34_3) ?_
            refine o_iload_n k114_35 rfl ?_
            refine o_iload_n k114_36 rfl ?_
            refine bd_i h (fun q8 hq8 h => ?_)
            refine o_call k114_37 pj_46 (fun _ => rfl) (by decide) rfl (as := [.ref 41, .int a1, .int a2]) (rest := []) rfl (L0 := [some (.ref 41), some (.int a1), some (.int a2)]) rfl (t_X3_renew_41 hq8) ?_
            refine o_iconst (v := 1) k114_40 (by decide) ?_
            have h9 := Option.some.inj h
            subst h9
            exact o_iret pj_114 k114_41 rfl nr_i
          rw [if_neg hX4] at h
          cases h
        · rw [if_neg hc4] at h
          refine o_bipush (v := (-14)) k114_26 (by decide) ?_
          have h9 := Option.some.inj h
          subst h9
          exact o_iret pj_114 k114_28 rfl nr_i
      · rw [if_neg hc3] at h
        refine o_iconst (v := (-1)) k114_20 (by decide) ?_
        have h9 := Option.some.inj h
        subst h9
        exact o_iret pj_114 k114_21 rfl nr_i
def f_X8_isSheet (a0 : Int32) (a1 : Int32) : Int32 := (if (f_X8_in a0.toInt64 0 3) = 0 then 0 else (if (f_X8_in a1.toInt64 0 2) = 0 then 0 else 1))
set_option maxRecDepth 20000 in
theorem t_X8_isSheet {LN : Nat} {xs : Nat → Int32} {a0 : Int32} {a1 : Int32} {M : am_M} {t : Int32} (h : f_X8_isSheet a0 a1 = t) : oo LN xs 0 0 204 0 [some (.int a0), some (.int a1)] [] M (some (.int t), M) := by
  unfold f_X8_isSheet at h
  refine o_iload_n k204_0 rfl ?_
  refine o_i2l k204_1 ?_
  refine o_lconst (v := 0) k204_2 (by decide) ?_
  refine o_ldc2_w k204_3 ?_
  refine o_call k204_6 pj_125 (fun _ => rfl) (by decide) rfl (as := [.long a0.toInt64, .long 0, .long 3]) (rest := []) rfl (L0 := [some (.long a0.toInt64), none, some (.long 0), none, some (.long 3), none]) rfl (t_X8_in (M := M) (a0 := a0.toInt64) (a1 := 0) (a2 := 3) rfl) ?_
  refine o_if_eq k204_9 (fun hc1 => ?_) (fun hc1 => ?_)
  · rw [if_pos hc1] at h
    refine o_iconst (v := 0) k204_28 (by decide) ?_
    subst h
    exact o_iret pj_204 k204_29 rfl (nr_z (by decide))
  · rw [if_neg hc1] at h
    refine o_iload_n k204_12 rfl ?_
    refine o_i2l k204_13 ?_
    refine o_lconst (v := 0) k204_14 (by decide) ?_
    refine o_ldc2_w k204_15 ?_
    refine o_call k204_18 pj_125 (fun _ => rfl) (by decide) rfl (as := [.long a1.toInt64, .long 0, .long 2]) (rest := []) rfl (L0 := [some (.long a1.toInt64), none, some (.long 0), none, some (.long 2), none]) rfl (t_X8_in (M := M) (a0 := a1.toInt64) (a1 := 0) (a2 := 2) rfl) ?_
    refine o_if_eq k204_21 (fun hc2 => ?_) (fun hc2 => ?_)
    · rw [if_pos hc2] at h
      refine o_iconst (v := 0) k204_28 (by decide) ?_
      subst h
      exact o_iret pj_204 k204_29 rfl (nr_z (by decide))
    · rw [if_neg hc2] at h
      refine o_iconst (v := 1) k204_24 (by decide) ?_
      refine o_goto k204_25 ?_
      subst h
      exact o_iret pj_204 k204_29 rfl (nr_z (by decide))
def f_X8_sheet_43 (a0 : Int32) (a1 : Int32) (a2 : Int32) (M : am_M) : Option (Int32 × am_M) := (if (f_X8_isSheet a0 a1) = 0 then (some ((-1), M)) else (if a2 ≤ 40 then (if 0 ≤ a2 then (if am_dbin a0 4 = true then (bl (am_up M 54 a0.toNatClampNeg a1) (fun (M5 : am_M) => (if am_dbin a0 4 = true then (bl (am_up M5 55 a0.toNatClampNeg a2) (fun (M7 : am_M) => ((lp (σ := Int32 × am_M) (ρ := Int32 × am_M) (fun (s8 : Int32 × am_M) => match s8 with | (x9, M10) => (if 40 ≤ x9 then (some (.inr (x9, M10))) else (if am_dbin (((40 : Int32) * a0) + x9) 160 = true then (bl (am_up M10 56 (((40 : Int32) * a0) + x9).toNatClampNeg 0) (fun (M13 : am_M) => (some (.inl ((x9 + 1), M13))))) else none))) lp_F (0, M7)).bind (fun (s14 : Int32 × am_M) => match s14 with | (x15, M16) => (some (1, M16)))))) else none))) else none) else (some ((-14), M))) else (some ((-1), M))))
set_option maxRecDepth 20000 in
theorem t_X8_sheet_43 {LN : Nat} {xs : Nat → Int32} {a0 : Int32} {a1 : Int32} {a2 : Int32} {M : am_M} {t : Int32 × am_M} (h : f_X8_sheet_43 a0 a1 a2 M = some t) : oo LN xs 0 0 205 0 [some (.ref 43), some (.int a0), some (.int a1), some (.int a2), none] [] M (some (.int t.1), t.2) := by
  unfold f_X8_sheet_43 at h
  refine o_iload_n k205_0 rfl ?_
  refine o_iload_n k205_1 rfl ?_
  refine o_call k205_2 pj_204 (fun _ => rfl) (by decide) rfl (as := [.int a0, .int a1]) (rest := []) rfl (L0 := [some (.int a0), some (.int a1)]) rfl (t_X8_isSheet (M := M) (a0 := a0) (a1 := a1) rfl) ?_
  refine o_if_eq k205_5 (fun hc1 => ?_) (fun hc1 => ?_)
  · rw [if_pos hc1] at h
    refine o_iconst (v := (-1)) k205_14 (by decide) ?_
    have h9 := Option.some.inj h
    subst h9
    exact o_iret pj_205 k205_15 rfl nr_i
  · rw [if_neg hc1] at h
    refine o_iload_n k205_8 rfl ?_
    refine o_bipush (v := 40) k205_9 (by decide) ?_
    refine o_icmp_le k205_11 (fun hc2 => ?_) (fun hc2 => ?_)
    · rw [if_pos hc2] at h
      refine o_iload_n k205_16 rfl ?_
      refine o_if_ge k205_17 (fun hc3 => ?_) (fun hc3 => ?_)
      · rw [if_pos hc3] at h
        refine o_aload_n k205_23 rfl ?_
        refine o_gf k205_24 (gf_43_27 _) ?_
        refine o_iload_n k205_27 rfl ?_
        refine o_iload_n k205_28 rfl ?_
        obtain ⟨hc4, h⟩ := ck_i h
        refine bl_i h (fun M5 eM5 h => ?_)
        refine o_iast (M' := M5) k205_29 eM5 ia_54 hc4 ?_
        refine o_aload_n k205_30 rfl ?_
        refine o_gf k205_31 (gf_43_28 _) ?_
        refine o_iload_n k205_34 rfl ?_
        refine o_iload_n k205_35 rfl ?_
        obtain ⟨hc6, h⟩ := ck_i h
        refine bl_i h (fun M7 eM7 h => ?_)
        refine o_iast (M' := M7) k205_36 eM7 ia_55 hc6 ?_
        refine o_iconst (v := 0) k205_37 (by decide) ?_
        refine o_istore (v := 0) (L' := [some (.ref 43), some (.int a0), some (.int a1), some (.int a2), some (.int 0)]) k205_38 rfl rfl ?_
        refine bd_i h (fun s14 hs14 h => ?_)
        refine lp_o (fun (s8 : Int32 × am_M) => match s8 with | (x9, M10) => oo LN xs 0 0 205 40 [some (.ref 43), some (.int a0), some (.int a1), some (.int a2), some (.int x9)] [] M10 (some (.int t.1), t.2)) (fun (s14 : Int32 × am_M) => match s14 with | (x15, M16) => oo LN xs 0 0 205 66 [some (.ref 43), some (.int a0), some (.int a1), some (.int a2), some (.int x15)] [] M16 (some (.int t.1), t.2)) ?_ hs14 ?_
        · rintro ⟨x9, M10⟩ ws8 h hK
          dsimp only at h
          show oo LN xs 0 0 205 40 [some (.ref 43), some (.int a0), some (.int a1), some (.int a2), some (.int x9)] [] M10 (some (.int t.1), t.2)
          refine o_iload k205_40 rfl ?_
          refine o_bipush (v := 40) k205_42 (by decide) ?_
          refine o_icmp_ge k205_44 (fun hc11 => ?_) (fun hc11 => ?_)
          · rw [if_pos hc11] at h
            have h9 := Option.some.inj h
            subst h9
            exact hK
          · rw [if_neg hc11] at h
            refine o_aload_n k205_47 rfl ?_
            refine o_gf k205_48 (gf_43_29 _) ?_
            refine o_bipush (v := 40) k205_51 (by decide) ?_
            refine o_iload_n k205_53 rfl ?_
            refine o_imul k205_54 ?_
            refine o_iload k205_55 rfl ?_
            refine o_iadd k205_57 ?_
            refine o_iconst (v := 0) k205_58 (by decide) ?_
            obtain ⟨hc12, h⟩ := ck_i h
            refine bl_i h (fun M13 eM13 h => ?_)
            refine o_iast (M' := M13) k205_59 eM13 ia_56 hc12 ?_
            refine o_iinc (k := 1) (L' := [some (.ref 43), some (.int a0), some (.int a1), some (.int a2), some (.int (x9 + 1))]) k205_60 rfl (by decide) rfl ?_
            refine o_goto k205_63 ?_
            have h9 := Option.some.inj h
            subst h9
            exact hK
        · obtain ⟨x15, M16⟩ := s14
          show oo LN xs 0 0 205 66 [some (.ref 43), some (.int a0), some (.int a1), some (.int a2), some (.int x15)] [] M16 (some (.int t.1), t.2)
          dsimp only at h
          refine o_iconst (v := 1) k205_66 (by decide) ?_
          have h9 := Option.some.inj h
          subst h9
          exact o_iret pj_205 k205_67 rfl nr_i
      · rw [if_neg hc3] at h
        refine o_bipush (v := (-14)) k205_20 (by decide) ?_
        have h9 := Option.some.inj h
        subst h9
        exact o_iret pj_205 k205_22 rfl nr_i
    · rw [if_neg hc2] at h
      refine o_iconst (v := (-1)) k205_14 (by decide) ?_
      have h9 := Option.some.inj h
      subst h9
      exact o_iret pj_205 k205_15 rfl nr_i
def f_X3_isNothing_35 (M : am_M) : Int32 := (if (M 35 0) = (-1) then 1 else 0)
set_option maxRecDepth 20000 in
theorem t_X3_isNothing_35 {LN : Nat} {xs : Nat → Int32} {M : am_M} {t : Int32} (h : f_X3_isNothing_35 M = t) : oo LN xs 0 0 45 0 [some (.ref 35)] [] M (some (.int t), M) := by
  unfold f_X3_isNothing_35 at h
  refine o_aload_n k45_0 rfl ?_
  refine o_gf k45_1 (gf_35_0 _) ?_
  refine o_iconst (v := (-1)) k45_4 (by decide) ?_
  refine o_icmp_ne k45_5 (fun hc1 => ?_) (fun hc1 => ?_)
  · rw [if_neg hc1] at h
    refine o_iconst (v := 0) k45_12 (by decide) ?_
    subst h
    exact o_iret pj_45 k45_13 rfl (nr_z (by decide))
  · rw [if_pos hc1] at h
    refine o_iconst (v := 1) k45_8 (by decide) ?_
    refine o_goto k45_9 ?_
    subst h
    exact o_iret pj_45 k45_13 rfl (nr_z (by decide))
def f_X3_faultAt_35 (a0 : Int32) (a1 : Int32) (a2 : Int32) (M : am_M) : Int32 := (if (f_X3_isNothing_35 M) = 0 then (if a0 = (M 35 0) then (if a1 < 0 then 2 else (if a1 ≤ ((M 35 1) - a2) then 0 else 2)) else 3) else 1)
set_option maxRecDepth 20000 in
theorem t_X3_faultAt_35 {LN : Nat} {xs : Nat → Int32} {a0 : Int32} {a1 : Int32} {a2 : Int32} {M : am_M} {t : Int32} (h : f_X3_faultAt_35 a0 a1 a2 M = t) : oo LN xs 0 0 47 0 [some (.ref 35), some (.int a0), some (.int a1), some (.int a2)] [] M (some (.int t), M) := by
  unfold f_X3_faultAt_35 at h
  refine o_aload_n k47_0 rfl ?_
  refine o_call k47_1 pj_45 (fun _ => rfl) (by decide) rfl (as := [.ref 35]) (rest := []) rfl (L0 := [some (.ref 35)]) rfl (t_X3_isNothing_35 (M := M) rfl) ?_
  refine o_if_eq k47_4 (fun hc1 => ?_) (fun hc1 => ?_)
  · rw [if_pos hc1] at h
    refine o_iload_n k47_9 rfl ?_
    refine o_aload_n k47_10 rfl ?_
    refine o_gf k47_11 (gf_35_0 _) ?_
    refine o_icmp_eq k47_14 (fun hc2 => ?_) (fun hc2 => ?_)
    · rw [if_pos hc2] at h
      refine o_iload_n k47_19 rfl ?_
      refine o_if_lt k47_20 (fun hc3 => ?_) (fun hc3 => ?_)
      · rw [if_pos hc3] at h
        refine o_iconst (v := 2) k47_33 (by decide) ?_
        refine o_goto k47_34 ?_
        subst h
        exact o_iret pj_47 k47_38 rfl nr_i
      · rw [if_neg hc3] at h
        refine o_iload_n k47_23 rfl ?_
        refine o_aload_n k47_24 rfl ?_
        refine o_gf k47_25 (gf_35_1 _) ?_
        refine o_iload_n k47_28 rfl ?_
        refine o_isub k47_29 ?_
        refine o_icmp_le k47_30 (fun hc4 => ?_) (fun hc4 => ?_)
        · rw [if_pos hc4] at h
          refine o_iconst (v := 0) k47_37 (by decide) ?_
          subst h
          exact o_iret pj_47 k47_38 rfl nr_i
        · rw [if_neg hc4] at h
          refine o_iconst (v := 2) k47_33 (by decide) ?_
          refine o_goto k47_34 ?_
          subst h
          exact o_iret pj_47 k47_38 rfl nr_i
    · rw [if_neg hc2] at h
      refine o_iconst (v := 3) k47_17 (by decide) ?_
      subst h
      exact o_iret pj_47 k47_18 rfl nr_i
  · rw [if_neg hc1] at h
    refine o_iconst (v := 1) k47_7 (by decide) ?_
    subst h
    exact o_iret pj_47 k47_8 rfl nr_i
def f_X3_write_35 (a0 : Int32) (a1 : Int32) (M : am_M) : Option am_M := (if (M 35 0) = 0 then (if am_dbin a0 40 = true then (bl (am_up M 36 a0.toNatClampNeg (a1.toInt8.toInt32)) (fun (M2 : am_M) => (some M2))) else none) else (if (M 35 0) = 1 then (if am_dbin a0 40 = true then (bl (am_up M 36 a0.toNatClampNeg (a1.toInt16.toInt32)) (fun (M4 : am_M) => (some M4))) else none) else (if am_dbin a0 40 = true then (bl (am_up M 36 a0.toNatClampNeg a1) (fun (M6 : am_M) => (some M6))) else none)))
set_option maxRecDepth 20000 in
theorem t_X3_write_35 {LN : Nat} {xs : Nat → Int32} {a0 : Int32} {a1 : Int32} {M : am_M} {t : am_M} (h : f_X3_write_35 a0 a1 M = some t) : oo LN xs 0 0 48 0 [some (.ref 35), some (.int a0), some (.int a1)] [] M (none, t) := by
  unfold f_X3_write_35 at h
  refine o_aload_n k48_0 rfl ?_
  refine o_gf k48_1 (gf_35_0 _) ?_
  by_cases hx4_0 : (M 35 0) = 0
  · rw [if_pos hx4_0] at h
    refine o_lsw (tgt := 32) (off := 28) k48_4 (by rw [hx4_0]; decide) (by decide) ?_
    refine o_aload_n k48_32 rfl ?_
    refine o_gf k48_33 (gf_35_2 _) ?_
    refine o_iload_n k48_36 rfl ?_
    refine o_iload_n k48_37 rfl ?_
    refine o_i2b k48_38 ?_
    obtain ⟨hc1, h⟩ := ck_i h
    refine bl_i h (fun M2 eM2 h => ?_)
    refine o_iast (M' := M2) k48_39 eM2 ia_36 hc1 ?_
    refine o_goto k48_40 ?_
    have h9 := Option.some.inj h
    subst h9
    exact o_vret pj_48 k48_61 rfl
  rw [if_neg hx4_0] at h
  by_cases hx4_1 : (M 35 0) = 1
  · rw [if_pos hx4_1] at h
    refine o_lsw (tgt := 43) (off := 39) k48_4 (by rw [hx4_1]; decide) (by decide) ?_
    refine o_aload_n k48_43 rfl ?_
    refine o_gf k48_44 (gf_35_2 _) ?_
    refine o_iload_n k48_47 rfl ?_
    refine o_iload_n k48_48 rfl ?_
    refine o_i2s k48_49 ?_
    obtain ⟨hc3, h⟩ := ck_i h
    refine bl_i h (fun M4 eM4 h => ?_)
    refine o_iast (M' := M4) k48_50 eM4 ia_36 hc3 ?_
    refine o_goto k48_51 ?_
    have h9 := Option.some.inj h
    subst h9
    exact o_vret pj_48 k48_61 rfl
  rw [if_neg hx4_1] at h
  refine o_lsw (tgt := 54) (off := 50) k48_4 (by have n0 := ne_lit (k := 0) 0 (by decide) hx4_0; have n1 := ne_lit (k := 1) 1 (by decide) hx4_1; simp [Op.lookupswitch.offset, n0, Ne.symm n0, n1, Ne.symm n1]) (by decide) ?_
  refine o_aload_n k48_54 rfl ?_
  refine o_gf k48_55 (gf_35_2 _) ?_
  refine o_iload_n k48_58 rfl ?_
  refine o_iload_n k48_59 rfl ?_
  obtain ⟨hc5, h⟩ := ck_i h
  refine bl_i h (fun M6 eM6 h => ?_)
  refine o_iast (M' := M6) k48_60 eM6 ia_36 hc5 ?_
  have h9 := Option.some.inj h
  subst h9
  exact o_vret pj_48 k48_61 rfl
def f_X3_isNothing_37 (M : am_M) : Int32 := (if (M 37 0) = (-1) then 1 else 0)
set_option maxRecDepth 20000 in
theorem t_X3_isNothing_37 {LN : Nat} {xs : Nat → Int32} {M : am_M} {t : Int32} (h : f_X3_isNothing_37 M = t) : oo LN xs 0 0 45 0 [some (.ref 37)] [] M (some (.int t), M) := by
  unfold f_X3_isNothing_37 at h
  refine o_aload_n k45_0 rfl ?_
  refine o_gf k45_1 (gf_37_0 _) ?_
  refine o_iconst (v := (-1)) k45_4 (by decide) ?_
  refine o_icmp_ne k45_5 (fun hc1 => ?_) (fun hc1 => ?_)
  · rw [if_neg hc1] at h
    refine o_iconst (v := 0) k45_12 (by decide) ?_
    subst h
    exact o_iret pj_45 k45_13 rfl (nr_z (by decide))
  · rw [if_pos hc1] at h
    refine o_iconst (v := 1) k45_8 (by decide) ?_
    refine o_goto k45_9 ?_
    subst h
    exact o_iret pj_45 k45_13 rfl (nr_z (by decide))
def f_X3_faultAt_37 (a0 : Int32) (a1 : Int32) (a2 : Int32) (M : am_M) : Int32 := (if (f_X3_isNothing_37 M) = 0 then (if a0 = (M 37 0) then (if a1 < 0 then 2 else (if a1 ≤ ((M 37 1) - a2) then 0 else 2)) else 3) else 1)
set_option maxRecDepth 20000 in
theorem t_X3_faultAt_37 {LN : Nat} {xs : Nat → Int32} {a0 : Int32} {a1 : Int32} {a2 : Int32} {M : am_M} {t : Int32} (h : f_X3_faultAt_37 a0 a1 a2 M = t) : oo LN xs 0 0 47 0 [some (.ref 37), some (.int a0), some (.int a1), some (.int a2)] [] M (some (.int t), M) := by
  unfold f_X3_faultAt_37 at h
  refine o_aload_n k47_0 rfl ?_
  refine o_call k47_1 pj_45 (fun _ => rfl) (by decide) rfl (as := [.ref 37]) (rest := []) rfl (L0 := [some (.ref 37)]) rfl (t_X3_isNothing_37 (M := M) rfl) ?_
  refine o_if_eq k47_4 (fun hc1 => ?_) (fun hc1 => ?_)
  · rw [if_pos hc1] at h
    refine o_iload_n k47_9 rfl ?_
    refine o_aload_n k47_10 rfl ?_
    refine o_gf k47_11 (gf_37_0 _) ?_
    refine o_icmp_eq k47_14 (fun hc2 => ?_) (fun hc2 => ?_)
    · rw [if_pos hc2] at h
      refine o_iload_n k47_19 rfl ?_
      refine o_if_lt k47_20 (fun hc3 => ?_) (fun hc3 => ?_)
      · rw [if_pos hc3] at h
        refine o_iconst (v := 2) k47_33 (by decide) ?_
        refine o_goto k47_34 ?_
        subst h
        exact o_iret pj_47 k47_38 rfl nr_i
      · rw [if_neg hc3] at h
        refine o_iload_n k47_23 rfl ?_
        refine o_aload_n k47_24 rfl ?_
        refine o_gf k47_25 (gf_37_1 _) ?_
        refine o_iload_n k47_28 rfl ?_
        refine o_isub k47_29 ?_
        refine o_icmp_le k47_30 (fun hc4 => ?_) (fun hc4 => ?_)
        · rw [if_pos hc4] at h
          refine o_iconst (v := 0) k47_37 (by decide) ?_
          subst h
          exact o_iret pj_47 k47_38 rfl nr_i
        · rw [if_neg hc4] at h
          refine o_iconst (v := 2) k47_33 (by decide) ?_
          refine o_goto k47_34 ?_
          subst h
          exact o_iret pj_47 k47_38 rfl nr_i
    · rw [if_neg hc2] at h
      refine o_iconst (v := 3) k47_17 (by decide) ?_
      subst h
      exact o_iret pj_47 k47_18 rfl nr_i
  · rw [if_neg hc1] at h
    refine o_iconst (v := 1) k47_7 (by decide) ?_
    subst h
    exact o_iret pj_47 k47_8 rfl nr_i
def f_X3_write_37 (a0 : Int32) (a1 : Int32) (M : am_M) : Option am_M := (if (M 37 0) = 0 then (if am_dbin a0 40 = true then (bl (am_up M 38 a0.toNatClampNeg (a1.toInt8.toInt32)) (fun (M2 : am_M) => (some M2))) else none) else (if (M 37 0) = 1 then (if am_dbin a0 40 = true then (bl (am_up M 38 a0.toNatClampNeg (a1.toInt16.toInt32)) (fun (M4 : am_M) => (some M4))) else none) else (if am_dbin a0 40 = true then (bl (am_up M 38 a0.toNatClampNeg a1) (fun (M6 : am_M) => (some M6))) else none)))
set_option maxRecDepth 20000 in
theorem t_X3_write_37 {LN : Nat} {xs : Nat → Int32} {a0 : Int32} {a1 : Int32} {M : am_M} {t : am_M} (h : f_X3_write_37 a0 a1 M = some t) : oo LN xs 0 0 48 0 [some (.ref 37), some (.int a0), some (.int a1)] [] M (none, t) := by
  unfold f_X3_write_37 at h
  refine o_aload_n k48_0 rfl ?_
  refine o_gf k48_1 (gf_37_0 _) ?_
  by_cases hx4_0 : (M 37 0) = 0
  · rw [if_pos hx4_0] at h
    refine o_lsw (tgt := 32) (off := 28) k48_4 (by rw [hx4_0]; decide) (by decide) ?_
    refine o_aload_n k48_32 rfl ?_
    refine o_gf k48_33 (gf_37_2 _) ?_
    refine o_iload_n k48_36 rfl ?_
    refine o_iload_n k48_37 rfl ?_
    refine o_i2b k48_38 ?_
    obtain ⟨hc1, h⟩ := ck_i h
    refine bl_i h (fun M2 eM2 h => ?_)
    refine o_iast (M' := M2) k48_39 eM2 ia_38 hc1 ?_
    refine o_goto k48_40 ?_
    have h9 := Option.some.inj h
    subst h9
    exact o_vret pj_48 k48_61 rfl
  rw [if_neg hx4_0] at h
  by_cases hx4_1 : (M 37 0) = 1
  · rw [if_pos hx4_1] at h
    refine o_lsw (tgt := 43) (off := 39) k48_4 (by rw [hx4_1]; decide) (by decide) ?_
    refine o_aload_n k48_43 rfl ?_
    refine o_gf k48_44 (gf_37_2 _) ?_
    refine o_iload_n k48_47 rfl ?_
    refine o_iload_n k48_48 rfl ?_
    refine o_i2s k48_49 ?_
    obtain ⟨hc3, h⟩ := ck_i h
    refine bl_i h (fun M4 eM4 h => ?_)
    refine o_iast (M' := M4) k48_50 eM4 ia_38 hc3 ?_
    refine o_goto k48_51 ?_
    have h9 := Option.some.inj h
    subst h9
    exact o_vret pj_48 k48_61 rfl
  rw [if_neg hx4_1] at h
  refine o_lsw (tgt := 54) (off := 50) k48_4 (by have n0 := ne_lit (k := 0) 0 (by decide) hx4_0; have n1 := ne_lit (k := 1) 1 (by decide) hx4_1; simp [Op.lookupswitch.offset, n0, Ne.symm n0, n1, Ne.symm n1]) (by decide) ?_
  refine o_aload_n k48_54 rfl ?_
  refine o_gf k48_55 (gf_37_2 _) ?_
  refine o_iload_n k48_58 rfl ?_
  refine o_iload_n k48_59 rfl ?_
  obtain ⟨hc5, h⟩ := ck_i h
  refine bl_i h (fun M6 eM6 h => ?_)
  refine o_iast (M' := M6) k48_60 eM6 ia_38 hc5 ?_
  have h9 := Option.some.inj h
  subst h9
  exact o_vret pj_48 k48_61 rfl
def f_X3_isNothing_39 (M : am_M) : Int32 := (if (M 39 0) = (-1) then 1 else 0)
set_option maxRecDepth 20000 in
theorem t_X3_isNothing_39 {LN : Nat} {xs : Nat → Int32} {M : am_M} {t : Int32} (h : f_X3_isNothing_39 M = t) : oo LN xs 0 0 45 0 [some (.ref 39)] [] M (some (.int t), M) := by
  unfold f_X3_isNothing_39 at h
  refine o_aload_n k45_0 rfl ?_
  refine o_gf k45_1 (gf_39_0 _) ?_
  refine o_iconst (v := (-1)) k45_4 (by decide) ?_
  refine o_icmp_ne k45_5 (fun hc1 => ?_) (fun hc1 => ?_)
  · rw [if_neg hc1] at h
    refine o_iconst (v := 0) k45_12 (by decide) ?_
    subst h
    exact o_iret pj_45 k45_13 rfl (nr_z (by decide))
  · rw [if_pos hc1] at h
    refine o_iconst (v := 1) k45_8 (by decide) ?_
    refine o_goto k45_9 ?_
    subst h
    exact o_iret pj_45 k45_13 rfl (nr_z (by decide))
def f_X3_faultAt_39 (a0 : Int32) (a1 : Int32) (a2 : Int32) (M : am_M) : Int32 := (if (f_X3_isNothing_39 M) = 0 then (if a0 = (M 39 0) then (if a1 < 0 then 2 else (if a1 ≤ ((M 39 1) - a2) then 0 else 2)) else 3) else 1)
set_option maxRecDepth 20000 in
theorem t_X3_faultAt_39 {LN : Nat} {xs : Nat → Int32} {a0 : Int32} {a1 : Int32} {a2 : Int32} {M : am_M} {t : Int32} (h : f_X3_faultAt_39 a0 a1 a2 M = t) : oo LN xs 0 0 47 0 [some (.ref 39), some (.int a0), some (.int a1), some (.int a2)] [] M (some (.int t), M) := by
  unfold f_X3_faultAt_39 at h
  refine o_aload_n k47_0 rfl ?_
  refine o_call k47_1 pj_45 (fun _ => rfl) (by decide) rfl (as := [.ref 39]) (rest := []) rfl (L0 := [some (.ref 39)]) rfl (t_X3_isNothing_39 (M := M) rfl) ?_
  refine o_if_eq k47_4 (fun hc1 => ?_) (fun hc1 => ?_)
  · rw [if_pos hc1] at h
    refine o_iload_n k47_9 rfl ?_
    refine o_aload_n k47_10 rfl ?_
    refine o_gf k47_11 (gf_39_0 _) ?_
    refine o_icmp_eq k47_14 (fun hc2 => ?_) (fun hc2 => ?_)
    · rw [if_pos hc2] at h
      refine o_iload_n k47_19 rfl ?_
      refine o_if_lt k47_20 (fun hc3 => ?_) (fun hc3 => ?_)
      · rw [if_pos hc3] at h
        refine o_iconst (v := 2) k47_33 (by decide) ?_
        refine o_goto k47_34 ?_
        subst h
        exact o_iret pj_47 k47_38 rfl nr_i
      · rw [if_neg hc3] at h
        refine o_iload_n k47_23 rfl ?_
        refine o_aload_n k47_24 rfl ?_
        refine o_gf k47_25 (gf_39_1 _) ?_
        refine o_iload_n k47_28 rfl ?_
        refine o_isub k47_29 ?_
        refine o_icmp_le k47_30 (fun hc4 => ?_) (fun hc4 => ?_)
        · rw [if_pos hc4] at h
          refine o_iconst (v := 0) k47_37 (by decide) ?_
          subst h
          exact o_iret pj_47 k47_38 rfl nr_i
        · rw [if_neg hc4] at h
          refine o_iconst (v := 2) k47_33 (by decide) ?_
          refine o_goto k47_34 ?_
          subst h
          exact o_iret pj_47 k47_38 rfl nr_i
    · rw [if_neg hc2] at h
      refine o_iconst (v := 3) k47_17 (by decide) ?_
      subst h
      exact o_iret pj_47 k47_18 rfl nr_i
  · rw [if_neg hc1] at h
    refine o_iconst (v := 1) k47_7 (by decide) ?_
    subst h
    exact o_iret pj_47 k47_8 rfl nr_i
def f_X3_write_39 (a0 : Int32) (a1 : Int32) (M : am_M) : Option am_M := (if (M 39 0) = 0 then (if am_dbin a0 40 = true then (bl (am_up M 40 a0.toNatClampNeg (a1.toInt8.toInt32)) (fun (M2 : am_M) => (some M2))) else none) else (if (M 39 0) = 1 then (if am_dbin a0 40 = true then (bl (am_up M 40 a0.toNatClampNeg (a1.toInt16.toInt32)) (fun (M4 : am_M) => (some M4))) else none) else (if am_dbin a0 40 = true then (bl (am_up M 40 a0.toNatClampNeg a1) (fun (M6 : am_M) => (some M6))) else none)))
set_option maxRecDepth 20000 in
theorem t_X3_write_39 {LN : Nat} {xs : Nat → Int32} {a0 : Int32} {a1 : Int32} {M : am_M} {t : am_M} (h : f_X3_write_39 a0 a1 M = some t) : oo LN xs 0 0 48 0 [some (.ref 39), some (.int a0), some (.int a1)] [] M (none, t) := by
  unfold f_X3_write_39 at h
  refine o_aload_n k48_0 rfl ?_
  refine o_gf k48_1 (gf_39_0 _) ?_
  by_cases hx4_0 : (M 39 0) = 0
  · rw [if_pos hx4_0] at h
    refine o_lsw (tgt := 32) (off := 28) k48_4 (by rw [hx4_0]; decide) (by decide) ?_
    refine o_aload_n k48_32 rfl ?_
    refine o_gf k48_33 (gf_39_2 _) ?_
    refine o_iload_n k48_36 rfl ?_
    refine o_iload_n k48_37 rfl ?_
    refine o_i2b k48_38 ?_
    obtain ⟨hc1, h⟩ := ck_i h
    refine bl_i h (fun M2 eM2 h => ?_)
    refine o_iast (M' := M2) k48_39 eM2 ia_40 hc1 ?_
    refine o_goto k48_40 ?_
    have h9 := Option.some.inj h
    subst h9
    exact o_vret pj_48 k48_61 rfl
  rw [if_neg hx4_0] at h
  by_cases hx4_1 : (M 39 0) = 1
  · rw [if_pos hx4_1] at h
    refine o_lsw (tgt := 43) (off := 39) k48_4 (by rw [hx4_1]; decide) (by decide) ?_
    refine o_aload_n k48_43 rfl ?_
    refine o_gf k48_44 (gf_39_2 _) ?_
    refine o_iload_n k48_47 rfl ?_
    refine o_iload_n k48_48 rfl ?_
    refine o_i2s k48_49 ?_
    obtain ⟨hc3, h⟩ := ck_i h
    refine bl_i h (fun M4 eM4 h => ?_)
    refine o_iast (M' := M4) k48_50 eM4 ia_40 hc3 ?_
    refine o_goto k48_51 ?_
    have h9 := Option.some.inj h
    subst h9
    exact o_vret pj_48 k48_61 rfl
  rw [if_neg hx4_1] at h
  refine o_lsw (tgt := 54) (off := 50) k48_4 (by have n0 := ne_lit (k := 0) 0 (by decide) hx4_0; have n1 := ne_lit (k := 1) 1 (by decide) hx4_1; simp [Op.lookupswitch.offset, n0, Ne.symm n0, n1, Ne.symm n1]) (by decide) ?_
  refine o_aload_n k48_54 rfl ?_
  refine o_gf k48_55 (gf_39_2 _) ?_
  refine o_iload_n k48_58 rfl ?_
  refine o_iload_n k48_59 rfl ?_
  obtain ⟨hc5, h⟩ := ck_i h
  refine bl_i h (fun M6 eM6 h => ?_)
  refine o_iast (M' := M6) k48_60 eM6 ia_40 hc5 ?_
  have h9 := Option.some.inj h
  subst h9
  exact o_vret pj_48 k48_61 rfl
def f_X3_isNothing_41 (M : am_M) : Int32 := (if (M 41 0) = (-1) then 1 else 0)
set_option maxRecDepth 20000 in
theorem t_X3_isNothing_41 {LN : Nat} {xs : Nat → Int32} {M : am_M} {t : Int32} (h : f_X3_isNothing_41 M = t) : oo LN xs 0 0 45 0 [some (.ref 41)] [] M (some (.int t), M) := by
  unfold f_X3_isNothing_41 at h
  refine o_aload_n k45_0 rfl ?_
  refine o_gf k45_1 (gf_41_0 _) ?_
  refine o_iconst (v := (-1)) k45_4 (by decide) ?_
  refine o_icmp_ne k45_5 (fun hc1 => ?_) (fun hc1 => ?_)
  · rw [if_neg hc1] at h
    refine o_iconst (v := 0) k45_12 (by decide) ?_
    subst h
    exact o_iret pj_45 k45_13 rfl (nr_z (by decide))
  · rw [if_pos hc1] at h
    refine o_iconst (v := 1) k45_8 (by decide) ?_
    refine o_goto k45_9 ?_
    subst h
    exact o_iret pj_45 k45_13 rfl (nr_z (by decide))
def f_X3_faultAt_41 (a0 : Int32) (a1 : Int32) (a2 : Int32) (M : am_M) : Int32 := (if (f_X3_isNothing_41 M) = 0 then (if a0 = (M 41 0) then (if a1 < 0 then 2 else (if a1 ≤ ((M 41 1) - a2) then 0 else 2)) else 3) else 1)
set_option maxRecDepth 20000 in
theorem t_X3_faultAt_41 {LN : Nat} {xs : Nat → Int32} {a0 : Int32} {a1 : Int32} {a2 : Int32} {M : am_M} {t : Int32} (h : f_X3_faultAt_41 a0 a1 a2 M = t) : oo LN xs 0 0 47 0 [some (.ref 41), some (.int a0), some (.int a1), some (.int a2)] [] M (some (.int t), M) := by
  unfold f_X3_faultAt_41 at h
  refine o_aload_n k47_0 rfl ?_
  refine o_call k47_1 pj_45 (fun _ => rfl) (by decide) rfl (as := [.ref 41]) (rest := []) rfl (L0 := [some (.ref 41)]) rfl (t_X3_isNothing_41 (M := M) rfl) ?_
  refine o_if_eq k47_4 (fun hc1 => ?_) (fun hc1 => ?_)
  · rw [if_pos hc1] at h
    refine o_iload_n k47_9 rfl ?_
    refine o_aload_n k47_10 rfl ?_
    refine o_gf k47_11 (gf_41_0 _) ?_
    refine o_icmp_eq k47_14 (fun hc2 => ?_) (fun hc2 => ?_)
    · rw [if_pos hc2] at h
      refine o_iload_n k47_19 rfl ?_
      refine o_if_lt k47_20 (fun hc3 => ?_) (fun hc3 => ?_)
      · rw [if_pos hc3] at h
        refine o_iconst (v := 2) k47_33 (by decide) ?_
        refine o_goto k47_34 ?_
        subst h
        exact o_iret pj_47 k47_38 rfl nr_i
      · rw [if_neg hc3] at h
        refine o_iload_n k47_23 rfl ?_
        refine o_aload_n k47_24 rfl ?_
        refine o_gf k47_25 (gf_41_1 _) ?_
        refine o_iload_n k47_28 rfl ?_
        refine o_isub k47_29 ?_
        refine o_icmp_le k47_30 (fun hc4 => ?_) (fun hc4 => ?_)
        · rw [if_pos hc4] at h
          refine o_iconst (v := 0) k47_37 (by decide) ?_
          subst h
          exact o_iret pj_47 k47_38 rfl nr_i
        · rw [if_neg hc4] at h
          refine o_iconst (v := 2) k47_33 (by decide) ?_
          refine o_goto k47_34 ?_
          subst h
          exact o_iret pj_47 k47_38 rfl nr_i
    · rw [if_neg hc2] at h
      refine o_iconst (v := 3) k47_17 (by decide) ?_
      subst h
      exact o_iret pj_47 k47_18 rfl nr_i
  · rw [if_neg hc1] at h
    refine o_iconst (v := 1) k47_7 (by decide) ?_
    subst h
    exact o_iret pj_47 k47_8 rfl nr_i
def f_X3_write_41 (a0 : Int32) (a1 : Int32) (M : am_M) : Option am_M := (if (M 41 0) = 0 then (if am_dbin a0 40 = true then (bl (am_up M 42 a0.toNatClampNeg (a1.toInt8.toInt32)) (fun (M2 : am_M) => (some M2))) else none) else (if (M 41 0) = 1 then (if am_dbin a0 40 = true then (bl (am_up M 42 a0.toNatClampNeg (a1.toInt16.toInt32)) (fun (M4 : am_M) => (some M4))) else none) else (if am_dbin a0 40 = true then (bl (am_up M 42 a0.toNatClampNeg a1) (fun (M6 : am_M) => (some M6))) else none)))
set_option maxRecDepth 20000 in
theorem t_X3_write_41 {LN : Nat} {xs : Nat → Int32} {a0 : Int32} {a1 : Int32} {M : am_M} {t : am_M} (h : f_X3_write_41 a0 a1 M = some t) : oo LN xs 0 0 48 0 [some (.ref 41), some (.int a0), some (.int a1)] [] M (none, t) := by
  unfold f_X3_write_41 at h
  refine o_aload_n k48_0 rfl ?_
  refine o_gf k48_1 (gf_41_0 _) ?_
  by_cases hx4_0 : (M 41 0) = 0
  · rw [if_pos hx4_0] at h
    refine o_lsw (tgt := 32) (off := 28) k48_4 (by rw [hx4_0]; decide) (by decide) ?_
    refine o_aload_n k48_32 rfl ?_
    refine o_gf k48_33 (gf_41_2 _) ?_
    refine o_iload_n k48_36 rfl ?_
    refine o_iload_n k48_37 rfl ?_
    refine o_i2b k48_38 ?_
    obtain ⟨hc1, h⟩ := ck_i h
    refine bl_i h (fun M2 eM2 h => ?_)
    refine o_iast (M' := M2) k48_39 eM2 ia_42 hc1 ?_
    refine o_goto k48_40 ?_
    have h9 := Option.some.inj h
    subst h9
    exact o_vret pj_48 k48_61 rfl
  rw [if_neg hx4_0] at h
  by_cases hx4_1 : (M 41 0) = 1
  · rw [if_pos hx4_1] at h
    refine o_lsw (tgt := 43) (off := 39) k48_4 (by rw [hx4_1]; decide) (by decide) ?_
    refine o_aload_n k48_43 rfl ?_
    refine o_gf k48_44 (gf_41_2 _) ?_
    refine o_iload_n k48_47 rfl ?_
    refine o_iload_n k48_48 rfl ?_
    refine o_i2s k48_49 ?_
    obtain ⟨hc3, h⟩ := ck_i h
    refine bl_i h (fun M4 eM4 h => ?_)
    refine o_iast (M' := M4) k48_50 eM4 ia_42 hc3 ?_
    refine o_goto k48_51 ?_
    have h9 := Option.some.inj h
    subst h9
    exact o_vret pj_48 k48_61 rfl
  rw [if_neg hx4_1] at h
  refine o_lsw (tgt := 54) (off := 50) k48_4 (by have n0 := ne_lit (k := 0) 0 (by decide) hx4_0; have n1 := ne_lit (k := 1) 1 (by decide) hx4_1; simp [Op.lookupswitch.offset, n0, Ne.symm n0, n1, Ne.symm n1]) (by decide) ?_
  refine o_aload_n k48_54 rfl ?_
  refine o_gf k48_55 (gf_41_2 _) ?_
  refine o_iload_n k48_58 rfl ?_
  refine o_iload_n k48_59 rfl ?_
  obtain ⟨hc5, h⟩ := ck_i h
  refine bl_i h (fun M6 eM6 h => ?_)
  refine o_iast (M' := M6) k48_60 eM6 ia_42 hc5 ?_
  have h9 := Option.some.inj h
  subst h9
  exact o_vret pj_48 k48_61 rfl
def f_X7_lay_0 (a0 : Int32) (a1 : Int32) (a2 : Int32) (M : am_M) : Option (Int32 × am_M) := (if (f_X7_isSheet a0) = 0 then (some ((-1), M)) else (if a0 = 0 then (if (f_X3_faultAt_35 (M 35 0) a1 1 M) = 0 then ((f_X3_write_35 a1 a2 M).bind (fun q3 => (some (1, q3)))) else (some ((((-10) : Int32) - (f_X3_faultAt_35 (M 35 0) a1 1 M)), M))) else (if a0 = 1 then (if (f_X3_faultAt_37 (M 37 0) a1 1 M) = 0 then ((f_X3_write_37 a1 a2 M).bind (fun q5 => (some (1, q5)))) else (some ((((-10) : Int32) - (f_X3_faultAt_37 (M 37 0) a1 1 M)), M))) else (if a0 = 2 then (if (f_X3_faultAt_39 (M 39 0) a1 1 M) = 0 then ((f_X3_write_39 a1 a2 M).bind (fun q7 => (some (1, q7)))) else (some ((((-10) : Int32) - (f_X3_faultAt_39 (M 39 0) a1 1 M)), M))) else (if a0 = 3 then (if (f_X3_faultAt_41 (M 41 0) a1 1 M) = 0 then ((f_X3_write_41 a1 a2 M).bind (fun q9 => (some (1, q9)))) else (some ((((-10) : Int32) - (f_X3_faultAt_41 (M 41 0) a1 1 M)), M))) else none)))))
set_option maxRecDepth 20000 in
theorem t_X7_lay_0 {LN : Nat} {xs : Nat → Int32} {a0 : Int32} {a1 : Int32} {a2 : Int32} {M : am_M} {t : Int32 × am_M} (h : f_X7_lay_0 a0 a1 a2 M = some t) : oo LN xs 0 0 115 0 [some (.ref 0), some (.int a0), some (.int a1), some (.int a2), none, none] [] M (some (.int t.1), t.2) := by
  unfold f_X7_lay_0 at h
  refine o_iload_n k115_0 rfl ?_
  refine o_call k115_1 pj_122 (fun _ => rfl) (by decide) rfl (as := [.int a0]) (rest := []) rfl (L0 := [some (.int a0)]) rfl (t_X7_isSheet (M := M) (a0 := a0) rfl) ?_
  refine o_if_ne k115_4 (fun hc1 => ?_) (fun hc1 => ?_)
  · rw [if_neg hc1] at h
    refine o_aload_n k115_9 rfl ?_
    refine o_gf k115_10 (gf_0_7 _) ?_
    refine o_iload_n k115_13 rfl ?_
    by_cases hX1 : a0 = 0
    · rw [if_pos hX1] at h
      refine o_aald (v := .ref 35) k115_14 (by rw [hX1]; exact aal_34_0) ?_
      refine o_astore (L' := [some (.ref 0), some (.int a0), some (.int a1), some (.int a2), some (.ref 35), none]) k115_15 rfl rfl ?_
      refine o_aload k115_17 rfl ?_
      refine o_aload k115_19 rfl ?_
      refine o_gf k115_21 (gf_35_0 _) ?_
      refine o_iload_n k115_24 rfl ?_
      refine o_iconst (v := 1) k115_25 (by decide) ?_
      refine o_call k115_26 pj_47 (fun _ => rfl) (by decide) rfl (as := [.ref 35, .int (M 35 0), .int a1, .int 1]) (rest := []) rfl (L0 := [some (.ref 35), some (.int (M 35 0)), some (.int a1), some (.int 1)]) rfl (t_X3_faultAt_35 (M := M) (a0 := (M 35 0)) (a1 := a1) (a2 := 1) rfl) ?_
      refine o_istore (v := (f_X3_faultAt_35 (M 35 0) a1 1 M)) (L' := [some (.ref 0), some (.int a0), some (.int a1), some (.int a2), some (.ref 35), some (.int (f_X3_faultAt_35 (M 35 0) a1 1 M))]) k115_29 rfl rfl ?_
      refine o_iload k115_31 rfl ?_
      refine o_if_eq k115_33 (fun hc2 => ?_) (fun hc2 => ?_)
      · rw [if_pos hc2] at h
        refine o_aload k115_42 rfl ?_
        refine o_iload_n k115_44 rfl ?_
        refine o_iload_n k115_45 rfl ?_
        refine bd_i h (fun q3 hq3 h => ?_)
        refine o_call k115_46 pj_48 (fun _ => rfl) (by decide) rfl (as := [.ref 35, .int a1, .int a2]) (rest := []) rfl (L0 := [some (.ref 35), some (.int a1), some (.int a2)]) rfl (t_X3_write_35 hq3) ?_
        refine o_iconst (v := 1) k115_49 (by decide) ?_
        have h9 := Option.some.inj h
        subst h9
        exact o_iret pj_115 k115_50 rfl nr_i
      · rw [if_neg hc2] at h
        refine o_bipush (v := (-10)) k115_36 (by decide) ?_
        refine o_iload k115_38 rfl ?_
        refine o_isub k115_40 ?_
        have h9 := Option.some.inj h
        subst h9
        exact o_iret pj_115 k115_41 rfl nr_i
    rw [if_neg hX1] at h
    by_cases hX2 : a0 = 1
    · rw [if_pos hX2] at h
      refine o_aald (v := .ref 37) k115_14 (by rw [hX2]; exact aal_34_1) ?_
      refine o_astore (L' := [some (.ref 0), some (.int a0), some (.int a1), some (.int a2), some (.ref 37), none]) k115_15 rfl rfl ?_
      refine o_aload k115_17 rfl ?_
      refine o_aload k115_19 rfl ?_
      refine o_gf k115_21 (gf_37_0 _) ?_
      refine o_iload_n k115_24 rfl ?_
      refine o_iconst (v := 1) k115_25 (by decide) ?_
      refine o_call k115_26 pj_47 (fun _ => rfl) (by decide) rfl (as := [.ref 37, .int (M 37 0), .int a1, .int 1]) (rest := []) rfl (L0 := [some (.ref 37), some (.int (M 37 0)), some (.int a1), some (.int 1)]) rfl (t_X3_faultAt_37 (M := M) (a0 := (M 37 0)) (a1 := a1) (a2 := 1) rfl) ?_
      refine o_istore (v := (f_X3_faultAt_37 (M 37 0) a1 1 M)) (L' := [some (.ref 0), some (.int a0), some (.int a1), some (.int a2), some (.ref 37), some (.int (f_X3_faultAt_37 (M 37 0) a1 1 M))]) k115_29 rfl rfl ?_
      refine o_iload k115_31 rfl ?_
      refine o_if_eq k115_33 (fun hc4 => ?_) (fun hc4 => ?_)
      · rw [if_pos hc4] at h
        refine o_aload k115_42 rfl ?_
        refine o_iload_n k115_44 rfl ?_
        refine o_iload_n k115_45 rfl ?_
        refine bd_i h (fun q5 hq5 h => ?_)
        refine o_call k115_46 pj_48 (fun _ => rfl) (by decide) rfl (as := [.ref 37, .int a1, .int a2]) (rest := []) rfl (L0 := [some (.ref 37), some (.int a1), some (.int a2)]) rfl (t_X3_write_37 hq5) ?_
        refine o_iconst (v := 1) k115_49 (by decide) ?_
        have h9 := Option.some.inj h
        subst h9
        exact o_iret pj_115 k115_50 rfl nr_i
      · rw [if_neg hc4] at h
        refine o_bipush (v := (-10)) k115_36 (by decide) ?_
        refine o_iload k115_38 rfl ?_
        refine o_isub k115_40 ?_
        have h9 := Option.some.inj h
        subst h9
        exact o_iret pj_115 k115_41 rfl nr_i
    rw [if_neg hX2] at h
    by_cases hX3 : a0 = 2
    · rw [if_pos hX3] at h
      refine o_aald (v := .ref 39) k115_14 (by rw [hX3]; exact aal_34_2) ?_
      refine o_astore (L' := [some (.ref 0), some (.int a0), some (.int a1), some (.int a2), some (.ref 39), none]) k115_15 rfl rfl ?_
      refine o_aload k115_17 rfl ?_
      refine o_aload k115_19 rfl ?_
      refine o_gf k115_21 (gf_39_0 _) ?_
      refine o_iload_n k115_24 rfl ?_
      refine o_iconst (v := 1) k115_25 (by decide) ?_
      refine o_call k115_26 pj_47 (fun _ => rfl) (by decide) rfl (as := [.ref 39, .int (M 39 0), .int a1, .int 1]) (rest := []) rfl (L0 := [some (.ref 39), some (.int (M 39 0)), some (.int a1), some (.int 1)]) rfl (t_X3_faultAt_39 (M := M) (a0 := (M 39 0)) (a1 := a1) (a2 := 1) rfl) ?_
      refine o_istore (v := (f_X3_faultAt_39 (M 39 0) a1 1 M)) (L' := [some (.ref 0), some (.int a0), some (.int a1), some (.int a2), some (.ref 39), some (.int (f_X3_faultAt_39 (M 39 0) a1 1 M))]) k115_29 rfl rfl ?_
      refine o_iload k115_31 rfl ?_
      refine o_if_eq k115_33 (fun hc6 => ?_) (fun hc6 => ?_)
      · rw [if_pos hc6] at h
        refine o_aload k115_42 rfl ?_
        refine o_iload_n k115_44 rfl ?_
        refine o_iload_n k115_45 rfl ?_
        refine bd_i h (fun q7 hq7 h => ?_)
        refine o_call k115_46 pj_48 (fun _ => rfl) (by decide) rfl (as := [.ref 39, .int a1, .int a2]) (rest := []) rfl (L0 := [some (.ref 39), some (.int a1), some (.int a2)]) rfl (t_X3_write_39 hq7) ?_
        refine o_iconst (v := 1) k115_49 (by decide) ?_
        have h9 := Option.some.inj h
        subst h9
        exact o_iret pj_115 k115_50 rfl nr_i
      · rw [if_neg hc6] at h
        refine o_bipush (v := (-10)) k115_36 (by decide) ?_
        refine o_iload k115_38 rfl ?_
        refine o_isub k115_40 ?_
        have h9 := Option.some.inj h
        subst h9
        exact o_iret pj_115 k115_41 rfl nr_i
    rw [if_neg hX3] at h
    by_cases hX4 : a0 = 3
    · rw [if_pos hX4] at h
      refine o_aald (v := .ref 41) k115_14 (by rw [hX4]; exact aal_34_3) ?_
      refine o_astore (L' := [some (.ref 0), some (.int a0), some (.int a1), some (.int a2), some (.ref 41), none]) k115_15 rfl rfl ?_
      refine o_aload k115_17 rfl ?_
      refine o_aload k115_19 rfl ?_
      refine o_gf k115_21 (gf_41_0 _) ?_
      refine o_iload_n k115_24 rfl ?_
      refine o_iconst (v := 1) k115_25 (by decide) ?_
      refine o_call k115_26 pj_47 (fun _ => rfl) (by decide) rfl (as := [.ref 41, .int (M 41 0), .int a1, .int 1]) (rest := []) rfl (L0 := [some (.ref 41), some (.int (M 41 0)), some (.int a1), some (.int 1)]) rfl (t_X3_faultAt_41 (M := M) (a0 := (M 41 0)) (a1 := a1) (a2 := 1) rfl) ?_
      refine o_istore (v := (f_X3_faultAt_41 (M 41 0) a1 1 M)) (L' := [some (.ref 0), some (.int a0), some (.int a1), some (.int a2), some (.ref 41), some (.int (f_X3_faultAt_41 (M 41 0) a1 1 M))]) k115_29 rfl rfl ?_
      refine o_iload k115_31 rfl ?_
      refine o_if_eq k115_33 (fun hc8 => ?_) (fun hc8 => ?_)
      · rw [if_pos hc8] at h
        refine o_aload k115_42 rfl ?_
        refine o_iload_n k115_44 rfl ?_
        refine o_iload_n k115_45 rfl ?_
        refine bd_i h (fun q9 hq9 h => ?_)
        refine o_call k115_46 pj_48 (fun _ => rfl) (by decide) rfl (as := [.ref 41, .int a1, .int a2]) (rest := []) rfl (L0 := [some (.ref 41), some (.int a1), some (.int a2)]) rfl (t_X3_write_41 hq9) ?_
        refine o_iconst (v := 1) k115_49 (by decide) ?_
        have h9 := Option.some.inj h
        subst h9
        exact o_iret pj_115 k115_50 rfl nr_i
      · rw [if_neg hc8] at h
        refine o_bipush (v := (-10)) k115_36 (by decide) ?_
        refine o_iload k115_38 rfl ?_
        refine o_isub k115_40 ?_
        have h9 := Option.some.inj h
        subst h9
        exact o_iret pj_115 k115_41 rfl nr_i
    rw [if_neg hX4] at h
    cases h
  · rw [if_pos hc1] at h
    refine o_iconst (v := (-1)) k115_7 (by decide) ?_
    have h9 := Option.some.inj h
    subst h9
    exact o_iret pj_115 k115_8 rfl nr_i
def f_X8_lay_43 (a0 : Int32) (a1 : Int32) (a2 : Int32) (M : am_M) : Option (Int32 × am_M) := (if (f_X8_isSheet a0 0) = 0 then (some ((-1), M)) else (if am_dbin a0 4 = true then (if (M 54 a0.toNatClampNeg) = (-4) then (some ((-11), M)) else (if am_dbin a0 4 = true then (if (f_X8_in a1.toInt64 0 (((M 55 a0.toNatClampNeg) - 1).toInt64)) = 0 then (some ((-12), M)) else (if am_dbin a0 4 = true then (if (M 54 a0.toNatClampNeg) = 0 then (if am_dbin (((40 : Int32) * a0) + a1) 160 = true then (bl (am_up M 56 (((40 : Int32) * a0) + a1).toNatClampNeg (a2.toInt8.toInt32)) (fun (M15 : am_M) => (some (1, M15)))) else none) else (if am_dbin a0 4 = true then (if (M 54 a0.toNatClampNeg) = 1 then (if am_dbin (((40 : Int32) * a0) + a1) 160 = true then (bl (am_up M 56 (((40 : Int32) * a0) + a1).toNatClampNeg (a2.toInt16.toInt32)) (fun (M13 : am_M) => (some (1, M13)))) else none) else (if am_dbin (((40 : Int32) * a0) + a1) 160 = true then (bl (am_up M 56 (((40 : Int32) * a0) + a1).toNatClampNeg a2) (fun (M11 : am_M) => (some (1, M11)))) else none)) else none)) else none)) else none)) else none))
set_option maxRecDepth 20000 in
theorem t_X8_lay_43 {LN : Nat} {xs : Nat → Int32} {a0 : Int32} {a1 : Int32} {a2 : Int32} {M : am_M} {t : Int32 × am_M} (h : f_X8_lay_43 a0 a1 a2 M = some t) : oo LN xs 0 0 206 0 [some (.ref 43), some (.int a0), some (.int a1), some (.int a2)] [] M (some (.int t.1), t.2) := by
  unfold f_X8_lay_43 at h
  refine o_iload_n k206_0 rfl ?_
  refine o_iconst (v := 0) k206_1 (by decide) ?_
  refine o_call k206_2 pj_204 (fun _ => rfl) (by decide) rfl (as := [.int a0, .int 0]) (rest := []) rfl (L0 := [some (.int a0), some (.int 0)]) rfl (t_X8_isSheet (M := M) (a0 := a0) (a1 := 0) rfl) ?_
  refine o_if_ne k206_5 (fun hc1 => ?_) (fun hc1 => ?_)
  · rw [if_neg hc1] at h
    refine o_aload_n k206_10 rfl ?_
    refine o_gf k206_11 (gf_43_27 _) ?_
    refine o_iload_n k206_14 rfl ?_
    obtain ⟨hc2, h⟩ := ck_i h
    refine o_iald k206_15 rfl ia_54 hc2 ?_
    refine o_bipush (v := (-4)) k206_16 (by decide) ?_
    refine o_icmp_ne k206_18 (fun hc3 => ?_) (fun hc3 => ?_)
    · rw [if_neg hc3] at h
      refine o_iload_n k206_24 rfl ?_
      refine o_i2l k206_25 ?_
      refine o_lconst (v := 0) k206_26 (by decide) ?_
      refine o_aload_n k206_27 rfl ?_
      refine o_gf k206_28 (gf_43_28 _) ?_
      refine o_iload_n k206_31 rfl ?_
      obtain ⟨hc4, h⟩ := ck_i h
      refine o_iald k206_32 rfl ia_55 hc4 ?_
      refine o_iconst (v := 1) k206_33 (by decide) ?_
      refine o_isub k206_34 ?_
      refine o_i2l k206_35 ?_
      refine o_call k206_36 pj_125 (fun _ => rfl) (by decide) rfl (as := [.long a1.toInt64, .long 0, .long (((M 55 a0.toNatClampNeg) - 1).toInt64)]) (rest := []) rfl (L0 := [some (.long a1.toInt64), none, some (.long 0), none, some (.long (((M 55 a0.toNatClampNeg) - 1).toInt64)), none]) rfl (t_X8_in (M := M) (a0 := a1.toInt64) (a1 := 0) (a2 := (((M 55 a0.toNatClampNeg) - 1).toInt64)) rfl) ?_
      refine o_if_ne k206_39 (fun hc5 => ?_) (fun hc5 => ?_)
      · rw [if_neg hc5] at h
        refine o_aload_n k206_45 rfl ?_
        refine o_gf k206_46 (gf_43_29 _) ?_
        refine o_bipush (v := 40) k206_49 (by decide) ?_
        refine o_iload_n k206_51 rfl ?_
        refine o_imul k206_52 ?_
        refine o_iload_n k206_53 rfl ?_
        refine o_iadd k206_54 ?_
        refine o_aload_n k206_55 rfl ?_
        refine o_gf k206_56 (gf_43_27 _) ?_
        refine o_iload_n k206_59 rfl ?_
        obtain ⟨hc6, h⟩ := ck_i h
        refine o_iald k206_60 rfl ia_54 hc6 ?_
        refine o_if_ne k206_61 (fun hc7 => ?_) (fun hc7 => ?_)
        · rw [if_neg hc7] at h
          refine o_aload_n k206_69 rfl ?_
          refine o_gf k206_70 (gf_43_27 _) ?_
          refine o_iload_n k206_73 rfl ?_
          obtain ⟨hc8, h⟩ := ck_i h
          refine o_iald k206_74 rfl ia_54 hc8 ?_
          refine o_iconst (v := 1) k206_75 (by decide) ?_
          refine o_icmp_ne k206_76 (fun hc9 => ?_) (fun hc9 => ?_)
          · rw [if_neg hc9] at h
            refine o_iload_n k206_84 rfl ?_
            obtain ⟨hc10, h⟩ := ck_i h
            refine bl_i h (fun M11 eM11 h => ?_)
            refine o_iast (M' := M11) k206_85 eM11 ia_56 hc10 ?_
            refine o_iconst (v := 1) k206_86 (by decide) ?_
            have h9 := Option.some.inj h
            subst h9
            exact o_iret pj_206 k206_87 rfl nr_i
          · rw [if_pos hc9] at h
            refine o_iload_n k206_79 rfl ?_
            refine o_i2s k206_80 ?_
            refine o_goto k206_81 ?_
            obtain ⟨hc12, h⟩ := ck_i h
            refine bl_i h (fun M13 eM13 h => ?_)
            refine o_iast (M' := M13) k206_85 eM13 ia_56 hc12 ?_
            refine o_iconst (v := 1) k206_86 (by decide) ?_
            have h9 := Option.some.inj h
            subst h9
            exact o_iret pj_206 k206_87 rfl nr_i
        · rw [if_pos hc7] at h
          refine o_iload_n k206_64 rfl ?_
          refine o_i2b k206_65 ?_
          refine o_goto k206_66 ?_
          obtain ⟨hc14, h⟩ := ck_i h
          refine bl_i h (fun M15 eM15 h => ?_)
          refine o_iast (M' := M15) k206_85 eM15 ia_56 hc14 ?_
          refine o_iconst (v := 1) k206_86 (by decide) ?_
          have h9 := Option.some.inj h
          subst h9
          exact o_iret pj_206 k206_87 rfl nr_i
      · rw [if_pos hc5] at h
        refine o_bipush (v := (-12)) k206_42 (by decide) ?_
        have h9 := Option.some.inj h
        subst h9
        exact o_iret pj_206 k206_44 rfl nr_i
    · rw [if_pos hc3] at h
      refine o_bipush (v := (-11)) k206_21 (by decide) ?_
      have h9 := Option.some.inj h
      subst h9
      exact o_iret pj_206 k206_23 rfl nr_i
  · rw [if_pos hc1] at h
    refine o_iconst (v := (-1)) k206_8 (by decide) ?_
    have h9 := Option.some.inj h
    subst h9
    exact o_iret pj_206 k206_9 rfl nr_i
def f_X7_takeTriples_0_35 (a0 : Int32) (a1 : Int32) (M : am_M) : Option am_M := ((lp (σ := Int32 × am_M) (ρ := Int32 × am_M) (fun (s1 : Int32 × am_M) => match s1 with | (x2, M3) => (if a1 ≤ x2 then (some (.inr (x2, M3))) else (if am_dbin (a0 + ((3 : Int32) * x2)) 40 = true then (if am_dbin ((a0 + ((3 : Int32) * x2)) + 1) 40 = true then (if am_dbin ((a0 + ((3 : Int32) * x2)) + 2) 40 = true then (if am_dbin (f_X0_at (M3 36 (a0 + ((3 : Int32) * x2)).toNatClampNeg) (M3 36 ((a0 + ((3 : Int32) * x2)) + 1).toNatClampNeg)) 64 = true then (bl (am_up M3 10 (f_X0_at (M3 36 (a0 + ((3 : Int32) * x2)).toNatClampNeg) (M3 36 ((a0 + ((3 : Int32) * x2)) + 1).toNatClampNeg)).toNatClampNeg (M3 36 ((a0 + ((3 : Int32) * x2)) + 2).toNatClampNeg)) (fun (M10 : am_M) => (some (.inl ((x2 + 1), M10))))) else none) else none) else none) else none))) lp_F (0, M)).bind (fun (s11 : Int32 × am_M) => match s11 with | (x12, M13) => (some M13)))
set_option maxRecDepth 20000 in
theorem t_X7_takeTriples_0_35 {LN : Nat} {xs : Nat → Int32} {a0 : Int32} {a1 : Int32} {M : am_M} {t : am_M} (h : f_X7_takeTriples_0_35 a0 a1 M = some t) : oo LN xs 0 0 119 0 [some (.ref 0), some (.ref 35), some (.int a0), some (.int a1), none, none] [] M (none, t) := by
  unfold f_X7_takeTriples_0_35 at h
  refine o_iconst (v := 0) k119_0 (by decide) ?_
  refine o_istore (v := 0) (L' := [some (.ref 0), some (.ref 35), some (.int a0), some (.int a1), some (.int 0), none]) k119_1 rfl rfl ?_
  refine bd_i h (fun s11 hs11 h => ?_)
  refine lp_o (fun (s1 : Int32 × am_M) => match s1 with | (x2, M3) => ∀ (d4 : Option (Int32 ⊕ Int64)), oo LN xs 0 0 119 3 [some (.ref 0), some (.ref 35), some (.int a0), some (.int a1), some (.int x2), (d4.map dv)] [] M3 (none, t)) (fun (s11 : Int32 × am_M) => match s11 with | (x12, M13) => ∀ (d14 : Option (Int32 ⊕ Int64)), oo LN xs 0 0 119 59 [some (.ref 0), some (.ref 35), some (.int a0), some (.int a1), some (.int x12), (d14.map dv)] [] M13 (none, t)) ?_ hs11 ?_ none
  · rintro ⟨x2, M3⟩ ws1 h hK
    dsimp only at h
    show ∀ (d4 : Option (Int32 ⊕ Int64)), oo LN xs 0 0 119 3 [some (.ref 0), some (.ref 35), some (.int a0), some (.int a1), some (.int x2), (d4.map dv)] [] M3 (none, t)
    intro d4
    refine o_iload k119_3 rfl ?_
    refine o_iload_n k119_5 rfl ?_
    refine o_icmp_ge k119_6 (fun hc5 => ?_) (fun hc5 => ?_)
    · rw [if_pos hc5] at h
      have h9 := Option.some.inj h
      subst h9
      exact hK d4
    · rw [if_neg hc5] at h
      refine o_iload_n k119_9 rfl ?_
      refine o_iconst (v := 3) k119_10 (by decide) ?_
      refine o_iload k119_11 rfl ?_
      refine o_imul k119_13 ?_
      refine o_iadd k119_14 ?_
      refine o_istore (v := (a0 + ((3 : Int32) * x2))) (L' := [some (.ref 0), some (.ref 35), some (.int a0), some (.int a1), some (.int x2), some (.int (a0 + ((3 : Int32) * x2)))]) k119_15 rfl rfl ?_
      refine o_aload_n k119_17 rfl ?_
      refine o_gf k119_18 (gf_0_2 _) ?_
      refine o_gf k119_21 (gf_9_7 _) ?_
      refine o_aload_n k119_24 rfl ?_
      refine o_gf k119_25 (gf_35_2 _) ?_
      refine o_iload k119_28 rfl ?_
      obtain ⟨hc6, h⟩ := ck_i h
      refine o_iald k119_30 rfl ia_36 hc6 ?_
      refine o_aload_n k119_31 rfl ?_
      refine o_gf k119_32 (gf_35_2 _) ?_
      refine o_iload k119_35 rfl ?_
      refine o_iconst (v := 1) k119_37 (by decide) ?_
      refine o_iadd k119_38 ?_
      obtain ⟨hc7, h⟩ := ck_i h
      refine o_iald k119_39 rfl ia_36 hc7 ?_
      refine o_call k119_40 pj_5 (fun _ => rfl) (by decide) rfl (as := [.int (M3 36 (a0 + ((3 : Int32) * x2)).toNatClampNeg), .int (M3 36 ((a0 + ((3 : Int32) * x2)) + 1).toNatClampNeg)]) (rest := [.ref 10]) rfl (L0 := [some (.int (M3 36 (a0 + ((3 : Int32) * x2)).toNatClampNeg)), some (.int (M3 36 ((a0 + ((3 : Int32) * x2)) + 1).toNatClampNeg))]) rfl (t_X0_at (M := M3) (a0 := (M3 36 (a0 + ((3 : Int32) * x2)).toNatClampNeg)) (a1 := (M3 36 ((a0 + ((3 : Int32) * x2)) + 1).toNatClampNeg)) rfl) ?_
      refine o_aload_n k119_43 rfl ?_
      refine o_gf k119_44 (gf_35_2 _) ?_
      refine o_iload k119_47 rfl ?_
      refine o_iconst (v := 2) k119_49 (by decide) ?_
      refine o_iadd k119_50 ?_
      obtain ⟨hc8, h⟩ := ck_i h
      refine o_iald k119_51 rfl ia_36 hc8 ?_
      obtain ⟨hc9, h⟩ := ck_i h
      refine bl_i h (fun M10 eM10 h => ?_)
      refine o_iast (M' := M10) k119_52 eM10 ia_10 hc9 ?_
      refine o_iinc (k := 1) (L' := [some (.ref 0), some (.ref 35), some (.int a0), some (.int a1), some (.int (x2 + 1)), some (.int (a0 + ((3 : Int32) * x2)))]) k119_53 rfl (by decide) rfl ?_
      refine o_goto k119_56 ?_
      have h9 := Option.some.inj h
      subst h9
      exact hK (some (.inl (a0 + ((3 : Int32) * x2))))
  · obtain ⟨x12, M13⟩ := s11
    show ∀ (d14 : Option (Int32 ⊕ Int64)), oo LN xs 0 0 119 59 [some (.ref 0), some (.ref 35), some (.int a0), some (.int a1), some (.int x12), (d14.map dv)] [] M13 (none, t)
    dsimp only at h
    intro d14
    have h9 := Option.some.inj h
    subst h9
    exact o_vret pj_119 k119_59 rfl
def f_X7_takeTriples_0_37 (a0 : Int32) (a1 : Int32) (M : am_M) : Option am_M := ((lp (σ := Int32 × am_M) (ρ := Int32 × am_M) (fun (s1 : Int32 × am_M) => match s1 with | (x2, M3) => (if a1 ≤ x2 then (some (.inr (x2, M3))) else (if am_dbin (a0 + ((3 : Int32) * x2)) 40 = true then (if am_dbin ((a0 + ((3 : Int32) * x2)) + 1) 40 = true then (if am_dbin ((a0 + ((3 : Int32) * x2)) + 2) 40 = true then (if am_dbin (f_X0_at (M3 38 (a0 + ((3 : Int32) * x2)).toNatClampNeg) (M3 38 ((a0 + ((3 : Int32) * x2)) + 1).toNatClampNeg)) 64 = true then (bl (am_up M3 10 (f_X0_at (M3 38 (a0 + ((3 : Int32) * x2)).toNatClampNeg) (M3 38 ((a0 + ((3 : Int32) * x2)) + 1).toNatClampNeg)).toNatClampNeg (M3 38 ((a0 + ((3 : Int32) * x2)) + 2).toNatClampNeg)) (fun (M10 : am_M) => (some (.inl ((x2 + 1), M10))))) else none) else none) else none) else none))) lp_F (0, M)).bind (fun (s11 : Int32 × am_M) => match s11 with | (x12, M13) => (some M13)))
set_option maxRecDepth 20000 in
theorem t_X7_takeTriples_0_37 {LN : Nat} {xs : Nat → Int32} {a0 : Int32} {a1 : Int32} {M : am_M} {t : am_M} (h : f_X7_takeTriples_0_37 a0 a1 M = some t) : oo LN xs 0 0 119 0 [some (.ref 0), some (.ref 37), some (.int a0), some (.int a1), none, none] [] M (none, t) := by
  unfold f_X7_takeTriples_0_37 at h
  refine o_iconst (v := 0) k119_0 (by decide) ?_
  refine o_istore (v := 0) (L' := [some (.ref 0), some (.ref 37), some (.int a0), some (.int a1), some (.int 0), none]) k119_1 rfl rfl ?_
  refine bd_i h (fun s11 hs11 h => ?_)
  refine lp_o (fun (s1 : Int32 × am_M) => match s1 with | (x2, M3) => ∀ (d4 : Option (Int32 ⊕ Int64)), oo LN xs 0 0 119 3 [some (.ref 0), some (.ref 37), some (.int a0), some (.int a1), some (.int x2), (d4.map dv)] [] M3 (none, t)) (fun (s11 : Int32 × am_M) => match s11 with | (x12, M13) => ∀ (d14 : Option (Int32 ⊕ Int64)), oo LN xs 0 0 119 59 [some (.ref 0), some (.ref 37), some (.int a0), some (.int a1), some (.int x12), (d14.map dv)] [] M13 (none, t)) ?_ hs11 ?_ none
  · rintro ⟨x2, M3⟩ ws1 h hK
    dsimp only at h
    show ∀ (d4 : Option (Int32 ⊕ Int64)), oo LN xs 0 0 119 3 [some (.ref 0), some (.ref 37), some (.int a0), some (.int a1), some (.int x2), (d4.map dv)] [] M3 (none, t)
    intro d4
    refine o_iload k119_3 rfl ?_
    refine o_iload_n k119_5 rfl ?_
    refine o_icmp_ge k119_6 (fun hc5 => ?_) (fun hc5 => ?_)
    · rw [if_pos hc5] at h
      have h9 := Option.some.inj h
      subst h9
      exact hK d4
    · rw [if_neg hc5] at h
      refine o_iload_n k119_9 rfl ?_
      refine o_iconst (v := 3) k119_10 (by decide) ?_
      refine o_iload k119_11 rfl ?_
      refine o_imul k119_13 ?_
      refine o_iadd k119_14 ?_
      refine o_istore (v := (a0 + ((3 : Int32) * x2))) (L' := [some (.ref 0), some (.ref 37), some (.int a0), some (.int a1), some (.int x2), some (.int (a0 + ((3 : Int32) * x2)))]) k119_15 rfl rfl ?_
      refine o_aload_n k119_17 rfl ?_
      refine o_gf k119_18 (gf_0_2 _) ?_
      refine o_gf k119_21 (gf_9_7 _) ?_
      refine o_aload_n k119_24 rfl ?_
      refine o_gf k119_25 (gf_37_2 _) ?_
      refine o_iload k119_28 rfl ?_
      obtain ⟨hc6, h⟩ := ck_i h
      refine o_iald k119_30 rfl ia_38 hc6 ?_
      refine o_aload_n k119_31 rfl ?_
      refine o_gf k119_32 (gf_37_2 _) ?_
      refine o_iload k119_35 rfl ?_
      refine o_iconst (v := 1) k119_37 (by decide) ?_
      refine o_iadd k119_38 ?_
      obtain ⟨hc7, h⟩ := ck_i h
      refine o_iald k119_39 rfl ia_38 hc7 ?_
      refine o_call k119_40 pj_5 (fun _ => rfl) (by decide) rfl (as := [.int (M3 38 (a0 + ((3 : Int32) * x2)).toNatClampNeg), .int (M3 38 ((a0 + ((3 : Int32) * x2)) + 1).toNatClampNeg)]) (rest := [.ref 10]) rfl (L0 := [some (.int (M3 38 (a0 + ((3 : Int32) * x2)).toNatClampNeg)), some (.int (M3 38 ((a0 + ((3 : Int32) * x2)) + 1).toNatClampNeg))]) rfl (t_X0_at (M := M3) (a0 := (M3 38 (a0 + ((3 : Int32) * x2)).toNatClampNeg)) (a1 := (M3 38 ((a0 + ((3 : Int32) * x2)) + 1).toNatClampNeg)) rfl) ?_
      refine o_aload_n k119_43 rfl ?_
      refine o_gf k119_44 (gf_37_2 _) ?_
      refine o_iload k119_47 rfl ?_
      refine o_iconst (v := 2) k119_49 (by decide) ?_
      refine o_iadd k119_50 ?_
      obtain ⟨hc8, h⟩ := ck_i h
      refine o_iald k119_51 rfl ia_38 hc8 ?_
      obtain ⟨hc9, h⟩ := ck_i h
      refine bl_i h (fun M10 eM10 h => ?_)
      refine o_iast (M' := M10) k119_52 eM10 ia_10 hc9 ?_
      refine o_iinc (k := 1) (L' := [some (.ref 0), some (.ref 37), some (.int a0), some (.int a1), some (.int (x2 + 1)), some (.int (a0 + ((3 : Int32) * x2)))]) k119_53 rfl (by decide) rfl ?_
      refine o_goto k119_56 ?_
      have h9 := Option.some.inj h
      subst h9
      exact hK (some (.inl (a0 + ((3 : Int32) * x2))))
  · obtain ⟨x12, M13⟩ := s11
    show ∀ (d14 : Option (Int32 ⊕ Int64)), oo LN xs 0 0 119 59 [some (.ref 0), some (.ref 37), some (.int a0), some (.int a1), some (.int x12), (d14.map dv)] [] M13 (none, t)
    dsimp only at h
    intro d14
    have h9 := Option.some.inj h
    subst h9
    exact o_vret pj_119 k119_59 rfl
