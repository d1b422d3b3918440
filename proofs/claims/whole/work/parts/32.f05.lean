/-! FUNCTIONS, on -/
def f_X1_leastSolution_28 (M : am_M) : Option Int32 := ((lp (σ := Int32 × Int32) (ρ := Int32 × Int32) (fun (s1 : Int32 × Int32) => match s1 with | (x2, x3) => (if x3 < 0 then (some (.inr (x2, x3))) else (if am_dbin x3 12 = true then (bl ((x2 ||| ((f_X2_parity ((M 29 x3.toNatClampNeg) &&& x2)) <<< (x3 &&& 31)))) (fun (v6 : Int32) => (some (.inl (v6, (x3 + (-1))))))) else none))) lp_F (4096, 11)).bind (fun (s7 : Int32 × Int32) => match s7 with | (x8, x9) => (some (x8 &&& (-4097)))))
set_option maxRecDepth 20000 in
theorem t_X1_leastSolution_28 {LN : Nat} {xs : Nat → Int32} {M : am_M} {t : Int32} (h : f_X1_leastSolution_28 M = some t) : oo LN xs 0 0 37 0 [some (.ref 28), none, none] [] M (some (.int t), M) := by
  unfold f_X1_leastSolution_28 at h
  refine o_sipush (v := 4096) k37_0 (by decide) ?_
  refine o_istore_n (v := 4096) (L' := [some (.ref 28), some (.int 4096), none]) k37_3 rfl rfl ?_
  refine o_bipush (v := 11) k37_4 (by decide) ?_
  refine o_istore_n (v := 11) (L' := [some (.ref 28), some (.int 4096), some (.int 11)]) k37_6 rfl rfl ?_
  refine bd_i h (fun s7 hs7 h => ?_)
  refine lp_o (fun (s1 : Int32 × Int32) => match s1 with | (x2, x3) => oo LN xs 0 0 37 7 [some (.ref 28), some (.int x2), some (.int x3)] [] M (some (.int t), M)) (fun (s7 : Int32 × Int32) => match s7 with | (x8, x9) => oo LN xs 0 0 37 33 [some (.ref 28), some (.int x8), some (.int x9)] [] M (some (.int t), M)) ?_ hs7 ?_
  · rintro ⟨x2, x3⟩ ws1 h hK
    dsimp only at h
    show oo LN xs 0 0 37 7 [some (.ref 28), some (.int x2), some (.int x3)] [] M (some (.int t), M)
    refine o_iload_n k37_7 rfl ?_
    refine o_if_lt k37_8 (fun hc4 => ?_) (fun hc4 => ?_)
    · rw [if_pos hc4] at h
      have h9 := Option.some.inj h
      subst h9
      exact hK
    · rw [if_neg hc4] at h
      refine o_iload_n k37_11 rfl ?_
      refine o_aload_n k37_12 rfl ?_
      refine o_gf k37_13 (gf_28_0 _) ?_
      refine o_iload_n k37_16 rfl ?_
      obtain ⟨hc5, h⟩ := ck_i h
      refine o_iald k37_17 rfl ia_29 hc5 ?_
      refine o_iload_n k37_18 rfl ?_
      refine o_iand k37_19 ?_
      refine o_call k37_20 pj_39 (fun _ => rfl) (by decide) rfl (as := [.int ((M 29 x3.toNatClampNeg) &&& x2)]) (rest := [.int x2]) rfl (L0 := [some (.int ((M 29 x3.toNatClampNeg) &&& x2))]) rfl (t_X2_parity (M := M) (a0 := ((M 29 x3.toNatClampNeg) &&& x2)) rfl) ?_
      refine o_iload_n k37_23 rfl ?_
      refine o_ishl k37_24 ?_
      refine o_ior k37_25 ?_
      refine bl_i h (fun v6 ev6 h => ?_)
      refine o_istore_n (v := v6) k37_26 ev6 (L' := [some (.ref 28), some (.int v6), some (.int x3)]) rfl ?_
      refine o_iinc (k := (-1)) (L' := [some (.ref 28), some (.int v6), some (.int (x3 + (-1)))]) k37_27 rfl (by decide) rfl ?_
      refine o_goto k37_30 ?_
      have h9 := Option.some.inj h
      subst h9
      exact hK
  · obtain ⟨x8, x9⟩ := s7
    show oo LN xs 0 0 37 33 [some (.ref 28), some (.int x8), some (.int x9)] [] M (some (.int t), M)
    dsimp only at h
    refine o_iload_n k37_33 rfl ?_
    refine o_sipush (v := (-4097)) k37_34 (by decide) ?_
    refine o_iand k37_37 ?_
    have h9 := Option.some.inj h
    subst h9
    exact o_iret pj_37 k37_38 rfl nr_i
def f_X7_seed_0 (a0 : Int32) (M : am_M) : Option (Int32 × am_M) := (if a0 < 0 then (some ((-1), M)) else (if a0 ≤ 1 then ((f_X2_wantedOf_26_9 M).bind (fun q3 => (if (q3 28 2) = 0 then (if a0 = 0 then ((f_X1_leastSolution_28 q3).bind (fun v6 => (some (v6, q3)))) else (some (((q3 9 4) - (q3 28 1)), q3))) else (some ((-4), q3))))) else (some ((-1), M))))
set_option maxRecDepth 20000 in
theorem t_X7_seed_0 {LN : Nat} {xs : Nat → Int32} {a0 : Int32} {M : am_M} {t : Int32 × am_M} (h : f_X7_seed_0 a0 M = some t) : oo LN xs 0 0 105 0 [some (.ref 0), some (.int a0), none] [] M (some (.int t.1), t.2) := by
  unfold f_X7_seed_0 at h
  refine o_iload_n k105_0 rfl ?_
  refine o_if_lt k105_1 (fun hc1 => ?_) (fun hc1 => ?_)
  · rw [if_pos hc1] at h
    refine o_iconst (v := (-1)) k105_9 (by decide) ?_
    have h9 := Option.some.inj h
    subst h9
    exact o_iret pj_105 k105_10 rfl nr_i
  · rw [if_neg hc1] at h
    refine o_iload_n k105_4 rfl ?_
    refine o_iconst (v := 1) k105_5 (by decide) ?_
    refine o_icmp_le k105_6 (fun hc2 => ?_) (fun hc2 => ?_)
    · rw [if_pos hc2] at h
      refine o_aload_n k105_11 rfl ?_
      refine o_gf k105_12 (gf_0_5 _) ?_
      refine o_aload_n k105_15 rfl ?_
      refine o_gf k105_16 (gf_0_2 _) ?_
      refine bd_i h (fun q3 hq3 h => ?_)
      refine o_call k105_19 pj_43 (fun _ => rfl) (by decide) rfl (as := [.ref 26, .ref 9]) (rest := []) rfl (L0 := [some (.ref 26), some (.ref 9), none, none, none]) rfl (t_X2_wantedOf_26_9 hq3) ?_
      refine o_astore_n (L' := [some (.ref 0), some (.int a0), some (.ref 28)]) k105_22 rfl rfl ?_
      refine o_aload_n k105_23 rfl ?_
      refine o_gf k105_24 (gf_28_2 _) ?_
      refine o_if_eq k105_27 (fun hc4 => ?_) (fun hc4 => ?_)
      · rw [if_pos hc4] at h
        refine o_iload_n k105_33 rfl ?_
        refine o_if_ne k105_34 (fun hc5 => ?_) (fun hc5 => ?_)
        · rw [if_neg hc5] at h
          refine o_aload_n k105_44 rfl ?_
          refine o_gf k105_45 (gf_0_2 _) ?_
          refine o_gf k105_48 (gf_9_4 _) ?_
          refine o_aload_n k105_51 rfl ?_
          refine o_gf k105_52 (gf_28_1 _) ?_
          refine o_isub k105_55 ?_
          have h9 := Option.some.inj h
          subst h9
          exact o_iret pj_105 k105_56 rfl nr_i
        · rw [if_pos hc5] at h
          refine o_aload_n k105_37 rfl ?_
          refine bd_i h (fun v6 hv6 h => ?_)
          refine o_call k105_38 pj_37 (fun _ => rfl) (by decide) rfl (as := [.ref 28]) (rest := []) rfl (L0 := [some (.ref 28), none, none]) rfl (t_X1_leastSolution_28 hv6) ?_
          refine o_goto k105_41 ?_
          have h9 := Option.some.inj h
          subst h9
          exact o_iret pj_105 k105_56 rfl nr_i
      · rw [if_neg hc4] at h
        refine o_bipush (v := (-4)) k105_30 (by decide) ?_
        have h9 := Option.some.inj h
        subst h9
        exact o_iret pj_105 k105_32 rfl nr_i
    · rw [if_neg hc2] at h
      refine o_iconst (v := (-1)) k105_9 (by decide) ?_
      have h9 := Option.some.inj h
      subst h9
      exact o_iret pj_105 k105_10 rfl nr_i
def f_X8_bringsAll_43 (a0 : Int32) (M : am_M) : Option Int32 := ((lp (σ := Int32 × Int32) (ρ := (Int32) ⊕ (Int32 × Int32)) (fun (s1 : Int32 × Int32) => match s1 with | (x2, x3) => (if (M 44 (1 : Int32).toNatClampNeg) ≤ x3 then (some (.inr (.inr (x2, x3)))) else ((lp (σ := Int32) (ρ := (Int32) ⊕ (Int32)) (fun x9 => (if (M 44 (0 : Int32).toNatClampNeg) ≤ x9 then (some (.inr (.inr x9))) else (if am_dbin (((71 : Int32) + ((8 : Int32) * x9)) + x3) 151 = true then (bl ((M 44 (((71 : Int32) + ((8 : Int32) * x9)) + x3).toNatClampNeg)) (fun (v14 : Int32) => (if v14 = 2 then (some (.inl (x9 + 1))) else ((f_X8_broughtBy_43 x2 x9 M).bind (fun v16 => (if v14 = v16 then (some (.inl (x9 + 1))) else (some (.inr (.inl 0))))))))) else none))) lp_F 0).bind (fun os18 => Sum.elim (fun u => (some (.inr (.inl u)))) (fun x19 => ((f_X8_nextOf_43 x2 M).bind (fun v21 => (some (.inl (v21, (x3 + 1))))))) os18)))) lp_F (a0, 0)).bind (fun os22 => Sum.elim (fun u => (some u)) (fun (s22 : Int32 × Int32) => match s22 with | (x23, x24) => (some 1)) os22))
set_option maxRecDepth 20000 in
theorem t_X8_bringsAll_43 {LN : Nat} {xs : Nat → Int32} {a0 : Int32} {M : am_M} {t : Int32} (h : f_X8_bringsAll_43 a0 M = some t) : oo LN xs 0 0 184 0 [some (.ref 43), some (.int a0), none, none, none, none] [] M (some (.int t), M) := by
  unfold f_X8_bringsAll_43 at h
  refine o_iload_n k184_0 rfl ?_
  refine o_istore_n (v := a0) (L' := [some (.ref 43), some (.int a0), some (.int a0), none, none, none]) k184_1 rfl rfl ?_
  refine o_iconst (v := 0) k184_2 (by decide) ?_
  refine o_istore_n (v := 0) (L' := [some (.ref 43), some (.int a0), some (.int a0), some (.int 0), none, none]) k184_3 rfl rfl ?_
  refine bd_i h (fun Os22 hOs22 h => ?_)
  refine lp_o (fun (s1 : Int32 × Int32) => match s1 with | (x2, x3) => ∀ (d4 d5 : Option (Int32 ⊕ Int64)), oo LN xs 0 0 184 4 [some (.ref 43), some (.int a0), some (.int x2), some (.int x3), (d4.map dv), (d5.map dv)] [] M (some (.int t), M)) (fun oq => Sum.elim (fun u => u = t) (fun (s22 : Int32 × Int32) => match s22 with | (x23, x24) => ∀ (d25 d26 : Option (Int32 ⊕ Int64)), oo LN xs 0 0 184 83 [some (.ref 43), some (.int a0), some (.int x23), some (.int x24), (d25.map dv), (d26.map dv)] [] M (some (.int t), M)) oq) ?_ hOs22 ?_ none none
  · rintro ⟨x2, x3⟩ ws1 h hK
    dsimp only at h
    show ∀ (d4 d5 : Option (Int32 ⊕ Int64)), oo LN xs 0 0 184 4 [some (.ref 43), some (.int a0), some (.int x2), some (.int x3), (d4.map dv), (d5.map dv)] [] M (some (.int t), M)
    intro d4 d5
    refine o_iload_n k184_4 rfl ?_
    refine o_aload_n k184_5 rfl ?_
    refine o_gf k184_6 (gf_43_0 _) ?_
    refine o_iconst (v := 1) k184_9 (by decide) ?_
    refine o_iald k184_10 rfl ia_44 (by decide) ?_
    refine o_icmp_ge k184_11 (fun hc7 => ?_) (fun hc7 => ?_)
    · rw [if_pos hc7] at h
      have h9 := Option.some.inj h
      subst h9
      exact hK d4 d5
    · rw [if_neg hc7] at h
      refine o_iconst (v := 0) k184_14 (by decide) ?_
      refine o_istore (v := 0) (L' := [some (.ref 43), some (.int a0), some (.int x2), some (.int x3), some (.int 0), (d5.map dv)]) k184_15 rfl rfl ?_
      refine bd_i h (fun Os18 hOs18 h => ?_)
      refine lp_o (fun x9 => ∀ (d10 : Option (Int32 ⊕ Int64)), oo LN xs 0 0 184 17 [some (.ref 43), some (.int a0), some (.int x2), some (.int x3), some (.int x9), (d10.map dv)] [] M (some (.int t), M)) (fun oq => Sum.elim (fun u => u = t) (fun x19 => ∀ (d20 : Option (Int32 ⊕ Int64)), oo LN xs 0 0 184 71 [some (.ref 43), some (.int a0), some (.int x2), some (.int x3), some (.int x19), (d20.map dv)] [] M (some (.int t), M)) oq) ?_ hOs18 ?_ d5
      · rintro x9 ws8 h hK
        show ∀ (d10 : Option (Int32 ⊕ Int64)), oo LN xs 0 0 184 17 [some (.ref 43), some (.int a0), some (.int x2), some (.int x3), some (.int x9), (d10.map dv)] [] M (some (.int t), M)
        intro d10
        refine o_iload k184_17 rfl ?_
        refine o_aload_n k184_19 rfl ?_
        refine o_gf k184_20 (gf_43_0 _) ?_
        refine o_iconst (v := 0) k184_23 (by decide) ?_
        refine o_iald k184_24 rfl ia_44 (by decide) ?_
        refine o_icmp_ge k184_25 (fun hc12 => ?_) (fun hc12 => ?_)
        · rw [if_pos hc12] at h
          have h9 := Option.some.inj h
          subst h9
          exact hK d10
        · rw [if_neg hc12] at h
          refine o_aload_n k184_28 rfl ?_
          refine o_gf k184_29 (gf_43_0 _) ?_
          refine o_bipush (v := 71) k184_32 (by decide) ?_
          refine o_bipush (v := 8) k184_34 (by decide) ?_
          refine o_iload k184_36 rfl ?_
          refine o_imul k184_38 ?_
          refine o_iadd k184_39 ?_
          refine o_iload_n k184_40 rfl ?_
          refine o_iadd k184_41 ?_
          obtain ⟨hc13, h⟩ := ck_i h
          refine o_iald k184_42 rfl ia_44 hc13 ?_
          refine bl_i h (fun v14 ev14 h => ?_)
          refine o_istore (v := v14) k184_43 ev14 (L' := [some (.ref 43), some (.int a0), some (.int x2), some (.int x3), some (.int x9), some (.int v14)]) rfl ?_
          refine o_iload k184_45 rfl ?_
          refine o_iconst (v := 2) k184_47 (by decide) ?_
          refine o_icmp_eq k184_48 (fun hc15 => ?_) (fun hc15 => ?_)
          · rw [if_pos hc15] at h
            refine o_iinc (k := 1) (L' := [some (.ref 43), some (.int a0), some (.int x2), some (.int x3), some (.int (x9 + 1)), some (.int v14)]) k184_65 rfl (by decide) rfl ?_
            refine o_goto k184_68 ?_
            have h9 := Option.some.inj h
            subst h9
            exact hK (some (.inl v14))
          · rw [if_neg hc15] at h
            refine o_iload k184_51 rfl ?_
            refine o_aload_n k184_53 rfl ?_
            refine o_iload_n k184_54 rfl ?_
            refine o_iload k184_55 rfl ?_
            refine bd_i h (fun v16 hv16 h => ?_)
            refine o_call k184_57 pj_181 (fun _ => rfl) (by decide) rfl (as := [.ref 43, .int x2, .int x9]) (rest := [.int v14]) rfl (L0 := [some (.ref 43), some (.int x2), some (.int x9)]) rfl (t_X8_broughtBy_43 hv16) ?_
            refine o_icmp_eq k184_60 (fun hc17 => ?_) (fun hc17 => ?_)
            · rw [if_pos hc17] at h
              refine o_iinc (k := 1) (L' := [some (.ref 43), some (.int a0), some (.int x2), some (.int x3), some (.int (x9 + 1)), some (.int v14)]) k184_65 rfl (by decide) rfl ?_
              refine o_goto k184_68 ?_
              have h9 := Option.some.inj h
              subst h9
              exact hK (some (.inl v14))
            · rw [if_neg hc17] at h
              refine o_iconst (v := 0) k184_63 (by decide) ?_
              have h9 := Option.some.inj h
              subst h9
              have hK2 : 0 = t := hK
              subst hK2
              exact o_iret pj_184 k184_64 rfl (nr_z (by decide))
      · rcases Os18 with u | x19
        · have h9 := Option.some.inj h; subst h9; exact hK
        · show ∀ (d20 : Option (Int32 ⊕ Int64)), oo LN xs 0 0 184 71 [some (.ref 43), some (.int a0), some (.int x2), some (.int x3), some (.int x19), (d20.map dv)] [] M (some (.int t), M)
          rw [el_r] at h
          intro d20
          refine o_aload_n k184_71 rfl ?_
          refine o_iload_n k184_72 rfl ?_
          refine bd_i h (fun v21 hv21 h => ?_)
          refine o_call k184_73 pj_180 (fun _ => rfl) (by decide) (by rcases d20 with _ | (x | x) <;> rfl) (as := [.ref 43, .int x2]) (rest := []) rfl (L0 := [some (.ref 43), some (.int x2)]) rfl (t_X8_nextOf_43 hv21) ?_
          refine o_istore_n (v := v21) (L' := [some (.ref 43), some (.int a0), some (.int v21), some (.int x3), some (.int x19), (d20.map dv)]) k184_76 rfl rfl ?_
          refine o_iinc (k := 1) (L' := [some (.ref 43), some (.int a0), some (.int v21), some (.int (x3 + 1)), some (.int x19), (d20.map dv)]) k184_77 rfl (by decide) rfl ?_
          refine o_goto k184_80 ?_
          have h9 := Option.some.inj h
          subst h9
          exact hK (some (.inl x19)) d20
  · rcases Os22 with u | ⟨x23, x24⟩
    · exact Option.some.inj h
    · show ∀ (d25 d26 : Option (Int32 ⊕ Int64)), oo LN xs 0 0 184 83 [some (.ref 43), some (.int a0), some (.int x23), some (.int x24), (d25.map dv), (d26.map dv)] [] M (some (.int t), M)
      rw [el_r] at h
      dsimp only at h
      intro d25 d26
      refine o_iconst (v := 1) k184_83 (by decide) ?_
      have h9 := Option.some.inj h
      subst h9
      exact o_iret pj_184 k184_84 rfl (nr_z (by decide))
def f_X8_seed_43 (a0 : Int32) (M : am_M) : Option Int32 := ((f_X8_isPart a0).bind (fun v1 => (if v1 = 0 then (some (-1)) else ((lp (σ := Int32 × Int32 × Int32) (ρ := Int32 × Int32 × Int32) (fun (s3 : Int32 × Int32 × Int32) => match s3 with | (x4, x5, x6) => (if ((1 : Int32) <<< ((M 44 (4 : Int32).toNatClampNeg) &&& 31)) ≤ x6 then (some (.inr (x4, x5, x6))) else ((f_X8_bringsAll_43 x6 M).bind (fun v9 => (if v9 = 0 then (some (.inl (x4, x5, (x6 + 1)))) else (if x5 = 0 then (some (.inl (x6, (x5 + 1), (x6 + 1)))) else (some (.inl (x4, (x5 + 1), (x6 + 1)))))))))) lp_F ((-4), 0, 0)).bind (fun (s12 : Int32 × Int32 × Int32) => match s12 with | (x13, x14, x15) => (if a0 = 0 then (some x13) else (if x14 = 0 then (some x13) else ((lp (σ := Int32) (ρ := Int32) (fun x19 => (if x14 ≤ ((1 : Int32) <<< (x19 &&& 31)) then (some (.inr x19)) else (some (.inl (x19 + 1))))) lp_F 0).bind (fun x22 => (some x22))))))))))
set_option maxRecDepth 20000 in
theorem t_X8_seed_43 {LN : Nat} {xs : Nat → Int32} {a0 : Int32} {M : am_M} {t : Int32} (h : f_X8_seed_43 a0 M = some t) : oo LN xs 0 0 185 0 [some (.ref 43), some (.int a0), none, none, none] [] M (some (.int t), M) := by
  unfold f_X8_seed_43 at h
  refine o_iload_n k185_0 rfl ?_
  refine bd_i h (fun v1 hv1 h => ?_)
  refine o_call k185_1 pj_153 (fun _ => rfl) (by decide) rfl (as := [.int a0]) (rest := []) rfl (L0 := [some (.int a0)]) rfl (t_X8_isPart hv1) ?_
  refine o_if_ne k185_4 (fun hc2 => ?_) (fun hc2 => ?_)
  · rw [if_neg hc2] at h
    refine o_bipush (v := (-4)) k185_9 (by decide) ?_
    refine o_istore_n (v := (-4)) (L' := [some (.ref 43), some (.int a0), some (.int (-4)), none, none]) k185_11 rfl rfl ?_
    refine o_iconst (v := 0) k185_12 (by decide) ?_
    refine o_istore_n (v := 0) (L' := [some (.ref 43), some (.int a0), some (.int (-4)), some (.int 0), none]) k185_13 rfl rfl ?_
    refine o_iconst (v := 0) k185_14 (by decide) ?_
    refine o_istore (v := 0) (L' := [some (.ref 43), some (.int a0), some (.int (-4)), some (.int 0), some (.int 0)]) k185_15 rfl rfl ?_
    refine bd_i h (fun s12 hs12 h => ?_)
    refine lp_o (fun (s3 : Int32 × Int32 × Int32) => match s3 with | (x4, x5, x6) => oo LN xs 0 0 185 17 [some (.ref 43), some (.int a0), some (.int x4), some (.int x5), some (.int x6)] [] M (some (.int t), M)) (fun (s12 : Int32 × Int32 × Int32) => match s12 with | (x13, x14, x15) => oo LN xs 0 0 185 59 [some (.ref 43), some (.int a0), some (.int x13), some (.int x14), some (.int x15)] [] M (some (.int t), M)) ?_ hs12 ?_
    · rintro ⟨x4, x5, x6⟩ ws3 h hK
      dsimp only at h
      show oo LN xs 0 0 185 17 [some (.ref 43), some (.int a0), some (.int x4), some (.int x5), some (.int x6)] [] M (some (.int t), M)
      refine o_iload k185_17 rfl ?_
      refine o_iconst (v := 1) k185_19 (by decide) ?_
      refine o_aload_n k185_20 rfl ?_
      refine o_gf k185_21 (gf_43_0 _) ?_
      refine o_iconst (v := 4) k185_24 (by decide) ?_
      refine o_iald k185_25 rfl ia_44 (by decide) ?_
      refine o_ishl k185_26 ?_
      refine o_icmp_ge k185_27 (fun hc8 => ?_) (fun hc8 => ?_)
      · rw [if_pos hc8] at h
        have h9 := Option.some.inj h
        subst h9
        exact hK
      · rw [if_neg hc8] at h
        refine o_aload_n k185_30 rfl ?_
        refine o_iload k185_31 rfl ?_
        refine bd_i h (fun v9 hv9 h => ?_)
        refine o_call k185_33 pj_184 (fun _ => rfl) (by decide) rfl (as := [.ref 43, .int x6]) (rest := []) rfl (L0 := [some (.ref 43), some (.int x6), none, none, none, none]) rfl (t_X8_bringsAll_43 hv9) ?_
        refine o_if_eq k185_36 (fun hc10 => ?_) (fun hc10 => ?_)
        · rw [if_pos hc10] at h
          refine o_iinc (k := 1) (L' := [some (.ref 43), some (.int a0), some (.int x4), some (.int x5), some (.int (x6 + 1))]) k185_53 rfl (by decide) rfl ?_
          refine o_goto k185_56 ?_
          have h9 := Option.some.inj h
          subst h9
          exact hK
        · rw [if_neg hc10] at h
          refine o_iload_n k185_39 rfl ?_
          refine o_if_ne k185_40 (fun hc11 => ?_) (fun hc11 => ?_)
          · rw [if_neg hc11] at h
            refine o_iload_n k185_48 rfl ?_
            refine o_istore_n (v := x4) (L' := [some (.ref 43), some (.int a0), some (.int x4), some (.int x5), some (.int x6)]) k185_49 rfl rfl ?_
            refine o_iinc (k := 1) (L' := [some (.ref 43), some (.int a0), some (.int x4), some (.int (x5 + 1)), some (.int x6)]) k185_50 rfl (by decide) rfl ?_
            refine o_iinc (k := 1) (L' := [some (.ref 43), some (.int a0), some (.int x4), some (.int (x5 + 1)), some (.int (x6 + 1))]) k185_53 rfl (by decide) rfl ?_
            refine o_goto k185_56 ?_
            have h9 := Option.some.inj h
            subst h9
            exact hK
          · rw [if_pos hc11] at h
            refine o_iload k185_43 rfl ?_
            refine o_goto k185_45 ?_
            refine o_istore_n (v := x6) (L' := [some (.ref 43), some (.int a0), some (.int x6), some (.int x5), some (.int x6)]) k185_49 rfl rfl ?_
            refine o_iinc (k := 1) (L' := [some (.ref 43), some (.int a0), some (.int x6), some (.int (x5 + 1)), some (.int x6)]) k185_50 rfl (by decide) rfl ?_
            refine o_iinc (k := 1) (L' := [some (.ref 43), some (.int a0), some (.int x6), some (.int (x5 + 1)), some (.int (x6 + 1))]) k185_53 rfl (by decide) rfl ?_
            refine o_goto k185_56 ?_
            have h9 := Option.some.inj h
            subst h9
            exact hK
    · obtain ⟨x13, x14, x15⟩ := s12
      show oo LN xs 0 0 185 59 [some (.ref 43), some (.int a0), some (.int x13), some (.int x14), some (.int x15)] [] M (some (.int t), M)
      dsimp only at h
      refine o_iload_n k185_59 rfl ?_
      refine o_if_eq k185_60 (fun hc16 => ?_) (fun hc16 => ?_)
      · rw [if_pos hc16] at h
        refine o_iload_n k185_67 rfl ?_
        have h9 := Option.some.inj h
        subst h9
        exact o_iret pj_185 k185_68 rfl nr_i
      · rw [if_neg hc16] at h
        refine o_iload_n k185_63 rfl ?_
        refine o_if_ne k185_64 (fun hc17 => ?_) (fun hc17 => ?_)
        · rw [if_neg hc17] at h
          refine o_iconst (v := 0) k185_69 (by decide) ?_
          refine o_istore (v := 0) (L' := [some (.ref 43), some (.int a0), some (.int x13), some (.int x14), some (.int 0)]) k185_70 rfl rfl ?_
          refine bd_i h (fun s21 hs21 h => ?_)
          refine lp_o (fun x19 => oo LN xs 0 0 185 72 [some (.ref 43), some (.int a0), some (.int x13), some (.int x14), some (.int x19)] [] M (some (.int t), M)) (fun x22 => oo LN xs 0 0 185 86 [some (.ref 43), some (.int a0), some (.int x13), some (.int x14), some (.int x22)] [] M (some (.int t), M)) ?_ hs21 ?_
          · rintro x19 ws18 h hK
            show oo LN xs 0 0 185 72 [some (.ref 43), some (.int a0), some (.int x13), some (.int x14), some (.int x19)] [] M (some (.int t), M)
            refine o_iconst (v := 1) k185_72 (by decide) ?_
            refine o_iload k185_73 rfl ?_
            refine o_ishl k185_75 ?_
            refine o_iload_n k185_76 rfl ?_
            refine o_icmp_ge k185_77 (fun hc20 => ?_) (fun hc20 => ?_)
            · rw [if_pos hc20] at h
              have h9 := Option.some.inj h
              subst h9
              exact hK
            · rw [if_neg hc20] at h
              refine o_iinc (k := 1) (L' := [some (.ref 43), some (.int a0), some (.int x13), some (.int x14), some (.int (x19 + 1))]) k185_80 rfl (by decide) rfl ?_
              refine o_goto k185_83 ?_
              have h9 := Option.some.inj h
              subst h9
              exact hK
          · obtain ⟨x22, rfl⟩ : ∃ z, z = s21 := ⟨_, rfl⟩
            show oo LN xs 0 0 185 86 [some (.ref 43), some (.int a0), some (.int x13), some (.int x14), some (.int x22)] [] M (some (.int t), M)
            refine o_iload k185_86 rfl ?_
            have h9 := Option.some.inj h
            subst h9
            exact o_iret pj_185 k185_88 rfl nr_i
        · rw [if_pos hc17] at h
          refine o_iload_n k185_67 rfl ?_
          have h9 := Option.some.inj h
          subst h9
          exact o_iret pj_185 k185_68 rfl nr_i
  · rw [if_pos hc2] at h
    refine o_iconst (v := (-1)) k185_7 (by decide) ?_
    have h9 := Option.some.inj h
    subst h9
    exact o_iret pj_185 k185_8 rfl nr_i
def f_X4_moved_9 (a0 : Int32) (M : am_M) : Int32 := (bl (if ((a0 <<< ((1 : Int32) &&& 31)) &&& ((f_X0_allOutputs_9 M) ^^^ (-1))) = 0 then (a0 <<< ((1 : Int32) &&& 31)) else ((a0 <<< ((1 : Int32) &&& 31)) ^^^ (M 9 6))) (fun (v2 : Int32) => (v2 &&& (f_X0_allOutputs_9 M))))
set_option maxRecDepth 20000 in
theorem t_X4_moved_9 {LN : Nat} {xs : Nat → Int32} {a0 : Int32} {M : am_M} {t : Int32} (h : f_X4_moved_9 a0 M = t) : oo LN xs 0 0 50 0 [some (.ref 9), some (.int a0), none] [] M (some (.int t), M) := by
  unfold f_X4_moved_9 at h
  refine o_iload_n k50_0 rfl ?_
  refine o_iconst (v := 1) k50_1 (by decide) ?_
  refine o_ishl k50_2 ?_
  refine o_istore_n (v := (a0 <<< ((1 : Int32) &&& 31))) (L' := [some (.ref 9), some (.int a0), some (.int (a0 <<< ((1 : Int32) &&& 31)))]) k50_3 rfl rfl ?_
  refine o_iload_n k50_4 rfl ?_
  refine o_aload_n k50_5 rfl ?_
  refine o_call k50_6 pj_11 (fun _ => rfl) (by decide) rfl (as := [.ref 9]) (rest := [.int (a0 <<< ((1 : Int32) &&& 31))]) rfl (L0 := [some (.ref 9)]) rfl (t_X0_allOutputs_9 (M := M) rfl) ?_
  refine o_iconst (v := (-1)) k50_9 (by decide) ?_
  refine o_ixor k50_10 ?_
  refine o_iand k50_11 ?_
  refine bl_i h (fun v2 ev2 h => ?_)
  have hJ22 : ∀ (yv2 : Int32), yv2 = v2 → oo LN xs 0 0 50 22 [some (.ref 9), some (.int a0), some (.int yv2)] [] M (some (.int t), M) := by
    intro yv2 hyv2
    rw [hyv2]
    refine o_iload_n k50_22 rfl ?_
    refine o_aload_n k50_23 rfl ?_
    refine o_call k50_24 pj_11 (fun _ => rfl) (by decide) rfl (as := [.ref 9]) (rest := [.int v2]) rfl (L0 := [some (.ref 9)]) rfl (t_X0_allOutputs_9 (M := M) rfl) ?_
    refine o_iand k50_27 ?_
    subst h
    exact o_iret pj_50 k50_28 rfl nr_i
  refine o_if_eq k50_12 (fun hc1 => ?_) (fun hc1 => ?_)
  · skip
    exact hJ22 _ (by simp only [ev2, if_pos hc1])
  · skip
    refine o_iload_n k50_15 rfl ?_
    refine o_aload_n k50_16 rfl ?_
    refine o_gf k50_17 (gf_9_6 _) ?_
    refine o_ixor k50_20 ?_
    refine o_istore_n (v := ((a0 <<< ((1 : Int32) &&& 31)) ^^^ (M 9 6))) (L' := [some (.ref 9), some (.int a0), some (.int ((a0 <<< ((1 : Int32) &&& 31)) ^^^ (M 9 6)))]) k50_21 rfl rfl ?_
    exact hJ22 _ (by simp only [ev2, if_neg hc1])
def f_X7_signature_0 (M : am_M) : Option Int32 := ((lp (σ := Int32 × Int32) (ρ := (Int32) ⊕ (Int32 × Int32)) (fun (s1 : Int32 × Int32) => match s1 with | (x2, x3) => (if (M 9 1) ≤ x3 then (some (.inr (.inr (x2, x3)))) else ((f_X0_blurred_9 x3 (M 9 3) M).bind (fun v6 => (if v6 = 0 then ((lp (σ := Int32 × Int32) (ρ := Int32 × Int32) (fun (s8 : Int32 × Int32) => match s8 with | (x9, x10) => (if (M 9 2) ≤ x10 then (some (.inr (x9, x10))) else ((f_X0_seenAt_9 x3 x10 M).bind (fun v12 => (some (.inl ((x9 ^^^ (v12 <<< (x10 &&& 31))), (x10 + 1)))))))) lp_F ((f_X4_moved_9 x2 M), 0)).bind (fun (s13 : Int32 × Int32) => match s13 with | (x14, x15) => (some (.inl (x14, (x3 + 1)))))) else (some (.inr (.inl (-4))))))))) lp_F (0, 0)).bind (fun os16 => Sum.elim (fun u => (some u)) (fun (s16 : Int32 × Int32) => match s16 with | (x17, x18) => (some x17)) os16))
set_option maxRecDepth 20000 in
theorem t_X7_signature_0 {LN : Nat} {xs : Nat → Int32} {M : am_M} {t : Int32} (h : f_X7_signature_0 M = some t) : oo LN xs 0 0 106 0 [some (.ref 0), none, none, none] [] M (some (.int t), M) := by
  unfold f_X7_signature_0 at h
  refine o_iconst (v := 0) k106_0 (by decide) ?_
  refine o_istore_n (v := 0) (L' := [some (.ref 0), some (.int 0), none, none]) k106_1 rfl rfl ?_
  refine o_iconst (v := 0) k106_2 (by decide) ?_
  refine o_istore_n (v := 0) (L' := [some (.ref 0), some (.int 0), some (.int 0), none]) k106_3 rfl rfl ?_
  refine bd_i h (fun Os16 hOs16 h => ?_)
  refine lp_o (fun (s1 : Int32 × Int32) => match s1 with | (x2, x3) => ∀ (d4 : Option (Int32 ⊕ Int64)), oo LN xs 0 0 106 4 [some (.ref 0), some (.int x2), some (.int x3), (d4.map dv)] [] M (some (.int t), M)) (fun oq => Sum.elim (fun u => u = t) (fun (s16 : Int32 × Int32) => match s16 with | (x17, x18) => ∀ (d19 : Option (Int32 ⊕ Int64)), oo LN xs 0 0 106 84 [some (.ref 0), some (.int x17), some (.int x18), (d19.map dv)] [] M (some (.int t), M)) oq) ?_ hOs16 ?_ none
  · rintro ⟨x2, x3⟩ ws1 h hK
    dsimp only at h
    show ∀ (d4 : Option (Int32 ⊕ Int64)), oo LN xs 0 0 106 4 [some (.ref 0), some (.int x2), some (.int x3), (d4.map dv)] [] M (some (.int t), M)
    intro d4
    refine o_iload_n k106_4 rfl ?_
    refine o_aload_n k106_5 rfl ?_
    refine o_gf k106_6 (gf_0_2 _) ?_
    refine o_gf k106_9 (gf_9_1 _) ?_
    refine o_icmp_ge k106_12 (fun hc5 => ?_) (fun hc5 => ?_)
    · rw [if_pos hc5] at h
      have h9 := Option.some.inj h
      subst h9
      exact hK d4
    · rw [if_neg hc5] at h
      refine o_aload_n k106_15 rfl ?_
      refine o_gf k106_16 (gf_0_2 _) ?_
      refine o_iload_n k106_19 rfl ?_
      refine o_aload_n k106_20 rfl ?_
      refine o_gf k106_21 (gf_0_2 _) ?_
      refine o_gf k106_24 (gf_9_3 _) ?_
      refine bd_i h (fun v6 hv6 h => ?_)
      refine o_call k106_27 pj_17 (fun _ => rfl) (by decide) (by rcases d4 with _ | (x | x) <;> rfl) (as := [.ref 9, .int x3, .int (M 9 3)]) (rest := []) rfl (L0 := [some (.ref 9), some (.int x3), some (.int (M 9 3)), none, none]) rfl (t_X0_blurred_9 hv6) ?_
      refine o_if_eq k106_30 (fun hc7 => ?_) (fun hc7 => ?_)
      · rw [if_pos hc7] at h
        refine o_aload_n k106_36 rfl ?_
        refine o_gf k106_37 (gf_0_2 _) ?_
        refine o_iload_n k106_40 rfl ?_
        refine o_call k106_41 pj_50 (fun _ => rfl) (by decide) (by rcases d4 with _ | (x | x) <;> rfl) (as := [.ref 9, .int x2]) (rest := []) rfl (L0 := [some (.ref 9), some (.int x2), none]) rfl (t_X4_moved_9 (M := M) (a0 := x2) rfl) ?_
        refine o_istore_n (v := (f_X4_moved_9 x2 M)) (L' := [some (.ref 0), some (.int (f_X4_moved_9 x2 M)), some (.int x3), (d4.map dv)]) k106_44 rfl rfl ?_
        refine o_iconst (v := 0) k106_45 (by decide) ?_
        refine o_istore_n (v := 0) (L' := [some (.ref 0), some (.int (f_X4_moved_9 x2 M)), some (.int x3), some (.int 0)]) k106_46 rfl rfl ?_
        refine bd_i h (fun s13 hs13 h => ?_)
        refine lp_o (fun (s8 : Int32 × Int32) => match s8 with | (x9, x10) => oo LN xs 0 0 106 47 [some (.ref 0), some (.int x9), some (.int x3), some (.int x10)] [] M (some (.int t), M)) (fun (s13 : Int32 × Int32) => match s13 with | (x14, x15) => oo LN xs 0 0 106 78 [some (.ref 0), some (.int x14), some (.int x3), some (.int x15)] [] M (some (.int t), M)) ?_ hs13 ?_
        · rintro ⟨x9, x10⟩ ws8 h hK
          dsimp only at h
          show oo LN xs 0 0 106 47 [some (.ref 0), some (.int x9), some (.int x3), some (.int x10)] [] M (some (.int t), M)
          refine o_iload_n k106_47 rfl ?_
          refine o_aload_n k106_48 rfl ?_
          refine o_gf k106_49 (gf_0_2 _) ?_
          refine o_gf k106_52 (gf_9_2 _) ?_
          refine o_icmp_ge k106_55 (fun hc11 => ?_) (fun hc11 => ?_)
          · rw [if_pos hc11] at h
            have h9 := Option.some.inj h
            subst h9
            exact hK
          · rw [if_neg hc11] at h
            refine o_iload_n k106_58 rfl ?_
            refine o_aload_n k106_59 rfl ?_
            refine o_gf k106_60 (gf_0_2 _) ?_
            refine o_iload_n k106_63 rfl ?_
            refine o_iload_n k106_64 rfl ?_
            refine bd_i h (fun v12 hv12 h => ?_)
            refine o_call k106_65 pj_16 (fun _ => rfl) (by decide) rfl (as := [.ref 9, .int x3, .int x10]) (rest := [.int x9]) rfl (L0 := [some (.ref 9), some (.int x3), some (.int x10), none, none, none]) rfl (t_X0_seenAt_9 hv12) ?_
            refine o_iload_n k106_68 rfl ?_
            refine o_ishl k106_69 ?_
            refine o_ixor k106_70 ?_
            refine o_istore_n (v := (x9 ^^^ (v12 <<< (x10 &&& 31)))) (L' := [some (.ref 0), some (.int (x9 ^^^ (v12 <<< (x10 &&& 31)))), some (.int x3), some (.int x10)]) k106_71 rfl rfl ?_
            refine o_iinc (k := 1) (L' := [some (.ref 0), some (.int (x9 ^^^ (v12 <<< (x10 &&& 31)))), some (.int x3), some (.int (x10 + 1))]) k106_72 rfl (by decide) rfl ?_
            refine o_goto k106_75 ?_
            have h9 := Option.some.inj h
            subst h9
            exact hK
        · obtain ⟨x14, x15⟩ := s13
          show oo LN xs 0 0 106 78 [some (.ref 0), some (.int x14), some (.int x3), some (.int x15)] [] M (some (.int t), M)
          dsimp only at h
          refine o_iinc (k := 1) (L' := [some (.ref 0), some (.int x14), some (.int (x3 + 1)), some (.int x15)]) k106_78 rfl (by decide) rfl ?_
          refine o_goto k106_81 ?_
          have h9 := Option.some.inj h
          subst h9
          exact hK (some (.inl x15))
      · rw [if_neg hc7] at h
        refine o_bipush (v := (-4)) k106_33 (by decide) ?_
        have h9 := Option.some.inj h
        subst h9
        have hK2 : (-4) = t := hK
        subst hK2
        exact o_iret pj_106 k106_35 rfl nr_i
  · rcases Os16 with u | ⟨x17, x18⟩
    · exact Option.some.inj h
    · show ∀ (d19 : Option (Int32 ⊕ Int64)), oo LN xs 0 0 106 84 [some (.ref 0), some (.int x17), some (.int x18), (d19.map dv)] [] M (some (.int t), M)
      rw [el_r] at h
      dsimp only at h
      intro d19
      refine o_iload_n k106_84 rfl ?_
      have h9 := Option.some.inj h
      subst h9
      exact o_iret pj_106 k106_85 rfl nr_i
def f_X8_mask_43 (M : am_M) : Int32 := (((1 : Int32) <<< ((M 44 (2 : Int32).toNatClampNeg) &&& 31)) - 1)
set_option maxRecDepth 20000 in
theorem t_X8_mask_43 {LN : Nat} {xs : Nat → Int32} {M : am_M} {t : Int32} (h : f_X8_mask_43 M = t) : oo LN xs 0 0 186 0 [some (.ref 43)] [] M (some (.int t), M) := by
  unfold f_X8_mask_43 at h
  refine o_iconst (v := 1) k186_0 (by decide) ?_
  refine o_aload_n k186_1 rfl ?_
  refine o_gf k186_2 (gf_43_0 _) ?_
  refine o_iconst (v := 2) k186_5 (by decide) ?_
  refine o_iald k186_6 rfl ia_44 (by decide) ?_
  refine o_ishl k186_7 ?_
  refine o_iconst (v := 1) k186_8 (by decide) ?_
  refine o_isub k186_9 ?_
  subst h
  exact o_iret pj_186 k186_10 rfl nr_i
def f_X8_shifted_43 (a0 : Int32) (M : am_M) : Int32 := (bl (if (M 44 (2 : Int32).toNatClampNeg) ≤ 0 then 0 else (if (f_X8_has a0 ((M 44 (2 : Int32).toNatClampNeg) - 1)) = 0 then 0 else 1)) (fun (v5 : Int32) => (bl (if v5 = 0 then 0 else (M 44 (6 : Int32).toNatClampNeg)) (fun (v8 : Int32) => (((a0 <<< ((1 : Int32) &&& 31)) ^^^ v8) &&& (f_X8_mask_43 M))))))
set_option maxRecDepth 20000 in
theorem t_X8_shifted_43 {LN : Nat} {xs : Nat → Int32} {a0 : Int32} {M : am_M} {t : Int32} (h : f_X8_shifted_43 a0 M = t) : oo LN xs 0 0 187 0 [some (.ref 43), some (.int a0), none] [] M (some (.int t), M) := by
  unfold f_X8_shifted_43 at h
  refine o_aload_n k187_0 rfl ?_
  refine o_gf k187_1 (gf_43_0 _) ?_
  refine o_iconst (v := 2) k187_4 (by decide) ?_
  refine o_iald k187_5 rfl ia_44 (by decide) ?_
  refine bl_i h (fun v5 ev5 h => ?_)
  have hJ29 : ∀ (yv5 : Int32), yv5 = v5 → oo LN xs 0 0 187 29 [some (.ref 43), some (.int a0), none] [.int yv5] M (some (.int t), M) := by
    intro yv5 hyv5
    rw [hyv5]
    refine o_istore_n (v := v5) (L' := [some (.ref 43), some (.int a0), some (.int v5)]) k187_29 rfl rfl ?_
    refine o_iload_n k187_30 rfl ?_
    refine o_iconst (v := 1) k187_31 (by decide) ?_
    refine o_ishl k187_32 ?_
    refine o_iload_n k187_33 rfl ?_
    refine bl_i h (fun v8 ev8 h => ?_)
    have hJ48 : ∀ (yv8 : Int32), yv8 = v8 → oo LN xs 0 0 187 48 [some (.ref 43), some (.int a0), some (.int v5)] [.int yv8, .int (a0 <<< ((1 : Int32) &&& 31))] M (some (.int t), M) := by
      intro yv8 hyv8
      rw [hyv8]
      refine o_ixor k187_48 ?_
      refine o_aload_n k187_49 rfl ?_
      refine o_call k187_50 pj_186 (fun _ => rfl) (by decide) rfl (as := [.ref 43]) (rest := [.int ((a0 <<< ((1 : Int32) &&& 31)) ^^^ v8)]) rfl (L0 := [some (.ref 43)]) rfl (t_X8_mask_43 (M := M) rfl) ?_
      refine o_iand k187_53 ?_
      subst h
      exact o_iret pj_187 k187_54 rfl nr_i
    refine o_if_eq k187_34 (fun hc6 => ?_) (fun hc6 => ?_)
    · skip
      refine o_iconst (v := 0) k187_47 (by decide) ?_
      exact hJ48 _ (by simp only [ev8, if_pos hc6])
    · skip
      refine o_aload_n k187_37 rfl ?_
      refine o_gf k187_38 (gf_43_0 _) ?_
      refine o_bipush (v := 6) k187_41 (by decide) ?_
      refine o_iald k187_43 rfl ia_44 (by decide) ?_
      refine o_goto k187_44 ?_
      exact hJ48 _ (by simp only [ev8, if_neg hc6])
  refine o_if_le k187_6 (fun hc2 => ?_) (fun hc2 => ?_)
  · skip
    refine o_iconst (v := 0) k187_28 (by decide) ?_
    exact hJ29 _ (by simp only [ev5, if_pos hc2])
  · skip
    refine o_iload_n k187_9 rfl ?_
    refine o_aload_n k187_10 rfl ?_
    refine o_gf k187_11 (gf_43_0 _) ?_
    refine o_iconst (v := 2) k187_14 (by decide) ?_
    refine o_iald k187_15 rfl ia_44 (by decide) ?_
    refine o_iconst (v := 1) k187_16 (by decide) ?_
    refine o_isub k187_17 ?_
    refine o_call k187_18 pj_127 (fun _ => rfl) (by decide) rfl (as := [.int a0, .int ((M 44 (2 : Int32).toNatClampNeg) - 1)]) (rest := []) rfl (L0 := [some (.int a0), some (.int ((M 44 (2 : Int32).toNatClampNeg) - 1))]) rfl (t_X8_has (M := M) (a0 := a0) (a1 := ((M 44 (2 : Int32).toNatClampNeg) - 1)) rfl) ?_
    refine o_if_eq k187_21 (fun hc4 => ?_) (fun hc4 => ?_)
    · skip
      refine o_iconst (v := 0) k187_28 (by decide) ?_
      exact hJ29 _ (by simp only [ev5, if_neg hc2, if_pos hc4])
    · skip
      refine o_iconst (v := 1) k187_24 (by decide) ?_
      refine o_goto k187_25 ?_
      exact hJ29 _ (by simp only [ev5, if_neg hc2, if_neg hc4])
def f_X8_signature_43 (M : am_M) : Option Int32 := ((lp (σ := Int32 × Int32) (ρ := (Int32) ⊕ (Int32 × Int32)) (fun (s1 : Int32 × Int32) => match s1 with | (x2, x3) => (if (M 44 (1 : Int32).toNatClampNeg) ≤ x3 then (some (.inr (.inr (x2, x3)))) else ((lp (σ := Int32 × Int32) (ρ := (Int32) ⊕ (Int32 × Int32)) (fun (s8 : Int32 × Int32) => match s8 with | (x9, x10) => (if (M 44 (2 : Int32).toNatClampNeg) ≤ x10 then (some (.inr (.inr (x9, x10)))) else ((f_X8_seenAt_43 x3 x10 M).bind (fun v14 => (if v14 = 2 then (some (.inr (.inl (-4)))) else (some (.inl ((x9 ^^^ (v14 <<< (x10 &&& 31))), (x10 + 1))))))))) lp_F ((f_X8_shifted_43 x2 M), 0)).bind (fun os16 => Sum.elim (fun u => (some (.inr (.inl u)))) (fun (s16 : Int32 × Int32) => match s16 with | (x17, x18) => (some (.inl (x17, (x3 + 1))))) os16)))) lp_F (0, 0)).bind (fun os20 => Sum.elim (fun u => (some u)) (fun (s20 : Int32 × Int32) => match s20 with | (x21, x22) => (some x21)) os20))
set_option maxRecDepth 20000 in
theorem t_X8_signature_43 {LN : Nat} {xs : Nat → Int32} {M : am_M} {t : Int32} (h : f_X8_signature_43 M = some t) : oo LN xs 0 0 188 0 [some (.ref 43), none, none, none, none] [] M (some (.int t), M) := by
  unfold f_X8_signature_43 at h
  refine o_iconst (v := 0) k188_0 (by decide) ?_
  refine o_istore_n (v := 0) (L' := [some (.ref 43), some (.int 0), none, none, none]) k188_1 rfl rfl ?_
  refine o_iconst (v := 0) k188_2 (by decide) ?_
  refine o_istore_n (v := 0) (L' := [some (.ref 43), some (.int 0), some (.int 0), none, none]) k188_3 rfl rfl ?_
  refine bd_i h (fun Os20 hOs20 h => ?_)
  refine lp_o (fun (s1 : Int32 × Int32) => match s1 with | (x2, x3) => ∀ (d4 d5 : Option (Int32 ⊕ Int64)), oo LN xs 0 0 188 4 [some (.ref 43), some (.int x2), some (.int x3), (d4.map dv), (d5.map dv)] [] M (some (.int t), M)) (fun oq => Sum.elim (fun u => u = t) (fun (s20 : Int32 × Int32) => match s20 with | (x21, x22) => ∀ (d23 d24 : Option (Int32 ⊕ Int64)), oo LN xs 0 0 188 68 [some (.ref 43), some (.int x21), some (.int x22), (d23.map dv), (d24.map dv)] [] M (some (.int t), M)) oq) ?_ hOs20 ?_ none none
  · rintro ⟨x2, x3⟩ ws1 h hK
    dsimp only at h
    show ∀ (d4 d5 : Option (Int32 ⊕ Int64)), oo LN xs 0 0 188 4 [some (.ref 43), some (.int x2), some (.int x3), (d4.map dv), (d5.map dv)] [] M (some (.int t), M)
    intro d4 d5
    refine o_iload_n k188_4 rfl ?_
    refine o_aload_n k188_5 rfl ?_
    refine o_gf k188_6 (gf_43_0 _) ?_
    refine o_iconst (v := 1) k188_9 (by decide) ?_
    refine o_iald k188_10 rfl ia_44 (by decide) ?_
    refine o_icmp_ge k188_11 (fun hc7 => ?_) (fun hc7 => ?_)
    · rw [if_pos hc7] at h
      have h9 := Option.some.inj h
      subst h9
      exact hK d4 d5
    · rw [if_neg hc7] at h
      refine o_aload_n k188_14 rfl ?_
      refine o_iload_n k188_15 rfl ?_
      refine o_call k188_16 pj_187 (fun _ => rfl) (by decide) (by rcases d4 with _ | (x | x) <;> rcases d5 with _ | (x | x) <;> rfl) (as := [.ref 43, .int x2]) (rest := []) rfl (L0 := [some (.ref 43), some (.int x2), none]) rfl (t_X8_shifted_43 (M := M) (a0 := x2) rfl) ?_
      refine o_istore_n (v := (f_X8_shifted_43 x2 M)) (L' := [some (.ref 43), some (.int (f_X8_shifted_43 x2 M)), some (.int x3), (d4.map dv), (d5.map dv)]) k188_19 rfl rfl ?_
      refine o_iconst (v := 0) k188_20 (by decide) ?_
      refine o_istore_n (v := 0) (L' := [some (.ref 43), some (.int (f_X8_shifted_43 x2 M)), some (.int x3), some (.int 0), (d5.map dv)]) k188_21 rfl rfl ?_
      refine bd_i h (fun Os16 hOs16 h => ?_)
      refine lp_o (fun (s8 : Int32 × Int32) => match s8 with | (x9, x10) => ∀ (d11 : Option (Int32 ⊕ Int64)), oo LN xs 0 0 188 22 [some (.ref 43), some (.int x9), some (.int x3), some (.int x10), (d11.map dv)] [] M (some (.int t), M)) (fun oq => Sum.elim (fun u => u = t) (fun (s16 : Int32 × Int32) => match s16 with | (x17, x18) => ∀ (d19 : Option (Int32 ⊕ Int64)), oo LN xs 0 0 188 62 [some (.ref 43), some (.int x17), some (.int x3), some (.int x18), (d19.map dv)] [] M (some (.int t), M)) oq) ?_ hOs16 ?_ d5
      · rintro ⟨x9, x10⟩ ws8 h hK
        dsimp only at h
        show ∀ (d11 : Option (Int32 ⊕ Int64)), oo LN xs 0 0 188 22 [some (.ref 43), some (.int x9), some (.int x3), some (.int x10), (d11.map dv)] [] M (some (.int t), M)
        intro d11
        refine o_iload_n k188_22 rfl ?_
        refine o_aload_n k188_23 rfl ?_
        refine o_gf k188_24 (gf_43_0 _) ?_
        refine o_iconst (v := 2) k188_27 (by decide) ?_
        refine o_iald k188_28 rfl ia_44 (by decide) ?_
        refine o_icmp_ge k188_29 (fun hc13 => ?_) (fun hc13 => ?_)
        · rw [if_pos hc13] at h
          have h9 := Option.some.inj h
          subst h9
          exact hK d11
        · rw [if_neg hc13] at h
          refine o_aload_n k188_32 rfl ?_
          refine o_iload_n k188_33 rfl ?_
          refine o_iload_n k188_34 rfl ?_
          refine bd_i h (fun v14 hv14 h => ?_)
          refine o_call k188_35 pj_155 (fun _ => rfl) (by decide) (by rcases d11 with _ | (x | x) <;> rfl) (as := [.ref 43, .int x3, .int x10]) (rest := []) rfl (L0 := [some (.ref 43), some (.int x3), some (.int x10), none, none]) rfl (t_X8_seenAt_43 hv14) ?_
          refine o_istore (v := v14) (L' := [some (.ref 43), some (.int x9), some (.int x3), some (.int x10), some (.int v14)]) k188_38 rfl rfl ?_
          refine o_iload k188_40 rfl ?_
          refine o_iconst (v := 2) k188_42 (by decide) ?_
          refine o_icmp_ne k188_43 (fun hc15 => ?_) (fun hc15 => ?_)
          · rw [if_neg hc15] at h
            refine o_iload_n k188_49 rfl ?_
            refine o_iload k188_50 rfl ?_
            refine o_iload_n k188_52 rfl ?_
            refine o_ishl k188_53 ?_
            refine o_ixor k188_54 ?_
            refine o_istore_n (v := (x9 ^^^ (v14 <<< (x10 &&& 31)))) (L' := [some (.ref 43), some (.int (x9 ^^^ (v14 <<< (x10 &&& 31)))), some (.int x3), some (.int x10), some (.int v14)]) k188_55 rfl rfl ?_
            refine o_iinc (k := 1) (L' := [some (.ref 43), some (.int (x9 ^^^ (v14 <<< (x10 &&& 31)))), some (.int x3), some (.int (x10 + 1)), some (.int v14)]) k188_56 rfl (by decide) rfl ?_
            refine o_goto k188_59 ?_
            have h9 := Option.some.inj h
            subst h9
            exact hK (some (.inl v14))
          · rw [if_pos hc15] at h
            refine o_bipush (v := (-4)) k188_46 (by decide) ?_
            have h9 := Option.some.inj h
            subst h9
            have hK2 : (-4) = t := hK
            subst hK2
            exact o_iret pj_188 k188_48 rfl nr_i
      · rcases Os16 with u | ⟨x17, x18⟩
        · have h9 := Option.some.inj h; subst h9; exact hK
        · show ∀ (d19 : Option (Int32 ⊕ Int64)), oo LN xs 0 0 188 62 [some (.ref 43), some (.int x17), some (.int x3), some (.int x18), (d19.map dv)] [] M (some (.int t), M)
          rw [el_r] at h
          dsimp only at h
          intro d19
          refine o_iinc (k := 1) (L' := [some (.ref 43), some (.int x17), some (.int (x3 + 1)), some (.int x18), (d19.map dv)]) k188_62 rfl (by decide) rfl ?_
          refine o_goto k188_65 ?_
          have h9 := Option.some.inj h
          subst h9
          exact hK (some (.inl x18)) d19
  · rcases Os20 with u | ⟨x21, x22⟩
    · exact Option.some.inj h
    · show ∀ (d23 d24 : Option (Int32 ⊕ Int64)), oo LN xs 0 0 188 68 [some (.ref 43), some (.int x21), some (.int x22), (d23.map dv), (d24.map dv)] [] M (some (.int t), M)
      rw [el_r] at h
      dsimp only at h
      intro d23 d24
      refine o_iload_n k188_68 rfl ?_
      have h9 := Option.some.inj h
      subst h9
      exact o_iret pj_188 k188_69 rfl nr_i
def f_X4_gatherChain_30_9 (a0 : Int32) (M : am_M) : Option am_M := (if am_dbin a0 8 = true then ((lp (σ := Int32 × Int32 × am_M) (ρ := Int32 × Int32 × am_M) (fun (s2 : Int32 × Int32 × am_M) => match s2 with | (x3, x4, M5) => (if x4 < 0 then (some (.inr (x3, x4, M5))) else (if am_dbin (M5 30 2) 64 = true then (bl (am_up M5 31 (M5 30 2).toNatClampNeg x3) (fun (M8 : am_M) => (bl (am_up M8 30 2 ((M8 30 2) + 1)) (fun (M9 : am_M) => (some (.inl ((f_X4_moved_9 x3 M9), (x4 + (-1)), M9))))))) else none))) lp_F ((M 12 a0.toNatClampNeg), ((M 9 1) - 1), M)).bind (fun (s10 : Int32 × Int32 × am_M) => match s10 with | (x11, x12, M13) => (some M13))) else none)
set_option maxRecDepth 20000 in
theorem t_X4_gatherChain_30_9 {LN : Nat} {xs : Nat → Int32} {a0 : Int32} {M : am_M} {t : am_M} (h : f_X4_gatherChain_30_9 a0 M = some t) : oo LN xs 0 0 52 0 [some (.ref 30), some (.ref 9), some (.int a0), none, none] [] M (none, t) := by
  unfold f_X4_gatherChain_30_9 at h
  refine o_aload_n k52_0 rfl ?_
  refine o_gf k52_1 (gf_9_9 _) ?_
  refine o_iload_n k52_4 rfl ?_
  obtain ⟨hc1, h⟩ := ck_i h
  refine o_iald k52_5 rfl ia_12 hc1 ?_
  refine o_istore_n (v := (M 12 a0.toNatClampNeg)) (L' := [some (.ref 30), some (.ref 9), some (.int a0), some (.int (M 12 a0.toNatClampNeg)), none]) k52_6 rfl rfl ?_
  refine o_aload_n k52_7 rfl ?_
  refine o_gf k52_8 (gf_9_1 _) ?_
  refine o_iconst (v := 1) k52_11 (by decide) ?_
  refine o_isub k52_12 ?_
  refine o_istore (v := ((M 9 1) - 1)) (L' := [some (.ref 30), some (.ref 9), some (.int a0), some (.int (M 12 a0.toNatClampNeg)), some (.int ((M 9 1) - 1))]) k52_13 rfl rfl ?_
  refine bd_i h (fun s10 hs10 h => ?_)
  refine lp_o (fun (s2 : Int32 × Int32 × am_M) => match s2 with | (x3, x4, M5) => oo LN xs 0 0 52 15 [some (.ref 30), some (.ref 9), some (.int a0), some (.int x3), some (.int x4)] [] M5 (none, t)) (fun (s10 : Int32 × Int32 × am_M) => match s10 with | (x11, x12, M13) => oo LN xs 0 0 52 52 [some (.ref 30), some (.ref 9), some (.int a0), some (.int x11), some (.int x12)] [] M13 (none, t)) ?_ hs10 ?_
  · rintro ⟨x3, x4, M5⟩ ws2 h hK
    dsimp only at h
    show oo LN xs 0 0 52 15 [some (.ref 30), some (.ref 9), some (.int a0), some (.int x3), some (.int x4)] [] M5 (none, t)
    refine o_iload k52_15 rfl ?_
    refine o_if_lt k52_17 (fun hc6 => ?_) (fun hc6 => ?_)
    · rw [if_pos hc6] at h
      have h9 := Option.some.inj h
      subst h9
      exact hK
    · rw [if_neg hc6] at h
      refine o_aload_n k52_20 rfl ?_
      refine o_gf k52_21 (gf_30_0 _) ?_
      refine o_aload_n k52_24 rfl ?_
      refine o_gf k52_25 (gf_30_2 _) ?_
      refine o_iload_n k52_28 rfl ?_
      obtain ⟨hc7, h⟩ := ck_i h
      refine bl_i h (fun M8 eM8 h => ?_)
      refine o_iast (M' := M8) k52_29 eM8 ia_31 hc7 ?_
      refine o_aload_n k52_30 rfl ?_
      refine o_dupr k52_31 ?_
      refine o_gf k52_32 (gf_30_2 _) ?_
      refine o_iconst (v := 1) k52_35 (by decide) ?_
      refine o_iadd k52_36 ?_
      refine bl_i h (fun M9 eM9 h => ?_)
      refine o_pf (M' := M9) k52_37 (pf_30_2 eM9) ?_
      refine o_aload_n k52_40 rfl ?_
      refine o_iload_n k52_41 rfl ?_
      refine o_call k52_42 pj_50 (fun _ => rfl) (by decide) rfl (as := [.ref 9, .int x3]) (rest := []) rfl (L0 := [some (.ref 9), some (.int x3), none]) rfl (t_X4_moved_9 (M := M9) (a0 := x3) rfl) ?_
      refine o_istore_n (v := (f_X4_moved_9 x3 M9)) (L' := [some (.ref 30), some (.ref 9), some (.int a0), some (.int (f_X4_moved_9 x3 M9)), some (.int x4)]) k52_45 rfl rfl ?_
      refine o_iinc (k := (-1)) (L' := [some (.ref 30), some (.ref 9), some (.int a0), some (.int (f_X4_moved_9 x3 M9)), some (.int (x4 + (-1)))]) k52_46 rfl (by decide) rfl ?_
      refine o_goto k52_49 ?_
      have h9 := Option.some.inj h
      subst h9
      exact hK
  · obtain ⟨x11, x12, M13⟩ := s10
    show oo LN xs 0 0 52 52 [some (.ref 30), some (.ref 9), some (.int a0), some (.int x11), some (.int x12)] [] M13 (none, t)
    dsimp only at h
    have h9 := Option.some.inj h
    subst h9
    exact o_vret pj_52 k52_52 rfl
def f_X4_gather_30_9 (M : am_M) : Option am_M := (bl (am_up M 30 2 0) (fun (M1 : am_M) => ((lp (σ := Int32 × am_M) (ρ := Int32 × am_M) (fun (s2 : Int32 × am_M) => match s2 with | (x3, M4) => (if (M4 9 0) ≤ x3 then (some (.inr (x3, M4))) else (if (f_X0_isIn x3 (M4 9 3)) = 0 then ((f_X4_gatherChain_30_9 x3 M4).bind (fun q7 => (some (.inl ((x3 + 1), q7))))) else (some (.inl ((x3 + 1), M4)))))) lp_F (0, M1)).bind (fun (s8 : Int32 × am_M) => match s8 with | (x9, M10) => (some M10)))))
set_option maxRecDepth 20000 in
theorem t_X4_gather_30_9 {LN : Nat} {xs : Nat → Int32} {M : am_M} {t : am_M} (h : f_X4_gather_30_9 M = some t) : oo LN xs 0 0 51 0 [some (.ref 30), some (.ref 9), none] [] M (none, t) := by
  unfold f_X4_gather_30_9 at h
  refine o_aload_n k51_0 rfl ?_
  refine o_iconst (v := 0) k51_1 (by decide) ?_
  refine bl_i h (fun M1 eM1 h => ?_)
  refine o_pf (M' := M1) k51_2 (pf_30_2 eM1) ?_
  refine o_iconst (v := 0) k51_5 (by decide) ?_
  refine o_istore_n (v := 0) (L' := [some (.ref 30), some (.ref 9), some (.int 0)]) k51_6 rfl rfl ?_
  refine bd_i h (fun s8 hs8 h => ?_)
  refine lp_o (fun (s2 : Int32 × am_M) => match s2 with | (x3, M4) => oo LN xs 0 0 51 7 [some (.ref 30), some (.ref 9), some (.int x3)] [] M4 (none, t)) (fun (s8 : Int32 × am_M) => match s8 with | (x9, M10) => oo LN xs 0 0 51 38 [some (.ref 30), some (.ref 9), some (.int x9)] [] M10 (none, t)) ?_ hs8 ?_
  · rintro ⟨x3, M4⟩ ws2 h hK
    dsimp only at h
    show oo LN xs 0 0 51 7 [some (.ref 30), some (.ref 9), some (.int x3)] [] M4 (none, t)
    refine o_iload_n k51_7 rfl ?_
    refine o_aload_n k51_8 rfl ?_
    refine o_gf k51_9 (gf_9_0 _) ?_
    refine o_icmp_ge k51_12 (fun hc5 => ?_) (fun hc5 => ?_)
    · rw [if_pos hc5] at h
      have h9 := Option.some.inj h
      subst h9
      exact hK
    · rw [if_neg hc5] at h
      refine o_iload_n k51_15 rfl ?_
      refine o_aload_n k51_16 rfl ?_
      refine o_gf k51_17 (gf_9_3 _) ?_
      refine o_call k51_20 pj_6 (fun _ => rfl) (by decide) rfl (as := [.int x3, .int (M4 9 3)]) (rest := []) rfl (L0 := [some (.int x3), some (.int (M4 9 3))]) rfl (t_X0_isIn (M := M4) (a0 := x3) (a1 := (M4 9 3)) rfl) ?_
      refine o_if_ne k51_23 (fun hc6 => ?_) (fun hc6 => ?_)
      · rw [if_neg hc6] at h
        refine o_iinc (k := 1) (L' := [some (.ref 30), some (.ref 9), some (.int (x3 + 1))]) k51_32 rfl (by decide) rfl ?_
        refine o_goto k51_35 ?_
        have h9 := Option.some.inj h
        subst h9
        exact hK
      · rw [if_pos hc6] at h
        refine o_aload_n k51_26 rfl ?_
        refine o_aload_n k51_27 rfl ?_
        refine o_iload_n k51_28 rfl ?_
        refine bd_i h (fun q7 hq7 h => ?_)
        refine o_call k51_29 pj_52 (fun _ => rfl) (by decide) rfl (as := [.ref 30, .ref 9, .int x3]) (rest := []) rfl (L0 := [some (.ref 30), some (.ref 9), some (.int x3), none, none]) rfl (t_X4_gatherChain_30_9 hq7) ?_
        refine o_iinc (k := 1) (L' := [some (.ref 30), some (.ref 9), some (.int (x3 + 1))]) k51_32 rfl (by decide) rfl ?_
        refine o_goto k51_35 ?_
        have h9 := Option.some.inj h
        subst h9
        exact hK
  · obtain ⟨x9, M10⟩ := s8
    show oo LN xs 0 0 51 38 [some (.ref 30), some (.ref 9), some (.int x9)] [] M10 (none, t)
    dsimp only at h
    have h9 := Option.some.inj h
    subst h9
    exact o_vret pj_51 k51_38 rfl
def f_J7_fill_53178_33 (a0 : Int32) (M : am_M) : Option am_M := ((lp (σ := Int32 × am_M) (ρ := Int32 × am_M) (fun (s1 : Int32 × am_M) => match s1 with | (x2, M3) => (if 12 ≤ x2 then (some (.inr (x2, M3))) else (if am_dbin x2 12 = true then (bl (am_up M3 33 x2.toNatClampNeg a0) (fun (M6 : am_M) => (some (.inl ((x2 + 1), M6))))) else none))) lp_F (0, M)).bind (fun (s7 : Int32 × am_M) => match s7 with | (x8, M9) => (some M9)))
set_option maxRecDepth 20000 in
theorem t_J7_fill_53178_33 {LN : Nat} {xs : Nat → Int32} {a0 : Int32} {M : am_M} {t : am_M} (h : f_J7_fill_53178_33 a0 M = some t) : oo LN xs 0 0 219 0 [some (.ref 33), some (.int a0), none, none] [] M (none, t) := by
  unfold f_J7_fill_53178_33 at h
  refine o_iconst (v := 0) k219_0 (by decide) ?_
  refine o_istore_n (v := 0) (L' := [some (.ref 33), some (.int a0), some (.int 0), none]) k219_1 rfl rfl ?_
  refine o_aload_n k219_2 rfl ?_
  refine o_alen (v := 12) k219_3 rfl (by decide) ?_
  refine o_istore_n (v := 12) (L' := [some (.ref 33), some (.int a0), some (.int 0), some (.int 12)]) k219_4 rfl rfl ?_
  refine bd_i h (fun s7 hs7 h => ?_)
  refine lp_o (fun (s1 : Int32 × am_M) => match s1 with | (x2, M3) => oo LN xs 0 0 219 5 [some (.ref 33), some (.int a0), some (.int x2), some (.int 12)] [] M3 (none, t)) (fun (s7 : Int32 × am_M) => match s7 with | (x8, M9) => oo LN xs 0 0 219 20 [some (.ref 33), some (.int a0), some (.int x8), some (.int 12)] [] M9 (none, t)) ?_ hs7 ?_
  · rintro ⟨x2, M3⟩ ws1 h hK
    dsimp only at h
    show oo LN xs 0 0 219 5 [some (.ref 33), some (.int a0), some (.int x2), some (.int 12)] [] M3 (none, t)
    refine o_iload_n k219_5 rfl ?_
    refine o_iload_n k219_6 rfl ?_
    refine o_icmp_ge k219_7 (fun hc4 => ?_) (fun hc4 => ?_)
    · rw [if_pos hc4] at h
      have h9 := Option.some.inj h
      subst h9
      exact hK
    · rw [if_neg hc4] at h
      refine o_aload_n k219_10 rfl ?_
      refine o_iload_n k219_11 rfl ?_
      refine o_iload_n k219_12 rfl ?_
      obtain ⟨hc5, h⟩ := ck_i h
      refine bl_i h (fun M6 eM6 h => ?_)
      refine o_iast (M' := M6) k219_13 eM6 ia_33 hc5 ?_
      refine o_iinc (k := 1) (L' := [some (.ref 33), some (.int a0), some (.int (x2 + 1)), some (.int 12)]) k219_14 rfl (by decide) rfl ?_
      refine o_goto k219_17 ?_
      have h9 := Option.some.inj h
      subst h9
      exact hK
  · obtain ⟨x8, M9⟩ := s7
    show oo LN xs 0 0 219 20 [some (.ref 33), some (.int a0), some (.int x8), some (.int 12)] [] M9 (none, t)
    dsimp only at h
    have h9 := Option.some.inj h
    subst h9
    exact o_vret pj_219 k219_20 rfl
def f_X1_begin_32 (M : am_M) : Option am_M := ((f_J7_fill_53178_33 0 M).bind (fun q1 => (bl (am_up q1 32 1 0) (fun (M2 : am_M) => (bl (am_up M2 32 2 0) (fun (M3 : am_M) => (some M3)))))))
set_option maxRecDepth 20000 in
theorem t_X1_begin_32 {LN : Nat} {xs : Nat → Int32} {M : am_M} {t : am_M} (h : f_X1_begin_32 M = some t) : oo LN xs 0 0 35 0 [some (.ref 32)] [] M (none, t) := by
  unfold f_X1_begin_32 at h
  refine o_aload_n k35_0 rfl ?_
  refine o_gf k35_1 (gf_32_0 _) ?_
  refine o_iconst (v := 0) k35_4 (by decide) ?_
  refine bd_i h (fun q1 hq1 h => ?_)
  refine o_call k35_5 pj_219 (fun _ => rfl) (by decide) rfl (as := [.ref 33, .int 0]) (rest := []) rfl (L0 := [some (.ref 33), some (.int 0), none, none]) rfl (t_J7_fill_53178_33 hq1) ?_
  refine o_aload_n k35_8 rfl ?_
  refine o_iconst (v := 0) k35_9 (by decide) ?_
  refine bl_i h (fun M2 eM2 h => ?_)
  refine o_pf (M' := M2) k35_10 (pf_32_1 eM2) ?_
  refine o_aload_n k35_13 rfl ?_
  refine o_iconst (v := 0) k35_14 (by decide) ?_
  refine bl_i h (fun M3 eM3 h => ?_)
  refine o_pf (M' := M3) k35_15 (pf_32_2 (by decide) eM3) ?_
  have h9 := Option.some.inj h
  subst h9
  exact o_vret pj_35 k35_18 rfl
def f_X1_add_32 (a0 : Int32) (M : am_M) : Option am_M := ((lp (σ := Int32 × Int32) (ρ := (am_M) ⊕ (Int32 × Int32)) (fun (s1 : Int32 × Int32) => match s1 with | (x2, x3) => (if 12 ≤ x3 then (some (.inr (.inr (x2, x3)))) else (if ((x2 >>> (x3 &&& 31)) &&& 1) = 1 then (if am_dbin x3 12 = true then (if (M 33 x3.toNatClampNeg) = 0 then (if am_dbin x3 12 = true then (bl (am_up M 33 x3.toNatClampNeg x2) (fun (M10 : am_M) => (bl (am_up M10 32 1 ((M10 32 1) + 1)) (fun (M11 : am_M) => (some (.inr (.inl M11))))))) else none) else (if am_dbin x3 12 = true then (some (.inl ((x2 ^^^ (M 33 x3.toNatClampNeg)), (x3 + 1)))) else none)) else none) else (some (.inl (x2, (x3 + 1))))))) lp_F (a0, 0)).bind (fun os12 => Sum.elim (fun u => (some u)) (fun (s12 : Int32 × Int32) => match s12 with | (x13, x14) => (if x13 = 0 then (some M) else (bl (am_up M 32 2 1) (fun (M16 : am_M) => (some M16))))) os12))
set_option maxRecDepth 20000 in
theorem t_X1_add_32 {LN : Nat} {xs : Nat → Int32} {a0 : Int32} {M : am_M} {t : am_M} (h : f_X1_add_32 a0 M = some t) : oo LN xs 0 0 36 0 [some (.ref 32), some (.int a0), none, none] [] M (none, t) := by
  unfold f_X1_add_32 at h
  refine o_iload_n k36_0 rfl ?_
  refine o_istore_n (v := a0) (L' := [some (.ref 32), some (.int a0), some (.int a0), none]) k36_1 rfl rfl ?_
  refine o_iconst (v := 0) k36_2 (by decide) ?_
  refine o_istore_n (v := 0) (L' := [some (.ref 32), some (.int a0), some (.int a0), some (.int 0)]) k36_3 rfl rfl ?_
  refine bd_i h (fun Os12 hOs12 h => ?_)
  refine lp_o (fun (s1 : Int32 × Int32) => match s1 with | (x2, x3) => oo LN xs 0 0 36 4 [some (.ref 32), some (.int a0), some (.int x2), some (.int x3)] [] M (none, t)) (fun oq => Sum.elim (fun u => u = t) (fun (s12 : Int32 × Int32) => match s12 with | (x13, x14) => oo LN xs 0 0 36 61 [some (.ref 32), some (.int a0), some (.int x13), some (.int x14)] [] M (none, t)) oq) ?_ hOs12 ?_
  · rintro ⟨x2, x3⟩ ws1 h hK
    dsimp only at h
    show oo LN xs 0 0 36 4 [some (.ref 32), some (.int a0), some (.int x2), some (.int x3)] [] M (none, t)
    refine o_iload_n k36_4 rfl ?_
    refine o_bipush (v := 12) k36_5 (by decide) ?_
    refine o_icmp_ge k36_7 (fun hc4 => ?_) (fun hc4 => ?_)
    · rw [if_pos hc4] at h
      have h9 := Option.some.inj h
      subst h9
      exact hK
    · rw [if_neg hc4] at h
      refine o_iload_n k36_10 rfl ?_
      refine o_iload_n k36_11 rfl ?_
      refine o_ishr k36_12 ?_
      refine o_iconst (v := 1) k36_13 (by decide) ?_
      refine o_iand k36_14 ?_
      refine o_iconst (v := 1) k36_15 (by decide) ?_
      refine o_icmp_ne k36_16 (fun hc5 => ?_) (fun hc5 => ?_)
      · rw [if_neg hc5] at h
        refine o_iinc (k := 1) (L' := [some (.ref 32), some (.int a0), some (.int x2), some (.int (x3 + 1))]) k36_55 rfl (by decide) rfl ?_
        refine o_goto k36_58 ?_
        have h9 := Option.some.inj h
        subst h9
        exact hK
      · rw [if_pos hc5] at h
        refine o_aload_n k36_19 rfl ?_
        refine o_gf k36_20 (gf_32_0 _) ?_
        refine o_iload_n k36_23 rfl ?_
        obtain ⟨hc6, h⟩ := ck_i h
        refine o_iald k36_24 rfl ia_33 hc6 ?_
        refine o_if_ne k36_25 (fun hc7 => ?_) (fun hc7 => ?_)
        · rw [if_neg hc7] at h
          refine o_iload_n k36_46 rfl ?_
          refine o_aload_n k36_47 rfl ?_
          refine o_gf k36_48 (gf_32_0 _) ?_
          refine o_iload_n k36_51 rfl ?_
          obtain ⟨hc8, h⟩ := ck_i h
          refine o_iald k36_52 rfl ia_33 hc8 ?_
          refine o_ixor k36_53 ?_
          refine o_istore_n (v := (x2 ^^^ (M 33 x3.toNatClampNeg))) (L' := [some (.ref 32), some (.int a0), some (.int (x2 ^^^ (M 33 x3.toNatClampNeg))), some (.int x3)]) k36_54 rfl rfl ?_
          refine o_iinc (k := 1) (L' := [some (.ref 32), some (.int a0), some (.int (x2 ^^^ (M 33 x3.toNatClampNeg))), some (.int (x3 + 1))]) k36_55 rfl (by decide) rfl ?_
          refine o_goto k36_58 ?_
          have h9 := Option.some.inj h
          subst h9
          exact hK
        · rw [if_pos hc7] at h
          refine o_aload_n k36_28 rfl ?_
          refine o_gf k36_29 (gf_32_0 _) ?_
          refine o_iload_n k36_32 rfl ?_
          refine o_iload_n k36_33 rfl ?_
          obtain ⟨hc9, h⟩ := ck_i h
          refine bl_i h (fun M10 eM10 h => ?_)
          refine o_iast (M' := M10) k36_34 eM10 ia_33 hc9 ?_
          refine o_aload_n k36_35 rfl ?_
          refine o_dupr k36_36 ?_
          refine o_gf k36_37 (gf_32_1 _) ?_
          refine o_iconst (v := 1) k36_40 (by decide) ?_
          refine o_iadd k36_41 ?_
          refine bl_i h (fun M11 eM11 h => ?_)
          refine o_pf (M' := M11) k36_42 (pf_32_1 eM11) ?_
          have h9 := Option.some.inj h
          subst h9
          have hK2 : M11 = t := hK
          subst hK2
          exact o_vret pj_36 k36_45 rfl
  · rcases Os12 with u | ⟨x13, x14⟩
    · exact Option.some.inj h
    · show oo LN xs 0 0 36 61 [some (.ref 32), some (.int a0), some (.int x13), some (.int x14)] [] M (none, t)
      rw [el_r] at h
      dsimp only at h
      refine o_iload_n k36_61 rfl ?_
      refine o_if_eq k36_62 (fun hc15 => ?_) (fun hc15 => ?_)
      · rw [if_pos hc15] at h
        have h9 := Option.some.inj h
        subst h9
        exact o_vret pj_36 k36_70 rfl
      · rw [if_neg hc15] at h
        refine o_aload_n k36_65 rfl ?_
        refine o_iconst (v := 1) k36_66 (by decide) ?_
        refine bl_i h (fun M16 eM16 h => ?_)
        refine o_pf (M' := M16) k36_67 (pf_32_2 (by decide) eM16) ?_
        have h9 := Option.some.inj h
        subst h9
        exact o_vret pj_36 k36_70 rfl
def f_X4_freedom_30 (M : am_M) : Option (Int32 × am_M) := ((f_X1_begin_32 M).bind (fun q1 => ((lp (σ := Int32 × am_M) (ρ := Int32 × am_M) (fun (s2 : Int32 × am_M) => match s2 with | (x3, M4) => (if (M4 30 2) ≤ x3 then (some (.inr (x3, M4))) else (if am_dbin x3 64 = true then ((f_X1_add_32 (M4 31 x3.toNatClampNeg) M4).bind (fun q7 => (some (.inl ((x3 + 1), q7))))) else none))) lp_F (0, q1)).bind (fun (s8 : Int32 × am_M) => match s8 with | (x9, M10) => (some (((M10 30 2) - (M10 32 1)), M10))))))
set_option maxRecDepth 20000 in
theorem t_X4_freedom_30 {LN : Nat} {xs : Nat → Int32} {M : am_M} {t : Int32 × am_M} (h : f_X4_freedom_30 M = some t) : oo LN xs 0 0 53 0 [some (.ref 30), none] [] M (some (.int t.1), t.2) := by
  unfold f_X4_freedom_30 at h
  refine o_aload_n k53_0 rfl ?_
  refine o_gf k53_1 (gf_30_1 _) ?_
  refine bd_i h (fun q1 hq1 h => ?_)
  refine o_call k53_4 pj_35 (fun _ => rfl) (by decide) rfl (as := [.ref 32]) (rest := []) rfl (L0 := [some (.ref 32)]) rfl (t_X1_begin_32 hq1) ?_
  refine o_iconst (v := 0) k53_7 (by decide) ?_
  refine o_istore_n (v := 0) (L' := [some (.ref 30), some (.int 0)]) k53_8 rfl rfl ?_
  refine bd_i h (fun s8 hs8 h => ?_)
  refine lp_o (fun (s2 : Int32 × am_M) => match s2 with | (x3, M4) => oo LN xs 0 0 53 9 [some (.ref 30), some (.int x3)] [] M4 (some (.int t.1), t.2)) (fun (s8 : Int32 × am_M) => match s8 with | (x9, M10) => oo LN xs 0 0 53 36 [some (.ref 30), some (.int x9)] [] M10 (some (.int t.1), t.2)) ?_ hs8 ?_
  · rintro ⟨x3, M4⟩ ws2 h hK
    dsimp only at h
    show oo LN xs 0 0 53 9 [some (.ref 30), some (.int x3)] [] M4 (some (.int t.1), t.2)
    refine o_iload_n k53_9 rfl ?_
    refine o_aload_n k53_10 rfl ?_
    refine o_gf k53_11 (gf_30_2 _) ?_
    refine o_icmp_ge k53_14 (fun hc5 => ?_) (fun hc5 => ?_)
    · rw [if_pos hc5] at h
      have h9 := Option.some.inj h
      subst h9
      exact hK
    · rw [if_neg hc5] at h
      refine o_aload_n k53_17 rfl ?_
      refine o_gf k53_18 (gf_30_1 _) ?_
      refine o_aload_n k53_21 rfl ?_
      refine o_gf k53_22 (gf_30_0 _) ?_
      refine o_iload_n k53_25 rfl ?_
      obtain ⟨hc6, h⟩ := ck_i h
      refine o_iald k53_26 rfl ia_31 hc6 ?_
      refine bd_i h (fun q7 hq7 h => ?_)
      refine o_call k53_27 pj_36 (fun _ => rfl) (by decide) rfl (as := [.ref 32, .int (M4 31 x3.toNatClampNeg)]) (rest := []) rfl (L0 := [some (.ref 32), some (.int (M4 31 x3.toNatClampNeg)), none, none]) rfl (t_X1_add_32 hq7) ?_
      refine o_iinc (k := 1) (L' := [some (.ref 30), some (.int (x3 + 1))]) k53_30 rfl (by decide) rfl ?_
      refine o_goto k53_33 ?_
      have h9 := Option.some.inj h
      subst h9
      exact hK
  · obtain ⟨x9, M10⟩ := s8
    show oo LN xs 0 0 53 36 [some (.ref 30), some (.int x9)] [] M10 (some (.int t.1), t.2)
    dsimp only at h
    refine o_aload_n k53_36 rfl ?_
    refine o_gf k53_37 (gf_30_2 _) ?_
    refine o_aload_n k53_40 rfl ?_
    refine o_gf k53_41 (gf_30_1 _) ?_
    refine o_gf k53_44 (gf_32_1 _) ?_
    refine o_isub k53_47 ?_
    have h9 := Option.some.inj h
    subst h9
    exact o_iret pj_53 k53_48 rfl nr_i
def f_X4_lonely_30 (M : am_M) : Option Int32 := ((lp (σ := Int32 × Int32) (ρ := Int32 × Int32) (fun (s1 : Int32 × Int32) => match s1 with | (x2, x3) => (if (M 30 2) ≤ x3 then (some (.inr (x2, x3))) else (if am_dbin x3 64 = true then (if (M 31 x3.toNatClampNeg) = 0 then (some (.inl ((x2 + 1), (x3 + 1)))) else (some (.inl (x2, (x3 + 1))))) else none))) lp_F (0, 0)).bind (fun (s7 : Int32 × Int32) => match s7 with | (x8, x9) => (some x8)))
set_option maxRecDepth 20000 in
theorem t_X4_lonely_30 {LN : Nat} {xs : Nat → Int32} {M : am_M} {t : Int32} (h : f_X4_lonely_30 M = some t) : oo LN xs 0 0 54 0 [some (.ref 30), none, none] [] M (some (.int t), M) := by
  unfold f_X4_lonely_30 at h
  refine o_iconst (v := 0) k54_0 (by decide) ?_
  refine o_istore_n (v := 0) (L' := [some (.ref 30), some (.int 0), none]) k54_1 rfl rfl ?_
  refine o_iconst (v := 0) k54_2 (by decide) ?_
  refine o_istore_n (v := 0) (L' := [some (.ref 30), some (.int 0), some (.int 0)]) k54_3 rfl rfl ?_
  refine bd_i h (fun s7 hs7 h => ?_)
  refine lp_o (fun (s1 : Int32 × Int32) => match s1 with | (x2, x3) => oo LN xs 0 0 54 4 [some (.ref 30), some (.int x2), some (.int x3)] [] M (some (.int t), M)) (fun (s7 : Int32 × Int32) => match s7 with | (x8, x9) => oo LN xs 0 0 54 30 [some (.ref 30), some (.int x8), some (.int x9)] [] M (some (.int t), M)) ?_ hs7 ?_
  · rintro ⟨x2, x3⟩ ws1 h hK
    dsimp only at h
    show oo LN xs 0 0 54 4 [some (.ref 30), some (.int x2), some (.int x3)] [] M (some (.int t), M)
    refine o_iload_n k54_4 rfl ?_
    refine o_aload_n k54_5 rfl ?_
    refine o_gf k54_6 (gf_30_2 _) ?_
    refine o_icmp_ge k54_9 (fun hc4 => ?_) (fun hc4 => ?_)
    · rw [if_pos hc4] at h
      have h9 := Option.some.inj h
      subst h9
      exact hK
    · rw [if_neg hc4] at h
      refine o_aload_n k54_12 rfl ?_
      refine o_gf k54_13 (gf_30_0 _) ?_
      refine o_iload_n k54_16 rfl ?_
      obtain ⟨hc5, h⟩ := ck_i h
      refine o_iald k54_17 rfl ia_31 hc5 ?_
      refine o_if_ne k54_18 (fun hc6 => ?_) (fun hc6 => ?_)
      · rw [if_neg hc6] at h
        refine o_iinc (k := 1) (L' := [some (.ref 30), some (.int x2), some (.int (x3 + 1))]) k54_24 rfl (by decide) rfl ?_
        refine o_goto k54_27 ?_
        have h9 := Option.some.inj h
        subst h9
        exact hK
      · rw [if_pos hc6] at h
        refine o_iinc (k := 1) (L' := [some (.ref 30), some (.int (x2 + 1)), some (.int x3)]) k54_21 rfl (by decide) rfl ?_
        refine o_iinc (k := 1) (L' := [some (.ref 30), some (.int (x2 + 1)), some (.int (x3 + 1))]) k54_24 rfl (by decide) rfl ?_
        refine o_goto k54_27 ?_
        have h9 := Option.some.inj h
        subst h9
        exact hK
  · obtain ⟨x8, x9⟩ := s7
    show oo LN xs 0 0 54 30 [some (.ref 30), some (.int x8), some (.int x9)] [] M (some (.int t), M)
    dsimp only at h
    refine o_iload_n k54_30 rfl ?_
    have h9 := Option.some.inj h
    subst h9
    exact o_iret pj_54 k54_31 rfl nr_i
def f_X4_pairs_30 (M : am_M) : Option Int32 := ((lp (σ := Int32 × Int32) (ρ := Int32 × Int32) (fun (s1 : Int32 × Int32) => match s1 with | (x2, x3) => (if (M 30 2) ≤ x3 then (some (.inr (x2, x3))) else ((lp (σ := Int32 × Int32) (ρ := Int32 × Int32) (fun (s6 : Int32 × Int32) => match s6 with | (x7, x8) => (if x3 ≤ x8 then (some (.inr (x7, x8))) else (if am_dbin x3 64 = true then (if am_dbin x8 64 = true then (if (M 31 x3.toNatClampNeg) = (M 31 x8.toNatClampNeg) then (some (.inl ((x7 + 1), (x8 + 1)))) else (some (.inl (x7, (x8 + 1))))) else none) else none))) lp_F (x2, 0)).bind (fun (s13 : Int32 × Int32) => match s13 with | (x14, x15) => (some (.inl (x14, (x3 + 1)))))))) lp_F (0, 0)).bind (fun (s16 : Int32 × Int32) => match s16 with | (x17, x18) => (some x17)))
set_option maxRecDepth 20000 in
theorem t_X4_pairs_30 {LN : Nat} {xs : Nat → Int32} {M : am_M} {t : Int32} (h : f_X4_pairs_30 M = some t) : oo LN xs 0 0 55 0 [some (.ref 30), none, none, none] [] M (some (.int t), M) := by
  unfold f_X4_pairs_30 at h
  refine o_iconst (v := 0) k55_0 (by decide) ?_
  refine o_istore_n (v := 0) (L' := [some (.ref 30), some (.int 0), none, none]) k55_1 rfl rfl ?_
  refine o_iconst (v := 0) k55_2 (by decide) ?_
  refine o_istore_n (v := 0) (L' := [some (.ref 30), some (.int 0), some (.int 0), none]) k55_3 rfl rfl ?_
  refine bd_i h (fun s16 hs16 h => ?_)
  refine lp_o (fun (s1 : Int32 × Int32) => match s1 with | (x2, x3) => ∀ (d4 : Option (Int32 ⊕ Int64)), oo LN xs 0 0 55 4 [some (.ref 30), some (.int x2), some (.int x3), (d4.map dv)] [] M (some (.int t), M)) (fun (s16 : Int32 × Int32) => match s16 with | (x17, x18) => ∀ (d19 : Option (Int32 ⊕ Int64)), oo LN xs 0 0 55 49 [some (.ref 30), some (.int x17), some (.int x18), (d19.map dv)] [] M (some (.int t), M)) ?_ hs16 ?_ none
  · rintro ⟨x2, x3⟩ ws1 h hK
    dsimp only at h
    show ∀ (d4 : Option (Int32 ⊕ Int64)), oo LN xs 0 0 55 4 [some (.ref 30), some (.int x2), some (.int x3), (d4.map dv)] [] M (some (.int t), M)
    intro d4
    refine o_iload_n k55_4 rfl ?_
    refine o_aload_n k55_5 rfl ?_
    refine o_gf k55_6 (gf_30_2 _) ?_
    refine o_icmp_ge k55_9 (fun hc5 => ?_) (fun hc5 => ?_)
    · rw [if_pos hc5] at h
      have h9 := Option.some.inj h
      subst h9
      exact hK d4
    · rw [if_neg hc5] at h
      refine o_iconst (v := 0) k55_12 (by decide) ?_
      refine o_istore_n (v := 0) (L' := [some (.ref 30), some (.int x2), some (.int x3), some (.int 0)]) k55_13 rfl rfl ?_
      refine bd_i h (fun s13 hs13 h => ?_)
      refine lp_o (fun (s6 : Int32 × Int32) => match s6 with | (x7, x8) => oo LN xs 0 0 55 14 [some (.ref 30), some (.int x7), some (.int x3), some (.int x8)] [] M (some (.int t), M)) (fun (s13 : Int32 × Int32) => match s13 with | (x14, x15) => oo LN xs 0 0 55 43 [some (.ref 30), some (.int x14), some (.int x3), some (.int x15)] [] M (some (.int t), M)) ?_ hs13 ?_
      · rintro ⟨x7, x8⟩ ws6 h hK
        dsimp only at h
        show oo LN xs 0 0 55 14 [some (.ref 30), some (.int x7), some (.int x3), some (.int x8)] [] M (some (.int t), M)
        refine o_iload_n k55_14 rfl ?_
        refine o_iload_n k55_15 rfl ?_
        refine o_icmp_ge k55_16 (fun hc9 => ?_) (fun hc9 => ?_)
        · rw [if_pos hc9] at h
          have h9 := Option.some.inj h
          subst h9
          exact hK
        · rw [if_neg hc9] at h
          refine o_aload_n k55_19 rfl ?_
          refine o_gf k55_20 (gf_30_0 _) ?_
          refine o_iload_n k55_23 rfl ?_
          obtain ⟨hc10, h⟩ := ck_i h
          refine o_iald k55_24 rfl ia_31 hc10 ?_
          refine o_aload_n k55_25 rfl ?_
          refine o_gf k55_26 (gf_30_0 _) ?_
          refine o_iload_n k55_29 rfl ?_
          obtain ⟨hc11, h⟩ := ck_i h
          refine o_iald k55_30 rfl ia_31 hc11 ?_
          refine o_icmp_ne k55_31 (fun hc12 => ?_) (fun hc12 => ?_)
          · rw [if_neg hc12] at h
            refine o_iinc (k := 1) (L' := [some (.ref 30), some (.int x7), some (.int x3), some (.int (x8 + 1))]) k55_37 rfl (by decide) rfl ?_
            refine o_goto k55_40 ?_
            have h9 := Option.some.inj h
            subst h9
            exact hK
          · rw [if_pos hc12] at h
            refine o_iinc (k := 1) (L' := [some (.ref 30), some (.int (x7 + 1)), some (.int x3), some (.int x8)]) k55_34 rfl (by decide) rfl ?_
            refine o_iinc (k := 1) (L' := [some (.ref 30), some (.int (x7 + 1)), some (.int x3), some (.int (x8 + 1))]) k55_37 rfl (by decide) rfl ?_
            refine o_goto k55_40 ?_
            have h9 := Option.some.inj h
            subst h9
            exact hK
      · obtain ⟨x14, x15⟩ := s13
        show oo LN xs 0 0 55 43 [some (.ref 30), some (.int x14), some (.int x3), some (.int x15)] [] M (some (.int t), M)
        dsimp only at h
        refine o_iinc (k := 1) (L' := [some (.ref 30), some (.int x14), some (.int (x3 + 1)), some (.int x15)]) k55_43 rfl (by decide) rfl ?_
        refine o_goto k55_46 ?_
        have h9 := Option.some.inj h
        subst h9
        exact hK (some (.inl x15))
  · obtain ⟨x17, x18⟩ := s16
    show ∀ (d19 : Option (Int32 ⊕ Int64)), oo LN xs 0 0 55 49 [some (.ref 30), some (.int x17), some (.int x18), (d19.map dv)] [] M (some (.int t), M)
    dsimp only at h
    intro d19
    refine o_iload_n k55_49 rfl ?_
    have h9 := Option.some.inj h
    subst h9
    exact o_iret pj_55 k55_50 rfl nr_i
def f_X7_alias_0 (a0 : Int32) (M : am_M) : Option (Int32 × am_M) := (if a0 < 0 then (some ((-1), M)) else (if a0 ≤ 2 then ((f_X4_gather_30_9 M).bind (fun q3 => (if a0 = 0 then ((f_X4_freedom_30 q3).bind (fun q4 => (some (q4.1, q4.2)))) else (if a0 = 1 then ((f_X4_lonely_30 q3).bind (fun v5 => (some (v5, q3)))) else ((f_X4_pairs_30 q3).bind (fun v6 => (some (v6, q3)))))))) else (some ((-1), M))))
set_option maxRecDepth 20000 in
theorem t_X7_alias_0 {LN : Nat} {xs : Nat → Int32} {a0 : Int32} {M : am_M} {t : Int32 × am_M} (h : f_X7_alias_0 a0 M = some t) : oo LN xs 0 0 107 0 [some (.ref 0), some (.int a0)] [] M (some (.int t.1), t.2) := by
  unfold f_X7_alias_0 at h
  refine o_iload_n k107_0 rfl ?_
  refine o_if_lt k107_1 (fun hc1 => ?_) (fun hc1 => ?_)
  · rw [if_pos hc1] at h
    refine o_iconst (v := (-1)) k107_9 (by decide) ?_
    have h9 := Option.some.inj h
    subst h9
    exact o_iret pj_107 k107_10 rfl nr_i
  · rw [if_neg hc1] at h
    refine o_iload_n k107_4 rfl ?_
    refine o_iconst (v := 2) k107_5 (by decide) ?_
    refine o_icmp_le k107_6 (fun hc2 => ?_) (fun hc2 => ?_)
    · rw [if_pos hc2] at h
      refine o_aload_n k107_11 rfl ?_
      refine o_gf k107_12 (gf_0_6 _) ?_
      refine o_aload_n k107_15 rfl ?_
      refine o_gf k107_16 (gf_0_2 _) ?_
      refine bd_i h (fun q3 hq3 h => ?_)
      refine o_call k107_19 pj_51 (fun _ => rfl) (by decide) rfl (as := [.ref 30, .ref 9]) (rest := []) rfl (L0 := [some (.ref 30), some (.ref 9), none]) rfl (t_X4_gather_30_9 hq3) ?_
      refine o_iload_n k107_22 rfl ?_
      by_cases hx23_0 : a0 = 0
      · rw [if_pos hx23_0] at h
        refine o_lsw (tgt := 48) (off := 25) k107_23 (by rw [hx23_0]; decide) (by decide) ?_
        refine o_aload_n k107_48 rfl ?_
        refine o_gf k107_49 (gf_0_6 _) ?_
        refine bd_i h (fun q4 hq4 h => ?_)
        refine o_call k107_52 pj_53 (fun _ => rfl) (by decide) rfl (as := [.ref 30]) (rest := []) rfl (L0 := [some (.ref 30), none]) rfl (t_X4_freedom_30 hq4) ?_
        have h9 := Option.some.inj h
        subst h9
        exact o_iret pj_107 k107_55 rfl nr_i
      rw [if_neg hx23_0] at h
      by_cases hx23_1 : a0 = 1
      · rw [if_pos hx23_1] at h
        refine o_lsw (tgt := 56) (off := 33) k107_23 (by rw [hx23_1]; decide) (by decide) ?_
        refine o_aload_n k107_56 rfl ?_
        refine o_gf k107_57 (gf_0_6 _) ?_
        refine bd_i h (fun v5 hv5 h => ?_)
        refine o_call k107_60 pj_54 (fun _ => rfl) (by decide) rfl (as := [.ref 30]) (rest := []) rfl (L0 := [some (.ref 30), none, none]) rfl (t_X4_lonely_30 hv5) ?_
        have h9 := Option.some.inj h
        subst h9
        exact o_iret pj_107 k107_63 rfl nr_i
      rw [if_neg hx23_1] at h
      refine o_lsw (tgt := 64) (off := 41) k107_23 (by have n0 := ne_lit (k := 0) 0 (by decide) hx23_0; have n1 := ne_lit (k := 1) 1 (by decide) hx23_1; simp [Op.lookupswitch.offset, n0, Ne.symm n0, n1, Ne.symm n1]) (by decide) ?_
      refine o_aload_n k107_64 rfl ?_
      refine o_gf k107_65 (gf_0_6 _) ?_
      refine bd_i h (fun v6 hv6 h => ?_)
      refine o_call k107_68 pj_55 (fun _ => rfl) (by decide) rfl (as := [.ref 30]) (rest := []) rfl (L0 := [some (.ref 30), none, none, none]) rfl (t_X4_pairs_30 hv6) ?_
      have h9 := Option.some.inj h
      subst h9
      exact o_iret pj_107 k107_71 rfl nr_i
    · rw [if_neg hc2] at h
      refine o_iconst (v := (-1)) k107_9 (by decide) ?_
      have h9 := Option.some.inj h
      subst h9
      exact o_iret pj_107 k107_10 rfl nr_i
def f_X8_findEffects_43 (M : am_M) : Option am_M := (bl (am_up M 43 22 0) (fun (M1 : am_M) => ((lp (σ := Int32 × am_M) (ρ := Int32 × am_M) (fun (s2 : Int32 × am_M) => match s2 with | (x3, M4) => (if (M4 44 (0 : Int32).toNatClampNeg) ≤ x3 then (some (.inr (x3, M4))) else ((lp (σ := Int32 × am_M) (ρ := Int32 × am_M) (fun (s10 : Int32 × am_M) => match s10 with | (x11, M12) => (if (M12 44 (1 : Int32).toNatClampNeg) ≤ x11 then (some (.inr (x11, M12))) else (if (f_X8_has (M12 44 (3 : Int32).toNatClampNeg) x3) = 0 then (if am_dbin ((135 : Int32) + x3) 151 = true then (bl (((M12 44 ((135 : Int32) + x3).toNatClampNeg) &&& (f_X8_mask_43 M12))) (fun (v20 : Int32) => ((lp (σ := Int32 × Int32) (ρ := Int32 × Int32) (fun (s21 : Int32 × Int32) => match s21 with | (x22, x23) => (if (M12 44 (1 : Int32).toNatClampNeg) ≤ x23 then (some (.inr (x22, x23))) else (some (.inl ((f_X8_shifted_43 x22 M12), (x23 + 1)))))) lp_F (v20, (x11 + 1))).bind (fun (s26 : Int32 × Int32) => match s26 with | (x27, x28) => (if am_dbin (M12 43 22) 64 = true then (bl (am_up M12 49 (M12 43 22).toNatClampNeg x27) (fun (M30 : am_M) => (bl (am_up M30 43 22 ((M30 43 22) + 1)) (fun (M31 : am_M) => (some (.inl ((x11 + 1), M31))))))) else none))))) else none) else (some (.inr (x11, M12)))))) lp_F (0, M4)).bind (fun (s32 : Int32 × am_M) => match s32 with | (x33, M34) => (some (.inl ((x3 + 1), M34))))))) lp_F (0, M1)).bind (fun (s37 : Int32 × am_M) => match s37 with | (x38, M39) => (some M39)))))
set_option maxRecDepth 20000 in
theorem t_X8_findEffects_43 {LN : Nat} {xs : Nat → Int32} {M : am_M} {t : am_M} (h : f_X8_findEffects_43 M = some t) : oo LN xs 0 0 189 0 [some (.ref 43), none, none, none, none] [] M (none, t) := by
  unfold f_X8_findEffects_43 at h
  refine o_aload_n k189_0 rfl ?_
  refine o_iconst (v := 0) k189_1 (by decide) ?_
  refine bl_i h (fun M1 eM1 h => ?_)
  refine o_pf (M' := M1) k189_2 (pf_43_22 eM1) ?_
  refine o_iconst (v := 0) k189_5 (by decide) ?_
  refine o_istore_n (v := 0) (L' := [some (.ref 43), some (.int 0), none, none, none]) k189_6 rfl rfl ?_
  refine bd_i h (fun s37 hs37 h => ?_)
  refine lp_o (fun (s2 : Int32 × am_M) => match s2 with | (x3, M4) => ∀ (d5 d6 d7 : Option (Int32 ⊕ Int64)), oo LN xs 0 0 189 7 [some (.ref 43), some (.int x3), (d5.map dv), (d6.map dv), (d7.map dv)] [] M4 (none, t)) (fun (s37 : Int32 × am_M) => match s37 with | (x38, M39) => ∀ (d40 d41 d42 : Option (Int32 ⊕ Int64)), oo LN xs 0 0 189 118 [some (.ref 43), some (.int x38), (d40.map dv), (d41.map dv), (d42.map dv)] [] M39 (none, t)) ?_ hs37 ?_ none none none
  · rintro ⟨x3, M4⟩ ws2 h hK
    dsimp only at h
    show ∀ (d5 d6 d7 : Option (Int32 ⊕ Int64)), oo LN xs 0 0 189 7 [some (.ref 43), some (.int x3), (d5.map dv), (d6.map dv), (d7.map dv)] [] M4 (none, t)
    intro d5 d6 d7
    refine o_iload_n k189_7 rfl ?_
    refine o_aload_n k189_8 rfl ?_
    refine o_gf k189_9 (gf_43_0 _) ?_
    refine o_iconst (v := 0) k189_12 (by decide) ?_
    refine o_iald k189_13 rfl ia_44 (by decide) ?_
    refine o_icmp_ge k189_14 (fun hc9 => ?_) (fun hc9 => ?_)
    · rw [if_pos hc9] at h
      have h9 := Option.some.inj h
      subst h9
      exact hK d5 d6 d7
    · rw [if_neg hc9] at h
      refine o_iconst (v := 0) k189_17 (by decide) ?_
      refine o_istore_n (v := 0) (L' := [some (.ref 43), some (.int x3), some (.int 0), (d6.map dv), (d7.map dv)]) k189_18 rfl rfl ?_
      refine bd_i h (fun s32 hs32 h => ?_)
      refine lp_o (fun (s10 : Int32 × am_M) => match s10 with | (x11, M12) => ∀ (d13 d14 : Option (Int32 ⊕ Int64)), oo LN xs 0 0 189 19 [some (.ref 43), some (.int x3), some (.int x11), (d13.map dv), (d14.map dv)] [] M12 (none, t)) (fun (s32 : Int32 × am_M) => match s32 with | (x33, M34) => ∀ (d35 d36 : Option (Int32 ⊕ Int64)), oo LN xs 0 0 189 112 [some (.ref 43), some (.int x3), some (.int x33), (d35.map dv), (d36.map dv)] [] M34 (none, t)) ?_ hs32 ?_ d6 d7
      · rintro ⟨x11, M12⟩ ws10 h hK
        dsimp only at h
        show ∀ (d13 d14 : Option (Int32 ⊕ Int64)), oo LN xs 0 0 189 19 [some (.ref 43), some (.int x3), some (.int x11), (d13.map dv), (d14.map dv)] [] M12 (none, t)
        intro d13 d14
        refine o_iload_n k189_19 rfl ?_
        refine o_aload_n k189_20 rfl ?_
        refine o_gf k189_21 (gf_43_0 _) ?_
        refine o_iconst (v := 1) k189_24 (by decide) ?_
        refine o_iald k189_25 rfl ia_44 (by decide) ?_
        refine o_icmp_ge k189_26 (fun hc16 => ?_) (fun hc16 => ?_)
        · rw [if_pos hc16] at h
          have h9 := Option.some.inj h
          subst h9
          exact hK d13 d14
        · rw [if_neg hc16] at h
          refine o_aload_n k189_29 rfl ?_
          refine o_gf k189_30 (gf_43_0 _) ?_
          refine o_iconst (v := 3) k189_33 (by decide) ?_
          refine o_iald k189_34 rfl ia_44 (by decide) ?_
          refine o_iload_n k189_35 rfl ?_
          refine o_call k189_36 pj_127 (fun _ => rfl) (by decide) (by rcases d13 with _ | (x | x) <;> rcases d14 with _ | (x | x) <;> rfl) (as := [.int (M12 44 (3 : Int32).toNatClampNeg), .int x3]) (rest := []) rfl (L0 := [some (.int (M12 44 (3 : Int32).toNatClampNeg)), some (.int x3)]) rfl (t_X8_has (M := M12) (a0 := (M12 44 (3 : Int32).toNatClampNeg)) (a1 := x3) rfl) ?_
          refine o_if_ne k189_39 (fun hc18 => ?_) (fun hc18 => ?_)
          · rw [if_neg hc18] at h
            have h9 := Option.some.inj h
            subst h9
            exact hK d13 d14
          · rw [if_pos hc18] at h
            refine o_aload_n k189_42 rfl ?_
            refine o_gf k189_43 (gf_43_0 _) ?_
            refine o_sipush (v := 135) k189_46 (by decide) ?_
            refine o_iload_n k189_49 rfl ?_
            refine o_iadd k189_50 ?_
            obtain ⟨hc19, h⟩ := ck_i h
            refine o_iald k189_51 rfl ia_44 hc19 ?_
            refine o_aload_n k189_52 rfl ?_
            refine o_call k189_53 pj_186 (fun _ => rfl) (by decide) (by rcases d13 with _ | (x | x) <;> rcases d14 with _ | (x | x) <;> rfl) (as := [.ref 43]) (rest := [.int (M12 44 ((135 : Int32) + x3).toNatClampNeg)]) rfl (L0 := [some (.ref 43)]) rfl (t_X8_mask_43 (M := M12) rfl) ?_
            refine o_iand k189_56 ?_
            refine bl_i h (fun v20 ev20 h => ?_)
            refine o_istore_n (v := v20) k189_57 ev20 (L' := [some (.ref 43), some (.int x3), some (.int x11), some (.int v20), (d14.map dv)]) rfl ?_
            refine o_iload_n k189_58 rfl ?_
            refine o_iconst (v := 1) k189_59 (by decide) ?_
            refine o_iadd k189_60 ?_
            refine o_istore (v := (x11 + 1)) (L' := [some (.ref 43), some (.int x3), some (.int x11), some (.int v20), some (.int (x11 + 1))]) k189_61 rfl rfl ?_
            refine bd_i h (fun s26 hs26 h => ?_)
            refine lp_o (fun (s21 : Int32 × Int32) => match s21 with | (x22, x23) => oo LN xs 0 0 189 63 [some (.ref 43), some (.int x3), some (.int x11), some (.int x22), some (.int x23)] [] M12 (none, t)) (fun (s26 : Int32 × Int32) => match s26 with | (x27, x28) => oo LN xs 0 0 189 86 [some (.ref 43), some (.int x3), some (.int x11), some (.int x27), some (.int x28)] [] M12 (none, t)) ?_ hs26 ?_
            · rintro ⟨x22, x23⟩ ws21 h hK
              dsimp only at h
              show oo LN xs 0 0 189 63 [some (.ref 43), some (.int x3), some (.int x11), some (.int x22), some (.int x23)] [] M12 (none, t)
              refine o_iload k189_63 rfl ?_
              refine o_aload_n k189_65 rfl ?_
              refine o_gf k189_66 (gf_43_0 _) ?_
              refine o_iconst (v := 1) k189_69 (by decide) ?_
              refine o_iald k189_70 rfl ia_44 (by decide) ?_
              refine o_icmp_ge k189_71 (fun hc25 => ?_) (fun hc25 => ?_)
              · rw [if_pos hc25] at h
                have h9 := Option.some.inj h
                subst h9
                exact hK
              · rw [if_neg hc25] at h
                refine o_aload_n k189_74 rfl ?_
                refine o_iload_n k189_75 rfl ?_
                refine o_call k189_76 pj_187 (fun _ => rfl) (by decide) rfl (as := [.ref 43, .int x22]) (rest := []) rfl (L0 := [some (.ref 43), some (.int x22), none]) rfl (t_X8_shifted_43 (M := M12) (a0 := x22) rfl) ?_
                refine o_istore_n (v := (f_X8_shifted_43 x22 M12)) (L' := [some (.ref 43), some (.int x3), some (.int x11), some (.int (f_X8_shifted_43 x22 M12)), some (.int x23)]) k189_79 rfl rfl ?_
                refine o_iinc (k := 1) (L' := [some (.ref 43), some (.int x3), some (.int x11), some (.int (f_X8_shifted_43 x22 M12)), some (.int (x23 + 1))]) k189_80 rfl (by decide) rfl ?_
                refine o_goto k189_83 ?_
                have h9 := Option.some.inj h
                subst h9
                exact hK
            · obtain ⟨x27, x28⟩ := s26
              show oo LN xs 0 0 189 86 [some (.ref 43), some (.int x3), some (.int x11), some (.int x27), some (.int x28)] [] M12 (none, t)
              dsimp only at h
              refine o_aload_n k189_86 rfl ?_
              refine o_gf k189_87 (gf_43_21 _) ?_
              refine o_aload_n k189_90 rfl ?_
              refine o_gf k189_91 (gf_43_22 _) ?_
              refine o_iload_n k189_94 rfl ?_
              obtain ⟨hc29, h⟩ := ck_i h
              refine bl_i h (fun M30 eM30 h => ?_)
              refine o_iast (M' := M30) k189_95 eM30 ia_49 hc29 ?_
              refine o_aload_n k189_96 rfl ?_
              refine o_dupr k189_97 ?_
              refine o_gf k189_98 (gf_43_22 _) ?_
              refine o_iconst (v := 1) k189_101 (by decide) ?_
              refine o_iadd k189_102 ?_
              refine bl_i h (fun M31 eM31 h => ?_)
              refine o_pf (M' := M31) k189_103 (pf_43_22 eM31) ?_
              refine o_iinc (k := 1) (L' := [some (.ref 43), some (.int x3), some (.int (x11 + 1)), some (.int x27), some (.int x28)]) k189_106 rfl (by decide) rfl ?_
              refine o_goto k189_109 ?_
              have h9 := Option.some.inj h
              subst h9
              exact hK (some (.inl x27)) (some (.inl x28))
      · obtain ⟨x33, M34⟩ := s32
        show ∀ (d35 d36 : Option (Int32 ⊕ Int64)), oo LN xs 0 0 189 112 [some (.ref 43), some (.int x3), some (.int x33), (d35.map dv), (d36.map dv)] [] M34 (none, t)
        dsimp only at h
        intro d35 d36
        refine o_iinc (k := 1) (L' := [some (.ref 43), some (.int (x3 + 1)), some (.int x33), (d35.map dv), (d36.map dv)]) k189_112 rfl (by decide) rfl ?_
        refine o_goto k189_115 ?_
        have h9 := Option.some.inj h
        subst h9
        exact hK (some (.inl x33)) d35 d36
  · obtain ⟨x38, M39⟩ := s37
    show ∀ (d40 d41 d42 : Option (Int32 ⊕ Int64)), oo LN xs 0 0 189 118 [some (.ref 43), some (.int x38), (d40.map dv), (d41.map dv), (d42.map dv)] [] M39 (none, t)
    dsimp only at h
    intro d40 d41 d42
    have h9 := Option.some.inj h
    subst h9
    exact o_vret pj_189 k189_118 rfl
def f_X8_rankOfEffects_43 (M : am_M) : Option (Int32 × am_M) := ((lp (σ := Int32 × am_M) (ρ := Int32 × am_M) (fun (s1 : Int32 × am_M) => match s1 with | (x2, M3) => (if 8 ≤ x2 then (some (.inr (x2, M3))) else (if am_dbin x2 8 = true then (bl (am_up M3 50 x2.toNatClampNeg 0) (fun (M6 : am_M) => (some (.inl ((x2 + 1), M6))))) else none))) lp_F (0, M)).bind (fun (s7 : Int32 × am_M) => match s7 with | (x8, M9) => ((lp (σ := Int32 × Int32 × am_M) (ρ := Int32 × Int32 × am_M) (fun (s10 : Int32 × Int32 × am_M) => match s10 with | (x11, x12, M13) => (if (M13 43 22) ≤ x12 then (some (.inr (x11, x12, M13))) else (if am_dbin x12 64 = true then ((lp (σ := Int32 × Int32 × Int32 × am_M) (ρ := Int32 × Int32 × Int32 × am_M) (fun (s18 : Int32 × Int32 × Int32 × am_M) => match s18 with | (x19, x20, x21, M22) => (if x21 < 0 then (some (.inr (x19, x20, x21, M22))) else (if x20 = 0 then (some (.inr (x19, x20, x21, M22))) else (if (f_X8_has x20 x21) = 0 then (if (f_X8_has x20 x21) = 0 then (some (.inl (x19, x20, (x21 + (-1)), M22))) else (if am_dbin x21 8 = true then (some (.inl (x19, (x20 ^^^ (M22 50 x21.toNatClampNeg)), (x21 + (-1)), M22))) else none)) else (if am_dbin x21 8 = true then (if (M22 50 x21.toNatClampNeg) = 0 then (if am_dbin x21 8 = true then (bl (am_up M22 50 x21.toNatClampNeg x20) (fun (M33 : am_M) => (some (.inl ((x19 + 1), 0, (x21 + (-1)), M33))))) else none) else (if (f_X8_has x20 x21) = 0 then (some (.inl (x19, x20, (x21 + (-1)), M22))) else (if am_dbin x21 8 = true then (some (.inl (x19, (x20 ^^^ (M22 50 x21.toNatClampNeg)), (x21 + (-1)), M22))) else none))) else none))))) lp_F (x11, (M13 49 x12.toNatClampNeg), 7, M13)).bind (fun (s34 : Int32 × Int32 × Int32 × am_M) => match s34 with | (x35, x36, x37, M38) => (some (.inl (x35, (x12 + 1), M38))))) else none))) lp_F (0, 0, M9)).bind (fun (s39 : Int32 × Int32 × am_M) => match s39 with | (x40, x41, M42) => (some (x40, M42))))))
set_option maxRecDepth 20000 in
theorem t_X8_rankOfEffects_43 {LN : Nat} {xs : Nat → Int32} {M : am_M} {t : Int32 × am_M} (h : f_X8_rankOfEffects_43 M = some t) : oo LN xs 0 0 190 0 [some (.ref 43), none, none, none, none] [] M (some (.int t.1), t.2) := by
  unfold f_X8_rankOfEffects_43 at h
  refine o_iconst (v := 0) k190_0 (by decide) ?_
  refine o_istore_n (v := 0) (L' := [some (.ref 43), some (.int 0), none, none, none]) k190_1 rfl rfl ?_
  refine o_iconst (v := 0) k190_2 (by decide) ?_
  refine o_istore_n (v := 0) (L' := [some (.ref 43), some (.int 0), some (.int 0), none, none]) k190_3 rfl rfl ?_
  refine bd_i h (fun s7 hs7 h => ?_)
  refine lp_o (fun (s1 : Int32 × am_M) => match s1 with | (x2, M3) => oo LN xs 0 0 190 4 [some (.ref 43), some (.int 0), some (.int x2), none, none] [] M3 (some (.int t.1), t.2)) (fun (s7 : Int32 × am_M) => match s7 with | (x8, M9) => oo LN xs 0 0 190 23 [some (.ref 43), some (.int 0), some (.int x8), none, none] [] M9 (some (.int t.1), t.2)) ?_ hs7 ?_
  · rintro ⟨x2, M3⟩ ws1 h hK
    dsimp only at h
    show oo LN xs 0 0 190 4 [some (.ref 43), some (.int 0), some (.int x2), none, none] [] M3 (some (.int t.1), t.2)
    refine o_iload_n k190_4 rfl ?_
    refine o_bipush (v := 8) k190_5 (by decide) ?_
    refine o_icmp_ge k190_7 (fun hc4 => ?_) (fun hc4 => ?_)
    · rw [if_pos hc4] at h
      have h9 := Option.some.inj h
      subst h9
      exact hK
    · rw [if_neg hc4] at h
      refine o_aload_n k190_10 rfl ?_
      refine o_gf k190_11 (gf_43_23 _) ?_
      refine o_iload_n k190_14 rfl ?_
      refine o_iconst (v := 0) k190_15 (by decide) ?_
      obtain ⟨hc5, h⟩ := ck_i h
      refine bl_i h (fun M6 eM6 h => ?_)
      refine o_iast (M' := M6) k190_16 eM6 ia_50 hc5 ?_
      refine o_iinc (k := 1) (L' := [some (.ref 43), some (.int 0), some (.int (x2 + 1)), none, none]) k190_17 rfl (by decide) rfl ?_
      refine o_goto k190_20 ?_
      have h9 := Option.some.inj h
      subst h9
      exact hK
  · obtain ⟨x8, M9⟩ := s7
    show oo LN xs 0 0 190 23 [some (.ref 43), some (.int 0), some (.int x8), none, none] [] M9 (some (.int t.1), t.2)
    dsimp only at h
    refine o_iconst (v := 0) k190_23 (by decide) ?_
    refine o_istore_n (v := 0) (L' := [some (.ref 43), some (.int 0), some (.int 0), none, none]) k190_24 rfl rfl ?_
    refine bd_i h (fun s39 hs39 h => ?_)
    refine lp_o (fun (s10 : Int32 × Int32 × am_M) => match s10 with | (x11, x12, M13) => ∀ (d14 d15 : Option (Int32 ⊕ Int64)), oo LN xs 0 0 190 25 [some (.ref 43), some (.int x11), some (.int x12), (d14.map dv), (d15.map dv)] [] M13 (some (.int t.1), t.2)) (fun (s39 : Int32 × Int32 × am_M) => match s39 with | (x40, x41, M42) => ∀ (d43 d44 : Option (Int32 ⊕ Int64)), oo LN xs 0 0 190 119 [some (.ref 43), some (.int x40), some (.int x41), (d43.map dv), (d44.map dv)] [] M42 (some (.int t.1), t.2)) ?_ hs39 ?_ none none
    · rintro ⟨x11, x12, M13⟩ ws10 h hK
      dsimp only at h
      show ∀ (d14 d15 : Option (Int32 ⊕ Int64)), oo LN xs 0 0 190 25 [some (.ref 43), some (.int x11), some (.int x12), (d14.map dv), (d15.map dv)] [] M13 (some (.int t.1), t.2)
      intro d14 d15
      refine o_iload_n k190_25 rfl ?_
      refine o_aload_n k190_26 rfl ?_
      refine o_gf k190_27 (gf_43_22 _) ?_
      refine o_icmp_ge k190_30 (fun hc16 => ?_) (fun hc16 => ?_)
      · rw [if_pos hc16] at h
        have h9 := Option.some.inj h
        subst h9
        exact hK d14 d15
      · rw [if_neg hc16] at h
        refine o_aload_n k190_33 rfl ?_
        refine o_gf k190_34 (gf_43_21 _) ?_
        refine o_iload_n k190_37 rfl ?_
        obtain ⟨hc17, h⟩ := ck_i h
        refine o_iald k190_38 rfl ia_49 hc17 ?_
        refine o_istore_n (v := (M13 49 x12.toNatClampNeg)) (L' := [some (.ref 43), some (.int x11), some (.int x12), some (.int (M13 49 x12.toNatClampNeg)), (d15.map dv)]) k190_39 rfl rfl ?_
        refine o_bipush (v := 7) k190_40 (by decide) ?_
        refine o_istore (v := 7) (L' := [some (.ref 43), some (.int x11), some (.int x12), some (.int (M13 49 x12.toNatClampNeg)), some (.int 7)]) k190_42 rfl rfl ?_
        refine bd_i h (fun s34 hs34 h => ?_)
        refine lp_o (fun (s18 : Int32 × Int32 × Int32 × am_M) => match s18 with | (x19, x20, x21, M22) => oo LN xs 0 0 190 44 [some (.ref 43), some (.int x19), some (.int x12), some (.int x20), some (.int x21)] [] M22 (some (.int t.1), t.2)) (fun (s34 : Int32 × Int32 × Int32 × am_M) => match s34 with | (x35, x36, x37, M38) => oo LN xs 0 0 190 113 [some (.ref 43), some (.int x35), some (.int x12), some (.int x36), some (.int x37)] [] M38 (some (.int t.1), t.2)) ?_ hs34 ?_
        · rintro ⟨x19, x20, x21, M22⟩ ws18 h hK
          dsimp only at h
          show oo LN xs 0 0 190 44 [some (.ref 43), some (.int x19), some (.int x12), some (.int x20), some (.int x21)] [] M22 (some (.int t.1), t.2)
          refine o_iload k190_44 rfl ?_
          refine o_if_lt k190_46 (fun hc23 => ?_) (fun hc23 => ?_)
          · rw [if_pos hc23] at h
            have h9 := Option.some.inj h
            subst h9
            exact hK
          · rw [if_neg hc23] at h
            refine o_iload_n k190_49 rfl ?_
            refine o_if_eq k190_50 (fun hc24 => ?_) (fun hc24 => ?_)
            · rw [if_pos hc24] at h
              have h9 := Option.some.inj h
              subst h9
              exact hK
            · rw [if_neg hc24] at h
              refine o_iload_n k190_53 rfl ?_
              refine o_iload k190_54 rfl ?_
              refine o_call k190_56 pj_127 (fun _ => rfl) (by decide) rfl (as := [.int x20, .int x21]) (rest := []) rfl (L0 := [some (.int x20), some (.int x21)]) rfl (t_X8_has (M := M22) (a0 := x20) (a1 := x21) rfl) ?_
              refine o_if_eq k190_59 (fun hc25 => ?_) (fun hc25 => ?_)
              · rw [if_pos hc25] at h
                refine o_iload_n k190_88 rfl ?_
                refine o_iload k190_89 rfl ?_
                refine o_call k190_91 pj_127 (fun _ => rfl) (by decide) rfl (as := [.int x20, .int x21]) (rest := []) rfl (L0 := [some (.int x20), some (.int x21)]) rfl (t_X8_has (M := M22) (a0 := x20) (a1 := x21) rfl) ?_
                refine o_if_eq k190_94 (fun hc26 => ?_) (fun hc26 => ?_)
                · rw [if_pos hc26] at h
                  refine o_iinc (k := (-1)) (L' := [some (.ref 43), some (.int x19), some (.int x12), some (.int x20), some (.int (x21 + (-1)))]) k190_107 rfl (by decide) rfl ?_
                  refine o_goto k190_110 ?_
                  have h9 := Option.some.inj h
                  subst h9
                  exact hK
                · rw [if_neg hc26] at h
                  refine o_iload_n k190_97 rfl ?_
                  refine o_aload_n k190_98 rfl ?_
                  refine o_gf k190_99 (gf_43_23 _) ?_
                  refine o_iload k190_102 rfl ?_
                  obtain ⟨hc27, h⟩ := ck_i h
                  refine o_iald k190_104 rfl ia_50 hc27 ?_
                  refine o_ixor k190_105 ?_
                  refine o_istore_n (v := (x20 ^^^ (M22 50 x21.toNatClampNeg))) (L' := [some (.ref 43), some (.int x19), some (.int x12), some (.int (x20 ^^^ (M22 50 x21.toNatClampNeg))), some (.int x21)]) k190_106 rfl rfl ?_
                  refine o_iinc (k := (-1)) (L' := [some (.ref 43), some (.int x19), some (.int x12), some (.int (x20 ^^^ (M22 50 x21.toNatClampNeg))), some (.int (x21 + (-1)))]) k190_107 rfl (by decide) rfl ?_
                  refine o_goto k190_110 ?_
                  have h9 := Option.some.inj h
                  subst h9
                  exact hK
              · rw [if_neg hc25] at h
                refine o_aload_n k190_62 rfl ?_
                refine o_gf k190_63 (gf_43_23 _) ?_
                refine o_iload k190_66 rfl ?_
                obtain ⟨hc28, h⟩ := ck_i h
                refine o_iald k190_68 rfl ia_50 hc28 ?_
                refine o_if_ne k190_69 (fun hc29 => ?_) (fun hc29 => ?_)
                · rw [if_neg hc29] at h
                  refine o_iload_n k190_88 rfl ?_
                  refine o_iload k190_89 rfl ?_
                  refine o_call k190_91 pj_127 (fun _ => rfl) (by decide) rfl (as := [.int x20, .int x21]) (rest := []) rfl (L0 := [some (.int x20), some (.int x21)]) rfl (t_X8_has (M := M22) (a0 := x20) (a1 := x21) rfl) ?_
                  refine o_if_eq k190_94 (fun hc30 => ?_) (fun hc30 => ?_)
                  · rw [if_pos hc30] at h
                    refine o_iinc (k := (-1)) (L' := [some (.ref 43), some (.int x19), some (.int x12), some (.int x20), some (.int (x21 + (-1)))]) k190_107 rfl (by decide) rfl ?_
                    refine o_goto k190_110 ?_
                    have h9 := Option.some.inj h
                    subst h9
                    exact hK
                  · rw [if_neg hc30] at h
                    refine o_iload_n k190_97 rfl ?_
                    refine o_aload_n k190_98 rfl ?_
                    refine o_gf k190_99 (gf_43_23 _) ?_
                    refine o_iload k190_102 rfl ?_
                    obtain ⟨hc31, h⟩ := ck_i h
                    refine o_iald k190_104 rfl ia_50 hc31 ?_
                    refine o_ixor k190_105 ?_
                    refine o_istore_n (v := (x20 ^^^ (M22 50 x21.toNatClampNeg))) (L' := [some (.ref 43), some (.int x19), some (.int x12), some (.int (x20 ^^^ (M22 50 x21.toNatClampNeg))), some (.int x21)]) k190_106 rfl rfl ?_
                    refine o_iinc (k := (-1)) (L' := [some (.ref 43), some (.int x19), some (.int x12), some (.int (x20 ^^^ (M22 50 x21.toNatClampNeg))), some (.int (x21 + (-1)))]) k190_107 rfl (by decide) rfl ?_
                    refine o_goto k190_110 ?_
                    have h9 := Option.some.inj h
                    subst h9
                    exact hK
                · rw [if_pos hc29] at h
                  refine o_aload_n k190_72 rfl ?_
                  refine o_gf k190_73 (gf_43_23 _) ?_
                  refine o_iload k190_76 rfl ?_
                  refine o_iload_n k190_78 rfl ?_
                  obtain ⟨hc32, h⟩ := ck_i h
                  refine bl_i h (fun M33 eM33 h => ?_)
                  refine o_iast (M' := M33) k190_79 eM33 ia_50 hc32 ?_
                  refine o_iconst (v := 0) k190_80 (by decide) ?_
                  refine o_istore_n (v := 0) (L' := [some (.ref 43), some (.int x19), some (.int x12), some (.int 0), some (.int x21)]) k190_81 rfl rfl ?_
                  refine o_iinc (k := 1) (L' := [some (.ref 43), some (.int (x19 + 1)), some (.int x12), some (.int 0), some (.int x21)]) k190_82 rfl (by decide) rfl ?_
                  refine o_goto k190_85 ?_
                  refine o_iinc (k := (-1)) (L' := [some (.ref 43), some (.int (x19 + 1)), some (.int x12), some (.int 0), some (.int (x21 + (-1)))]) k190_107 rfl (by decide) rfl ?_
                  refine o_goto k190_110 ?_
                  have h9 := Option.some.inj h
                  subst h9
                  exact hK
        · obtain ⟨x35, x36, x37, M38⟩ := s34
          show oo LN xs 0 0 190 113 [some (.ref 43), some (.int x35), some (.int x12), some (.int x36), some (.int x37)] [] M38 (some (.int t.1), t.2)
          dsimp only at h
          refine o_iinc (k := 1) (L' := [some (.ref 43), some (.int x35), some (.int (x12 + 1)), some (.int x36), some (.int x37)]) k190_113 rfl (by decide) rfl ?_
          refine o_goto k190_116 ?_
          have h9 := Option.some.inj h
          subst h9
          exact hK (some (.inl x36)) (some (.inl x37))
    · obtain ⟨x40, x41, M42⟩ := s39
      show ∀ (d43 d44 : Option (Int32 ⊕ Int64)), oo LN xs 0 0 190 119 [some (.ref 43), some (.int x40), some (.int x41), (d43.map dv), (d44.map dv)] [] M42 (some (.int t.1), t.2)
      dsimp only at h
      intro d43 d44
      refine o_iload_n k190_119 rfl ?_
      have h9 := Option.some.inj h
      subst h9
      exact o_iret pj_190 k190_120 rfl nr_i
def f_X8_alias_43 (a0 : Int32) (M : am_M) : Option (Int32 × am_M) := (if (f_X8_in a0.toInt64 0 2) = 0 then (some ((-1), M)) else ((f_X8_findEffects_43 M).bind (fun q2 => ((lp (σ := Int32 × Int32) (ρ := Int32 × Int32) (fun (s3 : Int32 × Int32) => match s3 with | (x4, x5) => (if (q2 43 22) ≤ x5 then (some (.inr (x4, x5))) else (bl (fun (v12 : Int32) => (((lp (σ := Int32 × Int32) (ρ := Int32 × Int32) (fun (s13 : Int32 × Int32) => match s13 with | (x14, x15) => (if x5 ≤ x15 then (some (.inr (x14, x15))) else (if a0 = 2 then (if am_dbin x15 64 = true then (if am_dbin x5 64 = true then (bl (if (q2 49 x15.toNatClampNeg) = (q2 49 x5.toNatClampNeg) then 1 else 0) (fun (v21 : Int32) => (some (.inl ((x14 + (f_X8_flag v21)), (x15 + 1)))))) else none) else none) else (some (.inr (x14, x15)))))) lp_F (v12, 0)).bind (fun (s22 : Int32 × Int32) => match s22 with | (x23, x24) => (some (.inl (x23, (x5 + 1)))))) : Option ((Int32 × Int32) ⊕ (Int32 × Int32)))) (fun (j25 : Int32 → Option ((Int32 × Int32) ⊕ (Int32 × Int32))) => (if a0 = 1 then (if am_dbin x5 64 = true then (bl (if (q2 49 x5.toNatClampNeg) = 0 then 1 else 0) (fun (v11 : Int32) => (j25 (x4 + (f_X8_flag v11))))) else none) else (j25 x4)))))) lp_F (0, 0)).bind (fun (s26 : Int32 × Int32) => match s26 with | (x27, x28) => (if a0 = 0 then ((f_X8_rankOfEffects_43 q2).bind (fun q31 => (some (((q2 43 22) - q31.1), q31.2)))) else (some (x27, q2))))))))
set_option maxRecDepth 20000 in
theorem t_X8_alias_43 {LN : Nat} {xs : Nat → Int32} {a0 : Int32} {M : am_M} {t : Int32 × am_M} (h : f_X8_alias_43 a0 M = some t) : oo LN xs 0 0 191 0 [some (.ref 43), some (.int a0), none, none, none] [] M (some (.int t.1), t.2) := by
  unfold f_X8_alias_43 at h
  refine o_iload_n k191_0 rfl ?_
  refine o_i2l k191_1 ?_
  refine o_lconst (v := 0) k191_2 (by decide) ?_
  refine o_ldc2_w k191_3 ?_
  refine o_call k191_6 pj_125 (fun _ => rfl) (by decide) rfl (as := [.long a0.toInt64, .long 0, .long 2]) (rest := []) rfl (L0 := [some (.long a0.toInt64), none, some (.long 0), none, some (.long 2), none]) rfl (t_X8_in (M := M) (a0 := a0.toInt64) (a1 := 0) (a2 := 2) rfl) ?_
  refine o_if_ne k191_9 (fun hc1 => ?_) (fun hc1 => ?_)
  · rw [if_neg hc1] at h
    refine o_aload_n k191_14 rfl ?_
    refine bd_i h (fun q2 hq2 h => ?_)
    refine o_call k191_15 pj_189 (fun _ => rfl) (by decide) rfl (as := [.ref 43]) (rest := []) rfl (L0 := [some (.ref 43), none, none, none, none]) rfl (t_X8_findEffects_43 hq2) ?_
    refine o_iconst (v := 0) k191_18 (by decide) ?_
    refine o_istore_n (v := 0) (L' := [some (.ref 43), some (.int a0), some (.int 0), none, none]) k191_19 rfl rfl ?_
    refine o_iconst (v := 0) k191_20 (by decide) ?_
    refine o_istore_n (v := 0) (L' := [some (.ref 43), some (.int a0), some (.int 0), some (.int 0), none]) k191_21 rfl rfl ?_
    refine bd_i h (fun s26 hs26 h => ?_)
    refine lp_o (fun (s3 : Int32 × Int32) => match s3 with | (x4, x5) => ∀ (d6 : Option (Int32 ⊕ Int64)), oo LN xs 0 0 191 22 [some (.ref 43), some (.int a0), some (.int x4), some (.int x5), (d6.map dv)] [] q2 (some (.int t.1), t.2)) (fun (s26 : Int32 × Int32) => match s26 with | (x27, x28) => ∀ (d29 : Option (Int32 ⊕ Int64)), oo LN xs 0 0 191 108 [some (.ref 43), some (.int a0), some (.int x27), some (.int x28), (d29.map dv)] [] q2 (some (.int t.1), t.2)) ?_ hs26 ?_ none
    · rintro ⟨x4, x5⟩ ws3 h hK
      dsimp only at h
      show ∀ (d6 : Option (Int32 ⊕ Int64)), oo LN xs 0 0 191 22 [some (.ref 43), some (.int a0), some (.int x4), some (.int x5), (d6.map dv)] [] q2 (some (.int t.1), t.2)
      intro d6
      refine o_iload_n k191_22 rfl ?_
      refine o_aload_n k191_23 rfl ?_
      refine o_gf k191_24 (gf_43_22 _) ?_
      refine o_icmp_ge k191_27 (fun hc7 => ?_) (fun hc7 => ?_)
      · rw [if_pos hc7] at h
        have h9 := Option.some.inj h
        subst h9
        exact hK d6
      · rw [if_neg hc7] at h
        refine o_iload_n k191_30 rfl ?_
        refine o_iconst (v := 1) k191_31 (by decide) ?_
        refine bl_i h (fun j25 ej25 h => ?_)
        have hJ55 : ∀ (v12 : Int32), j25 v12 = some ws3 → oo LN xs 0 0 191 55 [some (.ref 43), some (.int a0), some (.int v12), some (.int x5), (d6.map dv)] [] q2 (some (.int t.1), t.2) := by
          intro v12 h
          rw [ej25] at h
          dsimp only at h
          refine o_iconst (v := 0) k191_55 (by decide) ?_
          refine o_istore (v := 0) (L' := [some (.ref 43), some (.int a0), some (.int v12), some (.int x5), some (.int 0)]) k191_56 rfl rfl ?_
          refine bd_i h (fun s22 hs22 h => ?_)
          refine lp_o (fun (s13 : Int32 × Int32) => match s13 with | (x14, x15) => oo LN xs 0 0 191 58 [some (.ref 43), some (.int a0), some (.int x14), some (.int x5), some (.int x15)] [] q2 (some (.int t.1), t.2)) (fun (s22 : Int32 × Int32) => match s22 with | (x23, x24) => oo LN xs 0 0 191 102 [some (.ref 43), some (.int a0), some (.int x23), some (.int x5), some (.int x24)] [] q2 (some (.int t.1), t.2)) ?_ hs22 ?_
          · rintro ⟨x14, x15⟩ ws13 h hK
            dsimp only at h
            show oo LN xs 0 0 191 58 [some (.ref 43), some (.int a0), some (.int x14), some (.int x5), some (.int x15)] [] q2 (some (.int t.1), t.2)
            refine o_iload k191_58 rfl ?_
            refine o_iload_n k191_60 rfl ?_
            refine o_icmp_ge k191_61 (fun hc16 => ?_) (fun hc16 => ?_)
            · rw [if_pos hc16] at h
              have h9 := Option.some.inj h
              subst h9
              exact hK
            · rw [if_neg hc16] at h
              refine o_iload_n k191_64 rfl ?_
              refine o_iconst (v := 2) k191_65 (by decide) ?_
              refine o_icmp_ne k191_66 (fun hc17 => ?_) (fun hc17 => ?_)
              · rw [if_neg hc17] at h
                have h9 := Option.some.inj h
                subst h9
                exact hK
              · rw [if_pos hc17] at h
                refine o_iload_n k191_69 rfl ?_
                refine o_aload_n k191_70 rfl ?_
                refine o_gf k191_71 (gf_43_21 _) ?_
                refine o_iload k191_74 rfl ?_
                obtain ⟨hc18, h⟩ := ck_i h
                refine o_iald k191_76 rfl ia_49 hc18 ?_
                refine o_aload_n k191_77 rfl ?_
                refine o_gf k191_78 (gf_43_21 _) ?_
                refine o_iload_n k191_81 rfl ?_
                obtain ⟨hc19, h⟩ := ck_i h
                refine o_iald k191_82 rfl ia_49 hc19 ?_
                refine bl_i h (fun v21 ev21 h => ?_)
                have hJ91 : ∀ (yv21 : Int32), yv21 = v21 → oo LN xs 0 0 191 91 [some (.ref 43), some (.int a0), some (.int x14), some (.int x5), some (.int x15)] [.int yv21, .int x14] q2 (some (.int t.1), t.2) := by
                  intro yv21 hyv21
                  rw [hyv21]
                  refine o_call k191_91 pj_126 (fun _ => rfl) (by decide) rfl (as := [.int v21]) (rest := [.int x14]) rfl (L0 := [some (.int v21)]) rfl (t_X8_flag (M := q2) (a0 := v21) rfl) ?_
                  refine o_iadd k191_94 ?_
                  refine o_istore_n (v := (x14 + (f_X8_flag v21))) (L' := [some (.ref 43), some (.int a0), some (.int (x14 + (f_X8_flag v21))), some (.int x5), some (.int x15)]) k191_95 rfl rfl ?_
                  refine o_iinc (k := 1) (L' := [some (.ref 43), some (.int a0), some (.int (x14 + (f_X8_flag v21))), some (.int x5), some (.int (x15 + 1))]) k191_96 rfl (by decide) rfl ?_
                  refine o_goto k191_99 ?_
                  have h9 := Option.some.inj h
                  subst h9
                  exact hK
                refine o_icmp_ne k191_83 (fun hc20 => ?_) (fun hc20 => ?_)
                · skip
                  refine o_iconst (v := 0) k191_90 (by decide) ?_
                  exact hJ91 _ (by simp only [ev21, if_neg hc20])
                · skip
                  refine o_iconst (v := 1) k191_86 (by decide) ?_
                  refine o_goto k191_87 ?_
                  exact hJ91 _ (by simp only [ev21, if_pos hc20])
          · obtain ⟨x23, x24⟩ := s22
            show oo LN xs 0 0 191 102 [some (.ref 43), some (.int a0), some (.int x23), some (.int x5), some (.int x24)] [] q2 (some (.int t.1), t.2)
            dsimp only at h
            refine o_iinc (k := 1) (L' := [some (.ref 43), some (.int a0), some (.int x23), some (.int (x5 + 1)), some (.int x24)]) k191_102 rfl (by decide) rfl ?_
            refine o_goto k191_105 ?_
            have h9 := Option.some.inj h
            subst h9
            exact hK (some (.inl x24))
        refine o_icmp_ne k191_32 (fun hc8 => ?_) (fun hc8 => ?_)
        · rw [if_neg hc8] at h
          exact hJ55 _ h
        · rw [if_pos hc8] at h
          refine o_iload_n k191_35 rfl ?_
          refine o_aload_n k191_36 rfl ?_
          refine o_gf k191_37 (gf_43_21 _) ?_
          refine o_iload_n k191_40 rfl ?_
          obtain ⟨hc9, h⟩ := ck_i h
          refine o_iald k191_41 rfl ia_49 hc9 ?_
          refine bl_i h (fun v11 ev11 h => ?_)
          have hJ50 : ∀ (yv11 : Int32), yv11 = v11 → oo LN xs 0 0 191 50 [some (.ref 43), some (.int a0), some (.int x4), some (.int x5), (d6.map dv)] [.int yv11, .int x4] q2 (some (.int t.1), t.2) := by
            intro yv11 hyv11
            rw [hyv11]
            refine o_call k191_50 pj_126 (fun _ => rfl) (by decide) (by rcases d6 with _ | (x | x) <;> rfl) (as := [.int v11]) (rest := [.int x4]) rfl (L0 := [some (.int v11)]) rfl (t_X8_flag (M := q2) (a0 := v11) rfl) ?_
            refine o_iadd k191_53 ?_
            refine o_istore_n (v := (x4 + (f_X8_flag v11))) (L' := [some (.ref 43), some (.int a0), some (.int (x4 + (f_X8_flag v11))), some (.int x5), (d6.map dv)]) k191_54 rfl rfl ?_
            exact hJ55 _ h
          refine o_if_ne k191_42 (fun hc10 => ?_) (fun hc10 => ?_)
          · skip
            refine o_iconst (v := 0) k191_49 (by decide) ?_
            exact hJ50 _ (by simp only [ev11, if_neg hc10])
          · skip
            refine o_iconst (v := 1) k191_45 (by decide) ?_
            refine o_goto k191_46 ?_
            exact hJ50 _ (by simp only [ev11, if_pos hc10])
    · obtain ⟨x27, x28⟩ := s26
      show ∀ (d29 : Option (Int32 ⊕ Int64)), oo LN xs 0 0 191 108 [some (.ref 43), some (.int a0), some (.int x27), some (.int x28), (d29.map dv)] [] q2 (some (.int t.1), t.2)
      dsimp only at h
      intro d29
      refine o_iload_n k191_108 rfl ?_
      refine o_if_ne k191_109 (fun hc30 => ?_) (fun hc30 => ?_)
      · rw [if_neg hc30] at h
        refine o_iload_n k191_124 rfl ?_
        have h9 := Option.some.inj h
        subst h9
        exact o_iret pj_191 k191_125 rfl nr_i
      · rw [if_pos hc30] at h
        refine o_aload_n k191_112 rfl ?_
        refine o_gf k191_113 (gf_43_22 _) ?_
        refine o_aload_n k191_116 rfl ?_
        refine bd_i h (fun q31 hq31 h => ?_)
        refine o_call k191_117 pj_190 (fun _ => rfl) (by decide) (by rcases d29 with _ | (x | x) <;> rfl) (as := [.ref 43]) (rest := [.int (q2 43 22)]) rfl (L0 := [some (.ref 43), none, none, none, none]) rfl (t_X8_rankOfEffects_43 hq31) ?_
        refine o_isub k191_120 ?_
        refine o_goto k191_121 ?_
        have h9 := Option.some.inj h
        subst h9
        exact o_iret pj_191 k191_125 rfl nr_i
  · rw [if_pos hc1] at h
    refine o_iconst (v := (-1)) k191_12 (by decide) ?_
    have h9 := Option.some.inj h
    subst h9
    exact o_iret pj_191 k191_13 rfl nr_i
def f_X7_suspects_0 (a0 : Int32) (M : am_M) : Option Int32 := (if (f_X0_hasChain_9 a0 M) = 0 then (some (-1)) else (if am_dbin a0 8 = true then (some (M 13 a0.toNatClampNeg)) else none))
set_option maxRecDepth 20000 in
theorem t_X7_suspects_0 {LN : Nat} {xs : Nat → Int32} {a0 : Int32} {M : am_M} {t : Int32} (h : f_X7_suspects_0 a0 M = some t) : oo LN xs 0 0 108 0 [some (.ref 0), some (.int a0)] [] M (some (.int t), M) := by
  unfold f_X7_suspects_0 at h
  refine o_aload_n k108_0 rfl ?_
  refine o_gf k108_1 (gf_0_2 _) ?_
  refine o_iload_n k108_4 rfl ?_
  refine o_call k108_5 pj_7 (fun _ => rfl) (by decide) rfl (as := [.ref 9, .int a0]) (rest := []) rfl (L0 := [some (.ref 9), some (.int a0)]) rfl (t_X0_hasChain_9 (M := M) (a0 := a0) rfl) ?_
  refine o_if_eq k108_8 (fun hc1 => ?_) (fun hc1 => ?_)
  · rw [if_pos hc1] at h
    refine o_iconst (v := (-1)) k108_23 (by decide) ?_
    have h9 := Option.some.inj h
    subst h9
    exact o_iret pj_108 k108_24 rfl nr_i
  · rw [if_neg hc1] at h
    refine o_aload_n k108_11 rfl ?_
    refine o_gf k108_12 (gf_0_2 _) ?_
    refine o_gf k108_15 (gf_9_10 _) ?_
    refine o_iload_n k108_18 rfl ?_
    obtain ⟨hc2, h⟩ := ck_i h
    refine o_iald k108_19 rfl ia_13 hc2 ?_
    refine o_goto k108_20 ?_
    have h9 := Option.some.inj h
    subst h9
    exact o_iret pj_108 k108_24 rfl nr_i
def f_X8_suspects_43 (a0 : Int32) (M : am_M) : Option Int32 := ((f_X8_isChain_43 a0 M).bind (fun v1 => (if v1 = 0 then (some (-1)) else (if am_dbin ((143 : Int32) + a0) 151 = true then (some (M 44 ((143 : Int32) + a0).toNatClampNeg)) else none))))
set_option maxRecDepth 20000 in
theorem t_X8_suspects_43 {LN : Nat} {xs : Nat → Int32} {a0 : Int32} {M : am_M} {t : Int32} (h : f_X8_suspects_43 a0 M = some t) : oo LN xs 0 0 192 0 [some (.ref 43), some (.int a0)] [] M (some (.int t), M) := by
  unfold f_X8_suspects_43 at h
  refine o_aload_n k192_0 rfl ?_
  refine o_iload_n k192_1 rfl ?_
  refine bd_i h (fun v1 hv1 h => ?_)
  refine o_call k192_2 pj_151 (fun _ => rfl) (by decide) rfl (as := [.ref 43, .int a0]) (rest := []) rfl (L0 := [some (.ref 43), some (.int a0)]) rfl (t_X8_isChain_43 hv1) ?_
  refine o_if_eq k192_5 (fun hc2 => ?_) (fun hc2 => ?_)
  · rw [if_pos hc2] at h
    refine o_iconst (v := (-1)) k192_21 (by decide) ?_
    have h9 := Option.some.inj h
    subst h9
    exact o_iret pj_192 k192_22 rfl nr_i
  · rw [if_neg hc2] at h
    refine o_aload_n k192_8 rfl ?_
    refine o_gf k192_9 (gf_43_0 _) ?_
    refine o_sipush (v := 143) k192_12 (by decide) ?_
    refine o_iload_n k192_15 rfl ?_
    refine o_iadd k192_16 ?_
    obtain ⟨hc3, h⟩ := ck_i h
    refine o_iald k192_17 rfl ia_44 hc3 ?_
    refine o_goto k192_18 ?_
    have h9 := Option.some.inj h
    subst h9
    exact o_iret pj_192 k192_22 rfl nr_i
def f_X0_mayDump_9 (a0 : Int32) (a1 : Int32) (a2 : Int32) (a3 : Int32) (M : am_M) : Option Int32 := ((lp (σ := Int32) (ρ := (Int32) ⊕ (Int32)) (fun x2 => (if (M 9 1) ≤ x2 then (some (.inr (.inr x2))) else (bl (fun (v7 : Int32) => ((if v7 = 2 then (some (.inl (x2 + 1))) else (if v7 = ((a1 >>> (x2 &&& 31)) &&& 1) then (some (.inl (x2 + 1))) else (some (.inr (.inl 0))))) : Option ((Int32) ⊕ ((Int32) ⊕ (Int32))))) (fun (j10 : Int32 → Option ((Int32) ⊕ ((Int32) ⊕ (Int32)))) => (if a2 ≤ x2 then (j10 a3) else (if am_dbin (f_X0_at a0 x2) 64 = true then (j10 (M 10 (f_X0_at a0 x2).toNatClampNeg)) else none)))))) lp_F 0).bind (fun os11 => Sum.elim (fun u => (some u)) (fun x12 => (some 1)) os11))
set_option maxRecDepth 20000 in
theorem t_X0_mayDump_9 {LN : Nat} {xs : Nat → Int32} {a0 : Int32} {a1 : Int32} {a2 : Int32} {a3 : Int32} {M : am_M} {t : Int32} (h : f_X0_mayDump_9 a0 a1 a2 a3 M = some t) : oo LN xs 0 0 29 0 [some (.ref 9), some (.int a0), some (.int a1), some (.int a2), some (.int a3), none, none] [] M (some (.int t), M) := by
  unfold f_X0_mayDump_9 at h
  refine o_iconst (v := 0) k29_0 (by decide) ?_
  refine o_istore (v := 0) (L' := [some (.ref 9), some (.int a0), some (.int a1), some (.int a2), some (.int a3), some (.int 0), none]) k29_1 rfl rfl ?_
  refine bd_i h (fun Os11 hOs11 h => ?_)
  refine lp_o (fun x2 => ∀ (d3 : Option (Int32 ⊕ Int64)), oo LN xs 0 0 29 3 [some (.ref 9), some (.int a0), some (.int a1), some (.int a2), some (.int a3), some (.int x2), (d3.map dv)] [] M (some (.int t), M)) (fun oq => Sum.elim (fun u => u = t) (fun x12 => ∀ (d13 : Option (Int32 ⊕ Int64)), oo LN xs 0 0 29 61 [some (.ref 9), some (.int a0), some (.int a1), some (.int a2), some (.int a3), some (.int x12), (d13.map dv)] [] M (some (.int t), M)) oq) ?_ hOs11 ?_ none
  · rintro x2 ws1 h hK
    show ∀ (d3 : Option (Int32 ⊕ Int64)), oo LN xs 0 0 29 3 [some (.ref 9), some (.int a0), some (.int a1), some (.int a2), some (.int a3), some (.int x2), (d3.map dv)] [] M (some (.int t), M)
    intro d3
    refine o_iload k29_3 rfl ?_
    refine o_aload_n k29_5 rfl ?_
    refine o_gf k29_6 (gf_9_1 _) ?_
    refine o_icmp_ge k29_9 (fun hc4 => ?_) (fun hc4 => ?_)
    · rw [if_pos hc4] at h
      have h9 := Option.some.inj h
      subst h9
      exact hK d3
    · rw [if_neg hc4] at h
      refine o_iload k29_12 rfl ?_
      refine o_iload_n k29_14 rfl ?_
      refine bl_i h (fun j10 ej10 h => ?_)
      have hJ34 : ∀ (v7 : Int32), j10 v7 = some ws1 → oo LN xs 0 0 29 34 [some (.ref 9), some (.int a0), some (.int a1), some (.int a2), some (.int a3), some (.int x2), (d3.map dv)] [.int v7] M (some (.int t), M) := by
        intro v7 h
        rw [ej10] at h
        dsimp only at h
        refine o_istore (v := v7) (L' := [some (.ref 9), some (.int a0), some (.int a1), some (.int a2), some (.int a3), some (.int x2), some (.int v7)]) k29_34 rfl rfl ?_
        refine o_iload k29_36 rfl ?_
        refine o_iconst (v := 2) k29_38 (by decide) ?_
        refine o_icmp_eq k29_39 (fun hc8 => ?_) (fun hc8 => ?_)
        · rw [if_pos hc8] at h
          refine o_iinc (k := 1) (L' := [some (.ref 9), some (.int a0), some (.int a1), some (.int a2), some (.int a3), some (.int (x2 + 1)), some (.int v7)]) k29_55 rfl (by decide) rfl ?_
          refine o_goto k29_58 ?_
          have h9 := Option.some.inj h
          subst h9
          exact hK (some (.inl v7))
        · rw [if_neg hc8] at h
          refine o_iload k29_42 rfl ?_
          refine o_iload_n k29_44 rfl ?_
          refine o_iload k29_45 rfl ?_
          refine o_ishr k29_47 ?_
          refine o_iconst (v := 1) k29_48 (by decide) ?_
          refine o_iand k29_49 ?_
          refine o_icmp_eq k29_50 (fun hc9 => ?_) (fun hc9 => ?_)
          · rw [if_pos hc9] at h
            refine o_iinc (k := 1) (L' := [some (.ref 9), some (.int a0), some (.int a1), some (.int a2), some (.int a3), some (.int (x2 + 1)), some (.int v7)]) k29_55 rfl (by decide) rfl ?_
            refine o_goto k29_58 ?_
            have h9 := Option.some.inj h
            subst h9
            exact hK (some (.inl v7))
          · rw [if_neg hc9] at h
            refine o_iconst (v := 0) k29_53 (by decide) ?_
            have h9 := Option.some.inj h
            subst h9
            have hK2 : 0 = t := hK
            subst hK2
            exact o_iret pj_29 k29_54 rfl (nr_z (by decide))
      refine o_icmp_ge k29_15 (fun hc5 => ?_) (fun hc5 => ?_)
      · rw [if_pos hc5] at h
        refine o_iload k29_32 rfl ?_
        exact hJ34 _ h
      · rw [if_neg hc5] at h
        refine o_aload_n k29_18 rfl ?_
        refine o_gf k29_19 (gf_9_7 _) ?_
        refine o_iload_n k29_22 rfl ?_
        refine o_iload k29_23 rfl ?_
        refine o_call k29_25 pj_5 (fun _ => rfl) (by decide) (by rcases d3 with _ | (x | x) <;> rfl) (as := [.int a0, .int x2]) (rest := [.ref 10]) rfl (L0 := [some (.int a0), some (.int x2)]) rfl (t_X0_at (M := M) (a0 := a0) (a1 := x2) rfl) ?_
        obtain ⟨hc6, h⟩ := ck_i h
        refine o_iald k29_28 rfl ia_10 hc6 ?_
        refine o_goto k29_29 ?_
        exact hJ34 _ h
  · rcases Os11 with u | x12
    · exact Option.some.inj h
    · show ∀ (d13 : Option (Int32 ⊕ Int64)), oo LN xs 0 0 29 61 [some (.ref 9), some (.int a0), some (.int a1), some (.int a2), some (.int a3), some (.int x12), (d13.map dv)] [] M (some (.int t), M)
      rw [el_r] at h
      intro d13
      refine o_iconst (v := 1) k29_61 (by decide) ?_
      have h9 := Option.some.inj h
      subst h9
      exact o_iret pj_29 k29_62 rfl (nr_z (by decide))
