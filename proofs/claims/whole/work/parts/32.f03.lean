/-! FUNCTIONS, on -/
def f_X8_cell_43 (a0 : Int32) (a1 : Int32) (a2 : Int32) (M : am_M) : Option Int32 := ((f_X8_isCell_43 a0 a1 M).bind (fun v1 => (if v1 = 0 then (some (-1)) else (if (f_X8_in a2.toInt64 0 2) = 0 then (some (-1)) else (if a2 = 0 then ((f_X8_cellOf_43 a0 a1 M).bind (fun v8 => (some v8))) else (if a2 = 1 then (if am_dbin (((71 : Int32) + ((8 : Int32) * a0)) + a1) 151 = true then (some (M 44 (((71 : Int32) + ((8 : Int32) * a0)) + a1).toNatClampNeg)) else none) else ((f_X8_isWatched_43 a0 a1 M).bind (fun v6 => (some (f_X8_flag v6))))))))))
set_option maxRecDepth 20000 in
theorem t_X8_cell_43 {LN : Nat} {xs : Nat → Int32} {a0 : Int32} {a1 : Int32} {a2 : Int32} {M : am_M} {t : Int32} (h : f_X8_cell_43 a0 a1 a2 M = some t) : oo LN xs 0 0 159 0 [some (.ref 43), some (.int a0), some (.int a1), some (.int a2)] [] M (some (.int t), M) := by
  unfold f_X8_cell_43 at h
  refine o_aload_n k159_0 rfl ?_
  refine o_iload_n k159_1 rfl ?_
  refine o_iload_n k159_2 rfl ?_
  refine bd_i h (fun v1 hv1 h => ?_)
  refine o_call k159_3 pj_152 (fun _ => rfl) (by decide) rfl (as := [.ref 43, .int a0, .int a1]) (rest := []) rfl (L0 := [some (.ref 43), some (.int a0), some (.int a1)]) rfl (t_X8_isCell_43 hv1) ?_
  refine o_if_eq k159_6 (fun hc2 => ?_) (fun hc2 => ?_)
  · rw [if_pos hc2] at h
    refine o_iconst (v := (-1)) k159_21 (by decide) ?_
    have h9 := Option.some.inj h
    subst h9
    exact o_iret pj_159 k159_22 rfl nr_i
  · rw [if_neg hc2] at h
    refine o_iload_n k159_9 rfl ?_
    refine o_i2l k159_10 ?_
    refine o_lconst (v := 0) k159_11 (by decide) ?_
    refine o_ldc2_w k159_12 ?_
    refine o_call k159_15 pj_125 (fun _ => rfl) (by decide) rfl (as := [.long a2.toInt64, .long 0, .long 2]) (rest := []) rfl (L0 := [some (.long a2.toInt64), none, some (.long 0), none, some (.long 2), none]) rfl (t_X8_in (M := M) (a0 := a2.toInt64) (a1 := 0) (a2 := 2) rfl) ?_
    refine o_if_ne k159_18 (fun hc3 => ?_) (fun hc3 => ?_)
    · rw [if_neg hc3] at h
      refine o_iload_n k159_23 rfl ?_
      refine o_if_ne k159_24 (fun hc4 => ?_) (fun hc4 => ?_)
      · rw [if_neg hc4] at h
        refine o_iload_n k159_36 rfl ?_
        refine o_iconst (v := 1) k159_37 (by decide) ?_
        refine o_icmp_ne k159_38 (fun hc5 => ?_) (fun hc5 => ?_)
        · rw [if_neg hc5] at h
          refine o_aload_n k159_58 rfl ?_
          refine o_iload_n k159_59 rfl ?_
          refine o_iload_n k159_60 rfl ?_
          refine bd_i h (fun v6 hv6 h => ?_)
          refine o_call k159_61 pj_156 (fun _ => rfl) (by decide) rfl (as := [.ref 43, .int a0, .int a1]) (rest := []) rfl (L0 := [some (.ref 43), some (.int a0), some (.int a1), none, none]) rfl (t_X8_isWatched_43 hv6) ?_
          refine o_call k159_64 pj_126 (fun _ => rfl) (by decide) rfl (as := [.int v6]) (rest := []) rfl (L0 := [some (.int v6)]) rfl (t_X8_flag (M := M) (a0 := v6) rfl) ?_
          have h9 := Option.some.inj h
          subst h9
          exact o_iret pj_159 k159_67 rfl nr_i
        · rw [if_pos hc5] at h
          refine o_aload_n k159_41 rfl ?_
          refine o_gf k159_42 (gf_43_0 _) ?_
          refine o_bipush (v := 71) k159_45 (by decide) ?_
          refine o_bipush (v := 8) k159_47 (by decide) ?_
          refine o_iload_n k159_49 rfl ?_
          refine o_imul k159_50 ?_
          refine o_iadd k159_51 ?_
          refine o_iload_n k159_52 rfl ?_
          refine o_iadd k159_53 ?_
          obtain ⟨hc7, h⟩ := ck_i h
          refine o_iald k159_54 rfl ia_44 hc7 ?_
          refine o_goto k159_55 ?_
          have h9 := Option.some.inj h
          subst h9
          exact o_iret pj_159 k159_67 rfl nr_i
      · rw [if_pos hc4] at h
        refine o_aload_n k159_27 rfl ?_
        refine o_iload_n k159_28 rfl ?_
        refine o_iload_n k159_29 rfl ?_
        refine bd_i h (fun v8 hv8 h => ?_)
        refine o_call k159_30 pj_154 (fun _ => rfl) (by decide) rfl (as := [.ref 43, .int a0, .int a1]) (rest := []) rfl (L0 := [some (.ref 43), some (.int a0), some (.int a1)]) rfl (t_X8_cellOf_43 hv8) ?_
        refine o_goto k159_33 ?_
        have h9 := Option.some.inj h
        subst h9
        exact o_iret pj_159 k159_67 rfl nr_i
    · rw [if_pos hc3] at h
      refine o_iconst (v := (-1)) k159_21 (by decide) ?_
      have h9 := Option.some.inj h
      subst h9
      exact o_iret pj_159 k159_22 rfl nr_i
def f_X7_column_0 (a0 : Int32) (M : am_M) : Option Int32 := (if (f_X0_hasChain_9 a0 M) = 0 then (some (-1)) else (if am_dbin a0 8 = true then (some (M 12 a0.toNatClampNeg)) else none))
set_option maxRecDepth 20000 in
theorem t_X7_column_0 {LN : Nat} {xs : Nat → Int32} {a0 : Int32} {M : am_M} {t : Int32} (h : f_X7_column_0 a0 M = some t) : oo LN xs 0 0 88 0 [some (.ref 0), some (.int a0)] [] M (some (.int t), M) := by
  unfold f_X7_column_0 at h
  refine o_aload_n k88_0 rfl ?_
  refine o_gf k88_1 (gf_0_2 _) ?_
  refine o_iload_n k88_4 rfl ?_
  refine o_call k88_5 pj_7 (fun _ => rfl) (by decide) rfl (as := [.ref 9, .int a0]) (rest := []) rfl (L0 := [some (.ref 9), some (.int a0)]) rfl (t_X0_hasChain_9 (M := M) (a0 := a0) rfl) ?_
  refine o_if_eq k88_8 (fun hc1 => ?_) (fun hc1 => ?_)
  · rw [if_pos hc1] at h
    refine o_iconst (v := (-1)) k88_23 (by decide) ?_
    have h9 := Option.some.inj h
    subst h9
    exact o_iret pj_88 k88_24 rfl nr_i
  · rw [if_neg hc1] at h
    refine o_aload_n k88_11 rfl ?_
    refine o_gf k88_12 (gf_0_2 _) ?_
    refine o_gf k88_15 (gf_9_9 _) ?_
    refine o_iload_n k88_18 rfl ?_
    obtain ⟨hc2, h⟩ := ck_i h
    refine o_iald k88_19 rfl ia_12 hc2 ?_
    refine o_goto k88_20 ?_
    have h9 := Option.some.inj h
    subst h9
    exact o_iret pj_88 k88_24 rfl nr_i
def f_X8_column_43 (a0 : Int32) (M : am_M) : Option Int32 := ((f_X8_isChain_43 a0 M).bind (fun v1 => (if v1 = 0 then (some (-1)) else (if am_dbin ((135 : Int32) + a0) 151 = true then (some (M 44 ((135 : Int32) + a0).toNatClampNeg)) else none))))
set_option maxRecDepth 20000 in
theorem t_X8_column_43 {LN : Nat} {xs : Nat → Int32} {a0 : Int32} {M : am_M} {t : Int32} (h : f_X8_column_43 a0 M = some t) : oo LN xs 0 0 160 0 [some (.ref 43), some (.int a0)] [] M (some (.int t), M) := by
  unfold f_X8_column_43 at h
  refine o_aload_n k160_0 rfl ?_
  refine o_iload_n k160_1 rfl ?_
  refine bd_i h (fun v1 hv1 h => ?_)
  refine o_call k160_2 pj_151 (fun _ => rfl) (by decide) rfl (as := [.ref 43, .int a0]) (rest := []) rfl (L0 := [some (.ref 43), some (.int a0)]) rfl (t_X8_isChain_43 hv1) ?_
  refine o_if_eq k160_5 (fun hc2 => ?_) (fun hc2 => ?_)
  · rw [if_pos hc2] at h
    refine o_iconst (v := (-1)) k160_21 (by decide) ?_
    have h9 := Option.some.inj h
    subst h9
    exact o_iret pj_160 k160_22 rfl nr_i
  · rw [if_neg hc2] at h
    refine o_aload_n k160_8 rfl ?_
    refine o_gf k160_9 (gf_43_0 _) ?_
    refine o_sipush (v := 135) k160_12 (by decide) ?_
    refine o_iload_n k160_15 rfl ?_
    refine o_iadd k160_16 ?_
    obtain ⟨hc3, h⟩ := ck_i h
    refine o_iald k160_17 rfl ia_44 hc3 ?_
    refine o_goto k160_18 ?_
    have h9 := Option.some.inj h
    subst h9
    exact o_iret pj_160 k160_22 rfl nr_i
def f_X0_seenAt_9 (a0 : Int32) (a1 : Int32) (M : am_M) : Option Int32 := ((lp (σ := Int32 × Int32) (ρ := (Int32) ⊕ (Int32 × Int32)) (fun (s1 : Int32 × Int32) => match s1 with | (x2, x3) => (if (M 9 0) ≤ x3 then (some (.inr (.inr (x2, x3)))) else (if (f_X0_isIn x3 (M 9 3)) = 0 then (if am_dbin x3 8 = true then (if (f_X0_isIn a1 (M 12 x3.toNatClampNeg)) = 0 then (some (.inl (x2, (x3 + 1)))) else (if am_dbin (f_X0_at x3 a0) 64 = true then (if (M 10 (f_X0_at x3 a0).toNatClampNeg) = 2 then (some (.inr (.inl 2))) else (some (.inl ((x2 ^^^ (M 10 (f_X0_at x3 a0).toNatClampNeg)), (x3 + 1))))) else none)) else none) else (some (.inl (x2, (x3 + 1))))))) lp_F (0, 0)).bind (fun os11 => Sum.elim (fun u => (some u)) (fun (s11 : Int32 × Int32) => match s11 with | (x12, x13) => (some x12)) os11))
set_option maxRecDepth 20000 in
theorem t_X0_seenAt_9 {LN : Nat} {xs : Nat → Int32} {a0 : Int32} {a1 : Int32} {M : am_M} {t : Int32} (h : f_X0_seenAt_9 a0 a1 M = some t) : oo LN xs 0 0 16 0 [some (.ref 9), some (.int a0), some (.int a1), none, none, none] [] M (some (.int t), M) := by
  unfold f_X0_seenAt_9 at h
  refine o_iconst (v := 0) k16_0 (by decide) ?_
  refine o_istore_n (v := 0) (L' := [some (.ref 9), some (.int a0), some (.int a1), some (.int 0), none, none]) k16_1 rfl rfl ?_
  refine o_iconst (v := 0) k16_2 (by decide) ?_
  refine o_istore (v := 0) (L' := [some (.ref 9), some (.int a0), some (.int a1), some (.int 0), some (.int 0), none]) k16_3 rfl rfl ?_
  refine bd_i h (fun Os11 hOs11 h => ?_)
  refine lp_o (fun (s1 : Int32 × Int32) => match s1 with | (x2, x3) => ∀ (d4 : Option (Int32 ⊕ Int64)), oo LN xs 0 0 16 5 [some (.ref 9), some (.int a0), some (.int a1), some (.int x2), some (.int x3), (d4.map dv)] [] M (some (.int t), M)) (fun oq => Sum.elim (fun u => u = t) (fun (s11 : Int32 × Int32) => match s11 with | (x12, x13) => ∀ (d14 : Option (Int32 ⊕ Int64)), oo LN xs 0 0 16 72 [some (.ref 9), some (.int a0), some (.int a1), some (.int x12), some (.int x13), (d14.map dv)] [] M (some (.int t), M)) oq) ?_ hOs11 ?_ none
  · rintro ⟨x2, x3⟩ ws1 h hK
    dsimp only at h
    show ∀ (d4 : Option (Int32 ⊕ Int64)), oo LN xs 0 0 16 5 [some (.ref 9), some (.int a0), some (.int a1), some (.int x2), some (.int x3), (d4.map dv)] [] M (some (.int t), M)
    intro d4
    refine o_iload k16_5 rfl ?_
    refine o_aload_n k16_7 rfl ?_
    refine o_gf k16_8 (gf_9_0 _) ?_
    refine o_icmp_ge k16_11 (fun hc5 => ?_) (fun hc5 => ?_)
    · rw [if_pos hc5] at h
      have h9 := Option.some.inj h
      subst h9
      exact hK d4
    · rw [if_neg hc5] at h
      refine o_iload k16_14 rfl ?_
      refine o_aload_n k16_16 rfl ?_
      refine o_gf k16_17 (gf_9_3 _) ?_
      refine o_call k16_20 pj_6 (fun _ => rfl) (by decide) (by rcases d4 with _ | (x | x) <;> rfl) (as := [.int x3, .int (M 9 3)]) (rest := []) rfl (L0 := [some (.int x3), some (.int (M 9 3))]) rfl (t_X0_isIn (M := M) (a0 := x3) (a1 := (M 9 3)) rfl) ?_
      refine o_if_ne k16_23 (fun hc6 => ?_) (fun hc6 => ?_)
      · rw [if_neg hc6] at h
        refine o_iinc (k := 1) (L' := [some (.ref 9), some (.int a0), some (.int a1), some (.int x2), some (.int (x3 + 1)), (d4.map dv)]) k16_66 rfl (by decide) rfl ?_
        refine o_goto k16_69 ?_
        have h9 := Option.some.inj h
        subst h9
        exact hK d4
      · rw [if_pos hc6] at h
        refine o_iload_n k16_26 rfl ?_
        refine o_aload_n k16_27 rfl ?_
        refine o_gf k16_28 (gf_9_9 _) ?_
        refine o_iload k16_31 rfl ?_
        obtain ⟨hc7, h⟩ := ck_i h
        refine o_iald k16_33 rfl ia_12 hc7 ?_
        refine o_call k16_34 pj_6 (fun _ => rfl) (by decide) (by rcases d4 with _ | (x | x) <;> rfl) (as := [.int a1, .int (M 12 x3.toNatClampNeg)]) (rest := []) rfl (L0 := [some (.int a1), some (.int (M 12 x3.toNatClampNeg))]) rfl (t_X0_isIn (M := M) (a0 := a1) (a1 := (M 12 x3.toNatClampNeg)) rfl) ?_
        refine o_if_eq k16_37 (fun hc8 => ?_) (fun hc8 => ?_)
        · rw [if_pos hc8] at h
          refine o_iinc (k := 1) (L' := [some (.ref 9), some (.int a0), some (.int a1), some (.int x2), some (.int (x3 + 1)), (d4.map dv)]) k16_66 rfl (by decide) rfl ?_
          refine o_goto k16_69 ?_
          have h9 := Option.some.inj h
          subst h9
          exact hK d4
        · rw [if_neg hc8] at h
          refine o_aload_n k16_40 rfl ?_
          refine o_gf k16_41 (gf_9_7 _) ?_
          refine o_iload k16_44 rfl ?_
          refine o_iload_n k16_46 rfl ?_
          refine o_call k16_47 pj_5 (fun _ => rfl) (by decide) (by rcases d4 with _ | (x | x) <;> rfl) (as := [.int x3, .int a0]) (rest := [.ref 10]) rfl (L0 := [some (.int x3), some (.int a0)]) rfl (t_X0_at (M := M) (a0 := x3) (a1 := a0) rfl) ?_
          obtain ⟨hc9, h⟩ := ck_i h
          refine o_iald k16_50 rfl ia_10 hc9 ?_
          refine o_istore (v := (M 10 (f_X0_at x3 a0).toNatClampNeg)) (L' := [some (.ref 9), some (.int a0), some (.int a1), some (.int x2), some (.int x3), some (.int (M 10 (f_X0_at x3 a0).toNatClampNeg))]) k16_51 rfl rfl ?_
          refine o_iload k16_53 rfl ?_
          refine o_iconst (v := 2) k16_55 (by decide) ?_
          refine o_icmp_ne k16_56 (fun hc10 => ?_) (fun hc10 => ?_)
          · rw [if_neg hc10] at h
            refine o_iload_n k16_61 rfl ?_
            refine o_iload k16_62 rfl ?_
            refine o_ixor k16_64 ?_
            refine o_istore_n (v := (x2 ^^^ (M 10 (f_X0_at x3 a0).toNatClampNeg))) (L' := [some (.ref 9), some (.int a0), some (.int a1), some (.int (x2 ^^^ (M 10 (f_X0_at x3 a0).toNatClampNeg))), some (.int x3), some (.int (M 10 (f_X0_at x3 a0).toNatClampNeg))]) k16_65 rfl rfl ?_
            refine o_iinc (k := 1) (L' := [some (.ref 9), some (.int a0), some (.int a1), some (.int (x2 ^^^ (M 10 (f_X0_at x3 a0).toNatClampNeg))), some (.int (x3 + 1)), some (.int (M 10 (f_X0_at x3 a0).toNatClampNeg))]) k16_66 rfl (by decide) rfl ?_
            refine o_goto k16_69 ?_
            have h9 := Option.some.inj h
            subst h9
            exact hK (some (.inl (M 10 (f_X0_at x3 a0).toNatClampNeg)))
          · rw [if_pos hc10] at h
            refine o_iconst (v := 2) k16_59 (by decide) ?_
            have h9 := Option.some.inj h
            subst h9
            have hK2 : 2 = t := hK
            subst hK2
            exact o_iret pj_16 k16_60 rfl nr_i
  · rcases Os11 with u | ⟨x12, x13⟩
    · exact Option.some.inj h
    · show ∀ (d14 : Option (Int32 ⊕ Int64)), oo LN xs 0 0 16 72 [some (.ref 9), some (.int a0), some (.int a1), some (.int x12), some (.int x13), (d14.map dv)] [] M (some (.int t), M)
      rw [el_r] at h
      dsimp only at h
      intro d14
      refine o_iload_n k16_72 rfl ?_
      have h9 := Option.some.inj h
      subst h9
      exact o_iret pj_16 k16_73 rfl nr_i
def f_X7_seen_0 (a0 : Int32) (a1 : Int32) (M : am_M) : Option Int32 := (if a0 < 0 then (some (-1)) else (if (M 9 1) ≤ a0 then (some (-1)) else (if a1 < 0 then (some (-1)) else (if a1 < (M 9 2) then ((f_X0_seenAt_9 a0 a1 M).bind (fun v5 => (some v5))) else (some (-1))))))
set_option maxRecDepth 20000 in
theorem t_X7_seen_0 {LN : Nat} {xs : Nat → Int32} {a0 : Int32} {a1 : Int32} {M : am_M} {t : Int32} (h : f_X7_seen_0 a0 a1 M = some t) : oo LN xs 0 0 89 0 [some (.ref 0), some (.int a0), some (.int a1)] [] M (some (.int t), M) := by
  unfold f_X7_seen_0 at h
  refine o_iload_n k89_0 rfl ?_
  refine o_if_lt k89_1 (fun hc1 => ?_) (fun hc1 => ?_)
  · rw [if_pos hc1] at h
    refine o_iconst (v := (-1)) k89_30 (by decide) ?_
    have h9 := Option.some.inj h
    subst h9
    exact o_iret pj_89 k89_31 rfl nr_i
  · rw [if_neg hc1] at h
    refine o_iload_n k89_4 rfl ?_
    refine o_aload_n k89_5 rfl ?_
    refine o_gf k89_6 (gf_0_2 _) ?_
    refine o_gf k89_9 (gf_9_1 _) ?_
    refine o_icmp_ge k89_12 (fun hc2 => ?_) (fun hc2 => ?_)
    · rw [if_pos hc2] at h
      refine o_iconst (v := (-1)) k89_30 (by decide) ?_
      have h9 := Option.some.inj h
      subst h9
      exact o_iret pj_89 k89_31 rfl nr_i
    · rw [if_neg hc2] at h
      refine o_iload_n k89_15 rfl ?_
      refine o_if_lt k89_16 (fun hc3 => ?_) (fun hc3 => ?_)
      · rw [if_pos hc3] at h
        refine o_iconst (v := (-1)) k89_30 (by decide) ?_
        have h9 := Option.some.inj h
        subst h9
        exact o_iret pj_89 k89_31 rfl nr_i
      · rw [if_neg hc3] at h
        refine o_iload_n k89_19 rfl ?_
        refine o_aload_n k89_20 rfl ?_
        refine o_gf k89_21 (gf_0_2 _) ?_
        refine o_gf k89_24 (gf_9_2 _) ?_
        refine o_icmp_lt k89_27 (fun hc4 => ?_) (fun hc4 => ?_)
        · rw [if_pos hc4] at h
          refine o_aload_n k89_32 rfl ?_
          refine o_gf k89_33 (gf_0_2 _) ?_
          refine o_iload_n k89_36 rfl ?_
          refine o_iload_n k89_37 rfl ?_
          refine bd_i h (fun v5 hv5 h => ?_)
          refine o_call k89_38 pj_16 (fun _ => rfl) (by decide) rfl (as := [.ref 9, .int a0, .int a1]) (rest := []) rfl (L0 := [some (.ref 9), some (.int a0), some (.int a1), none, none, none]) rfl (t_X0_seenAt_9 hv5) ?_
          have h9 := Option.some.inj h
          subst h9
          exact o_iret pj_89 k89_41 rfl nr_i
        · rw [if_neg hc4] at h
          refine o_iconst (v := (-1)) k89_30 (by decide) ?_
          have h9 := Option.some.inj h
          subst h9
          exact o_iret pj_89 k89_31 rfl nr_i
def f_X8_seen_43 (a0 : Int32) (a1 : Int32) (M : am_M) : Option Int32 := (if (f_X8_in a0.toInt64 0 (((M 44 (1 : Int32).toNatClampNeg) - 1).toInt64)) = 0 then (some (-1)) else (if (f_X8_in a1.toInt64 0 (((M 44 (2 : Int32).toNatClampNeg) - 1).toInt64)) = 0 then (some (-1)) else ((f_X8_seenAt_43 a0 a1 M).bind (fun v5 => (some v5)))))
set_option maxRecDepth 20000 in
theorem t_X8_seen_43 {LN : Nat} {xs : Nat → Int32} {a0 : Int32} {a1 : Int32} {M : am_M} {t : Int32} (h : f_X8_seen_43 a0 a1 M = some t) : oo LN xs 0 0 161 0 [some (.ref 43), some (.int a0), some (.int a1)] [] M (some (.int t), M) := by
  unfold f_X8_seen_43 at h
  refine o_iload_n k161_0 rfl ?_
  refine o_i2l k161_1 ?_
  refine o_lconst (v := 0) k161_2 (by decide) ?_
  refine o_aload_n k161_3 rfl ?_
  refine o_gf k161_4 (gf_43_0 _) ?_
  refine o_iconst (v := 1) k161_7 (by decide) ?_
  refine o_iald k161_8 rfl ia_44 (by decide) ?_
  refine o_iconst (v := 1) k161_9 (by decide) ?_
  refine o_isub k161_10 ?_
  refine o_i2l k161_11 ?_
  refine o_call k161_12 pj_125 (fun _ => rfl) (by decide) rfl (as := [.long a0.toInt64, .long 0, .long (((M 44 (1 : Int32).toNatClampNeg) - 1).toInt64)]) (rest := []) rfl (L0 := [some (.long a0.toInt64), none, some (.long 0), none, some (.long (((M 44 (1 : Int32).toNatClampNeg) - 1).toInt64)), none]) rfl (t_X8_in (M := M) (a0 := a0.toInt64) (a1 := 0) (a2 := (((M 44 (1 : Int32).toNatClampNeg) - 1).toInt64)) rfl) ?_
  refine o_if_eq k161_15 (fun hc2 => ?_) (fun hc2 => ?_)
  · rw [if_pos hc2] at h
    refine o_iconst (v := (-1)) k161_45 (by decide) ?_
    have h9 := Option.some.inj h
    subst h9
    exact o_iret pj_161 k161_46 rfl nr_i
  · rw [if_neg hc2] at h
    refine o_iload_n k161_18 rfl ?_
    refine o_i2l k161_19 ?_
    refine o_lconst (v := 0) k161_20 (by decide) ?_
    refine o_aload_n k161_21 rfl ?_
    refine o_gf k161_22 (gf_43_0 _) ?_
    refine o_iconst (v := 2) k161_25 (by decide) ?_
    refine o_iald k161_26 rfl ia_44 (by decide) ?_
    refine o_iconst (v := 1) k161_27 (by decide) ?_
    refine o_isub k161_28 ?_
    refine o_i2l k161_29 ?_
    refine o_call k161_30 pj_125 (fun _ => rfl) (by decide) rfl (as := [.long a1.toInt64, .long 0, .long (((M 44 (2 : Int32).toNatClampNeg) - 1).toInt64)]) (rest := []) rfl (L0 := [some (.long a1.toInt64), none, some (.long 0), none, some (.long (((M 44 (2 : Int32).toNatClampNeg) - 1).toInt64)), none]) rfl (t_X8_in (M := M) (a0 := a1.toInt64) (a1 := 0) (a2 := (((M 44 (2 : Int32).toNatClampNeg) - 1).toInt64)) rfl) ?_
    refine o_if_eq k161_33 (fun hc4 => ?_) (fun hc4 => ?_)
    · rw [if_pos hc4] at h
      refine o_iconst (v := (-1)) k161_45 (by decide) ?_
      have h9 := Option.some.inj h
      subst h9
      exact o_iret pj_161 k161_46 rfl nr_i
    · rw [if_neg hc4] at h
      refine o_aload_n k161_36 rfl ?_
      refine o_iload_n k161_37 rfl ?_
      refine o_iload_n k161_38 rfl ?_
      refine bd_i h (fun v5 hv5 h => ?_)
      refine o_call k161_39 pj_155 (fun _ => rfl) (by decide) rfl (as := [.ref 43, .int a0, .int a1]) (rest := []) rfl (L0 := [some (.ref 43), some (.int a0), some (.int a1), none, none]) rfl (t_X8_seenAt_43 hv5) ?_
      refine o_goto k161_42 ?_
      have h9 := Option.some.inj h
      subst h9
      exact o_iret pj_161 k161_46 rfl nr_i
def f_J6_bitCount_0f7a4 (a0 : Int32) : Int32 := (bl ((((a0 - ((ushr a0 1) &&& 1431655765)) &&& 858993459) + ((ushr (a0 - ((ushr a0 1) &&& 1431655765)) 2) &&& 858993459))) (fun (v1 : Int32) => (bl ((((v1 + (ushr v1 4)) &&& 252645135) + (ushr ((v1 + (ushr v1 4)) &&& 252645135) 8))) (fun (v2 : Int32) => ((v2 + (ushr v2 16)) &&& 63)))))
set_option maxRecDepth 20000 in
theorem t_J6_bitCount_0f7a4 {LN : Nat} {xs : Nat → Int32} {a0 : Int32} {M : am_M} {t : Int32} (h : f_J6_bitCount_0f7a4 a0 = t) : oo LN xs 0 0 212 0 [some (.int a0)] [] M (some (.int t), M) := by
  unfold f_J6_bitCount_0f7a4 at h
  refine o_iload_n k212_0 rfl ?_
  refine o_iload_n k212_1 rfl ?_
  refine o_iconst (v := 1) k212_2 (by decide) ?_
  refine o_iushr k212_3 ?_
  refine o_ldc_w k212_4 ?_
  refine o_iand k212_7 ?_
  refine o_isub k212_8 ?_
  refine o_istore_n (v := (a0 - ((ushr a0 1) &&& 1431655765))) (L' := [some (.int (a0 - ((ushr a0 1) &&& 1431655765)))]) k212_9 rfl rfl ?_
  refine o_iload_n k212_10 rfl ?_
  refine o_ldc_w k212_11 ?_
  refine o_iand k212_14 ?_
  refine o_iload_n k212_15 rfl ?_
  refine o_iconst (v := 2) k212_16 (by decide) ?_
  refine o_iushr k212_17 ?_
  refine o_ldc_w k212_18 ?_
  refine o_iand k212_21 ?_
  refine o_iadd k212_22 ?_
  refine bl_i h (fun v1 ev1 h => ?_)
  refine o_istore_n (v := v1) k212_23 ev1 (L' := [some (.int v1)]) rfl ?_
  refine o_iload_n k212_24 rfl ?_
  refine o_iload_n k212_25 rfl ?_
  refine o_iconst (v := 4) k212_26 (by decide) ?_
  refine o_iushr k212_27 ?_
  refine o_iadd k212_28 ?_
  refine o_ldc_w k212_29 ?_
  refine o_iand k212_32 ?_
  refine o_istore_n (v := ((v1 + (ushr v1 4)) &&& 252645135)) (L' := [some (.int ((v1 + (ushr v1 4)) &&& 252645135))]) k212_33 rfl rfl ?_
  refine o_iload_n k212_34 rfl ?_
  refine o_iload_n k212_35 rfl ?_
  refine o_bipush (v := 8) k212_36 (by decide) ?_
  refine o_iushr k212_38 ?_
  refine o_iadd k212_39 ?_
  refine bl_i h (fun v2 ev2 h => ?_)
  refine o_istore_n (v := v2) k212_40 ev2 (L' := [some (.int v2)]) rfl ?_
  refine o_iload_n k212_41 rfl ?_
  refine o_iload_n k212_42 rfl ?_
  refine o_bipush (v := 16) k212_43 (by decide) ?_
  refine o_iushr k212_45 ?_
  refine o_iadd k212_46 ?_
  refine o_istore_n (v := (v2 + (ushr v2 16))) (L' := [some (.int (v2 + (ushr v2 16)))]) k212_47 rfl rfl ?_
  refine o_iload_n k212_48 rfl ?_
  refine o_bipush (v := 63) k212_49 (by decide) ?_
  refine o_iand k212_51 ?_
  subst h
  exact o_iret pj_212 k212_52 rfl nr_i
def f_X0_repeatsLower_9 (a0 : Int32) (M : am_M) : Option Int32 := ((lp (σ := Int32) (ρ := (Int32) ⊕ (Int32)) (fun x2 => (if a0 ≤ x2 then (some (.inr (.inr x2))) else (if am_dbin x2 8 = true then (if am_dbin a0 8 = true then (if (M 12 x2.toNatClampNeg) = (M 12 a0.toNatClampNeg) then (some (.inr (.inl 1))) else (some (.inl (x2 + 1)))) else none) else none))) lp_F 0).bind (fun os7 => Sum.elim (fun u => (some u)) (fun x8 => (some 0)) os7))
set_option maxRecDepth 20000 in
theorem t_X0_repeatsLower_9 {LN : Nat} {xs : Nat → Int32} {a0 : Int32} {M : am_M} {t : Int32} (h : f_X0_repeatsLower_9 a0 M = some t) : oo LN xs 0 0 21 0 [some (.ref 9), some (.int a0), none] [] M (some (.int t), M) := by
  unfold f_X0_repeatsLower_9 at h
  refine o_iconst (v := 0) k21_0 (by decide) ?_
  refine o_istore_n (v := 0) (L' := [some (.ref 9), some (.int a0), some (.int 0)]) k21_1 rfl rfl ?_
  refine bd_i h (fun Os7 hOs7 h => ?_)
  refine lp_o (fun x2 => oo LN xs 0 0 21 2 [some (.ref 9), some (.int a0), some (.int x2)] [] M (some (.int t), M)) (fun oq => Sum.elim (fun u => u = t) (fun x8 => oo LN xs 0 0 21 30 [some (.ref 9), some (.int a0), some (.int x8)] [] M (some (.int t), M)) oq) ?_ hOs7 ?_
  · rintro x2 ws1 h hK
    show oo LN xs 0 0 21 2 [some (.ref 9), some (.int a0), some (.int x2)] [] M (some (.int t), M)
    refine o_iload_n k21_2 rfl ?_
    refine o_iload_n k21_3 rfl ?_
    refine o_icmp_ge k21_4 (fun hc3 => ?_) (fun hc3 => ?_)
    · rw [if_pos hc3] at h
      have h9 := Option.some.inj h
      subst h9
      exact hK
    · rw [if_neg hc3] at h
      refine o_aload_n k21_7 rfl ?_
      refine o_gf k21_8 (gf_9_9 _) ?_
      refine o_iload_n k21_11 rfl ?_
      obtain ⟨hc4, h⟩ := ck_i h
      refine o_iald k21_12 rfl ia_12 hc4 ?_
      refine o_aload_n k21_13 rfl ?_
      refine o_gf k21_14 (gf_9_9 _) ?_
      refine o_iload_n k21_17 rfl ?_
      obtain ⟨hc5, h⟩ := ck_i h
      refine o_iald k21_18 rfl ia_12 hc5 ?_
      refine o_icmp_ne k21_19 (fun hc6 => ?_) (fun hc6 => ?_)
      · rw [if_neg hc6] at h
        refine o_iinc (k := 1) (L' := [some (.ref 9), some (.int a0), some (.int (x2 + 1))]) k21_24 rfl (by decide) rfl ?_
        refine o_goto k21_27 ?_
        have h9 := Option.some.inj h
        subst h9
        exact hK
      · rw [if_pos hc6] at h
        refine o_iconst (v := 1) k21_22 (by decide) ?_
        have h9 := Option.some.inj h
        subst h9
        have hK2 : 1 = t := hK
        subst hK2
        exact o_iret pj_21 k21_23 rfl (nr_z (by decide))
  · rcases Os7 with u | x8
    · exact Option.some.inj h
    · show oo LN xs 0 0 21 30 [some (.ref 9), some (.int a0), some (.int x8)] [] M (some (.int t), M)
      rw [el_r] at h
      refine o_iconst (v := 0) k21_30 (by decide) ?_
      have h9 := Option.some.inj h
      subst h9
      exact o_iret pj_21 k21_31 rfl (nr_z (by decide))
def f_X0_isWeak_9 (a0 : Int32) (a1 : Int32) (M : am_M) : Option Int32 := (if a1 = 0 then (if am_dbin a0 8 = true then (if (M 12 a0.toNatClampNeg) = 0 then (some 1) else (some 0)) else none) else (if a1 = 1 then (if am_dbin a0 8 = true then (if ((f_J6_bitCount_0f7a4 (M 12 a0.toNatClampNeg)) - (f_J6_bitCount_0f7a4 (M 12 a0.toNatClampNeg)) / 2 * 2) = 0 then (some 1) else (some 0)) else none) else ((f_X0_repeatsLower_9 a0 M).bind (fun v5 => (if v5 = 0 ∨ v5 = 1 then (some v5) else none)))))
set_option maxRecDepth 20000 in
theorem t_X0_isWeak_9 {LN : Nat} {xs : Nat → Int32} {a0 : Int32} {a1 : Int32} {M : am_M} {t : Int32} (h : f_X0_isWeak_9 a0 a1 M = some t) : oo LN xs 0 0 20 0 [some (.ref 9), some (.int a0), some (.int a1)] [] M (some (.int t), M) := by
  unfold f_X0_isWeak_9 at h
  refine o_iload_n k20_0 rfl ?_
  by_cases hx1_0 : a1 = 0
  · rw [if_pos hx1_0] at h
    refine o_lsw (tgt := 28) (off := 27) k20_1 (by rw [hx1_0]; decide) (by decide) ?_
    refine o_aload_n k20_28 rfl ?_
    refine o_gf k20_29 (gf_9_9 _) ?_
    refine o_iload_n k20_32 rfl ?_
    obtain ⟨hc1, h⟩ := ck_i h
    refine o_iald k20_33 rfl ia_12 hc1 ?_
    refine o_if_ne k20_34 (fun hc2 => ?_) (fun hc2 => ?_)
    · rw [if_neg hc2] at h
      refine o_iconst (v := 0) k20_41 (by decide) ?_
      have h9 := Option.some.inj h
      subst h9
      exact o_iret pj_20 k20_42 rfl (nr_z (by decide))
    · rw [if_pos hc2] at h
      refine o_iconst (v := 1) k20_37 (by decide) ?_
      refine o_goto k20_38 ?_
      have h9 := Option.some.inj h
      subst h9
      exact o_iret pj_20 k20_42 rfl (nr_z (by decide))
  rw [if_neg hx1_0] at h
  by_cases hx1_1 : a1 = 1
  · rw [if_pos hx1_1] at h
    refine o_lsw (tgt := 43) (off := 42) k20_1 (by rw [hx1_1]; decide) (by decide) ?_
    refine o_aload_n k20_43 rfl ?_
    refine o_gf k20_44 (gf_9_9 _) ?_
    refine o_iload_n k20_47 rfl ?_
    obtain ⟨hc3, h⟩ := ck_i h
    refine o_iald k20_48 rfl ia_12 hc3 ?_
    refine o_call k20_49 pj_212 (fun _ => rfl) (by decide) rfl (as := [.int (M 12 a0.toNatClampNeg)]) (rest := []) rfl (L0 := [some (.int (M 12 a0.toNatClampNeg))]) rfl (t_J6_bitCount_0f7a4 (M := M) (a0 := (M 12 a0.toNatClampNeg)) rfl) ?_
    refine o_iconst (v := 2) k20_52 (by decide) ?_
    refine o_irem k20_53 (by decide) ?_
    refine o_if_ne k20_54 (fun hc4 => ?_) (fun hc4 => ?_)
    · rw [if_neg hc4] at h
      refine o_iconst (v := 0) k20_61 (by decide) ?_
      have h9 := Option.some.inj h
      subst h9
      exact o_iret pj_20 k20_62 rfl (nr_z (by decide))
    · rw [if_pos hc4] at h
      refine o_iconst (v := 1) k20_57 (by decide) ?_
      refine o_goto k20_58 ?_
      have h9 := Option.some.inj h
      subst h9
      exact o_iret pj_20 k20_62 rfl (nr_z (by decide))
  rw [if_neg hx1_1] at h
  refine o_lsw (tgt := 63) (off := 62) k20_1 (by have n0 := ne_lit (k := 0) 0 (by decide) hx1_0; have n1 := ne_lit (k := 1) 1 (by decide) hx1_1; simp [Op.lookupswitch.offset, n0, Ne.symm n0, n1, Ne.symm n1]) (by decide) ?_
  refine o_aload_n k20_63 rfl ?_
  refine o_iload_n k20_64 rfl ?_
  refine bd_i h (fun v5 hv5 h => ?_)
  refine o_call k20_65 pj_21 (fun _ => rfl) (by decide) rfl (as := [.ref 9, .int a0]) (rest := []) rfl (L0 := [some (.ref 9), some (.int a0), none]) rfl (t_X0_repeatsLower_9 hv5) ?_
  obtain ⟨hc6, h⟩ := ck_i h
  have h9 := Option.some.inj h
  subst h9
  exact o_iret pj_20 k20_68 rfl (nr_z hc6)
def f_X7_weak_0 (a0 : Int32) (M : am_M) : Option Int32 := (if a0 < 0 then (some (-1)) else (if a0 ≤ 2 then ((lp (σ := Int32 × Int32) (ρ := Int32 × Int32) (fun (s3 : Int32 × Int32) => match s3 with | (x4, x5) => (if (M 9 0) ≤ x5 then (some (.inr (x4, x5))) else ((f_X0_isWeak_9 x5 a0 M).bind (fun v7 => (if v7 = 0 then (some (.inl (x4, (x5 + 1)))) else (some (.inl ((x4 + 1), (x5 + 1))))))))) lp_F (0, 0)).bind (fun (s9 : Int32 × Int32) => match s9 with | (x10, x11) => (some x10))) else (some (-1))))
set_option maxRecDepth 20000 in
theorem t_X7_weak_0 {LN : Nat} {xs : Nat → Int32} {a0 : Int32} {M : am_M} {t : Int32} (h : f_X7_weak_0 a0 M = some t) : oo LN xs 0 0 90 0 [some (.ref 0), some (.int a0), none, none] [] M (some (.int t), M) := by
  unfold f_X7_weak_0 at h
  refine o_iload_n k90_0 rfl ?_
  refine o_if_lt k90_1 (fun hc1 => ?_) (fun hc1 => ?_)
  · rw [if_pos hc1] at h
    refine o_iconst (v := (-1)) k90_9 (by decide) ?_
    have h9 := Option.some.inj h
    subst h9
    exact o_iret pj_90 k90_10 rfl nr_i
  · rw [if_neg hc1] at h
    refine o_iload_n k90_4 rfl ?_
    refine o_iconst (v := 2) k90_5 (by decide) ?_
    refine o_icmp_le k90_6 (fun hc2 => ?_) (fun hc2 => ?_)
    · rw [if_pos hc2] at h
      refine o_iconst (v := 0) k90_11 (by decide) ?_
      refine o_istore_n (v := 0) (L' := [some (.ref 0), some (.int a0), some (.int 0), none]) k90_12 rfl rfl ?_
      refine o_iconst (v := 0) k90_13 (by decide) ?_
      refine o_istore_n (v := 0) (L' := [some (.ref 0), some (.int a0), some (.int 0), some (.int 0)]) k90_14 rfl rfl ?_
      refine bd_i h (fun s9 hs9 h => ?_)
      refine lp_o (fun (s3 : Int32 × Int32) => match s3 with | (x4, x5) => oo LN xs 0 0 90 15 [some (.ref 0), some (.int a0), some (.int x4), some (.int x5)] [] M (some (.int t), M)) (fun (s9 : Int32 × Int32) => match s9 with | (x10, x11) => oo LN xs 0 0 90 47 [some (.ref 0), some (.int a0), some (.int x10), some (.int x11)] [] M (some (.int t), M)) ?_ hs9 ?_
      · rintro ⟨x4, x5⟩ ws3 h hK
        dsimp only at h
        show oo LN xs 0 0 90 15 [some (.ref 0), some (.int a0), some (.int x4), some (.int x5)] [] M (some (.int t), M)
        refine o_iload_n k90_15 rfl ?_
        refine o_aload_n k90_16 rfl ?_
        refine o_gf k90_17 (gf_0_2 _) ?_
        refine o_gf k90_20 (gf_9_0 _) ?_
        refine o_icmp_ge k90_23 (fun hc6 => ?_) (fun hc6 => ?_)
        · rw [if_pos hc6] at h
          have h9 := Option.some.inj h
          subst h9
          exact hK
        · rw [if_neg hc6] at h
          refine o_aload_n k90_26 rfl ?_
          refine o_gf k90_27 (gf_0_2 _) ?_
          refine o_iload_n k90_30 rfl ?_
          refine o_iload_n k90_31 rfl ?_
          refine bd_i h (fun v7 hv7 h => ?_)
          refine o_call k90_32 pj_20 (fun _ => rfl) (by decide) rfl (as := [.ref 9, .int x5, .int a0]) (rest := []) rfl (L0 := [some (.ref 9), some (.int x5), some (.int a0)]) rfl (t_X0_isWeak_9 hv7) ?_
          refine o_if_eq k90_35 (fun hc8 => ?_) (fun hc8 => ?_)
          · rw [if_pos hc8] at h
            refine o_iinc (k := 1) (L' := [some (.ref 0), some (.int a0), some (.int x4), some (.int (x5 + 1))]) k90_41 rfl (by decide) rfl ?_
            refine o_goto k90_44 ?_
            have h9 := Option.some.inj h
            subst h9
            exact hK
          · rw [if_neg hc8] at h
            refine o_iinc (k := 1) (L' := [some (.ref 0), some (.int a0), some (.int (x4 + 1)), some (.int x5)]) k90_38 rfl (by decide) rfl ?_
            refine o_iinc (k := 1) (L' := [some (.ref 0), some (.int a0), some (.int (x4 + 1)), some (.int (x5 + 1))]) k90_41 rfl (by decide) rfl ?_
            refine o_goto k90_44 ?_
            have h9 := Option.some.inj h
            subst h9
            exact hK
      · obtain ⟨x10, x11⟩ := s9
        show oo LN xs 0 0 90 47 [some (.ref 0), some (.int a0), some (.int x10), some (.int x11)] [] M (some (.int t), M)
        dsimp only at h
        refine o_iload_n k90_47 rfl ?_
        have h9 := Option.some.inj h
        subst h9
        exact o_iret pj_90 k90_48 rfl nr_i
    · rw [if_neg hc2] at h
      refine o_iconst (v := (-1)) k90_9 (by decide) ?_
      have h9 := Option.some.inj h
      subst h9
      exact o_iret pj_90 k90_10 rfl nr_i
def f_X8_bitsOf (a0 : Int32) : Option Int32 := ((lp (σ := Int32 × Int32) (ρ := Int32 × Int32) (fun (s1 : Int32 × Int32) => match s1 with | (x2, x3) => (if 20 ≤ x3 then (some (.inr (x2, x3))) else (some (.inl ((x2 + ((a0 >>> (x3 &&& 31)) &&& 1)), (x3 + 1)))))) lp_F (0, 0)).bind (fun (s5 : Int32 × Int32) => match s5 with | (x6, x7) => (some x6)))
set_option maxRecDepth 20000 in
theorem t_X8_bitsOf {LN : Nat} {xs : Nat → Int32} {a0 : Int32} {M : am_M} {t : Int32} (h : f_X8_bitsOf a0 = some t) : oo LN xs 0 0 128 0 [some (.int a0), none, none] [] M (some (.int t), M) := by
  unfold f_X8_bitsOf at h
  refine o_iconst (v := 0) k128_0 (by decide) ?_
  refine o_istore_n (v := 0) (L' := [some (.int a0), some (.int 0), none]) k128_1 rfl rfl ?_
  refine o_iconst (v := 0) k128_2 (by decide) ?_
  refine o_istore_n (v := 0) (L' := [some (.int a0), some (.int 0), some (.int 0)]) k128_3 rfl rfl ?_
  refine bd_i h (fun s5 hs5 h => ?_)
  refine lp_o (fun (s1 : Int32 × Int32) => match s1 with | (x2, x3) => oo LN xs 0 0 128 4 [some (.int a0), some (.int x2), some (.int x3)] [] M (some (.int t), M)) (fun (s5 : Int32 × Int32) => match s5 with | (x6, x7) => oo LN xs 0 0 128 24 [some (.int a0), some (.int x6), some (.int x7)] [] M (some (.int t), M)) ?_ hs5 ?_
  · rintro ⟨x2, x3⟩ ws1 h hK
    dsimp only at h
    show oo LN xs 0 0 128 4 [some (.int a0), some (.int x2), some (.int x3)] [] M (some (.int t), M)
    refine o_iload_n k128_4 rfl ?_
    refine o_bipush (v := 20) k128_5 (by decide) ?_
    refine o_icmp_ge k128_7 (fun hc4 => ?_) (fun hc4 => ?_)
    · rw [if_pos hc4] at h
      have h9 := Option.some.inj h
      subst h9
      exact hK
    · rw [if_neg hc4] at h
      refine o_iload_n k128_10 rfl ?_
      refine o_iload_n k128_11 rfl ?_
      refine o_iload_n k128_12 rfl ?_
      refine o_ishr k128_13 ?_
      refine o_iconst (v := 1) k128_14 (by decide) ?_
      refine o_iand k128_15 ?_
      refine o_iadd k128_16 ?_
      refine o_istore_n (v := (x2 + ((a0 >>> (x3 &&& 31)) &&& 1))) (L' := [some (.int a0), some (.int (x2 + ((a0 >>> (x3 &&& 31)) &&& 1))), some (.int x3)]) k128_17 rfl rfl ?_
      refine o_iinc (k := 1) (L' := [some (.int a0), some (.int (x2 + ((a0 >>> (x3 &&& 31)) &&& 1))), some (.int (x3 + 1))]) k128_18 rfl (by decide) rfl ?_
      refine o_goto k128_21 ?_
      have h9 := Option.some.inj h
      subst h9
      exact hK
  · obtain ⟨x6, x7⟩ := s5
    show oo LN xs 0 0 128 24 [some (.int a0), some (.int x6), some (.int x7)] [] M (some (.int t), M)
    dsimp only at h
    refine o_iload_n k128_24 rfl ?_
    have h9 := Option.some.inj h
    subst h9
    exact o_iret pj_128 k128_25 rfl nr_i
def f_X8_isWeak_43 (a0 : Int32) (a1 : Int32) (M : am_M) : Option Int32 := (if 2 ≤ a1 then ((lp (σ := Int32 × Int32) (ρ := Int32 × Int32) (fun (s2 : Int32 × Int32) => match s2 with | (x3, x4) => (if a0 ≤ x4 then (some (.inr (x3, x4))) else (if x3 = 0 then (if am_dbin ((135 : Int32) + x4) 151 = true then (if am_dbin ((135 : Int32) + a0) 151 = true then (if (M 44 ((135 : Int32) + x4).toNatClampNeg) = (M 44 ((135 : Int32) + a0).toNatClampNeg) then (some (.inl (1, (x4 + 1)))) else (some (.inl (0, (x4 + 1))))) else none) else none) else (some (.inl (1, (x4 + 1))))))) lp_F (0, 0)).bind (fun (s10 : Int32 × Int32) => match s10 with | (x11, x12) => (if x11 = 0 ∨ x11 = 1 then (some x11) else none))) else (if a1 = 0 then (if am_dbin ((135 : Int32) + a0) 151 = true then (if (M 44 ((135 : Int32) + a0).toNatClampNeg) = 0 then (some 1) else (some 0)) else none) else (if am_dbin ((135 : Int32) + a0) 151 = true then ((f_X8_bitsOf (M 44 ((135 : Int32) + a0).toNatClampNeg)).bind (fun v16 => (if (v16 - v16 / 2 * 2) = 0 then (some 1) else (some 0)))) else none)))
set_option maxRecDepth 20000 in
theorem t_X8_isWeak_43 {LN : Nat} {xs : Nat → Int32} {a0 : Int32} {a1 : Int32} {M : am_M} {t : Int32} (h : f_X8_isWeak_43 a0 a1 M = some t) : oo LN xs 0 0 162 0 [some (.ref 43), some (.int a0), some (.int a1), none, none] [] M (some (.int t), M) := by
  unfold f_X8_isWeak_43 at h
  refine o_iload_n k162_0 rfl ?_
  refine o_iconst (v := 2) k162_1 (by decide) ?_
  refine o_icmp_ge k162_2 (fun hc1 => ?_) (fun hc1 => ?_)
  · rw [if_pos hc1] at h
    refine o_iconst (v := 0) k162_54 (by decide) ?_
    refine o_istore_n (v := 0) (L' := [some (.ref 43), some (.int a0), some (.int a1), some (.int 0), none]) k162_55 rfl rfl ?_
    refine o_iconst (v := 0) k162_56 (by decide) ?_
    refine o_istore (v := 0) (L' := [some (.ref 43), some (.int a0), some (.int a1), some (.int 0), some (.int 0)]) k162_57 rfl rfl ?_
    refine bd_i h (fun s10 hs10 h => ?_)
    refine lp_o (fun (s2 : Int32 × Int32) => match s2 with | (x3, x4) => oo LN xs 0 0 162 59 [some (.ref 43), some (.int a0), some (.int a1), some (.int x3), some (.int x4)] [] M (some (.int t), M)) (fun (s10 : Int32 × Int32) => match s10 with | (x11, x12) => oo LN xs 0 0 162 105 [some (.ref 43), some (.int a0), some (.int a1), some (.int x11), some (.int x12)] [] M (some (.int t), M)) ?_ hs10 ?_
    · rintro ⟨x3, x4⟩ ws2 h hK
      dsimp only at h
      show oo LN xs 0 0 162 59 [some (.ref 43), some (.int a0), some (.int a1), some (.int x3), some (.int x4)] [] M (some (.int t), M)
      refine o_iload k162_59 rfl ?_
      refine o_iload_n k162_61 rfl ?_
      refine o_icmp_ge k162_62 (fun hc5 => ?_) (fun hc5 => ?_)
      · rw [if_pos hc5] at h
        have h9 := Option.some.inj h
        subst h9
        exact hK
      · rw [if_neg hc5] at h
        refine o_iload_n k162_65 rfl ?_
        refine o_if_ne k162_66 (fun hc6 => ?_) (fun hc6 => ?_)
        · rw [if_neg hc6] at h
          refine o_iconst (v := 1) k162_93 (by decide) ?_
          refine o_goto k162_94 ?_
          refine o_istore_n (v := 1) (L' := [some (.ref 43), some (.int a0), some (.int a1), some (.int 1), some (.int x4)]) k162_98 rfl rfl ?_
          refine o_iinc (k := 1) (L' := [some (.ref 43), some (.int a0), some (.int a1), some (.int 1), some (.int (x4 + 1))]) k162_99 rfl (by decide) rfl ?_
          refine o_goto k162_102 ?_
          have h9 := Option.some.inj h
          subst h9
          exact hK
        · rw [if_pos hc6] at h
          refine o_aload_n k162_69 rfl ?_
          refine o_gf k162_70 (gf_43_0 _) ?_
          refine o_sipush (v := 135) k162_73 (by decide) ?_
          refine o_iload k162_76 rfl ?_
          refine o_iadd k162_78 ?_
          obtain ⟨hc7, h⟩ := ck_i h
          refine o_iald k162_79 rfl ia_44 hc7 ?_
          refine o_aload_n k162_80 rfl ?_
          refine o_gf k162_81 (gf_43_0 _) ?_
          refine o_sipush (v := 135) k162_84 (by decide) ?_
          refine o_iload_n k162_87 rfl ?_
          refine o_iadd k162_88 ?_
          obtain ⟨hc8, h⟩ := ck_i h
          refine o_iald k162_89 rfl ia_44 hc8 ?_
          refine o_icmp_ne k162_90 (fun hc9 => ?_) (fun hc9 => ?_)
          · rw [if_neg hc9] at h
            refine o_iconst (v := 0) k162_97 (by decide) ?_
            refine o_istore_n (v := 0) (L' := [some (.ref 43), some (.int a0), some (.int a1), some (.int 0), some (.int x4)]) k162_98 rfl rfl ?_
            refine o_iinc (k := 1) (L' := [some (.ref 43), some (.int a0), some (.int a1), some (.int 0), some (.int (x4 + 1))]) k162_99 rfl (by decide) rfl ?_
            refine o_goto k162_102 ?_
            have h9 := Option.some.inj h
            subst h9
            exact hK
          · rw [if_pos hc9] at h
            refine o_iconst (v := 1) k162_93 (by decide) ?_
            refine o_goto k162_94 ?_
            refine o_istore_n (v := 1) (L' := [some (.ref 43), some (.int a0), some (.int a1), some (.int 1), some (.int x4)]) k162_98 rfl rfl ?_
            refine o_iinc (k := 1) (L' := [some (.ref 43), some (.int a0), some (.int a1), some (.int 1), some (.int (x4 + 1))]) k162_99 rfl (by decide) rfl ?_
            refine o_goto k162_102 ?_
            have h9 := Option.some.inj h
            subst h9
            exact hK
    · obtain ⟨x11, x12⟩ := s10
      show oo LN xs 0 0 162 105 [some (.ref 43), some (.int a0), some (.int a1), some (.int x11), some (.int x12)] [] M (some (.int t), M)
      dsimp only at h
      refine o_iload_n k162_105 rfl ?_
      obtain ⟨hc13, h⟩ := ck_i h
      have h9 := Option.some.inj h
      subst h9
      exact o_iret pj_162 k162_106 rfl (nr_z hc13)
  · rw [if_neg hc1] at h
    refine o_iload_n k162_5 rfl ?_
    refine o_if_ne k162_6 (fun hc14 => ?_) (fun hc14 => ?_)
    · rw [if_neg hc14] at h
      refine o_aload_n k162_30 rfl ?_
      refine o_gf k162_31 (gf_43_0 _) ?_
      refine o_sipush (v := 135) k162_34 (by decide) ?_
      refine o_iload_n k162_37 rfl ?_
      refine o_iadd k162_38 ?_
      obtain ⟨hc15, h⟩ := ck_i h
      refine o_iald k162_39 rfl ia_44 hc15 ?_
      refine bd_i h (fun v16 hv16 h => ?_)
      refine o_call k162_40 pj_128 (fun _ => rfl) (by decide) rfl (as := [.int (M 44 ((135 : Int32) + a0).toNatClampNeg)]) (rest := []) rfl (L0 := [some (.int (M 44 ((135 : Int32) + a0).toNatClampNeg)), none, none]) rfl (t_X8_bitsOf hv16) ?_
      refine o_iconst (v := 2) k162_43 (by decide) ?_
      refine o_irem k162_44 (by decide) ?_
      refine o_if_ne k162_45 (fun hc17 => ?_) (fun hc17 => ?_)
      · rw [if_neg hc17] at h
        refine o_iconst (v := 0) k162_52 (by decide) ?_
        have h9 := Option.some.inj h
        subst h9
        exact o_iret pj_162 k162_53 rfl (nr_z (by decide))
      · rw [if_pos hc17] at h
        refine o_iconst (v := 1) k162_48 (by decide) ?_
        refine o_goto k162_49 ?_
        have h9 := Option.some.inj h
        subst h9
        exact o_iret pj_162 k162_53 rfl (nr_z (by decide))
    · rw [if_pos hc14] at h
      refine o_aload_n k162_9 rfl ?_
      refine o_gf k162_10 (gf_43_0 _) ?_
      refine o_sipush (v := 135) k162_13 (by decide) ?_
      refine o_iload_n k162_16 rfl ?_
      refine o_iadd k162_17 ?_
      obtain ⟨hc18, h⟩ := ck_i h
      refine o_iald k162_18 rfl ia_44 hc18 ?_
      refine o_if_ne k162_19 (fun hc19 => ?_) (fun hc19 => ?_)
      · rw [if_neg hc19] at h
        refine o_iconst (v := 0) k162_26 (by decide) ?_
        refine o_goto k162_27 ?_
        have h9 := Option.some.inj h
        subst h9
        exact o_iret pj_162 k162_53 rfl (nr_z (by decide))
      · rw [if_pos hc19] at h
        refine o_iconst (v := 1) k162_22 (by decide) ?_
        refine o_goto k162_23 ?_
        have h9 := Option.some.inj h
        subst h9
        exact o_iret pj_162 k162_53 rfl (nr_z (by decide))
def f_X8_weak_43 (a0 : Int32) (M : am_M) : Option Int32 := (if (f_X8_in a0.toInt64 0 2) = 0 then (some (-1)) else ((lp (σ := Int32 × Int32) (ρ := Int32 × Int32) (fun (s2 : Int32 × Int32) => match s2 with | (x3, x4) => (if (M 44 (0 : Int32).toNatClampNeg) ≤ x4 then (some (.inr (x3, x4))) else ((f_X8_isWeak_43 x4 a0 M).bind (fun v7 => (some (.inl ((x3 + (f_X8_flag v7)), (x4 + 1)))))))) lp_F (0, 0)).bind (fun (s8 : Int32 × Int32) => match s8 with | (x9, x10) => (some x9))))
set_option maxRecDepth 20000 in
theorem t_X8_weak_43 {LN : Nat} {xs : Nat → Int32} {a0 : Int32} {M : am_M} {t : Int32} (h : f_X8_weak_43 a0 M = some t) : oo LN xs 0 0 163 0 [some (.ref 43), some (.int a0), none, none] [] M (some (.int t), M) := by
  unfold f_X8_weak_43 at h
  refine o_iload_n k163_0 rfl ?_
  refine o_i2l k163_1 ?_
  refine o_lconst (v := 0) k163_2 (by decide) ?_
  refine o_ldc2_w k163_3 ?_
  refine o_call k163_6 pj_125 (fun _ => rfl) (by decide) rfl (as := [.long a0.toInt64, .long 0, .long 2]) (rest := []) rfl (L0 := [some (.long a0.toInt64), none, some (.long 0), none, some (.long 2), none]) rfl (t_X8_in (M := M) (a0 := a0.toInt64) (a1 := 0) (a2 := 2) rfl) ?_
  refine o_if_ne k163_9 (fun hc1 => ?_) (fun hc1 => ?_)
  · rw [if_neg hc1] at h
    refine o_iconst (v := 0) k163_14 (by decide) ?_
    refine o_istore_n (v := 0) (L' := [some (.ref 43), some (.int a0), some (.int 0), none]) k163_15 rfl rfl ?_
    refine o_iconst (v := 0) k163_16 (by decide) ?_
    refine o_istore_n (v := 0) (L' := [some (.ref 43), some (.int a0), some (.int 0), some (.int 0)]) k163_17 rfl rfl ?_
    refine bd_i h (fun s8 hs8 h => ?_)
    refine lp_o (fun (s2 : Int32 × Int32) => match s2 with | (x3, x4) => oo LN xs 0 0 163 18 [some (.ref 43), some (.int a0), some (.int x3), some (.int x4)] [] M (some (.int t), M)) (fun (s8 : Int32 × Int32) => match s8 with | (x9, x10) => oo LN xs 0 0 163 46 [some (.ref 43), some (.int a0), some (.int x9), some (.int x10)] [] M (some (.int t), M)) ?_ hs8 ?_
    · rintro ⟨x3, x4⟩ ws2 h hK
      dsimp only at h
      show oo LN xs 0 0 163 18 [some (.ref 43), some (.int a0), some (.int x3), some (.int x4)] [] M (some (.int t), M)
      refine o_iload_n k163_18 rfl ?_
      refine o_aload_n k163_19 rfl ?_
      refine o_gf k163_20 (gf_43_0 _) ?_
      refine o_iconst (v := 0) k163_23 (by decide) ?_
      refine o_iald k163_24 rfl ia_44 (by decide) ?_
      refine o_icmp_ge k163_25 (fun hc6 => ?_) (fun hc6 => ?_)
      · rw [if_pos hc6] at h
        have h9 := Option.some.inj h
        subst h9
        exact hK
      · rw [if_neg hc6] at h
        refine o_iload_n k163_28 rfl ?_
        refine o_aload_n k163_29 rfl ?_
        refine o_iload_n k163_30 rfl ?_
        refine o_iload_n k163_31 rfl ?_
        refine bd_i h (fun v7 hv7 h => ?_)
        refine o_call k163_32 pj_162 (fun _ => rfl) (by decide) rfl (as := [.ref 43, .int x4, .int a0]) (rest := [.int x3]) rfl (L0 := [some (.ref 43), some (.int x4), some (.int a0), none, none]) rfl (t_X8_isWeak_43 hv7) ?_
        refine o_call k163_35 pj_126 (fun _ => rfl) (by decide) rfl (as := [.int v7]) (rest := [.int x3]) rfl (L0 := [some (.int v7)]) rfl (t_X8_flag (M := M) (a0 := v7) rfl) ?_
        refine o_iadd k163_38 ?_
        refine o_istore_n (v := (x3 + (f_X8_flag v7))) (L' := [some (.ref 43), some (.int a0), some (.int (x3 + (f_X8_flag v7))), some (.int x4)]) k163_39 rfl rfl ?_
        refine o_iinc (k := 1) (L' := [some (.ref 43), some (.int a0), some (.int (x3 + (f_X8_flag v7))), some (.int (x4 + 1))]) k163_40 rfl (by decide) rfl ?_
        refine o_goto k163_43 ?_
        have h9 := Option.some.inj h
        subst h9
        exact hK
    · obtain ⟨x9, x10⟩ := s8
      show oo LN xs 0 0 163 46 [some (.ref 43), some (.int a0), some (.int x9), some (.int x10)] [] M (some (.int t), M)
      dsimp only at h
      refine o_iload_n k163_46 rfl ?_
      have h9 := Option.some.inj h
      subst h9
      exact o_iret pj_163 k163_47 rfl nr_i
  · rw [if_pos hc1] at h
    refine o_iconst (v := (-1)) k163_12 (by decide) ?_
    have h9 := Option.some.inj h
    subst h9
    exact o_iret pj_163 k163_13 rfl nr_i
def f_X7_isUnknowns (a0 : Int32) : Int32 := (if a0 < 0 then 0 else (if 8 < a0 then 0 else 1))
set_option maxRecDepth 20000 in
theorem t_X7_isUnknowns {LN : Nat} {xs : Nat → Int32} {a0 : Int32} {M : am_M} {t : Int32} (h : f_X7_isUnknowns a0 = t) : oo LN xs 0 0 96 0 [some (.int a0)] [] M (some (.int t), M) := by
  unfold f_X7_isUnknowns at h
  refine o_iload_n k96_0 rfl ?_
  refine o_if_lt k96_1 (fun hc1 => ?_) (fun hc1 => ?_)
  · rw [if_pos hc1] at h
    refine o_iconst (v := 0) k96_14 (by decide) ?_
    subst h
    exact o_iret pj_96 k96_15 rfl (nr_z (by decide))
  · rw [if_neg hc1] at h
    refine o_iload_n k96_4 rfl ?_
    refine o_bipush (v := 8) k96_5 (by decide) ?_
    refine o_icmp_gt k96_7 (fun hc2 => ?_) (fun hc2 => ?_)
    · rw [if_pos hc2] at h
      refine o_iconst (v := 0) k96_14 (by decide) ?_
      subst h
      exact o_iret pj_96 k96_15 rfl (nr_z (by decide))
    · rw [if_neg hc2] at h
      refine o_iconst (v := 1) k96_10 (by decide) ?_
      refine o_goto k96_11 ?_
      subst h
      exact o_iret pj_96 k96_15 rfl (nr_z (by decide))
def f_X0_allChains_9 (M : am_M) : Int32 := (((1 : Int32) <<< ((M 9 0) &&& 31)) - 1)
set_option maxRecDepth 20000 in
theorem t_X0_allChains_9 {LN : Nat} {xs : Nat → Int32} {M : am_M} {t : Int32} (h : f_X0_allChains_9 M = t) : oo LN xs 0 0 10 0 [some (.ref 9)] [] M (some (.int t), M) := by
  unfold f_X0_allChains_9 at h
  refine o_iconst (v := 1) k10_0 (by decide) ?_
  refine o_aload_n k10_1 rfl ?_
  refine o_gf k10_2 (gf_9_0 _) ?_
  refine o_ishl k10_5 ?_
  refine o_iconst (v := 1) k10_6 (by decide) ?_
  refine o_isub k10_7 ?_
  subst h
  exact o_iret pj_10 k10_8 rfl nr_i
def f_X0_chainsInside_9 (M : am_M) : Int32 := ((f_X0_allChains_9 M) &&& ((M 9 3) ^^^ (-1)))
set_option maxRecDepth 20000 in
theorem t_X0_chainsInside_9 {LN : Nat} {xs : Nat → Int32} {M : am_M} {t : Int32} (h : f_X0_chainsInside_9 M = t) : oo LN xs 0 0 12 0 [some (.ref 9)] [] M (some (.int t), M) := by
  unfold f_X0_chainsInside_9 at h
  refine o_aload_n k12_0 rfl ?_
  refine o_call k12_1 pj_10 (fun _ => rfl) (by decide) rfl (as := [.ref 9]) (rest := []) rfl (L0 := [some (.ref 9)]) rfl (t_X0_allChains_9 (M := M) rfl) ?_
  refine o_aload_n k12_4 rfl ?_
  refine o_gf k12_5 (gf_9_3 _) ?_
  refine o_iconst (v := (-1)) k12_8 (by decide) ?_
  refine o_ixor k12_9 ?_
  refine o_iand k12_10 ?_
  subst h
  exact o_iret pj_12 k12_11 rfl nr_i
def f_X0_isChoice (a0 : Int32) (a1 : Int32) (a2 : Int32) : Int32 := (if (a0 &&& (a2 ^^^ (-1))) = 0 then (if (f_J6_bitCount_0f7a4 a0) = a1 then 1 else 0) else 0)
set_option maxRecDepth 20000 in
theorem t_X0_isChoice {LN : Nat} {xs : Nat → Int32} {a0 : Int32} {a1 : Int32} {a2 : Int32} {M : am_M} {t : Int32} (h : f_X0_isChoice a0 a1 a2 = t) : oo LN xs 0 0 24 0 [some (.int a0), some (.int a1), some (.int a2)] [] M (some (.int t), M) := by
  unfold f_X0_isChoice at h
  refine o_iload_n k24_0 rfl ?_
  refine o_iload_n k24_1 rfl ?_
  refine o_iconst (v := (-1)) k24_2 (by decide) ?_
  refine o_ixor k24_3 ?_
  refine o_iand k24_4 ?_
  refine o_if_ne k24_5 (fun hc1 => ?_) (fun hc1 => ?_)
  · rw [if_neg hc1] at h
    refine o_iconst (v := 0) k24_20 (by decide) ?_
    subst h
    exact o_iret pj_24 k24_21 rfl (nr_z (by decide))
  · rw [if_pos hc1] at h
    refine o_iload_n k24_8 rfl ?_
    refine o_call k24_9 pj_212 (fun _ => rfl) (by decide) rfl (as := [.int a0]) (rest := []) rfl (L0 := [some (.int a0)]) rfl (t_J6_bitCount_0f7a4 (M := M) (a0 := a0) rfl) ?_
    refine o_iload_n k24_12 rfl ?_
    refine o_icmp_ne k24_13 (fun hc2 => ?_) (fun hc2 => ?_)
    · rw [if_neg hc2] at h
      refine o_iconst (v := 0) k24_20 (by decide) ?_
      subst h
      exact o_iret pj_24 k24_21 rfl (nr_z (by decide))
    · rw [if_pos hc2] at h
      refine o_iconst (v := 1) k24_16 (by decide) ?_
      refine o_goto k24_17 ?_
      subst h
      exact o_iret pj_24 k24_21 rfl (nr_z (by decide))
def f_X0_sumOf_9 (a0 : Int32) (M : am_M) : Option Int32 := ((lp (σ := Int32 × Int32) (ρ := Int32 × Int32) (fun (s1 : Int32 × Int32) => match s1 with | (x2, x3) => (if (M 9 0) ≤ x3 then (some (.inr (x2, x3))) else (if (f_X0_isIn x3 a0) = 0 then (some (.inl (x2, (x3 + 1)))) else (if am_dbin x3 8 = true then (some (.inl ((x2 ^^^ (M 12 x3.toNatClampNeg)), (x3 + 1)))) else none)))) lp_F (0, 0)).bind (fun (s7 : Int32 × Int32) => match s7 with | (x8, x9) => (some x8)))
set_option maxRecDepth 20000 in
theorem t_X0_sumOf_9 {LN : Nat} {xs : Nat → Int32} {a0 : Int32} {M : am_M} {t : Int32} (h : f_X0_sumOf_9 a0 M = some t) : oo LN xs 0 0 22 0 [some (.ref 9), some (.int a0), none, none] [] M (some (.int t), M) := by
  unfold f_X0_sumOf_9 at h
  refine o_iconst (v := 0) k22_0 (by decide) ?_
  refine o_istore_n (v := 0) (L' := [some (.ref 9), some (.int a0), some (.int 0), none]) k22_1 rfl rfl ?_
  refine o_iconst (v := 0) k22_2 (by decide) ?_
  refine o_istore_n (v := 0) (L' := [some (.ref 9), some (.int a0), some (.int 0), some (.int 0)]) k22_3 rfl rfl ?_
  refine bd_i h (fun s7 hs7 h => ?_)
  refine lp_o (fun (s1 : Int32 × Int32) => match s1 with | (x2, x3) => oo LN xs 0 0 22 4 [some (.ref 9), some (.int a0), some (.int x2), some (.int x3)] [] M (some (.int t), M)) (fun (s7 : Int32 × Int32) => match s7 with | (x8, x9) => oo LN xs 0 0 22 35 [some (.ref 9), some (.int a0), some (.int x8), some (.int x9)] [] M (some (.int t), M)) ?_ hs7 ?_
  · rintro ⟨x2, x3⟩ ws1 h hK
    dsimp only at h
    show oo LN xs 0 0 22 4 [some (.ref 9), some (.int a0), some (.int x2), some (.int x3)] [] M (some (.int t), M)
    refine o_iload_n k22_4 rfl ?_
    refine o_aload_n k22_5 rfl ?_
    refine o_gf k22_6 (gf_9_0 _) ?_
    refine o_icmp_ge k22_9 (fun hc4 => ?_) (fun hc4 => ?_)
    · rw [if_pos hc4] at h
      have h9 := Option.some.inj h
      subst h9
      exact hK
    · rw [if_neg hc4] at h
      refine o_iload_n k22_12 rfl ?_
      refine o_iload_n k22_13 rfl ?_
      refine o_call k22_14 pj_6 (fun _ => rfl) (by decide) rfl (as := [.int x3, .int a0]) (rest := []) rfl (L0 := [some (.int x3), some (.int a0)]) rfl (t_X0_isIn (M := M) (a0 := x3) (a1 := a0) rfl) ?_
      refine o_if_eq k22_17 (fun hc5 => ?_) (fun hc5 => ?_)
      · rw [if_pos hc5] at h
        refine o_iinc (k := 1) (L' := [some (.ref 9), some (.int a0), some (.int x2), some (.int (x3 + 1))]) k22_29 rfl (by decide) rfl ?_
        refine o_goto k22_32 ?_
        have h9 := Option.some.inj h
        subst h9
        exact hK
      · rw [if_neg hc5] at h
        refine o_iload_n k22_20 rfl ?_
        refine o_aload_n k22_21 rfl ?_
        refine o_gf k22_22 (gf_9_9 _) ?_
        refine o_iload_n k22_25 rfl ?_
        obtain ⟨hc6, h⟩ := ck_i h
        refine o_iald k22_26 rfl ia_12 hc6 ?_
        refine o_ixor k22_27 ?_
        refine o_istore_n (v := (x2 ^^^ (M 12 x3.toNatClampNeg))) (L' := [some (.ref 9), some (.int a0), some (.int (x2 ^^^ (M 12 x3.toNatClampNeg))), some (.int x3)]) k22_28 rfl rfl ?_
        refine o_iinc (k := 1) (L' := [some (.ref 9), some (.int a0), some (.int (x2 ^^^ (M 12 x3.toNatClampNeg))), some (.int (x3 + 1))]) k22_29 rfl (by decide) rfl ?_
        refine o_goto k22_32 ?_
        have h9 := Option.some.inj h
        subst h9
        exact hK
  · obtain ⟨x8, x9⟩ := s7
    show oo LN xs 0 0 22 35 [some (.ref 9), some (.int a0), some (.int x8), some (.int x9)] [] M (some (.int t), M)
    dsimp only at h
    refine o_iload_n k22_35 rfl ?_
    have h9 := Option.some.inj h
    subst h9
    exact o_iret pj_22 k22_36 rfl nr_i
def f_X0_coverOf_9 (a0 : Int32) (M : am_M) : Option Int32 := ((lp (σ := Int32 × Int32) (ρ := Int32 × Int32) (fun (s1 : Int32 × Int32) => match s1 with | (x2, x3) => (if (M 9 0) ≤ x3 then (some (.inr (x2, x3))) else (if (f_X0_isIn x3 a0) = 0 then (some (.inl (x2, (x3 + 1)))) else (if am_dbin x3 8 = true then (some (.inl ((x2 ||| (M 12 x3.toNatClampNeg)), (x3 + 1)))) else none)))) lp_F (0, 0)).bind (fun (s7 : Int32 × Int32) => match s7 with | (x8, x9) => (some x8)))
set_option maxRecDepth 20000 in
theorem t_X0_coverOf_9 {LN : Nat} {xs : Nat → Int32} {a0 : Int32} {M : am_M} {t : Int32} (h : f_X0_coverOf_9 a0 M = some t) : oo LN xs 0 0 23 0 [some (.ref 9), some (.int a0), none, none] [] M (some (.int t), M) := by
  unfold f_X0_coverOf_9 at h
  refine o_iconst (v := 0) k23_0 (by decide) ?_
  refine o_istore_n (v := 0) (L' := [some (.ref 9), some (.int a0), some (.int 0), none]) k23_1 rfl rfl ?_
  refine o_iconst (v := 0) k23_2 (by decide) ?_
  refine o_istore_n (v := 0) (L' := [some (.ref 9), some (.int a0), some (.int 0), some (.int 0)]) k23_3 rfl rfl ?_
  refine bd_i h (fun s7 hs7 h => ?_)
  refine lp_o (fun (s1 : Int32 × Int32) => match s1 with | (x2, x3) => oo LN xs 0 0 23 4 [some (.ref 9), some (.int a0), some (.int x2), some (.int x3)] [] M (some (.int t), M)) (fun (s7 : Int32 × Int32) => match s7 with | (x8, x9) => oo LN xs 0 0 23 35 [some (.ref 9), some (.int a0), some (.int x8), some (.int x9)] [] M (some (.int t), M)) ?_ hs7 ?_
  · rintro ⟨x2, x3⟩ ws1 h hK
    dsimp only at h
    show oo LN xs 0 0 23 4 [some (.ref 9), some (.int a0), some (.int x2), some (.int x3)] [] M (some (.int t), M)
    refine o_iload_n k23_4 rfl ?_
    refine o_aload_n k23_5 rfl ?_
    refine o_gf k23_6 (gf_9_0 _) ?_
    refine o_icmp_ge k23_9 (fun hc4 => ?_) (fun hc4 => ?_)
    · rw [if_pos hc4] at h
      have h9 := Option.some.inj h
      subst h9
      exact hK
    · rw [if_neg hc4] at h
      refine o_iload_n k23_12 rfl ?_
      refine o_iload_n k23_13 rfl ?_
      refine o_call k23_14 pj_6 (fun _ => rfl) (by decide) rfl (as := [.int x3, .int a0]) (rest := []) rfl (L0 := [some (.int x3), some (.int a0)]) rfl (t_X0_isIn (M := M) (a0 := x3) (a1 := a0) rfl) ?_
      refine o_if_eq k23_17 (fun hc5 => ?_) (fun hc5 => ?_)
      · rw [if_pos hc5] at h
        refine o_iinc (k := 1) (L' := [some (.ref 9), some (.int a0), some (.int x2), some (.int (x3 + 1))]) k23_29 rfl (by decide) rfl ?_
        refine o_goto k23_32 ?_
        have h9 := Option.some.inj h
        subst h9
        exact hK
      · rw [if_neg hc5] at h
        refine o_iload_n k23_20 rfl ?_
        refine o_aload_n k23_21 rfl ?_
        refine o_gf k23_22 (gf_9_9 _) ?_
        refine o_iload_n k23_25 rfl ?_
        obtain ⟨hc6, h⟩ := ck_i h
        refine o_iald k23_26 rfl ia_12 hc6 ?_
        refine o_ior k23_27 ?_
        refine o_istore_n (v := (x2 ||| (M 12 x3.toNatClampNeg))) (L' := [some (.ref 9), some (.int a0), some (.int (x2 ||| (M 12 x3.toNatClampNeg))), some (.int x3)]) k23_28 rfl rfl ?_
        refine o_iinc (k := 1) (L' := [some (.ref 9), some (.int a0), some (.int (x2 ||| (M 12 x3.toNatClampNeg))), some (.int (x3 + 1))]) k23_29 rfl (by decide) rfl ?_
        refine o_goto k23_32 ?_
        have h9 := Option.some.inj h
        subst h9
        exact hK
  · obtain ⟨x8, x9⟩ := s7
    show oo LN xs 0 0 23 35 [some (.ref 9), some (.int a0), some (.int x8), some (.int x9)] [] M (some (.int t), M)
    dsimp only at h
    refine o_iload_n k23_35 rfl ?_
    have h9 := Option.some.inj h
    subst h9
    exact o_iret pj_23 k23_36 rfl nr_i
def f_X0_choicesBeside_9 (a0 : Int32) (a1 : Int32) (a2 : Int32) (a3 : Int32) (M : am_M) : Option Int32 := ((f_X0_sumOf_9 a0 M).bind (fun v1 => ((lp (σ := Int32 × Int32) (ρ := Int32 × Int32) (fun (s2 : Int32 × Int32) => match s2 with | (x3, x4) => (if a2 < x4 then (some (.inr (x3, x4))) else (if (f_X0_isChoice x4 a1 a2) = 0 then (some (.inl (x3, (x4 + 1)))) else (if a3 = 0 then (some (.inl ((x3 + 1), (x4 + 1)))) else ((f_X0_coverOf_9 x4 M).bind (fun v8 => (if (v1 &&& (v8 ^^^ (-1))) = 0 then (some (.inl ((x3 + 1), (x4 + 1)))) else (some (.inl (x3, (x4 + 1))))))))))) lp_F (0, 0)).bind (fun (s10 : Int32 × Int32) => match s10 with | (x11, x12) => (some x11)))))
set_option maxRecDepth 20000 in
theorem t_X0_choicesBeside_9 {LN : Nat} {xs : Nat → Int32} {a0 : Int32} {a1 : Int32} {a2 : Int32} {a3 : Int32} {M : am_M} {t : Int32} (h : f_X0_choicesBeside_9 a0 a1 a2 a3 M = some t) : oo LN xs 0 0 26 0 [some (.ref 9), some (.int a0), some (.int a1), some (.int a2), some (.int a3), none, none, none] [] M (some (.int t), M) := by
  unfold f_X0_choicesBeside_9 at h
  refine o_aload_n k26_0 rfl ?_
  refine o_iload_n k26_1 rfl ?_
  refine bd_i h (fun v1 hv1 h => ?_)
  refine o_call k26_2 pj_22 (fun _ => rfl) (by decide) rfl (as := [.ref 9, .int a0]) (rest := []) rfl (L0 := [some (.ref 9), some (.int a0), none, none]) rfl (t_X0_sumOf_9 hv1) ?_
  refine o_istore (v := v1) (L' := [some (.ref 9), some (.int a0), some (.int a1), some (.int a2), some (.int a3), some (.int v1), none, none]) k26_5 rfl rfl ?_
  refine o_iconst (v := 0) k26_7 (by decide) ?_
  refine o_istore (v := 0) (L' := [some (.ref 9), some (.int a0), some (.int a1), some (.int a2), some (.int a3), some (.int v1), some (.int 0), none]) k26_8 rfl rfl ?_
  refine o_iconst (v := 0) k26_10 (by decide) ?_
  refine o_istore (v := 0) (L' := [some (.ref 9), some (.int a0), some (.int a1), some (.int a2), some (.int a3), some (.int v1), some (.int 0), some (.int 0)]) k26_11 rfl rfl ?_
  refine bd_i h (fun s10 hs10 h => ?_)
  refine lp_o (fun (s2 : Int32 × Int32) => match s2 with | (x3, x4) => oo LN xs 0 0 26 13 [some (.ref 9), some (.int a0), some (.int a1), some (.int a2), some (.int a3), some (.int v1), some (.int x3), some (.int x4)] [] M (some (.int t), M)) (fun (s10 : Int32 × Int32) => match s10 with | (x11, x12) => oo LN xs 0 0 26 57 [some (.ref 9), some (.int a0), some (.int a1), some (.int a2), some (.int a3), some (.int v1), some (.int x11), some (.int x12)] [] M (some (.int t), M)) ?_ hs10 ?_
  · rintro ⟨x3, x4⟩ ws2 h hK
    dsimp only at h
    show oo LN xs 0 0 26 13 [some (.ref 9), some (.int a0), some (.int a1), some (.int a2), some (.int a3), some (.int v1), some (.int x3), some (.int x4)] [] M (some (.int t), M)
    refine o_iload k26_13 rfl ?_
    refine o_iload_n k26_15 rfl ?_
    refine o_icmp_gt k26_16 (fun hc5 => ?_) (fun hc5 => ?_)
    · rw [if_pos hc5] at h
      have h9 := Option.some.inj h
      subst h9
      exact hK
    · rw [if_neg hc5] at h
      refine o_iload k26_19 rfl ?_
      refine o_iload_n k26_21 rfl ?_
      refine o_iload_n k26_22 rfl ?_
      refine o_call k26_23 pj_24 (fun _ => rfl) (by decide) rfl (as := [.int x4, .int a1, .int a2]) (rest := []) rfl (L0 := [some (.int x4), some (.int a1), some (.int a2)]) rfl (t_X0_isChoice (M := M) (a0 := x4) (a1 := a1) (a2 := a2) rfl) ?_
      refine o_if_eq k26_26 (fun hc6 => ?_) (fun hc6 => ?_)
      · rw [if_pos hc6] at h
        refine o_iinc (k := 1) (L' := [some (.ref 9), some (.int a0), some (.int a1), some (.int a2), some (.int a3), some (.int v1), some (.int x3), some (.int (x4 + 1))]) k26_51 rfl (by decide) rfl ?_
        refine o_goto k26_54 ?_
        have h9 := Option.some.inj h
        subst h9
        exact hK
      · rw [if_neg hc6] at h
        refine o_iload k26_29 rfl ?_
        refine o_if_eq k26_31 (fun hc7 => ?_) (fun hc7 => ?_)
        · rw [if_pos hc7] at h
          refine o_iinc (k := 1) (L' := [some (.ref 9), some (.int a0), some (.int a1), some (.int a2), some (.int a3), some (.int v1), some (.int (x3 + 1)), some (.int x4)]) k26_48 rfl (by decide) rfl ?_
          refine o_iinc (k := 1) (L' := [some (.ref 9), some (.int a0), some (.int a1), some (.int a2), some (.int a3), some (.int v1), some (.int (x3 + 1)), some (.int (x4 + 1))]) k26_51 rfl (by decide) rfl ?_
          refine o_goto k26_54 ?_
          have h9 := Option.some.inj h
          subst h9
          exact hK
        · rw [if_neg hc7] at h
          refine o_iload k26_34 rfl ?_
          refine o_aload_n k26_36 rfl ?_
          refine o_iload k26_37 rfl ?_
          refine bd_i h (fun v8 hv8 h => ?_)
          refine o_call k26_39 pj_23 (fun _ => rfl) (by decide) rfl (as := [.ref 9, .int x4]) (rest := [.int v1]) rfl (L0 := [some (.ref 9), some (.int x4), none, none]) rfl (t_X0_coverOf_9 hv8) ?_
          refine o_iconst (v := (-1)) k26_42 (by decide) ?_
          refine o_ixor k26_43 ?_
          refine o_iand k26_44 ?_
          refine o_if_ne k26_45 (fun hc9 => ?_) (fun hc9 => ?_)
          · rw [if_neg hc9] at h
            refine o_iinc (k := 1) (L' := [some (.ref 9), some (.int a0), some (.int a1), some (.int a2), some (.int a3), some (.int v1), some (.int x3), some (.int (x4 + 1))]) k26_51 rfl (by decide) rfl ?_
            refine o_goto k26_54 ?_
            have h9 := Option.some.inj h
            subst h9
            exact hK
          · rw [if_pos hc9] at h
            refine o_iinc (k := 1) (L' := [some (.ref 9), some (.int a0), some (.int a1), some (.int a2), some (.int a3), some (.int v1), some (.int (x3 + 1)), some (.int x4)]) k26_48 rfl (by decide) rfl ?_
            refine o_iinc (k := 1) (L' := [some (.ref 9), some (.int a0), some (.int a1), some (.int a2), some (.int a3), some (.int v1), some (.int (x3 + 1)), some (.int (x4 + 1))]) k26_51 rfl (by decide) rfl ?_
            refine o_goto k26_54 ?_
            have h9 := Option.some.inj h
            subst h9
            exact hK
  · obtain ⟨x11, x12⟩ := s10
    show oo LN xs 0 0 26 57 [some (.ref 9), some (.int a0), some (.int a1), some (.int a2), some (.int a3), some (.int v1), some (.int x11), some (.int x12)] [] M (some (.int t), M)
    dsimp only at h
    refine o_iload k26_57 rfl ?_
    have h9 := Option.some.inj h
    subst h9
    exact o_iret pj_26 k26_59 rfl nr_i
def f_X0_choices_9 (a0 : Int32) (a1 : Int32) (a2 : Int32) (M : am_M) : Option Int32 := ((lp (σ := Int32 × Int32) (ρ := Int32 × Int32) (fun (s1 : Int32 × Int32) => match s1 with | (x2, x3) => (if (f_X0_chainsInside_9 M) < x3 then (some (.inr (x2, x3))) else (if (f_X0_isChoice x3 a0 (f_X0_chainsInside_9 M)) = 0 then (some (.inl (x2, (x3 + 1)))) else ((f_X0_choicesBeside_9 x3 a1 ((f_X0_chainsInside_9 M) &&& (x3 ^^^ (-1))) a2 M).bind (fun v6 => (some (.inl ((x2 + v6), (x3 + 1))))))))) lp_F (0, 1)).bind (fun (s7 : Int32 × Int32) => match s7 with | (x8, x9) => (some x8)))
set_option maxRecDepth 20000 in
theorem t_X0_choices_9 {LN : Nat} {xs : Nat → Int32} {a0 : Int32} {a1 : Int32} {a2 : Int32} {M : am_M} {t : Int32} (h : f_X0_choices_9 a0 a1 a2 M = some t) : oo LN xs 0 0 25 0 [some (.ref 9), some (.int a0), some (.int a1), some (.int a2), none, none, none] [] M (some (.int t), M) := by
  unfold f_X0_choices_9 at h
  refine o_aload_n k25_0 rfl ?_
  refine o_call k25_1 pj_12 (fun _ => rfl) (by decide) rfl (as := [.ref 9]) (rest := []) rfl (L0 := [some (.ref 9)]) rfl (t_X0_chainsInside_9 (M := M) rfl) ?_
  refine o_istore (v := (f_X0_chainsInside_9 M)) (L' := [some (.ref 9), some (.int a0), some (.int a1), some (.int a2), some (.int (f_X0_chainsInside_9 M)), none, none]) k25_4 rfl rfl ?_
  refine o_iconst (v := 0) k25_6 (by decide) ?_
  refine o_istore (v := 0) (L' := [some (.ref 9), some (.int a0), some (.int a1), some (.int a2), some (.int (f_X0_chainsInside_9 M)), some (.int 0), none]) k25_7 rfl rfl ?_
  refine o_iconst (v := 1) k25_9 (by decide) ?_
  refine o_istore (v := 1) (L' := [some (.ref 9), some (.int a0), some (.int a1), some (.int a2), some (.int (f_X0_chainsInside_9 M)), some (.int 0), some (.int 1)]) k25_10 rfl rfl ?_
  refine bd_i h (fun s7 hs7 h => ?_)
  refine lp_o (fun (s1 : Int32 × Int32) => match s1 with | (x2, x3) => oo LN xs 0 0 25 12 [some (.ref 9), some (.int a0), some (.int a1), some (.int a2), some (.int (f_X0_chainsInside_9 M)), some (.int x2), some (.int x3)] [] M (some (.int t), M)) (fun (s7 : Int32 × Int32) => match s7 with | (x8, x9) => oo LN xs 0 0 25 56 [some (.ref 9), some (.int a0), some (.int a1), some (.int a2), some (.int (f_X0_chainsInside_9 M)), some (.int x8), some (.int x9)] [] M (some (.int t), M)) ?_ hs7 ?_
  · rintro ⟨x2, x3⟩ ws1 h hK
    dsimp only at h
    show oo LN xs 0 0 25 12 [some (.ref 9), some (.int a0), some (.int a1), some (.int a2), some (.int (f_X0_chainsInside_9 M)), some (.int x2), some (.int x3)] [] M (some (.int t), M)
    refine o_iload k25_12 rfl ?_
    refine o_iload k25_14 rfl ?_
    refine o_icmp_gt k25_16 (fun hc4 => ?_) (fun hc4 => ?_)
    · rw [if_pos hc4] at h
      have h9 := Option.some.inj h
      subst h9
      exact hK
    · rw [if_neg hc4] at h
      refine o_iload k25_19 rfl ?_
      refine o_iload_n k25_21 rfl ?_
      refine o_iload k25_22 rfl ?_
      refine o_call k25_24 pj_24 (fun _ => rfl) (by decide) rfl (as := [.int x3, .int a0, .int (f_X0_chainsInside_9 M)]) (rest := []) rfl (L0 := [some (.int x3), some (.int a0), some (.int (f_X0_chainsInside_9 M))]) rfl (t_X0_isChoice (M := M) (a0 := x3) (a1 := a0) (a2 := (f_X0_chainsInside_9 M)) rfl) ?_
      refine o_if_eq k25_27 (fun hc5 => ?_) (fun hc5 => ?_)
      · rw [if_pos hc5] at h
        refine o_iinc (k := 1) (L' := [some (.ref 9), some (.int a0), some (.int a1), some (.int a2), some (.int (f_X0_chainsInside_9 M)), some (.int x2), some (.int (x3 + 1))]) k25_50 rfl (by decide) rfl ?_
        refine o_goto k25_53 ?_
        have h9 := Option.some.inj h
        subst h9
        exact hK
      · rw [if_neg hc5] at h
        refine o_iload k25_30 rfl ?_
        refine o_aload_n k25_32 rfl ?_
        refine o_iload k25_33 rfl ?_
        refine o_iload_n k25_35 rfl ?_
        refine o_iload k25_36 rfl ?_
        refine o_iload k25_38 rfl ?_
        refine o_iconst (v := (-1)) k25_40 (by decide) ?_
        refine o_ixor k25_41 ?_
        refine o_iand k25_42 ?_
        refine o_iload_n k25_43 rfl ?_
        refine bd_i h (fun v6 hv6 h => ?_)
        refine o_call k25_44 pj_26 (fun _ => rfl) (by decide) rfl (as := [.ref 9, .int x3, .int a1, .int ((f_X0_chainsInside_9 M) &&& (x3 ^^^ (-1))), .int a2]) (rest := [.int x2]) rfl (L0 := [some (.ref 9), some (.int x3), some (.int a1), some (.int ((f_X0_chainsInside_9 M) &&& (x3 ^^^ (-1)))), some (.int a2), none, none, none]) rfl (t_X0_choicesBeside_9 hv6) ?_
        refine o_iadd k25_47 ?_
        refine o_istore (v := (x2 + v6)) (L' := [some (.ref 9), some (.int a0), some (.int a1), some (.int a2), some (.int (f_X0_chainsInside_9 M)), some (.int (x2 + v6)), some (.int x3)]) k25_48 rfl rfl ?_
        refine o_iinc (k := 1) (L' := [some (.ref 9), some (.int a0), some (.int a1), some (.int a2), some (.int (f_X0_chainsInside_9 M)), some (.int (x2 + v6)), some (.int (x3 + 1))]) k25_50 rfl (by decide) rfl ?_
        refine o_goto k25_53 ?_
        have h9 := Option.some.inj h
        subst h9
        exact hK
  · obtain ⟨x8, x9⟩ := s7
    show oo LN xs 0 0 25 56 [some (.ref 9), some (.int a0), some (.int a1), some (.int a2), some (.int (f_X0_chainsInside_9 M)), some (.int x8), some (.int x9)] [] M (some (.int t), M)
    dsimp only at h
    refine o_iload k25_56 rfl ?_
    have h9 := Option.some.inj h
    subst h9
    exact o_iret pj_25 k25_58 rfl nr_i
def f_X7_hidden_0 (a0 : Int32) (a1 : Int32) (a2 : Int32) (M : am_M) : Option Int32 := (if a0 < 1 then (some (-1)) else (if 8 < a0 then (some (-1)) else (if (f_X7_isUnknowns a1) = 0 then (some (-1)) else (if a2 < 0 then (some (-1)) else (if a2 ≤ 1 then (bl (if a2 = 1 then 1 else 0) (fun (v7 : Int32) => ((f_X0_choices_9 a0 a1 v7 M).bind (fun v8 => (some v8))))) else (some (-1)))))))
set_option maxRecDepth 20000 in
theorem t_X7_hidden_0 {LN : Nat} {xs : Nat → Int32} {a0 : Int32} {a1 : Int32} {a2 : Int32} {M : am_M} {t : Int32} (h : f_X7_hidden_0 a0 a1 a2 M = some t) : oo LN xs 0 0 91 0 [some (.ref 0), some (.int a0), some (.int a1), some (.int a2)] [] M (some (.int t), M) := by
  unfold f_X7_hidden_0 at h
  refine o_iload_n k91_0 rfl ?_
  refine o_iconst (v := 1) k91_1 (by decide) ?_
  refine o_icmp_lt k91_2 (fun hc1 => ?_) (fun hc1 => ?_)
  · rw [if_pos hc1] at h
    refine o_iconst (v := (-1)) k91_27 (by decide) ?_
    have h9 := Option.some.inj h
    subst h9
    exact o_iret pj_91 k91_28 rfl nr_i
  · rw [if_neg hc1] at h
    refine o_iload_n k91_5 rfl ?_
    refine o_bipush (v := 8) k91_6 (by decide) ?_
    refine o_icmp_gt k91_8 (fun hc2 => ?_) (fun hc2 => ?_)
    · rw [if_pos hc2] at h
      refine o_iconst (v := (-1)) k91_27 (by decide) ?_
      have h9 := Option.some.inj h
      subst h9
      exact o_iret pj_91 k91_28 rfl nr_i
    · rw [if_neg hc2] at h
      refine o_iload_n k91_11 rfl ?_
      refine o_call k91_12 pj_96 (fun _ => rfl) (by decide) rfl (as := [.int a1]) (rest := []) rfl (L0 := [some (.int a1)]) rfl (t_X7_isUnknowns (M := M) (a0 := a1) rfl) ?_
      refine o_if_eq k91_15 (fun hc3 => ?_) (fun hc3 => ?_)
      · rw [if_pos hc3] at h
        refine o_iconst (v := (-1)) k91_27 (by decide) ?_
        have h9 := Option.some.inj h
        subst h9
        exact o_iret pj_91 k91_28 rfl nr_i
      · rw [if_neg hc3] at h
        refine o_iload_n k91_18 rfl ?_
        refine o_if_lt k91_19 (fun hc4 => ?_) (fun hc4 => ?_)
        · rw [if_pos hc4] at h
          refine o_iconst (v := (-1)) k91_27 (by decide) ?_
          have h9 := Option.some.inj h
          subst h9
          exact o_iret pj_91 k91_28 rfl nr_i
        · rw [if_neg hc4] at h
          refine o_iload_n k91_22 rfl ?_
          refine o_iconst (v := 1) k91_23 (by decide) ?_
          refine o_icmp_le k91_24 (fun hc5 => ?_) (fun hc5 => ?_)
          · rw [if_pos hc5] at h
            refine o_aload_n k91_29 rfl ?_
            refine o_gf k91_30 (gf_0_2 _) ?_
            refine o_iload_n k91_33 rfl ?_
            refine o_iload_n k91_34 rfl ?_
            refine o_iload_n k91_35 rfl ?_
            refine o_iconst (v := 1) k91_36 (by decide) ?_
            refine bl_i h (fun v7 ev7 h => ?_)
            have hJ45 : ∀ (yv7 : Int32), yv7 = v7 → oo LN xs 0 0 91 45 [some (.ref 0), some (.int a0), some (.int a1), some (.int a2)] [.int yv7, .int a1, .int a0, .ref 9] M (some (.int t), M) := by
              intro yv7 hyv7
              rw [hyv7]
              refine bd_i h (fun v8 hv8 h => ?_)
              refine o_call k91_45 pj_25 (fun _ => rfl) (by decide) rfl (as := [.ref 9, .int a0, .int a1, .int v7]) (rest := []) rfl (L0 := [some (.ref 9), some (.int a0), some (.int a1), some (.int v7), none, none, none]) rfl (t_X0_choices_9 hv8) ?_
              have h9 := Option.some.inj h
              subst h9
              exact o_iret pj_91 k91_48 rfl nr_i
            refine o_icmp_ne k91_37 (fun hc6 => ?_) (fun hc6 => ?_)
            · skip
              refine o_iconst (v := 0) k91_44 (by decide) ?_
              exact hJ45 _ (by simp only [ev7, if_neg hc6])
            · skip
              refine o_iconst (v := 1) k91_40 (by decide) ?_
              refine o_goto k91_41 ?_
              exact hJ45 _ (by simp only [ev7, if_pos hc6])
          · rw [if_neg hc5] at h
            refine o_iconst (v := (-1)) k91_27 (by decide) ?_
            have h9 := Option.some.inj h
            subst h9
            exact o_iret pj_91 k91_28 rfl nr_i
def f_X8_isPart (a0 : Int32) : Option Int32 := (if (f_X8_in a0.toInt64 0 1) = 0 ∨ (f_X8_in a0.toInt64 0 1) = 1 then (some (f_X8_in a0.toInt64 0 1)) else none)
set_option maxRecDepth 20000 in
theorem t_X8_isPart {LN : Nat} {xs : Nat → Int32} {a0 : Int32} {M : am_M} {t : Int32} (h : f_X8_isPart a0 = some t) : oo LN xs 0 0 153 0 [some (.int a0)] [] M (some (.int t), M) := by
  unfold f_X8_isPart at h
  refine o_iload_n k153_0 rfl ?_
  refine o_i2l k153_1 ?_
  refine o_lconst (v := 0) k153_2 (by decide) ?_
  refine o_lconst (v := 1) k153_3 (by decide) ?_
  refine o_call k153_4 pj_125 (fun _ => rfl) (by decide) rfl (as := [.long a0.toInt64, .long 0, .long 1]) (rest := []) rfl (L0 := [some (.long a0.toInt64), none, some (.long 0), none, some (.long 1), none]) rfl (t_X8_in (M := M) (a0 := a0.toInt64) (a1 := 0) (a2 := 1) rfl) ?_
  obtain ⟨hc1, h⟩ := ck_i h
  have h9 := Option.some.inj h
  subst h9
  exact o_iret pj_153 k153_7 rfl (nr_z hc1)
def f_X8_chainsIn_43 (M : am_M) : Int32 := ((((1 : Int32) <<< ((M 44 (0 : Int32).toNatClampNeg) &&& 31)) - 1) &&& ((M 44 (3 : Int32).toNatClampNeg) ^^^ (-1)))
set_option maxRecDepth 20000 in
theorem t_X8_chainsIn_43 {LN : Nat} {xs : Nat → Int32} {M : am_M} {t : Int32} (h : f_X8_chainsIn_43 M = t) : oo LN xs 0 0 164 0 [some (.ref 43)] [] M (some (.int t), M) := by
  unfold f_X8_chainsIn_43 at h
  refine o_iconst (v := 1) k164_0 (by decide) ?_
  refine o_aload_n k164_1 rfl ?_
  refine o_gf k164_2 (gf_43_0 _) ?_
  refine o_iconst (v := 0) k164_5 (by decide) ?_
  refine o_iald k164_6 rfl ia_44 (by decide) ?_
  refine o_ishl k164_7 ?_
  refine o_iconst (v := 1) k164_8 (by decide) ?_
  refine o_isub k164_9 ?_
  refine o_aload_n k164_10 rfl ?_
  refine o_gf k164_11 (gf_43_0 _) ?_
  refine o_iconst (v := 3) k164_14 (by decide) ?_
  refine o_iald k164_15 rfl ia_44 (by decide) ?_
  refine o_iconst (v := (-1)) k164_16 (by decide) ?_
  refine o_ixor k164_17 ?_
  refine o_iand k164_18 ?_
  subst h
  exact o_iret pj_164 k164_19 rfl nr_i
def f_X8_columnsAdded_43 (a0 : Int32) (M : am_M) : Option Int32 := ((lp (σ := Int32 × Int32) (ρ := Int32 × Int32) (fun (s1 : Int32 × Int32) => match s1 with | (x2, x3) => (if (M 44 (0 : Int32).toNatClampNeg) ≤ x3 then (some (.inr (x2, x3))) else (if (f_X8_has a0 x3) = 0 then (some (.inl ((x2 ^^^ 0), (x3 + 1)))) else (if am_dbin ((135 : Int32) + x3) 151 = true then (some (.inl ((x2 ^^^ (M 44 ((135 : Int32) + x3).toNatClampNeg)), (x3 + 1)))) else none)))) lp_F (0, 0)).bind (fun (s8 : Int32 × Int32) => match s8 with | (x9, x10) => (some x9)))
set_option maxRecDepth 20000 in
theorem t_X8_columnsAdded_43 {LN : Nat} {xs : Nat → Int32} {a0 : Int32} {M : am_M} {t : Int32} (h : f_X8_columnsAdded_43 a0 M = some t) : oo LN xs 0 0 165 0 [some (.ref 43), some (.int a0), none, none] [] M (some (.int t), M) := by
  unfold f_X8_columnsAdded_43 at h
  refine o_iconst (v := 0) k165_0 (by decide) ?_
  refine o_istore_n (v := 0) (L' := [some (.ref 43), some (.int a0), some (.int 0), none]) k165_1 rfl rfl ?_
  refine o_iconst (v := 0) k165_2 (by decide) ?_
  refine o_istore_n (v := 0) (L' := [some (.ref 43), some (.int a0), some (.int 0), some (.int 0)]) k165_3 rfl rfl ?_
  refine bd_i h (fun s8 hs8 h => ?_)
  refine lp_o (fun (s1 : Int32 × Int32) => match s1 with | (x2, x3) => oo LN xs 0 0 165 4 [some (.ref 43), some (.int a0), some (.int x2), some (.int x3)] [] M (some (.int t), M)) (fun (s8 : Int32 × Int32) => match s8 with | (x9, x10) => oo LN xs 0 0 165 45 [some (.ref 43), some (.int a0), some (.int x9), some (.int x10)] [] M (some (.int t), M)) ?_ hs8 ?_
  · rintro ⟨x2, x3⟩ ws1 h hK
    dsimp only at h
    show oo LN xs 0 0 165 4 [some (.ref 43), some (.int a0), some (.int x2), some (.int x3)] [] M (some (.int t), M)
    refine o_iload_n k165_4 rfl ?_
    refine o_aload_n k165_5 rfl ?_
    refine o_gf k165_6 (gf_43_0 _) ?_
    refine o_iconst (v := 0) k165_9 (by decide) ?_
    refine o_iald k165_10 rfl ia_44 (by decide) ?_
    refine o_icmp_ge k165_11 (fun hc5 => ?_) (fun hc5 => ?_)
    · rw [if_pos hc5] at h
      have h9 := Option.some.inj h
      subst h9
      exact hK
    · rw [if_neg hc5] at h
      refine o_iload_n k165_14 rfl ?_
      refine o_iload_n k165_15 rfl ?_
      refine o_iload_n k165_16 rfl ?_
      refine o_call k165_17 pj_127 (fun _ => rfl) (by decide) rfl (as := [.int a0, .int x3]) (rest := [.int x2]) rfl (L0 := [some (.int a0), some (.int x3)]) rfl (t_X8_has (M := M) (a0 := a0) (a1 := x3) rfl) ?_
      refine o_if_eq k165_20 (fun hc6 => ?_) (fun hc6 => ?_)
      · rw [if_pos hc6] at h
        refine o_iconst (v := 0) k165_36 (by decide) ?_
        refine o_ixor k165_37 ?_
        refine o_istore_n (v := (x2 ^^^ 0)) (L' := [some (.ref 43), some (.int a0), some (.int (x2 ^^^ 0)), some (.int x3)]) k165_38 rfl rfl ?_
        refine o_iinc (k := 1) (L' := [some (.ref 43), some (.int a0), some (.int (x2 ^^^ 0)), some (.int (x3 + 1))]) k165_39 rfl (by decide) rfl ?_
        refine o_goto k165_42 ?_
        have h9 := Option.some.inj h
        subst h9
        exact hK
      · rw [if_neg hc6] at h
        refine o_aload_n k165_23 rfl ?_
        refine o_gf k165_24 (gf_43_0 _) ?_
        refine o_sipush (v := 135) k165_27 (by decide) ?_
        refine o_iload_n k165_30 rfl ?_
        refine o_iadd k165_31 ?_
        obtain ⟨hc7, h⟩ := ck_i h
        refine o_iald k165_32 rfl ia_44 hc7 ?_
        refine o_goto k165_33 ?_
        refine o_ixor k165_37 ?_
        refine o_istore_n (v := (x2 ^^^ (M 44 ((135 : Int32) + x3).toNatClampNeg))) (L' := [some (.ref 43), some (.int a0), some (.int (x2 ^^^ (M 44 ((135 : Int32) + x3).toNatClampNeg))), some (.int x3)]) k165_38 rfl rfl ?_
        refine o_iinc (k := 1) (L' := [some (.ref 43), some (.int a0), some (.int (x2 ^^^ (M 44 ((135 : Int32) + x3).toNatClampNeg))), some (.int (x3 + 1))]) k165_39 rfl (by decide) rfl ?_
        refine o_goto k165_42 ?_
        have h9 := Option.some.inj h
        subst h9
        exact hK
  · obtain ⟨x9, x10⟩ := s8
    show oo LN xs 0 0 165 45 [some (.ref 43), some (.int a0), some (.int x9), some (.int x10)] [] M (some (.int t), M)
    dsimp only at h
    refine o_iload_n k165_45 rfl ?_
    have h9 := Option.some.inj h
    subst h9
    exact o_iret pj_165 k165_46 rfl nr_i
def f_X8_columnsJoined_43 (a0 : Int32) (M : am_M) : Option Int32 := ((lp (σ := Int32 × Int32) (ρ := Int32 × Int32) (fun (s1 : Int32 × Int32) => match s1 with | (x2, x3) => (if (M 44 (0 : Int32).toNatClampNeg) ≤ x3 then (some (.inr (x2, x3))) else (if (f_X8_has a0 x3) = 0 then (some (.inl ((x2 ||| 0), (x3 + 1)))) else (if am_dbin ((135 : Int32) + x3) 151 = true then (some (.inl ((x2 ||| (M 44 ((135 : Int32) + x3).toNatClampNeg)), (x3 + 1)))) else none)))) lp_F (0, 0)).bind (fun (s8 : Int32 × Int32) => match s8 with | (x9, x10) => (some x9)))
set_option maxRecDepth 20000 in
theorem t_X8_columnsJoined_43 {LN : Nat} {xs : Nat → Int32} {a0 : Int32} {M : am_M} {t : Int32} (h : f_X8_columnsJoined_43 a0 M = some t) : oo LN xs 0 0 166 0 [some (.ref 43), some (.int a0), none, none] [] M (some (.int t), M) := by
  unfold f_X8_columnsJoined_43 at h
  refine o_iconst (v := 0) k166_0 (by decide) ?_
  refine o_istore_n (v := 0) (L' := [some (.ref 43), some (.int a0), some (.int 0), none]) k166_1 rfl rfl ?_
  refine o_iconst (v := 0) k166_2 (by decide) ?_
  refine o_istore_n (v := 0) (L' := [some (.ref 43), some (.int a0), some (.int 0), some (.int 0)]) k166_3 rfl rfl ?_
  refine bd_i h (fun s8 hs8 h => ?_)
  refine lp_o (fun (s1 : Int32 × Int32) => match s1 with | (x2, x3) => oo LN xs 0 0 166 4 [some (.ref 43), some (.int a0), some (.int x2), some (.int x3)] [] M (some (.int t), M)) (fun (s8 : Int32 × Int32) => match s8 with | (x9, x10) => oo LN xs 0 0 166 45 [some (.ref 43), some (.int a0), some (.int x9), some (.int x10)] [] M (some (.int t), M)) ?_ hs8 ?_
  · rintro ⟨x2, x3⟩ ws1 h hK
    dsimp only at h
    show oo LN xs 0 0 166 4 [some (.ref 43), some (.int a0), some (.int x2), some (.int x3)] [] M (some (.int t), M)
    refine o_iload_n k166_4 rfl ?_
    refine o_aload_n k166_5 rfl ?_
    refine o_gf k166_6 (gf_43_0 _) ?_
    refine o_iconst (v := 0) k166_9 (by decide) ?_
    refine o_iald k166_10 rfl ia_44 (by decide) ?_
    refine o_icmp_ge k166_11 (fun hc5 => ?_) (fun hc5 => ?_)
    · rw [if_pos hc5] at h
      have h9 := Option.some.inj h
      subst h9
      exact hK
    · rw [if_neg hc5] at h
      refine o_iload_n k166_14 rfl ?_
      refine o_iload_n k166_15 rfl ?_
      refine o_iload_n k166_16 rfl ?_
      refine o_call k166_17 pj_127 (fun _ => rfl) (by decide) rfl (as := [.int a0, .int x3]) (rest := [.int x2]) rfl (L0 := [some (.int a0), some (.int x3)]) rfl (t_X8_has (M := M) (a0 := a0) (a1 := x3) rfl) ?_
      refine o_if_eq k166_20 (fun hc6 => ?_) (fun hc6 => ?_)
      · rw [if_pos hc6] at h
        refine o_iconst (v := 0) k166_36 (by decide) ?_
        refine o_ior k166_37 ?_
        refine o_istore_n (v := (x2 ||| 0)) (L' := [some (.ref 43), some (.int a0), some (.int (x2 ||| 0)), some (.int x3)]) k166_38 rfl rfl ?_
        refine o_iinc (k := 1) (L' := [some (.ref 43), some (.int a0), some (.int (x2 ||| 0)), some (.int (x3 + 1))]) k166_39 rfl (by decide) rfl ?_
        refine o_goto k166_42 ?_
        have h9 := Option.some.inj h
        subst h9
        exact hK
      · rw [if_neg hc6] at h
        refine o_aload_n k166_23 rfl ?_
        refine o_gf k166_24 (gf_43_0 _) ?_
        refine o_sipush (v := 135) k166_27 (by decide) ?_
        refine o_iload_n k166_30 rfl ?_
        refine o_iadd k166_31 ?_
        obtain ⟨hc7, h⟩ := ck_i h
        refine o_iald k166_32 rfl ia_44 hc7 ?_
        refine o_goto k166_33 ?_
        refine o_ior k166_37 ?_
        refine o_istore_n (v := (x2 ||| (M 44 ((135 : Int32) + x3).toNatClampNeg))) (L' := [some (.ref 43), some (.int a0), some (.int (x2 ||| (M 44 ((135 : Int32) + x3).toNatClampNeg))), some (.int x3)]) k166_38 rfl rfl ?_
        refine o_iinc (k := 1) (L' := [some (.ref 43), some (.int a0), some (.int (x2 ||| (M 44 ((135 : Int32) + x3).toNatClampNeg))), some (.int (x3 + 1))]) k166_39 rfl (by decide) rfl ?_
        refine o_goto k166_42 ?_
        have h9 := Option.some.inj h
        subst h9
        exact hK
  · obtain ⟨x9, x10⟩ := s8
    show oo LN xs 0 0 166 45 [some (.ref 43), some (.int a0), some (.int x9), some (.int x10)] [] M (some (.int t), M)
    dsimp only at h
    refine o_iload_n k166_45 rfl ?_
    have h9 := Option.some.inj h
    subst h9
    exact o_iret pj_166 k166_46 rfl nr_i
def f_X8_isHidden_43 (a0 : Int32) (a1 : Int32) (M : am_M) : Option Int32 := ((f_X8_columnsAdded_43 a0 M).bind (fun v1 => ((f_X8_columnsJoined_43 a1 M).bind (fun v2 => (if (v1 &&& (v2 ^^^ (-1))) = 0 then (some 1) else (some 0))))))
set_option maxRecDepth 20000 in
theorem t_X8_isHidden_43 {LN : Nat} {xs : Nat → Int32} {a0 : Int32} {a1 : Int32} {M : am_M} {t : Int32} (h : f_X8_isHidden_43 a0 a1 M = some t) : oo LN xs 0 0 167 0 [some (.ref 43), some (.int a0), some (.int a1)] [] M (some (.int t), M) := by
  unfold f_X8_isHidden_43 at h
  refine o_aload_n k167_0 rfl ?_
  refine o_iload_n k167_1 rfl ?_
  refine bd_i h (fun v1 hv1 h => ?_)
  refine o_call k167_2 pj_165 (fun _ => rfl) (by decide) rfl (as := [.ref 43, .int a0]) (rest := []) rfl (L0 := [some (.ref 43), some (.int a0), none, none]) rfl (t_X8_columnsAdded_43 hv1) ?_
  refine o_aload_n k167_5 rfl ?_
  refine o_iload_n k167_6 rfl ?_
  refine bd_i h (fun v2 hv2 h => ?_)
  refine o_call k167_7 pj_166 (fun _ => rfl) (by decide) rfl (as := [.ref 43, .int a1]) (rest := [.int v1]) rfl (L0 := [some (.ref 43), some (.int a1), none, none]) rfl (t_X8_columnsJoined_43 hv2) ?_
  refine o_iconst (v := (-1)) k167_10 (by decide) ?_
  refine o_ixor k167_11 ?_
  refine o_iand k167_12 ?_
  refine o_if_ne k167_13 (fun hc3 => ?_) (fun hc3 => ?_)
  · rw [if_neg hc3] at h
    refine o_iconst (v := 0) k167_20 (by decide) ?_
    have h9 := Option.some.inj h
    subst h9
    exact o_iret pj_167 k167_21 rfl (nr_z (by decide))
  · rw [if_pos hc3] at h
    refine o_iconst (v := 1) k167_16 (by decide) ?_
    refine o_goto k167_17 ?_
    have h9 := Option.some.inj h
    subst h9
    exact o_iret pj_167 k167_21 rfl (nr_z (by decide))
def f_X8_findHidden_43 (a0 : Int32) (a1 : Int32) (M : am_M) : Option am_M := (bl (am_up M 43 19 0) (fun (M1 : am_M) => (bl (am_up M1 43 20 0) (fun (M2 : am_M) => ((lp (σ := Int32 × am_M) (ρ := Int32 × am_M) (fun (s3 : Int32 × am_M) => match s3 with | (x4, M5) => (if (f_X8_chainsIn_43 M) < x4 then (some (.inr (x4, M5))) else (if (x4 &&& ((f_X8_chainsIn_43 M) ^^^ (-1))) = 0 then ((f_X8_bitsOf x4).bind (fun v10 => (if v10 = a0 then ((lp (σ := Int32 × am_M) (ρ := Int32 × am_M) (fun (s12 : Int32 × am_M) => match s12 with | (x13, M14) => (if ((f_X8_chainsIn_43 M) &&& (x4 ^^^ (-1))) < x13 then (some (.inr (x13, M14))) else (if (x13 &&& (((f_X8_chainsIn_43 M) &&& (x4 ^^^ (-1))) ^^^ (-1))) = 0 then ((f_X8_bitsOf x13).bind (fun v17 => (if v17 = a1 then (bl (am_up M14 43 19 ((M14 43 19) + 1)) (fun (M19 : am_M) => ((f_X8_isHidden_43 x4 x13 M19).bind (fun v20 => (bl (am_up M19 43 20 ((M19 43 20) + (f_X8_flag v20))) (fun (M21 : am_M) => (some (.inl ((x13 + 1), M21))))))))) else (some (.inl ((x13 + 1), M14)))))) else (some (.inl ((x13 + 1), M14)))))) lp_F (0, M5)).bind (fun (s22 : Int32 × am_M) => match s22 with | (x23, M24) => (some (.inl ((x4 + 1), M24))))) else (some (.inl ((x4 + 1), M5)))))) else (some (.inl ((x4 + 1), M5)))))) lp_F (1, M2)).bind (fun (s25 : Int32 × am_M) => match s25 with | (x26, M27) => (some M27)))))))
set_option maxRecDepth 20000 in
theorem t_X8_findHidden_43 {LN : Nat} {xs : Nat → Int32} {a0 : Int32} {a1 : Int32} {M : am_M} {t : am_M} (h : f_X8_findHidden_43 a0 a1 M = some t) : oo LN xs 0 0 168 0 [some (.ref 43), some (.int a0), some (.int a1), none, none, none, none] [] M (none, t) := by
  unfold f_X8_findHidden_43 at h
  refine o_aload_n k168_0 rfl ?_
  refine o_call k168_1 pj_164 (fun _ => rfl) (by decide) rfl (as := [.ref 43]) (rest := []) rfl (L0 := [some (.ref 43)]) rfl (t_X8_chainsIn_43 (M := M) rfl) ?_
  refine o_istore_n (v := (f_X8_chainsIn_43 M)) (L' := [some (.ref 43), some (.int a0), some (.int a1), some (.int (f_X8_chainsIn_43 M)), none, none, none]) k168_4 rfl rfl ?_
  refine o_aload_n k168_5 rfl ?_
  refine o_iconst (v := 0) k168_6 (by decide) ?_
  refine bl_i h (fun M1 eM1 h => ?_)
  refine o_pf (M' := M1) k168_7 (pf_43_19 eM1) ?_
  refine o_aload_n k168_10 rfl ?_
  refine o_iconst (v := 0) k168_11 (by decide) ?_
  refine bl_i h (fun M2 eM2 h => ?_)
  refine o_pf (M' := M2) k168_12 (pf_43_20 eM2) ?_
  refine o_iconst (v := 1) k168_15 (by decide) ?_
  refine o_istore (v := 1) (L' := [some (.ref 43), some (.int a0), some (.int a1), some (.int (f_X8_chainsIn_43 M)), some (.int 1), none, none]) k168_16 rfl rfl ?_
  refine bd_i h (fun s25 hs25 h => ?_)
  refine lp_o (fun (s3 : Int32 × am_M) => match s3 with | (x4, M5) => ∀ (d6 d7 : Option (Int32 ⊕ Int64)), oo LN xs 0 0 168 18 [some (.ref 43), some (.int a0), some (.int a1), some (.int (f_X8_chainsIn_43 M)), some (.int x4), (d6.map dv), (d7.map dv)] [] M5 (none, t)) (fun (s25 : Int32 × am_M) => match s25 with | (x26, M27) => ∀ (d28 d29 : Option (Int32 ⊕ Int64)), oo LN xs 0 0 168 121 [some (.ref 43), some (.int a0), some (.int a1), some (.int (f_X8_chainsIn_43 M)), some (.int x26), (d28.map dv), (d29.map dv)] [] M27 (none, t)) ?_ hs25 ?_ none none
  · rintro ⟨x4, M5⟩ ws3 h hK
    dsimp only at h
    show ∀ (d6 d7 : Option (Int32 ⊕ Int64)), oo LN xs 0 0 168 18 [some (.ref 43), some (.int a0), some (.int a1), some (.int (f_X8_chainsIn_43 M)), some (.int x4), (d6.map dv), (d7.map dv)] [] M5 (none, t)
    intro d6 d7
    refine o_iload k168_18 rfl ?_
    refine o_iload_n k168_20 rfl ?_
    refine o_icmp_gt k168_21 (fun hc8 => ?_) (fun hc8 => ?_)
    · rw [if_pos hc8] at h
      have h9 := Option.some.inj h
      subst h9
      exact hK d6 d7
    · rw [if_neg hc8] at h
      refine o_iload k168_24 rfl ?_
      refine o_iload_n k168_26 rfl ?_
      refine o_iconst (v := (-1)) k168_27 (by decide) ?_
      refine o_ixor k168_28 ?_
      refine o_iand k168_29 ?_
      refine o_if_ne k168_30 (fun hc9 => ?_) (fun hc9 => ?_)
      · rw [if_neg hc9] at h
        refine o_iinc (k := 1) (L' := [some (.ref 43), some (.int a0), some (.int a1), some (.int (f_X8_chainsIn_43 M)), some (.int (x4 + 1)), (d6.map dv), (d7.map dv)]) k168_115 rfl (by decide) rfl ?_
        refine o_goto k168_118 ?_
        have h9 := Option.some.inj h
        subst h9
        exact hK d6 d7
      · rw [if_pos hc9] at h
        refine o_iload k168_33 rfl ?_
        refine bd_i h (fun v10 hv10 h => ?_)
        refine o_call k168_35 pj_128 (fun _ => rfl) (by decide) (by rcases d6 with _ | (x | x) <;> rcases d7 with _ | (x | x) <;> rfl) (as := [.int x4]) (rest := []) rfl (L0 := [some (.int x4), none, none]) rfl (t_X8_bitsOf hv10) ?_
        refine o_iload_n k168_38 rfl ?_
        refine o_icmp_ne k168_39 (fun hc11 => ?_) (fun hc11 => ?_)
        · rw [if_neg hc11] at h
          refine o_iinc (k := 1) (L' := [some (.ref 43), some (.int a0), some (.int a1), some (.int (f_X8_chainsIn_43 M)), some (.int (x4 + 1)), (d6.map dv), (d7.map dv)]) k168_115 rfl (by decide) rfl ?_
          refine o_goto k168_118 ?_
          have h9 := Option.some.inj h
          subst h9
          exact hK d6 d7
        · rw [if_pos hc11] at h
          refine o_iload_n k168_42 rfl ?_
          refine o_iload k168_43 rfl ?_
          refine o_iconst (v := (-1)) k168_45 (by decide) ?_
          refine o_ixor k168_46 ?_
          refine o_iand k168_47 ?_
          refine o_istore (v := ((f_X8_chainsIn_43 M) &&& (x4 ^^^ (-1)))) (L' := [some (.ref 43), some (.int a0), some (.int a1), some (.int (f_X8_chainsIn_43 M)), some (.int x4), some (.int ((f_X8_chainsIn_43 M) &&& (x4 ^^^ (-1)))), (d7.map dv)]) k168_48 rfl rfl ?_
          refine o_iconst (v := 0) k168_50 (by decide) ?_
          refine o_istore (v := 0) (L' := [some (.ref 43), some (.int a0), some (.int a1), some (.int (f_X8_chainsIn_43 M)), some (.int x4), some (.int ((f_X8_chainsIn_43 M) &&& (x4 ^^^ (-1)))), some (.int 0)]) k168_51 rfl rfl ?_
          refine bd_i h (fun s22 hs22 h => ?_)
          refine lp_o (fun (s12 : Int32 × am_M) => match s12 with | (x13, M14) => oo LN xs 0 0 168 53 [some (.ref 43), some (.int a0), some (.int a1), some (.int (f_X8_chainsIn_43 M)), some (.int x4), some (.int ((f_X8_chainsIn_43 M) &&& (x4 ^^^ (-1)))), some (.int x13)] [] M14 (none, t)) (fun (s22 : Int32 × am_M) => match s22 with | (x23, M24) => oo LN xs 0 0 168 115 [some (.ref 43), some (.int a0), some (.int a1), some (.int (f_X8_chainsIn_43 M)), some (.int x4), some (.int ((f_X8_chainsIn_43 M) &&& (x4 ^^^ (-1)))), some (.int x23)] [] M24 (none, t)) ?_ hs22 ?_
          · rintro ⟨x13, M14⟩ ws12 h hK
            dsimp only at h
            show oo LN xs 0 0 168 53 [some (.ref 43), some (.int a0), some (.int a1), some (.int (f_X8_chainsIn_43 M)), some (.int x4), some (.int ((f_X8_chainsIn_43 M) &&& (x4 ^^^ (-1)))), some (.int x13)] [] M14 (none, t)
            refine o_iload k168_53 rfl ?_
            refine o_iload k168_55 rfl ?_
            refine o_icmp_gt k168_57 (fun hc15 => ?_) (fun hc15 => ?_)
            · rw [if_pos hc15] at h
              have h9 := Option.some.inj h
              subst h9
              exact hK
            · rw [if_neg hc15] at h
              refine o_iload k168_60 rfl ?_
              refine o_iload k168_62 rfl ?_
              refine o_iconst (v := (-1)) k168_64 (by decide) ?_
              refine o_ixor k168_65 ?_
              refine o_iand k168_66 ?_
              refine o_if_ne k168_67 (fun hc16 => ?_) (fun hc16 => ?_)
              · rw [if_neg hc16] at h
                refine o_iinc (k := 1) (L' := [some (.ref 43), some (.int a0), some (.int a1), some (.int (f_X8_chainsIn_43 M)), some (.int x4), some (.int ((f_X8_chainsIn_43 M) &&& (x4 ^^^ (-1)))), some (.int (x13 + 1))]) k168_109 rfl (by decide) rfl ?_
                refine o_goto k168_112 ?_
                have h9 := Option.some.inj h
                subst h9
                exact hK
              · rw [if_pos hc16] at h
                refine o_iload k168_70 rfl ?_
                refine bd_i h (fun v17 hv17 h => ?_)
                refine o_call k168_72 pj_128 (fun _ => rfl) (by decide) rfl (as := [.int x13]) (rest := []) rfl (L0 := [some (.int x13), none, none]) rfl (t_X8_bitsOf hv17) ?_
                refine o_iload_n k168_75 rfl ?_
                refine o_icmp_ne k168_76 (fun hc18 => ?_) (fun hc18 => ?_)
                · rw [if_neg hc18] at h
                  refine o_iinc (k := 1) (L' := [some (.ref 43), some (.int a0), some (.int a1), some (.int (f_X8_chainsIn_43 M)), some (.int x4), some (.int ((f_X8_chainsIn_43 M) &&& (x4 ^^^ (-1)))), some (.int (x13 + 1))]) k168_109 rfl (by decide) rfl ?_
                  refine o_goto k168_112 ?_
                  have h9 := Option.some.inj h
                  subst h9
                  exact hK
                · rw [if_pos hc18] at h
                  refine o_aload_n k168_79 rfl ?_
                  refine o_dupr k168_80 ?_
                  refine o_gf k168_81 (gf_43_19 _) ?_
                  refine o_iconst (v := 1) k168_84 (by decide) ?_
                  refine o_iadd k168_85 ?_
                  refine bl_i h (fun M19 eM19 h => ?_)
                  refine o_pf (M' := M19) k168_86 (pf_43_19 eM19) ?_
                  refine o_aload_n k168_89 rfl ?_
                  refine o_dupr k168_90 ?_
                  refine o_gf k168_91 (gf_43_20 _) ?_
                  refine o_aload_n k168_94 rfl ?_
                  refine o_iload k168_95 rfl ?_
                  refine o_iload k168_97 rfl ?_
                  refine bd_i h (fun v20 hv20 h => ?_)
                  refine o_call k168_99 pj_167 (fun _ => rfl) (by decide) rfl (as := [.ref 43, .int x4, .int x13]) (rest := [.int (M19 43 20), .ref 43]) rfl (L0 := [some (.ref 43), some (.int x4), some (.int x13)]) rfl (t_X8_isHidden_43 hv20) ?_
                  refine o_call k168_102 pj_126 (fun _ => rfl) (by decide) rfl (as := [.int v20]) (rest := [.int (M19 43 20), .ref 43]) rfl (L0 := [some (.int v20)]) rfl (t_X8_flag (M := M19) (a0 := v20) rfl) ?_
                  refine o_iadd k168_105 ?_
                  refine bl_i h (fun M21 eM21 h => ?_)
                  refine o_pf (M' := M21) k168_106 (pf_43_20 eM21) ?_
                  refine o_iinc (k := 1) (L' := [some (.ref 43), some (.int a0), some (.int a1), some (.int (f_X8_chainsIn_43 M)), some (.int x4), some (.int ((f_X8_chainsIn_43 M) &&& (x4 ^^^ (-1)))), some (.int (x13 + 1))]) k168_109 rfl (by decide) rfl ?_
                  refine o_goto k168_112 ?_
                  have h9 := Option.some.inj h
                  subst h9
                  exact hK
          · obtain ⟨x23, M24⟩ := s22
            show oo LN xs 0 0 168 115 [some (.ref 43), some (.int a0), some (.int a1), some (.int (f_X8_chainsIn_43 M)), some (.int x4), some (.int ((f_X8_chainsIn_43 M) &&& (x4 ^^^ (-1)))), some (.int x23)] [] M24 (none, t)
            dsimp only at h
            refine o_iinc (k := 1) (L' := [some (.ref 43), some (.int a0), some (.int a1), some (.int (f_X8_chainsIn_43 M)), some (.int (x4 + 1)), some (.int ((f_X8_chainsIn_43 M) &&& (x4 ^^^ (-1)))), some (.int x23)]) k168_115 rfl (by decide) rfl ?_
            refine o_goto k168_118 ?_
            have h9 := Option.some.inj h
            subst h9
            exact hK (some (.inl ((f_X8_chainsIn_43 M) &&& (x4 ^^^ (-1))))) (some (.inl x23))
  · obtain ⟨x26, M27⟩ := s25
    show ∀ (d28 d29 : Option (Int32 ⊕ Int64)), oo LN xs 0 0 168 121 [some (.ref 43), some (.int a0), some (.int a1), some (.int (f_X8_chainsIn_43 M)), some (.int x26), (d28.map dv), (d29.map dv)] [] M27 (none, t)
    dsimp only at h
    intro d28 d29
    have h9 := Option.some.inj h
    subst h9
    exact o_vret pj_168 k168_121 rfl
def f_X8_hidden_43 (a0 : Int32) (a1 : Int32) (a2 : Int32) (M : am_M) : Option (Int32 × am_M) := (if (f_X8_in a0.toInt64 1 8) = 0 then (some ((-1), M)) else (if (f_X8_in a1.toInt64 0 8) = 0 then (some ((-1), M)) else ((f_X8_isPart a2).bind (fun v3 => (if v3 = 0 then (some ((-1), M)) else ((f_X8_findHidden_43 a0 a1 M).bind (fun q5 => (if a2 = 0 then (some ((q5 43 19), q5)) else (some ((q5 43 20), q5))))))))))
set_option maxRecDepth 20000 in
theorem t_X8_hidden_43 {LN : Nat} {xs : Nat → Int32} {a0 : Int32} {a1 : Int32} {a2 : Int32} {M : am_M} {t : Int32 × am_M} (h : f_X8_hidden_43 a0 a1 a2 M = some t) : oo LN xs 0 0 169 0 [some (.ref 43), some (.int a0), some (.int a1), some (.int a2)] [] M (some (.int t.1), t.2) := by
  unfold f_X8_hidden_43 at h
  refine o_iload_n k169_0 rfl ?_
  refine o_i2l k169_1 ?_
  refine o_lconst (v := 1) k169_2 (by decide) ?_
  refine o_ldc2_w k169_3 ?_
  refine o_call k169_6 pj_125 (fun _ => rfl) (by decide) rfl (as := [.long a0.toInt64, .long 1, .long 8]) (rest := []) rfl (L0 := [some (.long a0.toInt64), none, some (.long 1), none, some (.long 8), none]) rfl (t_X8_in (M := M) (a0 := a0.toInt64) (a1 := 1) (a2 := 8) rfl) ?_
  refine o_if_eq k169_9 (fun hc1 => ?_) (fun hc1 => ?_)
  · rw [if_pos hc1] at h
    refine o_iconst (v := (-1)) k169_31 (by decide) ?_
    have h9 := Option.some.inj h
    subst h9
    exact o_iret pj_169 k169_32 rfl nr_i
  · rw [if_neg hc1] at h
    refine o_iload_n k169_12 rfl ?_
    refine o_i2l k169_13 ?_
    refine o_lconst (v := 0) k169_14 (by decide) ?_
    refine o_ldc2_w k169_15 ?_
    refine o_call k169_18 pj_125 (fun _ => rfl) (by decide) rfl (as := [.long a1.toInt64, .long 0, .long 8]) (rest := []) rfl (L0 := [some (.long a1.toInt64), none, some (.long 0), none, some (.long 8), none]) rfl (t_X8_in (M := M) (a0 := a1.toInt64) (a1 := 0) (a2 := 8) rfl) ?_
    refine o_if_eq k169_21 (fun hc2 => ?_) (fun hc2 => ?_)
    · rw [if_pos hc2] at h
      refine o_iconst (v := (-1)) k169_31 (by decide) ?_
      have h9 := Option.some.inj h
      subst h9
      exact o_iret pj_169 k169_32 rfl nr_i
    · rw [if_neg hc2] at h
      refine o_iload_n k169_24 rfl ?_
      refine bd_i h (fun v3 hv3 h => ?_)
      refine o_call k169_25 pj_153 (fun _ => rfl) (by decide) rfl (as := [.int a2]) (rest := []) rfl (L0 := [some (.int a2)]) rfl (t_X8_isPart hv3) ?_
      refine o_if_ne k169_28 (fun hc4 => ?_) (fun hc4 => ?_)
      · rw [if_neg hc4] at h
        refine o_aload_n k169_33 rfl ?_
        refine o_iload_n k169_34 rfl ?_
        refine o_iload_n k169_35 rfl ?_
        refine bd_i h (fun q5 hq5 h => ?_)
        refine o_call k169_36 pj_168 (fun _ => rfl) (by decide) rfl (as := [.ref 43, .int a0, .int a1]) (rest := []) rfl (L0 := [some (.ref 43), some (.int a0), some (.int a1), none, none, none, none]) rfl (t_X8_findHidden_43 hq5) ?_
        refine o_iload_n k169_39 rfl ?_
        refine o_if_ne k169_40 (fun hc6 => ?_) (fun hc6 => ?_)
        · rw [if_neg hc6] at h
          refine o_aload_n k169_50 rfl ?_
          refine o_gf k169_51 (gf_43_20 _) ?_
          have h9 := Option.some.inj h
          subst h9
          exact o_iret pj_169 k169_54 rfl nr_i
        · rw [if_pos hc6] at h
          refine o_aload_n k169_43 rfl ?_
          refine o_gf k169_44 (gf_43_19 _) ?_
          refine o_goto k169_47 ?_
          have h9 := Option.some.inj h
          subst h9
          exact o_iret pj_169 k169_54 rfl nr_i
      · rw [if_pos hc4] at h
        refine o_iconst (v := (-1)) k169_31 (by decide) ?_
        have h9 := Option.some.inj h
        subst h9
        exact o_iret pj_169 k169_32 rfl nr_i
def f_X7_sure_0 (a0 : Int32) (M : am_M) : Option Int32 := (if (f_X7_isUnknowns a0) = 0 then (some (-1)) else ((lp (σ := Int32) (ρ := (Int32) ⊕ (Int32)) (fun x3 => (if 8 < x3 then (some (.inr (.inr x3))) else ((f_X0_choices_9 x3 a0 1 M).bind (fun v5 => (if v5 ≤ 0 then (some (.inl (x3 + 1))) else (some (.inr (.inl (x3 - 1))))))))) lp_F 1).bind (fun os7 => Sum.elim (fun u => (some u)) (fun x8 => (some 8)) os7)))
set_option maxRecDepth 20000 in
theorem t_X7_sure_0 {LN : Nat} {xs : Nat → Int32} {a0 : Int32} {M : am_M} {t : Int32} (h : f_X7_sure_0 a0 M = some t) : oo LN xs 0 0 92 0 [some (.ref 0), some (.int a0), none] [] M (some (.int t), M) := by
  unfold f_X7_sure_0 at h
  refine o_iload_n k92_0 rfl ?_
  refine o_call k92_1 pj_96 (fun _ => rfl) (by decide) rfl (as := [.int a0]) (rest := []) rfl (L0 := [some (.int a0)]) rfl (t_X7_isUnknowns (M := M) (a0 := a0) rfl) ?_
  refine o_if_ne k92_4 (fun hc1 => ?_) (fun hc1 => ?_)
  · rw [if_neg hc1] at h
    refine o_iconst (v := 1) k92_9 (by decide) ?_
    refine o_istore_n (v := 1) (L' := [some (.ref 0), some (.int a0), some (.int 1)]) k92_10 rfl rfl ?_
    refine bd_i h (fun Os7 hOs7 h => ?_)
    refine lp_o (fun x3 => oo LN xs 0 0 92 11 [some (.ref 0), some (.int a0), some (.int x3)] [] M (some (.int t), M)) (fun oq => Sum.elim (fun u => u = t) (fun x8 => oo LN xs 0 0 92 40 [some (.ref 0), some (.int a0), some (.int x8)] [] M (some (.int t), M)) oq) ?_ hOs7 ?_
    · rintro x3 ws2 h hK
      show oo LN xs 0 0 92 11 [some (.ref 0), some (.int a0), some (.int x3)] [] M (some (.int t), M)
      refine o_iload_n k92_11 rfl ?_
      refine o_bipush (v := 8) k92_12 (by decide) ?_
      refine o_icmp_gt k92_14 (fun hc4 => ?_) (fun hc4 => ?_)
      · rw [if_pos hc4] at h
        have h9 := Option.some.inj h
        subst h9
        exact hK
      · rw [if_neg hc4] at h
        refine o_aload_n k92_17 rfl ?_
        refine o_gf k92_18 (gf_0_2 _) ?_
        refine o_iload_n k92_21 rfl ?_
        refine o_iload_n k92_22 rfl ?_
        refine o_iconst (v := 1) k92_23 (by decide) ?_
        refine bd_i h (fun v5 hv5 h => ?_)
        refine o_call k92_24 pj_25 (fun _ => rfl) (by decide) rfl (as := [.ref 9, .int x3, .int a0, .int 1]) (rest := []) rfl (L0 := [some (.ref 9), some (.int x3), some (.int a0), some (.int 1), none, none, none]) rfl (t_X0_choices_9 hv5) ?_
        refine o_if_le k92_27 (fun hc6 => ?_) (fun hc6 => ?_)
        · rw [if_pos hc6] at h
          refine o_iinc (k := 1) (L' := [some (.ref 0), some (.int a0), some (.int (x3 + 1))]) k92_34 rfl (by decide) rfl ?_
          refine o_goto k92_37 ?_
          have h9 := Option.some.inj h
          subst h9
          exact hK
        · rw [if_neg hc6] at h
          refine o_iload_n k92_30 rfl ?_
          refine o_iconst (v := 1) k92_31 (by decide) ?_
          refine o_isub k92_32 ?_
          have h9 := Option.some.inj h
          subst h9
          have hK2 : (x3 - 1) = t := hK
          subst hK2
          exact o_iret pj_92 k92_33 rfl nr_i
    · rcases Os7 with u | x8
      · exact Option.some.inj h
      · show oo LN xs 0 0 92 40 [some (.ref 0), some (.int a0), some (.int x8)] [] M (some (.int t), M)
        rw [el_r] at h
        refine o_bipush (v := 8) k92_40 (by decide) ?_
        have h9 := Option.some.inj h
        subst h9
        exact o_iret pj_92 k92_42 rfl nr_i
  · rw [if_pos hc1] at h
    refine o_iconst (v := (-1)) k92_7 (by decide) ?_
    have h9 := Option.some.inj h
    subst h9
    exact o_iret pj_92 k92_8 rfl nr_i
def f_X8_sure_43 (a0 : Int32) (M : am_M) : Option (Int32 × am_M) := (if (f_X8_in a0.toInt64 0 8) = 0 then (some ((-1), M)) else ((lp (σ := Int32 × am_M) (ρ := (Int32 × am_M) ⊕ (Int32 × am_M)) (fun (s2 : Int32 × am_M) => match s2 with | (x3, M4) => (if 8 < x3 then (some (.inr (.inr (x3, M4)))) else ((f_X8_findHidden_43 x3 a0 M4).bind (fun q6 => (if (q6 43 20) ≤ 0 then (some (.inl ((x3 + 1), q6))) else (some (.inr (.inl ((x3 - 1), q6))))))))) lp_F (1, M)).bind (fun os8 => Sum.elim (fun u => (some u)) (fun (s8 : Int32 × am_M) => match s8 with | (x9, M10) => (some (8, M10))) os8)))
set_option maxRecDepth 20000 in
theorem t_X8_sure_43 {LN : Nat} {xs : Nat → Int32} {a0 : Int32} {M : am_M} {t : Int32 × am_M} (h : f_X8_sure_43 a0 M = some t) : oo LN xs 0 0 170 0 [some (.ref 43), some (.int a0), none] [] M (some (.int t.1), t.2) := by
  unfold f_X8_sure_43 at h
  refine o_iload_n k170_0 rfl ?_
  refine o_i2l k170_1 ?_
  refine o_lconst (v := 0) k170_2 (by decide) ?_
  refine o_ldc2_w k170_3 ?_
  refine o_call k170_6 pj_125 (fun _ => rfl) (by decide) rfl (as := [.long a0.toInt64, .long 0, .long 8]) (rest := []) rfl (L0 := [some (.long a0.toInt64), none, some (.long 0), none, some (.long 8), none]) rfl (t_X8_in (M := M) (a0 := a0.toInt64) (a1 := 0) (a2 := 8) rfl) ?_
  refine o_if_ne k170_9 (fun hc1 => ?_) (fun hc1 => ?_)
  · rw [if_neg hc1] at h
    refine o_iconst (v := 1) k170_14 (by decide) ?_
    refine o_istore_n (v := 1) (L' := [some (.ref 43), some (.int a0), some (.int 1)]) k170_15 rfl rfl ?_
    refine bd_i h (fun Os8 hOs8 h => ?_)
    refine lp_o (fun (s2 : Int32 × am_M) => match s2 with | (x3, M4) => oo LN xs 0 0 170 16 [some (.ref 43), some (.int a0), some (.int x3)] [] M4 (some (.int t.1), t.2)) (fun oq => Sum.elim (fun u => u = t) (fun (s8 : Int32 × am_M) => match s8 with | (x9, M10) => oo LN xs 0 0 170 45 [some (.ref 43), some (.int a0), some (.int x9)] [] M10 (some (.int t.1), t.2)) oq) ?_ hOs8 ?_
    · rintro ⟨x3, M4⟩ ws2 h hK
      dsimp only at h
      show oo LN xs 0 0 170 16 [some (.ref 43), some (.int a0), some (.int x3)] [] M4 (some (.int t.1), t.2)
      refine o_iload_n k170_16 rfl ?_
      refine o_bipush (v := 8) k170_17 (by decide) ?_
      refine o_icmp_gt k170_19 (fun hc5 => ?_) (fun hc5 => ?_)
      · rw [if_pos hc5] at h
        have h9 := Option.some.inj h
        subst h9
        exact hK
      · rw [if_neg hc5] at h
        refine o_aload_n k170_22 rfl ?_
        refine o_iload_n k170_23 rfl ?_
        refine o_iload_n k170_24 rfl ?_
        refine bd_i h (fun q6 hq6 h => ?_)
        refine o_call k170_25 pj_168 (fun _ => rfl) (by decide) rfl (as := [.ref 43, .int x3, .int a0]) (rest := []) rfl (L0 := [some (.ref 43), some (.int x3), some (.int a0), none, none, none, none]) rfl (t_X8_findHidden_43 hq6) ?_
        refine o_aload_n k170_28 rfl ?_
        refine o_gf k170_29 (gf_43_20 _) ?_
        refine o_if_le k170_32 (fun hc7 => ?_) (fun hc7 => ?_)
        · rw [if_pos hc7] at h
          refine o_iinc (k := 1) (L' := [some (.ref 43), some (.int a0), some (.int (x3 + 1))]) k170_39 rfl (by decide) rfl ?_
          refine o_goto k170_42 ?_
          have h9 := Option.some.inj h
          subst h9
          exact hK
        · rw [if_neg hc7] at h
          refine o_iload_n k170_35 rfl ?_
          refine o_iconst (v := 1) k170_36 (by decide) ?_
          refine o_isub k170_37 ?_
          have h9 := Option.some.inj h
          subst h9
          have hK2 : ((x3 - 1), q6) = t := hK
          subst hK2
          exact o_iret pj_170 k170_38 rfl nr_i
    · rcases Os8 with u | ⟨x9, M10⟩
      · exact Option.some.inj h
      · show oo LN xs 0 0 170 45 [some (.ref 43), some (.int a0), some (.int x9)] [] M10 (some (.int t.1), t.2)
        rw [el_r] at h
        dsimp only at h
        refine o_bipush (v := 8) k170_45 (by decide) ?_
        have h9 := Option.some.inj h
        subst h9
        exact o_iret pj_170 k170_47 rfl nr_i
  · rw [if_pos hc1] at h
    refine o_iconst (v := (-1)) k170_12 (by decide) ?_
    have h9 := Option.some.inj h
    subst h9
    exact o_iret pj_170 k170_13 rfl nr_i
def f_X7_hides_0 (a0 : Int32) (M : am_M) : Option Int32 := (if (a0 &&& ((f_X0_chainsInside_9 M) ^^^ (-1))) = 0 then ((f_X0_coverOf_9 a0 M).bind (fun v2 => ((lp (σ := Int32) (ρ := (Int32) ⊕ (Int32)) (fun x4 => (if ((f_X0_chainsInside_9 M) &&& (a0 ^^^ (-1))) < x4 then (some (.inr (.inr x4))) else (if (x4 &&& (((f_X0_chainsInside_9 M) &&& (a0 ^^^ (-1))) ^^^ (-1))) = 0 then ((f_X0_sumOf_9 x4 M).bind (fun v7 => (if (v7 &&& (v2 ^^^ (-1))) = 0 then (some (.inr (.inl x4))) else (some (.inl (x4 + 1)))))) else (some (.inl (x4 + 1)))))) lp_F 1).bind (fun os9 => Sum.elim (fun u => (some u)) (fun x10 => (some (-4))) os9)))) else (some (-1)))
set_option maxRecDepth 20000 in
theorem t_X7_hides_0 {LN : Nat} {xs : Nat → Int32} {a0 : Int32} {M : am_M} {t : Int32} (h : f_X7_hides_0 a0 M = some t) : oo LN xs 0 0 93 0 [some (.ref 0), some (.int a0), none, none, none, none] [] M (some (.int t), M) := by
  unfold f_X7_hides_0 at h
  refine o_aload_n k93_0 rfl ?_
  refine o_gf k93_1 (gf_0_2 _) ?_
  refine o_call k93_4 pj_12 (fun _ => rfl) (by decide) rfl (as := [.ref 9]) (rest := []) rfl (L0 := [some (.ref 9)]) rfl (t_X0_chainsInside_9 (M := M) rfl) ?_
  refine o_istore_n (v := (f_X0_chainsInside_9 M)) (L' := [some (.ref 0), some (.int a0), some (.int (f_X0_chainsInside_9 M)), none, none, none]) k93_7 rfl rfl ?_
  refine o_iload_n k93_8 rfl ?_
  refine o_iload_n k93_9 rfl ?_
  refine o_iconst (v := (-1)) k93_10 (by decide) ?_
  refine o_ixor k93_11 ?_
  refine o_iand k93_12 ?_
  refine o_if_eq k93_13 (fun hc1 => ?_) (fun hc1 => ?_)
  · rw [if_pos hc1] at h
    refine o_iload_n k93_18 rfl ?_
    refine o_iload_n k93_19 rfl ?_
    refine o_iconst (v := (-1)) k93_20 (by decide) ?_
    refine o_ixor k93_21 ?_
    refine o_iand k93_22 ?_
    refine o_istore_n (v := ((f_X0_chainsInside_9 M) &&& (a0 ^^^ (-1)))) (L' := [some (.ref 0), some (.int a0), some (.int (f_X0_chainsInside_9 M)), some (.int ((f_X0_chainsInside_9 M) &&& (a0 ^^^ (-1)))), none, none]) k93_23 rfl rfl ?_
    refine o_aload_n k93_24 rfl ?_
    refine o_gf k93_25 (gf_0_2 _) ?_
    refine o_iload_n k93_28 rfl ?_
    refine bd_i h (fun v2 hv2 h => ?_)
    refine o_call k93_29 pj_23 (fun _ => rfl) (by decide) rfl (as := [.ref 9, .int a0]) (rest := []) rfl (L0 := [some (.ref 9), some (.int a0), none, none]) rfl (t_X0_coverOf_9 hv2) ?_
    refine o_istore (v := v2) (L' := [some (.ref 0), some (.int a0), some (.int (f_X0_chainsInside_9 M)), some (.int ((f_X0_chainsInside_9 M) &&& (a0 ^^^ (-1)))), some (.int v2), none]) k93_32 rfl rfl ?_
    refine o_iconst (v := 1) k93_34 (by decide) ?_
    refine o_istore (v := 1) (L' := [some (.ref 0), some (.int a0), some (.int (f_X0_chainsInside_9 M)), some (.int ((f_X0_chainsInside_9 M) &&& (a0 ^^^ (-1)))), some (.int v2), some (.int 1)]) k93_35 rfl rfl ?_
    refine bd_i h (fun Os9 hOs9 h => ?_)
    refine lp_o (fun x4 => oo LN xs 0 0 93 37 [some (.ref 0), some (.int a0), some (.int (f_X0_chainsInside_9 M)), some (.int ((f_X0_chainsInside_9 M) &&& (a0 ^^^ (-1)))), some (.int v2), some (.int x4)] [] M (some (.int t), M)) (fun oq => Sum.elim (fun u => u = t) (fun x10 => oo LN xs 0 0 93 78 [some (.ref 0), some (.int a0), some (.int (f_X0_chainsInside_9 M)), some (.int ((f_X0_chainsInside_9 M) &&& (a0 ^^^ (-1)))), some (.int v2), some (.int x10)] [] M (some (.int t), M)) oq) ?_ hOs9 ?_
    · rintro x4 ws3 h hK
      show oo LN xs 0 0 93 37 [some (.ref 0), some (.int a0), some (.int (f_X0_chainsInside_9 M)), some (.int ((f_X0_chainsInside_9 M) &&& (a0 ^^^ (-1)))), some (.int v2), some (.int x4)] [] M (some (.int t), M)
      refine o_iload k93_37 rfl ?_
      refine o_iload_n k93_39 rfl ?_
      refine o_icmp_gt k93_40 (fun hc5 => ?_) (fun hc5 => ?_)
      · rw [if_pos hc5] at h
        have h9 := Option.some.inj h
        subst h9
        exact hK
      · rw [if_neg hc5] at h
        refine o_iload k93_43 rfl ?_
        refine o_iload_n k93_45 rfl ?_
        refine o_iconst (v := (-1)) k93_46 (by decide) ?_
        refine o_ixor k93_47 ?_
        refine o_iand k93_48 ?_
        refine o_if_ne k93_49 (fun hc6 => ?_) (fun hc6 => ?_)
        · rw [if_neg hc6] at h
          refine o_iinc (k := 1) (L' := [some (.ref 0), some (.int a0), some (.int (f_X0_chainsInside_9 M)), some (.int ((f_X0_chainsInside_9 M) &&& (a0 ^^^ (-1)))), some (.int v2), some (.int (x4 + 1))]) k93_72 rfl (by decide) rfl ?_
          refine o_goto k93_75 ?_
          have h9 := Option.some.inj h
          subst h9
          exact hK
        · rw [if_pos hc6] at h
          refine o_aload_n k93_52 rfl ?_
          refine o_gf k93_53 (gf_0_2 _) ?_
          refine o_iload k93_56 rfl ?_
          refine bd_i h (fun v7 hv7 h => ?_)
          refine o_call k93_58 pj_22 (fun _ => rfl) (by decide) rfl (as := [.ref 9, .int x4]) (rest := []) rfl (L0 := [some (.ref 9), some (.int x4), none, none]) rfl (t_X0_sumOf_9 hv7) ?_
          refine o_iload k93_61 rfl ?_
          refine o_iconst (v := (-1)) k93_63 (by decide) ?_
          refine o_ixor k93_64 ?_
          refine o_iand k93_65 ?_
          refine o_if_ne k93_66 (fun hc8 => ?_) (fun hc8 => ?_)
          · rw [if_neg hc8] at h
            refine o_iinc (k := 1) (L' := [some (.ref 0), some (.int a0), some (.int (f_X0_chainsInside_9 M)), some (.int ((f_X0_chainsInside_9 M) &&& (a0 ^^^ (-1)))), some (.int v2), some (.int (x4 + 1))]) k93_72 rfl (by decide) rfl ?_
            refine o_goto k93_75 ?_
            have h9 := Option.some.inj h
            subst h9
            exact hK
          · rw [if_pos hc8] at h
            refine o_iload k93_69 rfl ?_
            have h9 := Option.some.inj h
            subst h9
            have hK2 : x4 = t := hK
            subst hK2
            exact o_iret pj_93 k93_71 rfl nr_i
    · rcases Os9 with u | x10
      · exact Option.some.inj h
      · show oo LN xs 0 0 93 78 [some (.ref 0), some (.int a0), some (.int (f_X0_chainsInside_9 M)), some (.int ((f_X0_chainsInside_9 M) &&& (a0 ^^^ (-1)))), some (.int v2), some (.int x10)] [] M (some (.int t), M)
        rw [el_r] at h
        refine o_bipush (v := (-4)) k93_78 (by decide) ?_
        have h9 := Option.some.inj h
        subst h9
        exact o_iret pj_93 k93_80 rfl nr_i
  · rw [if_neg hc1] at h
    refine o_iconst (v := (-1)) k93_16 (by decide) ?_
    have h9 := Option.some.inj h
    subst h9
    exact o_iret pj_93 k93_17 rfl nr_i
