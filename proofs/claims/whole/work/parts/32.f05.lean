/-! FUNCTIONS, on -/
def f_X8_seed_43 (a0 : Int32) (M : am_M) : Option Int32 := ((f_X8_isPart a0).bind (fun v1 => (if v1 = 0 then (some (-1)) else ((lp (σ := Int32 × Int32 × Int32) (ρ := Int32 × Int32 × Int32) (fun s3 => (if ((1 : Int32) <<< ((M 44 (4 : Int32).toNatClampNeg) &&& 31)) ≤ s3.2.2 then (some (.inr (s3.1, s3.2.1, s3.2.2))) else ((f_X8_bringsAll_43 s3.2.2 M).bind (fun v6 => (if v6 = 0 then (some (.inl (s3.1, s3.2.1, (s3.2.2 + 1)))) else (if s3.2.1 = 0 then (some (.inl (s3.2.2, (s3.2.1 + 1), (s3.2.2 + 1)))) else (some (.inl (s3.1, (s3.2.1 + 1), (s3.2.2 + 1)))))))))) lp_F ((-4), 0, 0)).bind (fun s9 => (if a0 = 0 then (some s9.1) else (if s9.2.1 = 0 then (some s9.1) else ((lp (σ := Int32) (ρ := Int32) (fun s12 => (if s9.2.1 ≤ ((1 : Int32) <<< (s12 &&& 31)) then (some (.inr s12)) else (some (.inl (s12 + 1))))) lp_F 0).bind (fun s14 => (some s14))))))))))
set_option maxRecDepth 20000 in
theorem t_X8_seed_43 {LN : Nat} {xs : Nat → Int32} {a0 : Int32} {M : am_M} {t : Int32} (h : f_X8_seed_43 a0 M = some t) : oo LN xs 0 0 185 0 [some (.ref 43), some (.int a0), none, none, none] [] M (some (.int t), M) := by
  unfold f_X8_seed_43 at h
  refine o_iload_n k185_0 rfl ?_
  refine bd_i h (fun v1 hv1 h => ?_)
  refine o_call k185_1 pj_153 (fun _ => rfl) (by decide) rfl (as := [.int a0]) (rest := []) rfl (L0 := [some (.int a0)]) rfl (t_X8_isPart hv1) ?_
  refine o_if_ne k185_4 (fun hc2 => ?_) (fun hc2 => ?_)
  · rw [if_neg hc2] at h
    refine o_bipush (v := (-4)) k185_9 (by decide) ?_
    refine o_istore_n (v := (-4)) (L' := [some (.ref 43), some (.int a0), some (.int (-4)), none, none]) k185_11 rfl rfl ?_
    refine o_iconst (v := 0) k185_12 (by decide) ?_
    refine o_istore_n (v := 0) (L' := [some (.ref 43), some (.int a0), some (.int (-4)), some (.int 0), none]) k185_13 rfl rfl ?_
    refine o_iconst (v := 0) k185_14 (by decide) ?_
    refine o_istore (v := 0) (L' := [some (.ref 43), some (.int a0), some (.int (-4)), some (.int 0), some (.int 0)]) k185_15 rfl rfl ?_
    refine bd_i h (fun s9 hs9 h => ?_)
    refine lp_o (fun s3 => oo LN xs 0 0 185 17 [some (.ref 43), some (.int a0), some (.int s3.1), some (.int s3.2.1), some (.int s3.2.2)] [] M (some (.int t), M)) (fun s9 => oo LN xs 0 0 185 59 [some (.ref 43), some (.int a0), some (.int s9.1), some (.int s9.2.1), some (.int s9.2.2)] [] M (some (.int t), M)) ?_ hs9 ?_
    · intro s3 ws3 h hK
      refine o_iload k185_17 rfl ?_
      refine o_iconst (v := 1) k185_19 (by decide) ?_
      refine o_aload_n k185_20 rfl ?_
      refine o_gf k185_21 (gf_43_0 _) ?_
      refine o_iconst (v := 4) k185_24 (by decide) ?_
      refine o_iald k185_25 rfl ia_44 (by decide) ?_
      refine o_ishl k185_26 ?_
      refine o_icmp_ge k185_27 (fun hc5 => ?_) (fun hc5 => ?_)
      · rw [if_pos hc5] at h
        have h9 := Option.some.inj h
        subst h9
        exact hK
      · rw [if_neg hc5] at h
        refine o_aload_n k185_30 rfl ?_
        refine o_iload k185_31 rfl ?_
        refine bd_i h (fun v6 hv6 h => ?_)
        refine o_call k185_33 pj_184 (fun _ => rfl) (by decide) rfl (as := [.ref 43, .int s3.2.2]) (rest := []) rfl (L0 := [some (.ref 43), some (.int s3.2.2), none, none, none, none]) rfl (t_X8_bringsAll_43 hv6) ?_
        refine o_if_eq k185_36 (fun hc7 => ?_) (fun hc7 => ?_)
        · rw [if_pos hc7] at h
          refine o_iinc (w := s3.2.2 + 1) (L' := [some (.ref 43), some (.int a0), some (.int s3.1), some (.int s3.2.1), some (.int (s3.2.2 + 1))]) k185_53 rfl rfl rfl ?_
          refine o_goto k185_56 ?_
          have h9 := Option.some.inj h
          subst h9
          exact hK
        · rw [if_neg hc7] at h
          refine o_iload_n k185_39 rfl ?_
          refine o_if_ne k185_40 (fun hc8 => ?_) (fun hc8 => ?_)
          · rw [if_neg hc8] at h
            refine o_iload_n k185_48 rfl ?_
            refine o_istore_n (v := s3.1) (L' := [some (.ref 43), some (.int a0), some (.int s3.1), some (.int s3.2.1), some (.int s3.2.2)]) k185_49 rfl rfl ?_
            refine o_iinc (w := s3.2.1 + 1) (L' := [some (.ref 43), some (.int a0), some (.int s3.1), some (.int (s3.2.1 + 1)), some (.int s3.2.2)]) k185_50 rfl rfl rfl ?_
            refine o_iinc (w := s3.2.2 + 1) (L' := [some (.ref 43), some (.int a0), some (.int s3.1), some (.int (s3.2.1 + 1)), some (.int (s3.2.2 + 1))]) k185_53 rfl rfl rfl ?_
            refine o_goto k185_56 ?_
            have h9 := Option.some.inj h
            subst h9
            exact hK
          · rw [if_pos hc8] at h
            refine o_iload k185_43 rfl ?_
            refine o_goto k185_45 ?_
            refine o_istore_n (v := s3.2.2) (L' := [some (.ref 43), some (.int a0), some (.int s3.2.2), some (.int s3.2.1), some (.int s3.2.2)]) k185_49 rfl rfl ?_
            refine o_iinc (w := s3.2.1 + 1) (L' := [some (.ref 43), some (.int a0), some (.int s3.2.2), some (.int (s3.2.1 + 1)), some (.int s3.2.2)]) k185_50 rfl rfl rfl ?_
            refine o_iinc (w := s3.2.2 + 1) (L' := [some (.ref 43), some (.int a0), some (.int s3.2.2), some (.int (s3.2.1 + 1)), some (.int (s3.2.2 + 1))]) k185_53 rfl rfl rfl ?_
            refine o_goto k185_56 ?_
            have h9 := Option.some.inj h
            subst h9
            exact hK
    · show oo LN xs 0 0 185 59 [some (.ref 43), some (.int a0), some (.int s9.1), some (.int s9.2.1), some (.int s9.2.2)] [] M (some (.int t), M)
      refine o_iload_n k185_59 rfl ?_
      refine o_if_eq k185_60 (fun hc10 => ?_) (fun hc10 => ?_)
      · rw [if_pos hc10] at h
        refine o_iload_n k185_67 rfl ?_
        have h9 := Option.some.inj h
        subst h9
        exact o_iret pj_185 k185_68 rfl nr_i
      · rw [if_neg hc10] at h
        refine o_iload_n k185_63 rfl ?_
        refine o_if_ne k185_64 (fun hc11 => ?_) (fun hc11 => ?_)
        · rw [if_neg hc11] at h
          refine o_iconst (v := 0) k185_69 (by decide) ?_
          refine o_istore (v := 0) (L' := [some (.ref 43), some (.int a0), some (.int s9.1), some (.int s9.2.1), some (.int 0)]) k185_70 rfl rfl ?_
          refine bd_i h (fun s14 hs14 h => ?_)
          refine lp_o (fun s12 => oo LN xs 0 0 185 72 [some (.ref 43), some (.int a0), some (.int s9.1), some (.int s9.2.1), some (.int s12)] [] M (some (.int t), M)) (fun s14 => oo LN xs 0 0 185 86 [some (.ref 43), some (.int a0), some (.int s9.1), some (.int s9.2.1), some (.int s14)] [] M (some (.int t), M)) ?_ hs14 ?_
          · intro s12 ws12 h hK
            refine o_iconst (v := 1) k185_72 (by decide) ?_
            refine o_iload k185_73 rfl ?_
            refine o_ishl k185_75 ?_
            refine o_iload_n k185_76 rfl ?_
            refine o_icmp_ge k185_77 (fun hc13 => ?_) (fun hc13 => ?_)
            · rw [if_pos hc13] at h
              have h9 := Option.some.inj h
              subst h9
              exact hK
            · rw [if_neg hc13] at h
              refine o_iinc (w := s12 + 1) (L' := [some (.ref 43), some (.int a0), some (.int s9.1), some (.int s9.2.1), some (.int (s12 + 1))]) k185_80 rfl rfl rfl ?_
              refine o_goto k185_83 ?_
              have h9 := Option.some.inj h
              subst h9
              exact hK
          · show oo LN xs 0 0 185 86 [some (.ref 43), some (.int a0), some (.int s9.1), some (.int s9.2.1), some (.int s14)] [] M (some (.int t), M)
            refine o_iload k185_86 rfl ?_
            have h9 := Option.some.inj h
            subst h9
            exact o_iret pj_185 k185_88 rfl nr_i
        · rw [if_pos hc11] at h
          refine o_iload_n k185_67 rfl ?_
          have h9 := Option.some.inj h
          subst h9
          exact o_iret pj_185 k185_68 rfl nr_i
  · rw [if_pos hc2] at h
    refine o_iconst (v := (-1)) k185_7 (by decide) ?_
    have h9 := Option.some.inj h
    subst h9
    exact o_iret pj_185 k185_8 rfl nr_i
def f_X4_moved_9 (a0 : Int32) (M : am_M) : Int32 := (bl (if ((a0 <<< (1 &&& 31)) &&& ((f_X0_allOutputs_9 M) ^^^ (-1))) = 0 then (a0 <<< (1 &&& 31)) else ((a0 <<< (1 &&& 31)) ^^^ (M 9 6))) (fun (v2 : Int32) => (v2 &&& (f_X0_allOutputs_9 M))))
set_option maxRecDepth 20000 in
theorem t_X4_moved_9 {LN : Nat} {xs : Nat → Int32} {a0 : Int32} {M : am_M} {t : Int32} (h : f_X4_moved_9 a0 M = t) : oo LN xs 0 0 50 0 [some (.ref 9), some (.int a0), none] [] M (some (.int t), M) := by
  unfold f_X4_moved_9 at h
  refine o_iload_n k50_0 rfl ?_
  refine o_iconst (v := 1) k50_1 (by decide) ?_
  refine o_ishl k50_2 ?_
  refine o_istore_n (v := (a0 <<< (1 &&& 31))) (L' := [some (.ref 9), some (.int a0), some (.int (a0 <<< (1 &&& 31)))]) k50_3 rfl rfl ?_
  refine o_iload_n k50_4 rfl ?_
  refine o_aload_n k50_5 rfl ?_
  refine o_call k50_6 pj_11 (fun _ => rfl) (by decide) rfl (as := [.ref 9]) (rest := [.int (a0 <<< (1 &&& 31))]) rfl (L0 := [some (.ref 9)]) rfl (t_X0_allOutputs_9 (M := M) rfl) ?_
  refine o_iconst (v := (-1)) k50_9 (by decide) ?_
  refine o_ixor k50_10 ?_
  refine o_iand k50_11 ?_
  refine bl_i h (fun v2 ev2 h => ?_)
  have hJ22 : ∀ (yv2 : Int32), yv2 = v2 → oo LN xs 0 0 50 22 [some (.ref 9), some (.int a0), some (.int yv2)] [] M (some (.int t), M) := by
    intro yv2 hyv2
    rw [hyv2]
    refine o_iload_n k50_22 rfl ?_
    refine o_aload_n k50_23 rfl ?_
    refine o_call k50_24 pj_11 (fun _ => rfl) (by decide) rfl (as := [.ref 9]) (rest := [.int v2]) rfl (L0 := [some (.ref 9)]) rfl (t_X0_allOutputs_9 (M := M) rfl) ?_
    refine o_iand k50_27 ?_
    subst h
    exact o_iret pj_50 k50_28 rfl nr_i
  refine o_if_eq k50_12 (fun hc1 => ?_) (fun hc1 => ?_)
  · skip
    exact hJ22 _ (by simp only [ev2, if_pos hc1])
  · skip
    refine o_iload_n k50_15 rfl ?_
    refine o_aload_n k50_16 rfl ?_
    refine o_gf k50_17 (gf_9_6 _) ?_
    refine o_ixor k50_20 ?_
    refine o_istore_n (v := ((a0 <<< (1 &&& 31)) ^^^ (M 9 6))) (L' := [some (.ref 9), some (.int a0), some (.int ((a0 <<< (1 &&& 31)) ^^^ (M 9 6)))]) k50_21 rfl rfl ?_
    exact hJ22 _ (by simp only [ev2, if_neg hc1])
def f_X7_signature_0 (M : am_M) : Option Int32 := ((lp (σ := Int32 × Int32) (ρ := (Int32) ⊕ (Int32 × Int32)) (fun s1 => (if (M 9 1) ≤ s1.2 then (some (.inr (.inr (s1.1, s1.2)))) else ((f_X0_blurred_9 s1.2 (M 9 3) M).bind (fun v4 => (if v4 = 0 then ((lp (σ := Int32 × Int32) (ρ := Int32 × Int32) (fun s6 => (if (M 9 2) ≤ s6.2 then (some (.inr (s6.1, s6.2))) else ((f_X0_seenAt_9 s1.2 s6.2 M).bind (fun v8 => (some (.inl ((s6.1 ^^^ (v8 <<< (s6.2 &&& 31))), (s6.2 + 1)))))))) lp_F ((f_X4_moved_9 s1.1 M), 0)).bind (fun s9 => (some (.inl (s9.1, (s1.2 + 1)))))) else (some (.inr (.inl (-4))))))))) lp_F (0, 0)).bind (fun os10 => Sum.elim (fun u => (some u)) (fun s10 => (some s10.1)) os10))
set_option maxRecDepth 20000 in
theorem t_X7_signature_0 {LN : Nat} {xs : Nat → Int32} {M : am_M} {t : Int32} (h : f_X7_signature_0 M = some t) : oo LN xs 0 0 106 0 [some (.ref 0), none, none, none] [] M (some (.int t), M) := by
  unfold f_X7_signature_0 at h
  refine o_iconst (v := 0) k106_0 (by decide) ?_
  refine o_istore_n (v := 0) (L' := [some (.ref 0), some (.int 0), none, none]) k106_1 rfl rfl ?_
  refine o_iconst (v := 0) k106_2 (by decide) ?_
  refine o_istore_n (v := 0) (L' := [some (.ref 0), some (.int 0), some (.int 0), none]) k106_3 rfl rfl ?_
  refine bd_i h (fun Os10 hOs10 h => ?_)
  refine lp_o (fun s1 => ∀ (d2 : Option Value), oo LN xs 0 0 106 4 [some (.ref 0), some (.int s1.1), some (.int s1.2), d2] [] M (some (.int t), M)) (fun oq => Sum.elim (fun u => u = t) (fun s10 => ∀ (d11 : Option Value), oo LN xs 0 0 106 84 [some (.ref 0), some (.int s10.1), some (.int s10.2), d11] [] M (some (.int t), M)) oq) ?_ hOs10 ?_ none
  · intro s1 ws1 h hK d2
    refine o_iload_n k106_4 rfl ?_
    refine o_aload_n k106_5 rfl ?_
    refine o_gf k106_6 (gf_0_2 _) ?_
    refine o_gf k106_9 (gf_9_1 _) ?_
    refine o_icmp_ge k106_12 (fun hc3 => ?_) (fun hc3 => ?_)
    · rw [if_pos hc3] at h
      have h9 := Option.some.inj h
      subst h9
      exact hK _
    · rw [if_neg hc3] at h
      refine o_aload_n k106_15 rfl ?_
      refine o_gf k106_16 (gf_0_2 _) ?_
      refine o_iload_n k106_19 rfl ?_
      refine o_aload_n k106_20 rfl ?_
      refine o_gf k106_21 (gf_0_2 _) ?_
      refine o_gf k106_24 (gf_9_3 _) ?_
      refine bd_i h (fun v4 hv4 h => ?_)
      refine o_call k106_27 pj_17 (fun _ => rfl) (by decide) rfl (as := [.ref 9, .int s1.2, .int (M 9 3)]) (rest := []) rfl (L0 := [some (.ref 9), some (.int s1.2), some (.int (M 9 3)), none, none]) rfl (t_X0_blurred_9 hv4) ?_
      refine o_if_eq k106_30 (fun hc5 => ?_) (fun hc5 => ?_)
      · rw [if_pos hc5] at h
        refine o_aload_n k106_36 rfl ?_
        refine o_gf k106_37 (gf_0_2 _) ?_
        refine o_iload_n k106_40 rfl ?_
        refine o_call k106_41 pj_50 (fun _ => rfl) (by decide) rfl (as := [.ref 9, .int s1.1]) (rest := []) rfl (L0 := [some (.ref 9), some (.int s1.1), none]) rfl (t_X4_moved_9 (M := M) (a0 := s1.1) rfl) ?_
        refine o_istore_n (v := (f_X4_moved_9 s1.1 M)) (L' := [some (.ref 0), some (.int (f_X4_moved_9 s1.1 M)), some (.int s1.2), d2]) k106_44 rfl rfl ?_
        refine o_iconst (v := 0) k106_45 (by decide) ?_
        refine o_istore_n (v := 0) (L' := [some (.ref 0), some (.int (f_X4_moved_9 s1.1 M)), some (.int s1.2), some (.int 0)]) k106_46 rfl rfl ?_
        refine bd_i h (fun s9 hs9 h => ?_)
        refine lp_o (fun s6 => oo LN xs 0 0 106 47 [some (.ref 0), some (.int s6.1), some (.int s1.2), some (.int s6.2)] [] M (some (.int t), M)) (fun s9 => oo LN xs 0 0 106 78 [some (.ref 0), some (.int s9.1), some (.int s1.2), some (.int s9.2)] [] M (some (.int t), M)) ?_ hs9 ?_
        · intro s6 ws6 h hK
          refine o_iload_n k106_47 rfl ?_
          refine o_aload_n k106_48 rfl ?_
          refine o_gf k106_49 (gf_0_2 _) ?_
          refine o_gf k106_52 (gf_9_2 _) ?_
          refine o_icmp_ge k106_55 (fun hc7 => ?_) (fun hc7 => ?_)
          · rw [if_pos hc7] at h
            have h9 := Option.some.inj h
            subst h9
            exact hK
          · rw [if_neg hc7] at h
            refine o_iload_n k106_58 rfl ?_
            refine o_aload_n k106_59 rfl ?_
            refine o_gf k106_60 (gf_0_2 _) ?_
            refine o_iload_n k106_63 rfl ?_
            refine o_iload_n k106_64 rfl ?_
            refine bd_i h (fun v8 hv8 h => ?_)
            refine o_call k106_65 pj_16 (fun _ => rfl) (by decide) rfl (as := [.ref 9, .int s1.2, .int s6.2]) (rest := [.int s6.1]) rfl (L0 := [some (.ref 9), some (.int s1.2), some (.int s6.2), none, none, none]) rfl (t_X0_seenAt_9 hv8) ?_
            refine o_iload_n k106_68 rfl ?_
            refine o_ishl k106_69 ?_
            refine o_ixor k106_70 ?_
            refine o_istore_n (v := (s6.1 ^^^ (v8 <<< (s6.2 &&& 31)))) (L' := [some (.ref 0), some (.int (s6.1 ^^^ (v8 <<< (s6.2 &&& 31)))), some (.int s1.2), some (.int s6.2)]) k106_71 rfl rfl ?_
            refine o_iinc (w := s6.2 + 1) (L' := [some (.ref 0), some (.int (s6.1 ^^^ (v8 <<< (s6.2 &&& 31)))), some (.int s1.2), some (.int (s6.2 + 1))]) k106_72 rfl rfl rfl ?_
            refine o_goto k106_75 ?_
            have h9 := Option.some.inj h
            subst h9
            exact hK
        · show oo LN xs 0 0 106 78 [some (.ref 0), some (.int s9.1), some (.int s1.2), some (.int s9.2)] [] M (some (.int t), M)
          refine o_iinc (w := s1.2 + 1) (L' := [some (.ref 0), some (.int s9.1), some (.int (s1.2 + 1)), some (.int s9.2)]) k106_78 rfl rfl rfl ?_
          refine o_goto k106_81 ?_
          have h9 := Option.some.inj h
          subst h9
          exact hK _
      · rw [if_neg hc5] at h
        refine o_bipush (v := (-4)) k106_33 (by decide) ?_
        have h9 := Option.some.inj h
        subst h9
        have hK2 : (-4) = t := hK
        subst hK2
        exact o_iret pj_106 k106_35 rfl nr_i
  · rcases Os10 with u | s10
    · exact Option.some.inj h
    · show ∀ (d11 : Option Value), oo LN xs 0 0 106 84 [some (.ref 0), some (.int s10.1), some (.int s10.2), d11] [] M (some (.int t), M)
      replace h : (some s10.1) = some t := h
      intro d11
      refine o_iload_n k106_84 rfl ?_
      have h9 := Option.some.inj h
      subst h9
      exact o_iret pj_106 k106_85 rfl nr_i
def f_X8_mask_43 (M : am_M) : Int32 := (((1 : Int32) <<< ((M 44 (2 : Int32).toNatClampNeg) &&& 31)) - 1)
set_option maxRecDepth 20000 in
theorem t_X8_mask_43 {LN : Nat} {xs : Nat → Int32} {M : am_M} {t : Int32} (h : f_X8_mask_43 M = t) : oo LN xs 0 0 186 0 [some (.ref 43)] [] M (some (.int t), M) := by
  unfold f_X8_mask_43 at h
  refine o_iconst (v := 1) k186_0 (by decide) ?_
  refine o_aload_n k186_1 rfl ?_
  refine o_gf k186_2 (gf_43_0 _) ?_
  refine o_iconst (v := 2) k186_5 (by decide) ?_
  refine o_iald k186_6 rfl ia_44 (by decide) ?_
  refine o_ishl k186_7 ?_
  refine o_iconst (v := 1) k186_8 (by decide) ?_
  refine o_isub k186_9 ?_
  subst h
  exact o_iret pj_186 k186_10 rfl nr_i
def f_X8_shifted_43 (a0 : Int32) (M : am_M) : Int32 := (bl (if (M 44 (2 : Int32).toNatClampNeg) ≤ 0 then 0 else (if (f_X8_has a0 ((M 44 (2 : Int32).toNatClampNeg) - 1)) = 0 then 0 else 1)) (fun (v5 : Int32) => (bl (if v5 = 0 then 0 else (M 44 (6 : Int32).toNatClampNeg)) (fun (v8 : Int32) => (((a0 <<< (1 &&& 31)) ^^^ v8) &&& (f_X8_mask_43 M))))))
set_option maxRecDepth 20000 in
theorem t_X8_shifted_43 {LN : Nat} {xs : Nat → Int32} {a0 : Int32} {M : am_M} {t : Int32} (h : f_X8_shifted_43 a0 M = t) : oo LN xs 0 0 187 0 [some (.ref 43), some (.int a0), none] [] M (some (.int t), M) := by
  unfold f_X8_shifted_43 at h
  refine o_aload_n k187_0 rfl ?_
  refine o_gf k187_1 (gf_43_0 _) ?_
  refine o_iconst (v := 2) k187_4 (by decide) ?_
  refine o_iald k187_5 rfl ia_44 (by decide) ?_
  refine bl_i h (fun v5 ev5 h => ?_)
  have hJ29 : ∀ (yv5 : Int32), yv5 = v5 → oo LN xs 0 0 187 29 [some (.ref 43), some (.int a0), none] [.int yv5] M (some (.int t), M) := by
    intro yv5 hyv5
    rw [hyv5]
    refine o_istore_n (v := v5) (L' := [some (.ref 43), some (.int a0), some (.int v5)]) k187_29 rfl rfl ?_
    refine o_iload_n k187_30 rfl ?_
    refine o_iconst (v := 1) k187_31 (by decide) ?_
    refine o_ishl k187_32 ?_
    refine o_iload_n k187_33 rfl ?_
    refine bl_i h (fun v8 ev8 h => ?_)
    have hJ48 : ∀ (yv8 : Int32), yv8 = v8 → oo LN xs 0 0 187 48 [some (.ref 43), some (.int a0), some (.int v5)] [.int yv8, .int (a0 <<< (1 &&& 31))] M (some (.int t), M) := by
      intro yv8 hyv8
      rw [hyv8]
      refine o_ixor k187_48 ?_
      refine o_aload_n k187_49 rfl ?_
      refine o_call k187_50 pj_186 (fun _ => rfl) (by decide) rfl (as := [.ref 43]) (rest := [.int ((a0 <<< (1 &&& 31)) ^^^ v8)]) rfl (L0 := [some (.ref 43)]) rfl (t_X8_mask_43 (M := M) rfl) ?_
      refine o_iand k187_53 ?_
      subst h
      exact o_iret pj_187 k187_54 rfl nr_i
    refine o_if_eq k187_34 (fun hc6 => ?_) (fun hc6 => ?_)
    · skip
      refine o_iconst (v := 0) k187_47 (by decide) ?_
      exact hJ48 _ (by simp only [ev8, if_pos hc6])
    · skip
      refine o_aload_n k187_37 rfl ?_
      refine o_gf k187_38 (gf_43_0 _) ?_
      refine o_bipush (v := 6) k187_41 (by decide) ?_
      refine o_iald k187_43 rfl ia_44 (by decide) ?_
      refine o_goto k187_44 ?_
      exact hJ48 _ (by simp only [ev8, if_neg hc6])
  refine o_if_le k187_6 (fun hc2 => ?_) (fun hc2 => ?_)
  · skip
    refine o_iconst (v := 0) k187_28 (by decide) ?_
    exact hJ29 _ (by simp only [ev5, if_pos hc2])
  · skip
    refine o_iload_n k187_9 rfl ?_
    refine o_aload_n k187_10 rfl ?_
    refine o_gf k187_11 (gf_43_0 _) ?_
    refine o_iconst (v := 2) k187_14 (by decide) ?_
    refine o_iald k187_15 rfl ia_44 (by decide) ?_
    refine o_iconst (v := 1) k187_16 (by decide) ?_
    refine o_isub k187_17 ?_
    refine o_call k187_18 pj_127 (fun _ => rfl) (by decide) rfl (as := [.int a0, .int ((M 44 (2 : Int32).toNatClampNeg) - 1)]) (rest := []) rfl (L0 := [some (.int a0), some (.int ((M 44 (2 : Int32).toNatClampNeg) - 1))]) rfl (t_X8_has (M := M) (a0 := a0) (a1 := ((M 44 (2 : Int32).toNatClampNeg) - 1)) rfl) ?_
    refine o_if_eq k187_21 (fun hc4 => ?_) (fun hc4 => ?_)
    · skip
      refine o_iconst (v := 0) k187_28 (by decide) ?_
      exact hJ29 _ (by simp only [ev5, if_neg hc2, if_pos hc4])
    · skip
      refine o_iconst (v := 1) k187_24 (by decide) ?_
      refine o_goto k187_25 ?_
      exact hJ29 _ (by simp only [ev5, if_neg hc2, if_neg hc4])
def f_X8_signature_43 (M : am_M) : Option Int32 := ((lp (σ := Int32 × Int32) (ρ := (Int32) ⊕ (Int32 × Int32)) (fun s1 => (if (M 44 (1 : Int32).toNatClampNeg) ≤ s1.2 then (some (.inr (.inr (s1.1, s1.2)))) else ((lp (σ := Int32 × Int32) (ρ := (Int32) ⊕ (Int32 × Int32)) (fun s6 => (if (M 44 (2 : Int32).toNatClampNeg) ≤ s6.2 then (some (.inr (.inr (s6.1, s6.2)))) else ((f_X8_seenAt_43 s1.2 s6.2 M).bind (fun v10 => (if v10 = 2 then (some (.inr (.inl (-4)))) else (some (.inl ((s6.1 ^^^ (v10 <<< (s6.2 &&& 31))), (s6.2 + 1))))))))) lp_F ((f_X8_shifted_43 s1.1 M), 0)).bind (fun os12 => Sum.elim (fun u => (some (.inr (.inl u)))) (fun s12 => (some (.inl (s12.1, (s1.2 + 1))))) os12)))) lp_F (0, 0)).bind (fun os14 => Sum.elim (fun u => (some u)) (fun s14 => (some s14.1)) os14))
set_option maxRecDepth 20000 in
theorem t_X8_signature_43 {LN : Nat} {xs : Nat → Int32} {M : am_M} {t : Int32} (h : f_X8_signature_43 M = some t) : oo LN xs 0 0 188 0 [some (.ref 43), none, none, none, none] [] M (some (.int t), M) := by
  unfold f_X8_signature_43 at h
  refine o_iconst (v := 0) k188_0 (by decide) ?_
  refine o_istore_n (v := 0) (L' := [some (.ref 43), some (.int 0), none, none, none]) k188_1 rfl rfl ?_
  refine o_iconst (v := 0) k188_2 (by decide) ?_
  refine o_istore_n (v := 0) (L' := [some (.ref 43), some (.int 0), some (.int 0), none, none]) k188_3 rfl rfl ?_
  refine bd_i h (fun Os14 hOs14 h => ?_)
  refine lp_o (fun s1 => ∀ (d2 d3 : Option Value), oo LN xs 0 0 188 4 [some (.ref 43), some (.int s1.1), some (.int s1.2), d2, d3] [] M (some (.int t), M)) (fun oq => Sum.elim (fun u => u = t) (fun s14 => ∀ (d15 d16 : Option Value), oo LN xs 0 0 188 68 [some (.ref 43), some (.int s14.1), some (.int s14.2), d15, d16] [] M (some (.int t), M)) oq) ?_ hOs14 ?_ none none
  · intro s1 ws1 h hK d2 d3
    refine o_iload_n k188_4 rfl ?_
    refine o_aload_n k188_5 rfl ?_
    refine o_gf k188_6 (gf_43_0 _) ?_
    refine o_iconst (v := 1) k188_9 (by decide) ?_
    refine o_iald k188_10 rfl ia_44 (by decide) ?_
    refine o_icmp_ge k188_11 (fun hc5 => ?_) (fun hc5 => ?_)
    · rw [if_pos hc5] at h
      have h9 := Option.some.inj h
      subst h9
      exact hK _ _
    · rw [if_neg hc5] at h
      refine o_aload_n k188_14 rfl ?_
      refine o_iload_n k188_15 rfl ?_
      refine o_call k188_16 pj_187 (fun _ => rfl) (by decide) rfl (as := [.ref 43, .int s1.1]) (rest := []) rfl (L0 := [some (.ref 43), some (.int s1.1), none]) rfl (t_X8_shifted_43 (M := M) (a0 := s1.1) rfl) ?_
      refine o_istore_n (v := (f_X8_shifted_43 s1.1 M)) (L' := [some (.ref 43), some (.int (f_X8_shifted_43 s1.1 M)), some (.int s1.2), d2, d3]) k188_19 rfl rfl ?_
      refine o_iconst (v := 0) k188_20 (by decide) ?_
      refine o_istore_n (v := 0) (L' := [some (.ref 43), some (.int (f_X8_shifted_43 s1.1 M)), some (.int s1.2), some (.int 0), d3]) k188_21 rfl rfl ?_
      refine bd_i h (fun Os12 hOs12 h => ?_)
      refine lp_o (fun s6 => ∀ (d7 : Option Value), oo LN xs 0 0 188 22 [some (.ref 43), some (.int s6.1), some (.int s1.2), some (.int s6.2), d7] [] M (some (.int t), M)) (fun oq => Sum.elim (fun u => u = t) (fun s12 => ∀ (d13 : Option Value), oo LN xs 0 0 188 62 [some (.ref 43), some (.int s12.1), some (.int s1.2), some (.int s12.2), d13] [] M (some (.int t), M)) oq) ?_ hOs12 ?_ d3
      · intro s6 ws6 h hK d7
        refine o_iload_n k188_22 rfl ?_
        refine o_aload_n k188_23 rfl ?_
        refine o_gf k188_24 (gf_43_0 _) ?_
        refine o_iconst (v := 2) k188_27 (by decide) ?_
        refine o_iald k188_28 rfl ia_44 (by decide) ?_
        refine o_icmp_ge k188_29 (fun hc9 => ?_) (fun hc9 => ?_)
        · rw [if_pos hc9] at h
          have h9 := Option.some.inj h
          subst h9
          exact hK _
        · rw [if_neg hc9] at h
          refine o_aload_n k188_32 rfl ?_
          refine o_iload_n k188_33 rfl ?_
          refine o_iload_n k188_34 rfl ?_
          refine bd_i h (fun v10 hv10 h => ?_)
          refine o_call k188_35 pj_155 (fun _ => rfl) (by decide) rfl (as := [.ref 43, .int s1.2, .int s6.2]) (rest := []) rfl (L0 := [some (.ref 43), some (.int s1.2), some (.int s6.2), none, none]) rfl (t_X8_seenAt_43 hv10) ?_
          refine o_istore (v := v10) (L' := [some (.ref 43), some (.int s6.1), some (.int s1.2), some (.int s6.2), some (.int v10)]) k188_38 rfl rfl ?_
          refine o_iload k188_40 rfl ?_
          refine o_iconst (v := 2) k188_42 (by decide) ?_
          refine o_icmp_ne k188_43 (fun hc11 => ?_) (fun hc11 => ?_)
          · rw [if_neg hc11] at h
            refine o_iload_n k188_49 rfl ?_
            refine o_iload k188_50 rfl ?_
            refine o_iload_n k188_52 rfl ?_
            refine o_ishl k188_53 ?_
            refine o_ixor k188_54 ?_
            refine o_istore_n (v := (s6.1 ^^^ (v10 <<< (s6.2 &&& 31)))) (L' := [some (.ref 43), some (.int (s6.1 ^^^ (v10 <<< (s6.2 &&& 31)))), some (.int s1.2), some (.int s6.2), some (.int v10)]) k188_55 rfl rfl ?_
            refine o_iinc (w := s6.2 + 1) (L' := [some (.ref 43), some (.int (s6.1 ^^^ (v10 <<< (s6.2 &&& 31)))), some (.int s1.2), some (.int (s6.2 + 1)), some (.int v10)]) k188_56 rfl rfl rfl ?_
            refine o_goto k188_59 ?_
            have h9 := Option.some.inj h
            subst h9
            exact hK _
          · rw [if_pos hc11] at h
            refine o_bipush (v := (-4)) k188_46 (by decide) ?_
            have h9 := Option.some.inj h
            subst h9
            have hK2 : (-4) = t := hK
            subst hK2
            exact o_iret pj_188 k188_48 rfl nr_i
      · rcases Os12 with u | s12
        · have h9 := Option.some.inj h; subst h9; exact hK
        · show ∀ (d13 : Option Value), oo LN xs 0 0 188 62 [some (.ref 43), some (.int s12.1), some (.int s1.2), some (.int s12.2), d13] [] M (some (.int t), M)
          replace h : (some (.inl (s12.1, (s1.2 + 1)))) = some ws1 := h
          intro d13
          refine o_iinc (w := s1.2 + 1) (L' := [some (.ref 43), some (.int s12.1), some (.int (s1.2 + 1)), some (.int s12.2), d13]) k188_62 rfl rfl rfl ?_
          refine o_goto k188_65 ?_
          have h9 := Option.some.inj h
          subst h9
          exact hK _ _
  · rcases Os14 with u | s14
    · exact Option.some.inj h
    · show ∀ (d15 d16 : Option Value), oo LN xs 0 0 188 68 [some (.ref 43), some (.int s14.1), some (.int s14.2), d15, d16] [] M (some (.int t), M)
      replace h : (some s14.1) = some t := h
      intro d15 d16
      refine o_iload_n k188_68 rfl ?_
      have h9 := Option.some.inj h
      subst h9
      exact o_iret pj_188 k188_69 rfl nr_i
def f_X4_gatherChain_30_9 (a0 : Int32) (M : am_M) : Option am_M := (if am_dbin a0 8 = true then ((lp (σ := Int32 × Int32 × am_M) (ρ := Int32 × Int32 × am_M) (fun s2 => (if s2.2.1 < 0 then (some (.inr (s2.1, s2.2.1, s2.2.2))) else (if am_dbin (s2.2.2 30 2) 64 = true then (bl (am_up s2.2.2 31 (s2.2.2 30 2).toNatClampNeg s2.1) (fun (M5 : am_M) => (bl (am_up M5 30 2 ((M5 30 2) + 1)) (fun (M6 : am_M) => (some (.inl ((f_X4_moved_9 s2.1 M6), (s2.2.1 + (-1)), M6))))))) else none))) lp_F ((M 12 a0.toNatClampNeg), ((M 9 1) - 1), M)).bind (fun s7 => (some s7.2.2))) else none)
set_option maxRecDepth 20000 in
theorem t_X4_gatherChain_30_9 {LN : Nat} {xs : Nat → Int32} {a0 : Int32} {M : am_M} {t : am_M} (h : f_X4_gatherChain_30_9 a0 M = some t) : oo LN xs 0 0 52 0 [some (.ref 30), some (.ref 9), some (.int a0), none, none] [] M (none, t) := by
  unfold f_X4_gatherChain_30_9 at h
  refine o_aload_n k52_0 rfl ?_
  refine o_gf k52_1 (gf_9_9 _) ?_
  refine o_iload_n k52_4 rfl ?_
  obtain ⟨hc1, h⟩ := ck_i h
  refine o_iald k52_5 rfl ia_12 hc1 ?_
  refine o_istore_n (v := (M 12 a0.toNatClampNeg)) (L' := [some (.ref 30), some (.ref 9), some (.int a0), some (.int (M 12 a0.toNatClampNeg)), none]) k52_6 rfl rfl ?_
  refine o_aload_n k52_7 rfl ?_
  refine o_gf k52_8 (gf_9_1 _) ?_
  refine o_iconst (v := 1) k52_11 (by decide) ?_
  refine o_isub k52_12 ?_
  refine o_istore (v := ((M 9 1) - 1)) (L' := [some (.ref 30), some (.ref 9), some (.int a0), some (.int (M 12 a0.toNatClampNeg)), some (.int ((M 9 1) - 1))]) k52_13 rfl rfl ?_
  refine bd_i h (fun s7 hs7 h => ?_)
  refine lp_o (fun s2 => oo LN xs 0 0 52 15 [some (.ref 30), some (.ref 9), some (.int a0), some (.int s2.1), some (.int s2.2.1)] [] s2.2.2 (none, t)) (fun s7 => oo LN xs 0 0 52 52 [some (.ref 30), some (.ref 9), some (.int a0), some (.int s7.1), some (.int s7.2.1)] [] s7.2.2 (none, t)) ?_ hs7 ?_
  · intro s2 ws2 h hK
    refine o_iload k52_15 rfl ?_
    refine o_if_lt k52_17 (fun hc3 => ?_) (fun hc3 => ?_)
    · rw [if_pos hc3] at h
      have h9 := Option.some.inj h
      subst h9
      exact hK
    · rw [if_neg hc3] at h
      refine o_aload_n k52_20 rfl ?_
      refine o_gf k52_21 (gf_30_0 _) ?_
      refine o_aload_n k52_24 rfl ?_
      refine o_gf k52_25 (gf_30_2 _) ?_
      refine o_iload_n k52_28 rfl ?_
      obtain ⟨hc4, h⟩ := ck_i h
      refine bl_i h (fun M5 eM5 h => ?_)
      refine o_iast (M' := M5) k52_29 eM5 ia_31 hc4 ?_
      refine o_aload_n k52_30 rfl ?_
      refine o_dupr k52_31 ?_
      refine o_gf k52_32 (gf_30_2 _) ?_
      refine o_iconst (v := 1) k52_35 (by decide) ?_
      refine o_iadd k52_36 ?_
      refine bl_i h (fun M6 eM6 h => ?_)
      refine o_pf (M' := M6) k52_37 (pf_30_2 eM6) ?_
      refine o_aload_n k52_40 rfl ?_
      refine o_iload_n k52_41 rfl ?_
      refine o_call k52_42 pj_50 (fun _ => rfl) (by decide) rfl (as := [.ref 9, .int s2.1]) (rest := []) rfl (L0 := [some (.ref 9), some (.int s2.1), none]) rfl (t_X4_moved_9 (M := M6) (a0 := s2.1) rfl) ?_
      refine o_istore_n (v := (f_X4_moved_9 s2.1 M6)) (L' := [some (.ref 30), some (.ref 9), some (.int a0), some (.int (f_X4_moved_9 s2.1 M6)), some (.int s2.2.1)]) k52_45 rfl rfl ?_
      refine o_iinc (w := s2.2.1 + (-1)) (L' := [some (.ref 30), some (.ref 9), some (.int a0), some (.int (f_X4_moved_9 s2.1 M6)), some (.int (s2.2.1 + (-1)))]) k52_46 rfl rfl rfl ?_
      refine o_goto k52_49 ?_
      have h9 := Option.some.inj h
      subst h9
      exact hK
  · show oo LN xs 0 0 52 52 [some (.ref 30), some (.ref 9), some (.int a0), some (.int s7.1), some (.int s7.2.1)] [] s7.2.2 (none, t)
    have h9 := Option.some.inj h
    subst h9
    exact o_vret pj_52 k52_52 rfl
def f_X4_gather_30_9 (M : am_M) : Option am_M := (bl (am_up M 30 2 0) (fun (M1 : am_M) => ((lp (σ := Int32 × am_M) (ρ := Int32 × am_M) (fun s2 => (if (s2.2 9 0) ≤ s2.1 then (some (.inr (s2.1, s2.2))) else (if (f_X0_isIn s2.1 (s2.2 9 3)) = 0 then ((f_X4_gatherChain_30_9 s2.1 s2.2).bind (fun q5 => (some (.inl ((s2.1 + 1), q5))))) else (some (.inl ((s2.1 + 1), s2.2)))))) lp_F (0, M1)).bind (fun s6 => (some s6.2)))))
set_option maxRecDepth 20000 in
theorem t_X4_gather_30_9 {LN : Nat} {xs : Nat → Int32} {M : am_M} {t : am_M} (h : f_X4_gather_30_9 M = some t) : oo LN xs 0 0 51 0 [some (.ref 30), some (.ref 9), none] [] M (none, t) := by
  unfold f_X4_gather_30_9 at h
  refine o_aload_n k51_0 rfl ?_
  refine o_iconst (v := 0) k51_1 (by decide) ?_
  refine bl_i h (fun M1 eM1 h => ?_)
  refine o_pf (M' := M1) k51_2 (pf_30_2 eM1) ?_
  refine o_iconst (v := 0) k51_5 (by decide) ?_
  refine o_istore_n (v := 0) (L' := [some (.ref 30), some (.ref 9), some (.int 0)]) k51_6 rfl rfl ?_
  refine bd_i h (fun s6 hs6 h => ?_)
  refine lp_o (fun s2 => oo LN xs 0 0 51 7 [some (.ref 30), some (.ref 9), some (.int s2.1)] [] s2.2 (none, t)) (fun s6 => oo LN xs 0 0 51 38 [some (.ref 30), some (.ref 9), some (.int s6.1)] [] s6.2 (none, t)) ?_ hs6 ?_
  · intro s2 ws2 h hK
    refine o_iload_n k51_7 rfl ?_
    refine o_aload_n k51_8 rfl ?_
    refine o_gf k51_9 (gf_9_0 _) ?_
    refine o_icmp_ge k51_12 (fun hc3 => ?_) (fun hc3 => ?_)
    · rw [if_pos hc3] at h
      have h9 := Option.some.inj h
      subst h9
      exact hK
    · rw [if_neg hc3] at h
      refine o_iload_n k51_15 rfl ?_
      refine o_aload_n k51_16 rfl ?_
      refine o_gf k51_17 (gf_9_3 _) ?_
      refine o_call k51_20 pj_6 (fun _ => rfl) (by decide) rfl (as := [.int s2.1, .int (s2.2 9 3)]) (rest := []) rfl (L0 := [some (.int s2.1), some (.int (s2.2 9 3))]) rfl (t_X0_isIn (M := s2.2) (a0 := s2.1) (a1 := (s2.2 9 3)) rfl) ?_
      refine o_if_ne k51_23 (fun hc4 => ?_) (fun hc4 => ?_)
      · rw [if_neg hc4] at h
        refine o_iinc (w := s2.1 + 1) (L' := [some (.ref 30), some (.ref 9), some (.int (s2.1 + 1))]) k51_32 rfl rfl rfl ?_
        refine o_goto k51_35 ?_
        have h9 := Option.some.inj h
        subst h9
        exact hK
      · rw [if_pos hc4] at h
        refine o_aload_n k51_26 rfl ?_
        refine o_aload_n k51_27 rfl ?_
        refine o_iload_n k51_28 rfl ?_
        refine bd_i h (fun q5 hq5 h => ?_)
        refine o_call k51_29 pj_52 (fun _ => rfl) (by decide) rfl (as := [.ref 30, .ref 9, .int s2.1]) (rest := []) rfl (L0 := [some (.ref 30), some (.ref 9), some (.int s2.1), none, none]) rfl (t_X4_gatherChain_30_9 hq5) ?_
        refine o_iinc (w := s2.1 + 1) (L' := [some (.ref 30), some (.ref 9), some (.int (s2.1 + 1))]) k51_32 rfl rfl rfl ?_
        refine o_goto k51_35 ?_
        have h9 := Option.some.inj h
        subst h9
        exact hK
  · show oo LN xs 0 0 51 38 [some (.ref 30), some (.ref 9), some (.int s6.1)] [] s6.2 (none, t)
    have h9 := Option.some.inj h
    subst h9
    exact o_vret pj_51 k51_38 rfl
def f_J7_fill_53178_33 (a0 : Int32) (M : am_M) : Option am_M := ((lp (σ := Int32 × am_M) (ρ := Int32 × am_M) (fun s1 => (if 12 ≤ s1.1 then (some (.inr (s1.1, s1.2))) else (if am_dbin s1.1 12 = true then (bl (am_up s1.2 33 s1.1.toNatClampNeg a0) (fun (M4 : am_M) => (some (.inl ((s1.1 + 1), M4))))) else none))) lp_F (0, M)).bind (fun s5 => (some s5.2)))
set_option maxRecDepth 20000 in
theorem t_J7_fill_53178_33 {LN : Nat} {xs : Nat → Int32} {a0 : Int32} {M : am_M} {t : am_M} (h : f_J7_fill_53178_33 a0 M = some t) : oo LN xs 0 0 219 0 [some (.ref 33), some (.int a0), none, none] [] M (none, t) := by
  unfold f_J7_fill_53178_33 at h
  refine o_iconst (v := 0) k219_0 (by decide) ?_
  refine o_istore_n (v := 0) (L' := [some (.ref 33), some (.int a0), some (.int 0), none]) k219_1 rfl rfl ?_
  refine o_aload_n k219_2 rfl ?_
  refine o_alen (v := 12) k219_3 rfl (by decide) ?_
  refine o_istore_n (v := 12) (L' := [some (.ref 33), some (.int a0), some (.int 0), some (.int 12)]) k219_4 rfl rfl ?_
  refine bd_i h (fun s5 hs5 h => ?_)
  refine lp_o (fun s1 => oo LN xs 0 0 219 5 [some (.ref 33), some (.int a0), some (.int s1.1), some (.int 12)] [] s1.2 (none, t)) (fun s5 => oo LN xs 0 0 219 20 [some (.ref 33), some (.int a0), some (.int s5.1), some (.int 12)] [] s5.2 (none, t)) ?_ hs5 ?_
  · intro s1 ws1 h hK
    refine o_iload_n k219_5 rfl ?_
    refine o_iload_n k219_6 rfl ?_
    refine o_icmp_ge k219_7 (fun hc2 => ?_) (fun hc2 => ?_)
    · rw [if_pos hc2] at h
      have h9 := Option.some.inj h
      subst h9
      exact hK
    · rw [if_neg hc2] at h
      refine o_aload_n k219_10 rfl ?_
      refine o_iload_n k219_11 rfl ?_
      refine o_iload_n k219_12 rfl ?_
      obtain ⟨hc3, h⟩ := ck_i h
      refine bl_i h (fun M4 eM4 h => ?_)
      refine o_iast (M' := M4) k219_13 eM4 ia_33 hc3 ?_
      refine o_iinc (w := s1.1 + 1) (L' := [some (.ref 33), some (.int a0), some (.int (s1.1 + 1)), some (.int 12)]) k219_14 rfl rfl rfl ?_
      refine o_goto k219_17 ?_
      have h9 := Option.some.inj h
      subst h9
      exact hK
  · show oo LN xs 0 0 219 20 [some (.ref 33), some (.int a0), some (.int s5.1), some (.int 12)] [] s5.2 (none, t)
    have h9 := Option.some.inj h
    subst h9
    exact o_vret pj_219 k219_20 rfl
def f_X1_begin_32 (M : am_M) : Option am_M := ((f_J7_fill_53178_33 0 M).bind (fun q1 => (bl (am_up q1 32 1 0) (fun (M2 : am_M) => (bl (am_up M2 32 2 0) (fun (M3 : am_M) => (some M3)))))))
set_option maxRecDepth 20000 in
theorem t_X1_begin_32 {LN : Nat} {xs : Nat → Int32} {M : am_M} {t : am_M} (h : f_X1_begin_32 M = some t) : oo LN xs 0 0 35 0 [some (.ref 32)] [] M (none, t) := by
  unfold f_X1_begin_32 at h
  refine o_aload_n k35_0 rfl ?_
  refine o_gf k35_1 (gf_32_0 _) ?_
  refine o_iconst (v := 0) k35_4 (by decide) ?_
  refine bd_i h (fun q1 hq1 h => ?_)
  refine o_call k35_5 pj_219 (fun _ => rfl) (by decide) rfl (as := [.ref 33, .int 0]) (rest := []) rfl (L0 := [some (.ref 33), some (.int 0), none, none]) rfl (t_J7_fill_53178_33 hq1) ?_
  refine o_aload_n k35_8 rfl ?_
  refine o_iconst (v := 0) k35_9 (by decide) ?_
  refine bl_i h (fun M2 eM2 h => ?_)
  refine o_pf (M' := M2) k35_10 (pf_32_1 eM2) ?_
  refine o_aload_n k35_13 rfl ?_
  refine o_iconst (v := 0) k35_14 (by decide) ?_
  refine bl_i h (fun M3 eM3 h => ?_)
  refine o_pf (M' := M3) k35_15 (pf_32_2 (by decide) eM3) ?_
  have h9 := Option.some.inj h
  subst h9
  exact o_vret pj_35 k35_18 rfl
def f_X1_add_32 (a0 : Int32) (M : am_M) : Option am_M := ((lp (σ := Int32 × Int32) (ρ := (am_M) ⊕ (Int32 × Int32)) (fun s1 => (if 12 ≤ s1.2 then (some (.inr (.inr (s1.1, s1.2)))) else (if ((s1.1 >>> (s1.2 &&& 31)) &&& 1) = 1 then (if am_dbin s1.2 12 = true then (if (M 33 s1.2.toNatClampNeg) = 0 then (if am_dbin s1.2 12 = true then (bl (am_up M 33 s1.2.toNatClampNeg s1.1) (fun (M8 : am_M) => (bl (am_up M8 32 1 ((M8 32 1) + 1)) (fun (M9 : am_M) => (some (.inr (.inl M9))))))) else none) else (if am_dbin s1.2 12 = true then (some (.inl ((s1.1 ^^^ (M 33 s1.2.toNatClampNeg)), (s1.2 + 1)))) else none)) else none) else (some (.inl (s1.1, (s1.2 + 1))))))) lp_F (a0, 0)).bind (fun os10 => Sum.elim (fun u => (some u)) (fun s10 => (if s10.1 = 0 then (some M) else (bl (am_up M 32 2 1) (fun (M12 : am_M) => (some M12))))) os10))
set_option maxRecDepth 20000 in
theorem t_X1_add_32 {LN : Nat} {xs : Nat → Int32} {a0 : Int32} {M : am_M} {t : am_M} (h : f_X1_add_32 a0 M = some t) : oo LN xs 0 0 36 0 [some (.ref 32), some (.int a0), none, none] [] M (none, t) := by
  unfold f_X1_add_32 at h
  refine o_iload_n k36_0 rfl ?_
  refine o_istore_n (v := a0) (L' := [some (.ref 32), some (.int a0), some (.int a0), none]) k36_1 rfl rfl ?_
  refine o_iconst (v := 0) k36_2 (by decide) ?_
  refine o_istore_n (v := 0) (L' := [some (.ref 32), some (.int a0), some (.int a0), some (.int 0)]) k36_3 rfl rfl ?_
  refine bd_i h (fun Os10 hOs10 h => ?_)
  refine lp_o (fun s1 => oo LN xs 0 0 36 4 [some (.ref 32), some (.int a0), some (.int s1.1), some (.int s1.2)] [] M (none, t)) (fun oq => Sum.elim (fun u => u = t) (fun s10 => oo LN xs 0 0 36 61 [some (.ref 32), some (.int a0), some (.int s10.1), some (.int s10.2)] [] M (none, t)) oq) ?_ hOs10 ?_
  · intro s1 ws1 h hK
    refine o_iload_n k36_4 rfl ?_
    refine o_bipush (v := 12) k36_5 (by decide) ?_
    refine o_icmp_ge k36_7 (fun hc2 => ?_) (fun hc2 => ?_)
    · rw [if_pos hc2] at h
      have h9 := Option.some.inj h
      subst h9
      exact hK
    · rw [if_neg hc2] at h
      refine o_iload_n k36_10 rfl ?_
      refine o_iload_n k36_11 rfl ?_
      refine o_ishr k36_12 ?_
      refine o_iconst (v := 1) k36_13 (by decide) ?_
      refine o_iand k36_14 ?_
      refine o_iconst (v := 1) k36_15 (by decide) ?_
      refine o_icmp_ne k36_16 (fun hc3 => ?_) (fun hc3 => ?_)
      · rw [if_neg hc3] at h
        refine o_iinc (w := s1.2 + 1) (L' := [some (.ref 32), some (.int a0), some (.int s1.1), some (.int (s1.2 + 1))]) k36_55 rfl rfl rfl ?_
        refine o_goto k36_58 ?_
        have h9 := Option.some.inj h
        subst h9
        exact hK
      · rw [if_pos hc3] at h
        refine o_aload_n k36_19 rfl ?_
        refine o_gf k36_20 (gf_32_0 _) ?_
        refine o_iload_n k36_23 rfl ?_
        obtain ⟨hc4, h⟩ := ck_i h
        refine o_iald k36_24 rfl ia_33 hc4 ?_
        refine o_if_ne k36_25 (fun hc5 => ?_) (fun hc5 => ?_)
        · rw [if_neg hc5] at h
          refine o_iload_n k36_46 rfl ?_
          refine o_aload_n k36_47 rfl ?_
          refine o_gf k36_48 (gf_32_0 _) ?_
          refine o_iload_n k36_51 rfl ?_
          obtain ⟨hc6, h⟩ := ck_i h
          refine o_iald k36_52 rfl ia_33 hc6 ?_
          refine o_ixor k36_53 ?_
          refine o_istore_n (v := (s1.1 ^^^ (M 33 s1.2.toNatClampNeg))) (L' := [some (.ref 32), some (.int a0), some (.int (s1.1 ^^^ (M 33 s1.2.toNatClampNeg))), some (.int s1.2)]) k36_54 rfl rfl ?_
          refine o_iinc (w := s1.2 + 1) (L' := [some (.ref 32), some (.int a0), some (.int (s1.1 ^^^ (M 33 s1.2.toNatClampNeg))), some (.int (s1.2 + 1))]) k36_55 rfl rfl rfl ?_
          refine o_goto k36_58 ?_
          have h9 := Option.some.inj h
          subst h9
          exact hK
        · rw [if_pos hc5] at h
          refine o_aload_n k36_28 rfl ?_
          refine o_gf k36_29 (gf_32_0 _) ?_
          refine o_iload_n k36_32 rfl ?_
          refine o_iload_n k36_33 rfl ?_
          obtain ⟨hc7, h⟩ := ck_i h
          refine bl_i h (fun M8 eM8 h => ?_)
          refine o_iast (M' := M8) k36_34 eM8 ia_33 hc7 ?_
          refine o_aload_n k36_35 rfl ?_
          refine o_dupr k36_36 ?_
          refine o_gf k36_37 (gf_32_1 _) ?_
          refine o_iconst (v := 1) k36_40 (by decide) ?_
          refine o_iadd k36_41 ?_
          refine bl_i h (fun M9 eM9 h => ?_)
          refine o_pf (M' := M9) k36_42 (pf_32_1 eM9) ?_
          have h9 := Option.some.inj h
          subst h9
          have hK2 : M9 = t := hK
          subst hK2
          exact o_vret pj_36 k36_45 rfl
  · rcases Os10 with u | s10
    · exact Option.some.inj h
    · show oo LN xs 0 0 36 61 [some (.ref 32), some (.int a0), some (.int s10.1), some (.int s10.2)] [] M (none, t)
      replace h : (if s10.1 = 0 then (some M) else (bl (am_up M 32 2 1) (fun (M12 : am_M) => (some M12)))) = some t := h
      refine o_iload_n k36_61 rfl ?_
      refine o_if_eq k36_62 (fun hc11 => ?_) (fun hc11 => ?_)
      · rw [if_pos hc11] at h
        have h9 := Option.some.inj h
        subst h9
        exact o_vret pj_36 k36_70 rfl
      · rw [if_neg hc11] at h
        refine o_aload_n k36_65 rfl ?_
        refine o_iconst (v := 1) k36_66 (by decide) ?_
        refine bl_i h (fun M12 eM12 h => ?_)
        refine o_pf (M' := M12) k36_67 (pf_32_2 (by decide) eM12) ?_
        have h9 := Option.some.inj h
        subst h9
        exact o_vret pj_36 k36_70 rfl
def f_X4_freedom_30 (M : am_M) : Option (Int32 × am_M) := ((f_X1_begin_32 M).bind (fun q1 => ((lp (σ := Int32 × am_M) (ρ := Int32 × am_M) (fun s2 => (if (s2.2 30 2) ≤ s2.1 then (some (.inr (s2.1, s2.2))) else (if am_dbin s2.1 64 = true then ((f_X1_add_32 (s2.2 31 s2.1.toNatClampNeg) s2.2).bind (fun q5 => (some (.inl ((s2.1 + 1), q5))))) else none))) lp_F (0, q1)).bind (fun s6 => (some (((s6.2 30 2) - (s6.2 32 1)), s6.2))))))
set_option maxRecDepth 20000 in
theorem t_X4_freedom_30 {LN : Nat} {xs : Nat → Int32} {M : am_M} {t : Int32 × am_M} (h : f_X4_freedom_30 M = some t) : oo LN xs 0 0 53 0 [some (.ref 30), none] [] M (some (.int t.1), t.2) := by
  unfold f_X4_freedom_30 at h
  refine o_aload_n k53_0 rfl ?_
  refine o_gf k53_1 (gf_30_1 _) ?_
  refine bd_i h (fun q1 hq1 h => ?_)
  refine o_call k53_4 pj_35 (fun _ => rfl) (by decide) rfl (as := [.ref 32]) (rest := []) rfl (L0 := [some (.ref 32)]) rfl (t_X1_begin_32 hq1) ?_
  refine o_iconst (v := 0) k53_7 (by decide) ?_
  refine o_istore_n (v := 0) (L' := [some (.ref 30), some (.int 0)]) k53_8 rfl rfl ?_
  refine bd_i h (fun s6 hs6 h => ?_)
  refine lp_o (fun s2 => oo LN xs 0 0 53 9 [some (.ref 30), some (.int s2.1)] [] s2.2 (some (.int t.1), t.2)) (fun s6 => oo LN xs 0 0 53 36 [some (.ref 30), some (.int s6.1)] [] s6.2 (some (.int t.1), t.2)) ?_ hs6 ?_
  · intro s2 ws2 h hK
    refine o_iload_n k53_9 rfl ?_
    refine o_aload_n k53_10 rfl ?_
    refine o_gf k53_11 (gf_30_2 _) ?_
    refine o_icmp_ge k53_14 (fun hc3 => ?_) (fun hc3 => ?_)
    · rw [if_pos hc3] at h
      have h9 := Option.some.inj h
      subst h9
      exact hK
    · rw [if_neg hc3] at h
      refine o_aload_n k53_17 rfl ?_
      refine o_gf k53_18 (gf_30_1 _) ?_
      refine o_aload_n k53_21 rfl ?_
      refine o_gf k53_22 (gf_30_0 _) ?_
      refine o_iload_n k53_25 rfl ?_
      obtain ⟨hc4, h⟩ := ck_i h
      refine o_iald k53_26 rfl ia_31 hc4 ?_
      refine bd_i h (fun q5 hq5 h => ?_)
      refine o_call k53_27 pj_36 (fun _ => rfl) (by decide) rfl (as := [.ref 32, .int (s2.2 31 s2.1.toNatClampNeg)]) (rest := []) rfl (L0 := [some (.ref 32), some (.int (s2.2 31 s2.1.toNatClampNeg)), none, none]) rfl (t_X1_add_32 hq5) ?_
      refine o_iinc (w := s2.1 + 1) (L' := [some (.ref 30), some (.int (s2.1 + 1))]) k53_30 rfl rfl rfl ?_
      refine o_goto k53_33 ?_
      have h9 := Option.some.inj h
      subst h9
      exact hK
  · show oo LN xs 0 0 53 36 [some (.ref 30), some (.int s6.1)] [] s6.2 (some (.int t.1), t.2)
    refine o_aload_n k53_36 rfl ?_
    refine o_gf k53_37 (gf_30_2 _) ?_
    refine o_aload_n k53_40 rfl ?_
    refine o_gf k53_41 (gf_30_1 _) ?_
    refine o_gf k53_44 (gf_32_1 _) ?_
    refine o_isub k53_47 ?_
    have h9 := Option.some.inj h
    subst h9
    exact o_iret pj_53 k53_48 rfl nr_i
def f_X4_lonely_30 (M : am_M) : Option Int32 := ((lp (σ := Int32 × Int32) (ρ := Int32 × Int32) (fun s1 => (if (M 30 2) ≤ s1.2 then (some (.inr (s1.1, s1.2))) else (if am_dbin s1.2 64 = true then (if (M 31 s1.2.toNatClampNeg) = 0 then (some (.inl ((s1.1 + 1), (s1.2 + 1)))) else (some (.inl (s1.1, (s1.2 + 1))))) else none))) lp_F (0, 0)).bind (fun s5 => (some s5.1)))
set_option maxRecDepth 20000 in
theorem t_X4_lonely_30 {LN : Nat} {xs : Nat → Int32} {M : am_M} {t : Int32} (h : f_X4_lonely_30 M = some t) : oo LN xs 0 0 54 0 [some (.ref 30), none, none] [] M (some (.int t), M) := by
  unfold f_X4_lonely_30 at h
  refine o_iconst (v := 0) k54_0 (by decide) ?_
  refine o_istore_n (v := 0) (L' := [some (.ref 30), some (.int 0), none]) k54_1 rfl rfl ?_
  refine o_iconst (v := 0) k54_2 (by decide) ?_
  refine o_istore_n (v := 0) (L' := [some (.ref 30), some (.int 0), some (.int 0)]) k54_3 rfl rfl ?_
  refine bd_i h (fun s5 hs5 h => ?_)
  refine lp_o (fun s1 => oo LN xs 0 0 54 4 [some (.ref 30), some (.int s1.1), some (.int s1.2)] [] M (some (.int t), M)) (fun s5 => oo LN xs 0 0 54 30 [some (.ref 30), some (.int s5.1), some (.int s5.2)] [] M (some (.int t), M)) ?_ hs5 ?_
  · intro s1 ws1 h hK
    refine o_iload_n k54_4 rfl ?_
    refine o_aload_n k54_5 rfl ?_
    refine o_gf k54_6 (gf_30_2 _) ?_
    refine o_icmp_ge k54_9 (fun hc2 => ?_) (fun hc2 => ?_)
    · rw [if_pos hc2] at h
      have h9 := Option.some.inj h
      subst h9
      exact hK
    · rw [if_neg hc2] at h
      refine o_aload_n k54_12 rfl ?_
      refine o_gf k54_13 (gf_30_0 _) ?_
      refine o_iload_n k54_16 rfl ?_
      obtain ⟨hc3, h⟩ := ck_i h
      refine o_iald k54_17 rfl ia_31 hc3 ?_
      refine o_if_ne k54_18 (fun hc4 => ?_) (fun hc4 => ?_)
      · rw [if_neg hc4] at h
        refine o_iinc (w := s1.2 + 1) (L' := [some (.ref 30), some (.int s1.1), some (.int (s1.2 + 1))]) k54_24 rfl rfl rfl ?_
        refine o_goto k54_27 ?_
        have h9 := Option.some.inj h
        subst h9
        exact hK
      · rw [if_pos hc4] at h
        refine o_iinc (w := s1.1 + 1) (L' := [some (.ref 30), some (.int (s1.1 + 1)), some (.int s1.2)]) k54_21 rfl rfl rfl ?_
        refine o_iinc (w := s1.2 + 1) (L' := [some (.ref 30), some (.int (s1.1 + 1)), some (.int (s1.2 + 1))]) k54_24 rfl rfl rfl ?_
        refine o_goto k54_27 ?_
        have h9 := Option.some.inj h
        subst h9
        exact hK
  · show oo LN xs 0 0 54 30 [some (.ref 30), some (.int s5.1), some (.int s5.2)] [] M (some (.int t), M)
    refine o_iload_n k54_30 rfl ?_
    have h9 := Option.some.inj h
    subst h9
    exact o_iret pj_54 k54_31 rfl nr_i
def f_X4_pairs_30 (M : am_M) : Option Int32 := ((lp (σ := Int32 × Int32) (ρ := Int32 × Int32) (fun s1 => (if (M 30 2) ≤ s1.2 then (some (.inr (s1.1, s1.2))) else ((lp (σ := Int32 × Int32) (ρ := Int32 × Int32) (fun s4 => (if s1.2 ≤ s4.2 then (some (.inr (s4.1, s4.2))) else (if am_dbin s1.2 64 = true then (if am_dbin s4.2 64 = true then (if (M 31 s1.2.toNatClampNeg) = (M 31 s4.2.toNatClampNeg) then (some (.inl ((s4.1 + 1), (s4.2 + 1)))) else (some (.inl (s4.1, (s4.2 + 1))))) else none) else none))) lp_F (s1.1, 0)).bind (fun s9 => (some (.inl (s9.1, (s1.2 + 1)))))))) lp_F (0, 0)).bind (fun s10 => (some s10.1)))
set_option maxRecDepth 20000 in
theorem t_X4_pairs_30 {LN : Nat} {xs : Nat → Int32} {M : am_M} {t : Int32} (h : f_X4_pairs_30 M = some t) : oo LN xs 0 0 55 0 [some (.ref 30), none, none, none] [] M (some (.int t), M) := by
  unfold f_X4_pairs_30 at h
  refine o_iconst (v := 0) k55_0 (by decide) ?_
  refine o_istore_n (v := 0) (L' := [some (.ref 30), some (.int 0), none, none]) k55_1 rfl rfl ?_
  refine o_iconst (v := 0) k55_2 (by decide) ?_
  refine o_istore_n (v := 0) (L' := [some (.ref 30), some (.int 0), some (.int 0), none]) k55_3 rfl rfl ?_
  refine bd_i h (fun s10 hs10 h => ?_)
  refine lp_o (fun s1 => ∀ (d2 : Option Value), oo LN xs 0 0 55 4 [some (.ref 30), some (.int s1.1), some (.int s1.2), d2] [] M (some (.int t), M)) (fun s10 => ∀ (d11 : Option Value), oo LN xs 0 0 55 49 [some (.ref 30), some (.int s10.1), some (.int s10.2), d11] [] M (some (.int t), M)) ?_ hs10 ?_ none
  · intro s1 ws1 h hK d2
    refine o_iload_n k55_4 rfl ?_
    refine o_aload_n k55_5 rfl ?_
    refine o_gf k55_6 (gf_30_2 _) ?_
    refine o_icmp_ge k55_9 (fun hc3 => ?_) (fun hc3 => ?_)
    · rw [if_pos hc3] at h
      have h9 := Option.some.inj h
      subst h9
      exact hK _
    · rw [if_neg hc3] at h
      refine o_iconst (v := 0) k55_12 (by decide) ?_
      refine o_istore_n (v := 0) (L' := [some (.ref 30), some (.int s1.1), some (.int s1.2), some (.int 0)]) k55_13 rfl rfl ?_
      refine bd_i h (fun s9 hs9 h => ?_)
      refine lp_o (fun s4 => oo LN xs 0 0 55 14 [some (.ref 30), some (.int s4.1), some (.int s1.2), some (.int s4.2)] [] M (some (.int t), M)) (fun s9 => oo LN xs 0 0 55 43 [some (.ref 30), some (.int s9.1), some (.int s1.2), some (.int s9.2)] [] M (some (.int t), M)) ?_ hs9 ?_
      · intro s4 ws4 h hK
        refine o_iload_n k55_14 rfl ?_
        refine o_iload_n k55_15 rfl ?_
        refine o_icmp_ge k55_16 (fun hc5 => ?_) (fun hc5 => ?_)
        · rw [if_pos hc5] at h
          have h9 := Option.some.inj h
          subst h9
          exact hK
        · rw [if_neg hc5] at h
          refine o_aload_n k55_19 rfl ?_
          refine o_gf k55_20 (gf_30_0 _) ?_
          refine o_iload_n k55_23 rfl ?_
          obtain ⟨hc6, h⟩ := ck_i h
          refine o_iald k55_24 rfl ia_31 hc6 ?_
          refine o_aload_n k55_25 rfl ?_
          refine o_gf k55_26 (gf_30_0 _) ?_
          refine o_iload_n k55_29 rfl ?_
          obtain ⟨hc7, h⟩ := ck_i h
          refine o_iald k55_30 rfl ia_31 hc7 ?_
          refine o_icmp_ne k55_31 (fun hc8 => ?_) (fun hc8 => ?_)
          · rw [if_neg hc8] at h
            refine o_iinc (w := s4.2 + 1) (L' := [some (.ref 30), some (.int s4.1), some (.int s1.2), some (.int (s4.2 + 1))]) k55_37 rfl rfl rfl ?_
            refine o_goto k55_40 ?_
            have h9 := Option.some.inj h
            subst h9
            exact hK
          · rw [if_pos hc8] at h
            refine o_iinc (w := s4.1 + 1) (L' := [some (.ref 30), some (.int (s4.1 + 1)), some (.int s1.2), some (.int s4.2)]) k55_34 rfl rfl rfl ?_
            refine o_iinc (w := s4.2 + 1) (L' := [some (.ref 30), some (.int (s4.1 + 1)), some (.int s1.2), some (.int (s4.2 + 1))]) k55_37 rfl rfl rfl ?_
            refine o_goto k55_40 ?_
            have h9 := Option.some.inj h
            subst h9
            exact hK
      · show oo LN xs 0 0 55 43 [some (.ref 30), some (.int s9.1), some (.int s1.2), some (.int s9.2)] [] M (some (.int t), M)
        refine o_iinc (w := s1.2 + 1) (L' := [some (.ref 30), some (.int s9.1), some (.int (s1.2 + 1)), some (.int s9.2)]) k55_43 rfl rfl rfl ?_
        refine o_goto k55_46 ?_
        have h9 := Option.some.inj h
        subst h9
        exact hK _
  · show ∀ (d11 : Option Value), oo LN xs 0 0 55 49 [some (.ref 30), some (.int s10.1), some (.int s10.2), d11] [] M (some (.int t), M)
    intro d11
    refine o_iload_n k55_49 rfl ?_
    have h9 := Option.some.inj h
    subst h9
    exact o_iret pj_55 k55_50 rfl nr_i
def f_X7_alias_0 (a0 : Int32) (M : am_M) : Option (Int32 × am_M) := (if a0 < 0 then (some ((-1), M)) else (if a0 ≤ 2 then ((f_X4_gather_30_9 M).bind (fun q3 => (if a0 = 0 then ((f_X4_freedom_30 q3).bind (fun q4 => (some (q4.1, q4.2)))) else (if a0 = 1 then ((f_X4_lonely_30 q3).bind (fun v5 => (some (v5, q3)))) else ((f_X4_pairs_30 q3).bind (fun v6 => (some (v6, q3)))))))) else (some ((-1), M))))
set_option maxRecDepth 20000 in
theorem t_X7_alias_0 {LN : Nat} {xs : Nat → Int32} {a0 : Int32} {M : am_M} {t : Int32 × am_M} (h : f_X7_alias_0 a0 M = some t) : oo LN xs 0 0 107 0 [some (.ref 0), some (.int a0)] [] M (some (.int t.1), t.2) := by
  unfold f_X7_alias_0 at h
  refine o_iload_n k107_0 rfl ?_
  refine o_if_lt k107_1 (fun hc1 => ?_) (fun hc1 => ?_)
  · rw [if_pos hc1] at h
    refine o_iconst (v := (-1)) k107_9 (by decide) ?_
    have h9 := Option.some.inj h
    subst h9
    exact o_iret pj_107 k107_10 rfl nr_i
  · rw [if_neg hc1] at h
    refine o_iload_n k107_4 rfl ?_
    refine o_iconst (v := 2) k107_5 (by decide) ?_
    refine o_icmp_le k107_6 (fun hc2 => ?_) (fun hc2 => ?_)
    · rw [if_pos hc2] at h
      refine o_aload_n k107_11 rfl ?_
      refine o_gf k107_12 (gf_0_6 _) ?_
      refine o_aload_n k107_15 rfl ?_
      refine o_gf k107_16 (gf_0_2 _) ?_
      refine bd_i h (fun q3 hq3 h => ?_)
      refine o_call k107_19 pj_51 (fun _ => rfl) (by decide) rfl (as := [.ref 30, .ref 9]) (rest := []) rfl (L0 := [some (.ref 30), some (.ref 9), none]) rfl (t_X4_gather_30_9 hq3) ?_
      refine o_iload_n k107_22 rfl ?_
      by_cases hx23_0 : a0 = 0
      · rw [if_pos hx23_0] at h
        refine o_lsw (tgt := 48) (off := 25) k107_23 (by rw [hx23_0]; decide) (by decide) ?_
        refine o_aload_n k107_48 rfl ?_
        refine o_gf k107_49 (gf_0_6 _) ?_
        refine bd_i h (fun q4 hq4 h => ?_)
        refine o_call k107_52 pj_53 (fun _ => rfl) (by decide) rfl (as := [.ref 30]) (rest := []) rfl (L0 := [some (.ref 30), none]) rfl (t_X4_freedom_30 hq4) ?_
        have h9 := Option.some.inj h
        subst h9
        exact o_iret pj_107 k107_55 rfl nr_i
      rw [if_neg hx23_0] at h
      by_cases hx23_1 : a0 = 1
      · rw [if_pos hx23_1] at h
        refine o_lsw (tgt := 56) (off := 33) k107_23 (by rw [hx23_1]; decide) (by decide) ?_
        refine o_aload_n k107_56 rfl ?_
        refine o_gf k107_57 (gf_0_6 _) ?_
        refine bd_i h (fun v5 hv5 h => ?_)
        refine o_call k107_60 pj_54 (fun _ => rfl) (by decide) rfl (as := [.ref 30]) (rest := []) rfl (L0 := [some (.ref 30), none, none]) rfl (t_X4_lonely_30 hv5) ?_
        have h9 := Option.some.inj h
        subst h9
        exact o_iret pj_107 k107_63 rfl nr_i
      rw [if_neg hx23_1] at h
      refine o_lsw (tgt := 64) (off := 41) k107_23 (by have n0 := ne_lit (k := 0) 0 (by decide) hx23_0; have n1 := ne_lit (k := 1) 1 (by decide) hx23_1; simp [Op.lookupswitch.offset, n0, Ne.symm n0, n1, Ne.symm n1]) (by decide) ?_
      refine o_aload_n k107_64 rfl ?_
      refine o_gf k107_65 (gf_0_6 _) ?_
      refine bd_i h (fun v6 hv6 h => ?_)
      refine o_call k107_68 pj_55 (fun _ => rfl) (by decide) rfl (as := [.ref 30]) (rest := []) rfl (L0 := [some (.ref 30), none, none, none]) rfl (t_X4_pairs_30 hv6) ?_
      have h9 := Option.some.inj h
      subst h9
      exact o_iret pj_107 k107_71 rfl nr_i
    · rw [if_neg hc2] at h
      refine o_iconst (v := (-1)) k107_9 (by decide) ?_
      have h9 := Option.some.inj h
      subst h9
      exact o_iret pj_107 k107_10 rfl nr_i
def f_X8_findEffects_43 (M : am_M) : Option am_M := (bl (am_up M 43 22 0) (fun (M1 : am_M) => ((lp (σ := Int32 × am_M) (ρ := Int32 × am_M) (fun s2 => (if (s2.2 44 (0 : Int32).toNatClampNeg) ≤ s2.1 then (some (.inr (s2.1, s2.2))) else ((lp (σ := Int32 × am_M) (ρ := Int32 × am_M) (fun s8 => (if (s8.2 44 (1 : Int32).toNatClampNeg) ≤ s8.1 then (some (.inr (s8.1, s8.2))) else (if (f_X8_has (s8.2 44 (3 : Int32).toNatClampNeg) s2.1) = 0 then (if am_dbin ((135 : Int32) + s2.1) 151 = true then (bl (((s8.2 44 ((135 : Int32) + s2.1).toNatClampNeg) &&& (f_X8_mask_43 s8.2))) (fun (v16 : Int32) => ((lp (σ := Int32 × Int32) (ρ := Int32 × Int32) (fun s17 => (if (s8.2 44 (1 : Int32).toNatClampNeg) ≤ s17.2 then (some (.inr (s17.1, s17.2))) else (some (.inl ((f_X8_shifted_43 s17.1 s8.2), (s17.2 + 1)))))) lp_F (v16, (s8.1 + 1))).bind (fun s20 => (if am_dbin (s8.2 43 22) 64 = true then (bl (am_up s8.2 49 (s8.2 43 22).toNatClampNeg s20.1) (fun (M22 : am_M) => (bl (am_up M22 43 22 ((M22 43 22) + 1)) (fun (M23 : am_M) => (some (.inl ((s8.1 + 1), M23))))))) else none))))) else none) else (some (.inr (s8.1, s8.2)))))) lp_F (0, s2.2)).bind (fun s24 => (some (.inl ((s2.1 + 1), s24.2))))))) lp_F (0, M1)).bind (fun s27 => (some s27.2)))))
set_option maxRecDepth 20000 in
theorem t_X8_findEffects_43 {LN : Nat} {xs : Nat → Int32} {M : am_M} {t : am_M} (h : f_X8_findEffects_43 M = some t) : oo LN xs 0 0 189 0 [some (.ref 43), none, none, none, none] [] M (none, t) := by
  unfold f_X8_findEffects_43 at h
  refine o_aload_n k189_0 rfl ?_
  refine o_iconst (v := 0) k189_1 (by decide) ?_
  refine bl_i h (fun M1 eM1 h => ?_)
  refine o_pf (M' := M1) k189_2 (pf_43_22 eM1) ?_
  refine o_iconst (v := 0) k189_5 (by decide) ?_
  refine o_istore_n (v := 0) (L' := [some (.ref 43), some (.int 0), none, none, none]) k189_6 rfl rfl ?_
  refine bd_i h (fun s27 hs27 h => ?_)
  refine lp_o (fun s2 => ∀ (d3 d4 d5 : Option Value), oo LN xs 0 0 189 7 [some (.ref 43), some (.int s2.1), d3, d4, d5] [] s2.2 (none, t)) (fun s27 => ∀ (d28 d29 d30 : Option Value), oo LN xs 0 0 189 118 [some (.ref 43), some (.int s27.1), d28, d29, d30] [] s27.2 (none, t)) ?_ hs27 ?_ none none none
  · intro s2 ws2 h hK d3 d4 d5
    refine o_iload_n k189_7 rfl ?_
    refine o_aload_n k189_8 rfl ?_
    refine o_gf k189_9 (gf_43_0 _) ?_
    refine o_iconst (v := 0) k189_12 (by decide) ?_
    refine o_iald k189_13 rfl ia_44 (by decide) ?_
    refine o_icmp_ge k189_14 (fun hc7 => ?_) (fun hc7 => ?_)
    · rw [if_pos hc7] at h
      have h9 := Option.some.inj h
      subst h9
      exact hK _ _ _
    · rw [if_neg hc7] at h
      refine o_iconst (v := 0) k189_17 (by decide) ?_
      refine o_istore_n (v := 0) (L' := [some (.ref 43), some (.int s2.1), some (.int 0), d4, d5]) k189_18 rfl rfl ?_
      refine bd_i h (fun s24 hs24 h => ?_)
      refine lp_o (fun s8 => ∀ (d9 d10 : Option Value), oo LN xs 0 0 189 19 [some (.ref 43), some (.int s2.1), some (.int s8.1), d9, d10] [] s8.2 (none, t)) (fun s24 => ∀ (d25 d26 : Option Value), oo LN xs 0 0 189 112 [some (.ref 43), some (.int s2.1), some (.int s24.1), d25, d26] [] s24.2 (none, t)) ?_ hs24 ?_ d4 d5
      · intro s8 ws8 h hK d9 d10
        refine o_iload_n k189_19 rfl ?_
        refine o_aload_n k189_20 rfl ?_
        refine o_gf k189_21 (gf_43_0 _) ?_
        refine o_iconst (v := 1) k189_24 (by decide) ?_
        refine o_iald k189_25 rfl ia_44 (by decide) ?_
        refine o_icmp_ge k189_26 (fun hc12 => ?_) (fun hc12 => ?_)
        · rw [if_pos hc12] at h
          have h9 := Option.some.inj h
          subst h9
          exact hK _ _
        · rw [if_neg hc12] at h
          refine o_aload_n k189_29 rfl ?_
          refine o_gf k189_30 (gf_43_0 _) ?_
          refine o_iconst (v := 3) k189_33 (by decide) ?_
          refine o_iald k189_34 rfl ia_44 (by decide) ?_
          refine o_iload_n k189_35 rfl ?_
          refine o_call k189_36 pj_127 (fun _ => rfl) (by decide) rfl (as := [.int (s8.2 44 (3 : Int32).toNatClampNeg), .int s2.1]) (rest := []) rfl (L0 := [some (.int (s8.2 44 (3 : Int32).toNatClampNeg)), some (.int s2.1)]) rfl (t_X8_has (M := s8.2) (a0 := (s8.2 44 (3 : Int32).toNatClampNeg)) (a1 := s2.1) rfl) ?_
          refine o_if_ne k189_39 (fun hc14 => ?_) (fun hc14 => ?_)
          · rw [if_neg hc14] at h
            have h9 := Option.some.inj h
            subst h9
            exact hK _ _
          · rw [if_pos hc14] at h
            refine o_aload_n k189_42 rfl ?_
            refine o_gf k189_43 (gf_43_0 _) ?_
            refine o_sipush (v := 135) k189_46 (by decide) ?_
            refine o_iload_n k189_49 rfl ?_
            refine o_iadd k189_50 ?_
            obtain ⟨hc15, h⟩ := ck_i h
            refine o_iald k189_51 rfl ia_44 hc15 ?_
            refine o_aload_n k189_52 rfl ?_
            refine o_call k189_53 pj_186 (fun _ => rfl) (by decide) rfl (as := [.ref 43]) (rest := [.int (s8.2 44 ((135 : Int32) + s2.1).toNatClampNeg)]) rfl (L0 := [some (.ref 43)]) rfl (t_X8_mask_43 (M := s8.2) rfl) ?_
            refine o_iand k189_56 ?_
            refine bl_i h (fun v16 ev16 h => ?_)
            refine o_istore_n (v := v16) k189_57 ev16 (L' := [some (.ref 43), some (.int s2.1), some (.int s8.1), some (.int v16), d10]) rfl ?_
            refine o_iload_n k189_58 rfl ?_
            refine o_iconst (v := 1) k189_59 (by decide) ?_
            refine o_iadd k189_60 ?_
            refine o_istore (v := (s8.1 + 1)) (L' := [some (.ref 43), some (.int s2.1), some (.int s8.1), some (.int v16), some (.int (s8.1 + 1))]) k189_61 rfl rfl ?_
            refine bd_i h (fun s20 hs20 h => ?_)
            refine lp_o (fun s17 => oo LN xs 0 0 189 63 [some (.ref 43), some (.int s2.1), some (.int s8.1), some (.int s17.1), some (.int s17.2)] [] s8.2 (none, t)) (fun s20 => oo LN xs 0 0 189 86 [some (.ref 43), some (.int s2.1), some (.int s8.1), some (.int s20.1), some (.int s20.2)] [] s8.2 (none, t)) ?_ hs20 ?_
            · intro s17 ws17 h hK
              refine o_iload k189_63 rfl ?_
              refine o_aload_n k189_65 rfl ?_
              refine o_gf k189_66 (gf_43_0 _) ?_
              refine o_iconst (v := 1) k189_69 (by decide) ?_
              refine o_iald k189_70 rfl ia_44 (by decide) ?_
              refine o_icmp_ge k189_71 (fun hc19 => ?_) (fun hc19 => ?_)
              · rw [if_pos hc19] at h
                have h9 := Option.some.inj h
                subst h9
                exact hK
              · rw [if_neg hc19] at h
                refine o_aload_n k189_74 rfl ?_
                refine o_iload_n k189_75 rfl ?_
                refine o_call k189_76 pj_187 (fun _ => rfl) (by decide) rfl (as := [.ref 43, .int s17.1]) (rest := []) rfl (L0 := [some (.ref 43), some (.int s17.1), none]) rfl (t_X8_shifted_43 (M := s8.2) (a0 := s17.1) rfl) ?_
                refine o_istore_n (v := (f_X8_shifted_43 s17.1 s8.2)) (L' := [some (.ref 43), some (.int s2.1), some (.int s8.1), some (.int (f_X8_shifted_43 s17.1 s8.2)), some (.int s17.2)]) k189_79 rfl rfl ?_
                refine o_iinc (w := s17.2 + 1) (L' := [some (.ref 43), some (.int s2.1), some (.int s8.1), some (.int (f_X8_shifted_43 s17.1 s8.2)), some (.int (s17.2 + 1))]) k189_80 rfl rfl rfl ?_
                refine o_goto k189_83 ?_
                have h9 := Option.some.inj h
                subst h9
                exact hK
            · show oo LN xs 0 0 189 86 [some (.ref 43), some (.int s2.1), some (.int s8.1), some (.int s20.1), some (.int s20.2)] [] s8.2 (none, t)
              refine o_aload_n k189_86 rfl ?_
              refine o_gf k189_87 (gf_43_21 _) ?_
              refine o_aload_n k189_90 rfl ?_
              refine o_gf k189_91 (gf_43_22 _) ?_
              refine o_iload_n k189_94 rfl ?_
              obtain ⟨hc21, h⟩ := ck_i h
              refine bl_i h (fun M22 eM22 h => ?_)
              refine o_iast (M' := M22) k189_95 eM22 ia_49 hc21 ?_
              refine o_aload_n k189_96 rfl ?_
              refine o_dupr k189_97 ?_
              refine o_gf k189_98 (gf_43_22 _) ?_
              refine o_iconst (v := 1) k189_101 (by decide) ?_
              refine o_iadd k189_102 ?_
              refine bl_i h (fun M23 eM23 h => ?_)
              refine o_pf (M' := M23) k189_103 (pf_43_22 eM23) ?_
              refine o_iinc (w := s8.1 + 1) (L' := [some (.ref 43), some (.int s2.1), some (.int (s8.1 + 1)), some (.int s20.1), some (.int s20.2)]) k189_106 rfl rfl rfl ?_
              refine o_goto k189_109 ?_
              have h9 := Option.some.inj h
              subst h9
              exact hK _ _
      · show ∀ (d25 d26 : Option Value), oo LN xs 0 0 189 112 [some (.ref 43), some (.int s2.1), some (.int s24.1), d25, d26] [] s24.2 (none, t)
        intro d25 d26
        refine o_iinc (w := s2.1 + 1) (L' := [some (.ref 43), some (.int (s2.1 + 1)), some (.int s24.1), d25, d26]) k189_112 rfl rfl rfl ?_
        refine o_goto k189_115 ?_
        have h9 := Option.some.inj h
        subst h9
        exact hK _ _ _
  · show ∀ (d28 d29 d30 : Option Value), oo LN xs 0 0 189 118 [some (.ref 43), some (.int s27.1), d28, d29, d30] [] s27.2 (none, t)
    intro d28 d29 d30
    have h9 := Option.some.inj h
    subst h9
    exact o_vret pj_189 k189_118 rfl
def f_X8_rankOfEffects_43 (M : am_M) : Option (Int32 × am_M) := ((lp (σ := Int32 × am_M) (ρ := Int32 × am_M) (fun s1 => (if 8 ≤ s1.1 then (some (.inr (s1.1, s1.2))) else (if am_dbin s1.1 8 = true then (bl (am_up s1.2 50 s1.1.toNatClampNeg 0) (fun (M4 : am_M) => (some (.inl ((s1.1 + 1), M4))))) else none))) lp_F (0, M)).bind (fun s5 => ((lp (σ := Int32 × Int32 × am_M) (ρ := Int32 × Int32 × am_M) (fun s6 => (if (s6.2.2 43 22) ≤ s6.2.1 then (some (.inr (s6.1, s6.2.1, s6.2.2))) else (if am_dbin s6.2.1 64 = true then ((lp (σ := Int32 × Int32 × Int32 × am_M) (ρ := Int32 × Int32 × Int32 × am_M) (fun s11 => (if s11.2.2.1 < 0 then (some (.inr (s11.1, s11.2.1, s11.2.2.1, s11.2.2.2))) else (if s11.2.1 = 0 then (some (.inr (s11.1, s11.2.1, s11.2.2.1, s11.2.2.2))) else (if (f_X8_has s11.2.1 s11.2.2.1) = 0 then (if (f_X8_has s11.2.1 s11.2.2.1) = 0 then (some (.inl (s11.1, s11.2.1, (s11.2.2.1 + (-1)), s11.2.2.2))) else (if am_dbin s11.2.2.1 8 = true then (some (.inl (s11.1, (s11.2.1 ^^^ (s11.2.2.2 50 s11.2.2.1.toNatClampNeg)), (s11.2.2.1 + (-1)), s11.2.2.2))) else none)) else (if am_dbin s11.2.2.1 8 = true then (if (s11.2.2.2 50 s11.2.2.1.toNatClampNeg) = 0 then (if am_dbin s11.2.2.1 8 = true then (bl (am_up s11.2.2.2 50 s11.2.2.1.toNatClampNeg s11.2.1) (fun (M22 : am_M) => (some (.inl ((s11.1 + 1), 0, (s11.2.2.1 + (-1)), M22))))) else none) else (if (f_X8_has s11.2.1 s11.2.2.1) = 0 then (some (.inl (s11.1, s11.2.1, (s11.2.2.1 + (-1)), s11.2.2.2))) else (if am_dbin s11.2.2.1 8 = true then (some (.inl (s11.1, (s11.2.1 ^^^ (s11.2.2.2 50 s11.2.2.1.toNatClampNeg)), (s11.2.2.1 + (-1)), s11.2.2.2))) else none))) else none))))) lp_F (s6.1, (s6.2.2 49 s6.2.1.toNatClampNeg), 7, s6.2.2)).bind (fun s23 => (some (.inl (s23.1, (s6.2.1 + 1), s23.2.2.2))))) else none))) lp_F (0, 0, s5.2)).bind (fun s24 => (some (s24.1, s24.2.2))))))
set_option maxRecDepth 20000 in
theorem t_X8_rankOfEffects_43 {LN : Nat} {xs : Nat → Int32} {M : am_M} {t : Int32 × am_M} (h : f_X8_rankOfEffects_43 M = some t) : oo LN xs 0 0 190 0 [some (.ref 43), none, none, none, none] [] M (some (.int t.1), t.2) := by
  unfold f_X8_rankOfEffects_43 at h
  refine o_iconst (v := 0) k190_0 (by decide) ?_
  refine o_istore_n (v := 0) (L' := [some (.ref 43), some (.int 0), none, none, none]) k190_1 rfl rfl ?_
  refine o_iconst (v := 0) k190_2 (by decide) ?_
  refine o_istore_n (v := 0) (L' := [some (.ref 43), some (.int 0), some (.int 0), none, none]) k190_3 rfl rfl ?_
  refine bd_i h (fun s5 hs5 h => ?_)
  refine lp_o (fun s1 => oo LN xs 0 0 190 4 [some (.ref 43), some (.int 0), some (.int s1.1), none, none] [] s1.2 (some (.int t.1), t.2)) (fun s5 => oo LN xs 0 0 190 23 [some (.ref 43), some (.int 0), some (.int s5.1), none, none] [] s5.2 (some (.int t.1), t.2)) ?_ hs5 ?_
  · intro s1 ws1 h hK
    refine o_iload_n k190_4 rfl ?_
    refine o_bipush (v := 8) k190_5 (by decide) ?_
    refine o_icmp_ge k190_7 (fun hc2 => ?_) (fun hc2 => ?_)
    · rw [if_pos hc2] at h
      have h9 := Option.some.inj h
      subst h9
      exact hK
    · rw [if_neg hc2] at h
      refine o_aload_n k190_10 rfl ?_
      refine o_gf k190_11 (gf_43_23 _) ?_
      refine o_iload_n k190_14 rfl ?_
      refine o_iconst (v := 0) k190_15 (by decide) ?_
      obtain ⟨hc3, h⟩ := ck_i h
      refine bl_i h (fun M4 eM4 h => ?_)
      refine o_iast (M' := M4) k190_16 eM4 ia_50 hc3 ?_
      refine o_iinc (w := s1.1 + 1) (L' := [some (.ref 43), some (.int 0), some (.int (s1.1 + 1)), none, none]) k190_17 rfl rfl rfl ?_
      refine o_goto k190_20 ?_
      have h9 := Option.some.inj h
      subst h9
      exact hK
  · show oo LN xs 0 0 190 23 [some (.ref 43), some (.int 0), some (.int s5.1), none, none] [] s5.2 (some (.int t.1), t.2)
    refine o_iconst (v := 0) k190_23 (by decide) ?_
    refine o_istore_n (v := 0) (L' := [some (.ref 43), some (.int 0), some (.int 0), none, none]) k190_24 rfl rfl ?_
    refine bd_i h (fun s24 hs24 h => ?_)
    refine lp_o (fun s6 => ∀ (d7 d8 : Option Value), oo LN xs 0 0 190 25 [some (.ref 43), some (.int s6.1), some (.int s6.2.1), d7, d8] [] s6.2.2 (some (.int t.1), t.2)) (fun s24 => ∀ (d25 d26 : Option Value), oo LN xs 0 0 190 119 [some (.ref 43), some (.int s24.1), some (.int s24.2.1), d25, d26] [] s24.2.2 (some (.int t.1), t.2)) ?_ hs24 ?_ none none
    · intro s6 ws6 h hK d7 d8
      refine o_iload_n k190_25 rfl ?_
      refine o_aload_n k190_26 rfl ?_
      refine o_gf k190_27 (gf_43_22 _) ?_
      refine o_icmp_ge k190_30 (fun hc9 => ?_) (fun hc9 => ?_)
      · rw [if_pos hc9] at h
        have h9 := Option.some.inj h
        subst h9
        exact hK _ _
      · rw [if_neg hc9] at h
        refine o_aload_n k190_33 rfl ?_
        refine o_gf k190_34 (gf_43_21 _) ?_
        refine o_iload_n k190_37 rfl ?_
        obtain ⟨hc10, h⟩ := ck_i h
        refine o_iald k190_38 rfl ia_49 hc10 ?_
        refine o_istore_n (v := (s6.2.2 49 s6.2.1.toNatClampNeg)) (L' := [some (.ref 43), some (.int s6.1), some (.int s6.2.1), some (.int (s6.2.2 49 s6.2.1.toNatClampNeg)), d8]) k190_39 rfl rfl ?_
        refine o_bipush (v := 7) k190_40 (by decide) ?_
        refine o_istore (v := 7) (L' := [some (.ref 43), some (.int s6.1), some (.int s6.2.1), some (.int (s6.2.2 49 s6.2.1.toNatClampNeg)), some (.int 7)]) k190_42 rfl rfl ?_
        refine bd_i h (fun s23 hs23 h => ?_)
        refine lp_o (fun s11 => oo LN xs 0 0 190 44 [some (.ref 43), some (.int s11.1), some (.int s6.2.1), some (.int s11.2.1), some (.int s11.2.2.1)] [] s11.2.2.2 (some (.int t.1), t.2)) (fun s23 => oo LN xs 0 0 190 113 [some (.ref 43), some (.int s23.1), some (.int s6.2.1), some (.int s23.2.1), some (.int s23.2.2.1)] [] s23.2.2.2 (some (.int t.1), t.2)) ?_ hs23 ?_
        · intro s11 ws11 h hK
          refine o_iload k190_44 rfl ?_
          refine o_if_lt k190_46 (fun hc12 => ?_) (fun hc12 => ?_)
          · rw [if_pos hc12] at h
            have h9 := Option.some.inj h
            subst h9
            exact hK
          · rw [if_neg hc12] at h
            refine o_iload_n k190_49 rfl ?_
            refine o_if_eq k190_50 (fun hc13 => ?_) (fun hc13 => ?_)
            · rw [if_pos hc13] at h
              have h9 := Option.some.inj h
              subst h9
              exact hK
            · rw [if_neg hc13] at h
              refine o_iload_n k190_53 rfl ?_
              refine o_iload k190_54 rfl ?_
              refine o_call k190_56 pj_127 (fun _ => rfl) (by decide) rfl (as := [.int s11.2.1, .int s11.2.2.1]) (rest := []) rfl (L0 := [some (.int s11.2.1), some (.int s11.2.2.1)]) rfl (t_X8_has (M := s11.2.2.2) (a0 := s11.2.1) (a1 := s11.2.2.1) rfl) ?_
              refine o_if_eq k190_59 (fun hc14 => ?_) (fun hc14 => ?_)
              · rw [if_pos hc14] at h
                refine o_iload_n k190_88 rfl ?_
                refine o_iload k190_89 rfl ?_
                refine o_call k190_91 pj_127 (fun _ => rfl) (by decide) rfl (as := [.int s11.2.1, .int s11.2.2.1]) (rest := []) rfl (L0 := [some (.int s11.2.1), some (.int s11.2.2.1)]) rfl (t_X8_has (M := s11.2.2.2) (a0 := s11.2.1) (a1 := s11.2.2.1) rfl) ?_
                refine o_if_eq k190_94 (fun hc15 => ?_) (fun hc15 => ?_)
                · rw [if_pos hc15] at h
                  refine o_iinc (w := s11.2.2.1 + (-1)) (L' := [some (.ref 43), some (.int s11.1), some (.int s6.2.1), some (.int s11.2.1), some (.int (s11.2.2.1 + (-1)))]) k190_107 rfl rfl rfl ?_
                  refine o_goto k190_110 ?_
                  have h9 := Option.some.inj h
                  subst h9
                  exact hK
                · rw [if_neg hc15] at h
                  refine o_iload_n k190_97 rfl ?_
                  refine o_aload_n k190_98 rfl ?_
                  refine o_gf k190_99 (gf_43_23 _) ?_
                  refine o_iload k190_102 rfl ?_
                  obtain ⟨hc16, h⟩ := ck_i h
                  refine o_iald k190_104 rfl ia_50 hc16 ?_
                  refine o_ixor k190_105 ?_
                  refine o_istore_n (v := (s11.2.1 ^^^ (s11.2.2.2 50 s11.2.2.1.toNatClampNeg))) (L' := [some (.ref 43), some (.int s11.1), some (.int s6.2.1), some (.int (s11.2.1 ^^^ (s11.2.2.2 50 s11.2.2.1.toNatClampNeg))), some (.int s11.2.2.1)]) k190_106 rfl rfl ?_
                  refine o_iinc (w := s11.2.2.1 + (-1)) (L' := [some (.ref 43), some (.int s11.1), some (.int s6.2.1), some (.int (s11.2.1 ^^^ (s11.2.2.2 50 s11.2.2.1.toNatClampNeg))), some (.int (s11.2.2.1 + (-1)))]) k190_107 rfl rfl rfl ?_
                  refine o_goto k190_110 ?_
                  have h9 := Option.some.inj h
                  subst h9
                  exact hK
              · rw [if_neg hc14] at h
                refine o_aload_n k190_62 rfl ?_
                refine o_gf k190_63 (gf_43_23 _) ?_
                refine o_iload k190_66 rfl ?_
                obtain ⟨hc17, h⟩ := ck_i h
                refine o_iald k190_68 rfl ia_50 hc17 ?_
                refine o_if_ne k190_69 (fun hc18 => ?_) (fun hc18 => ?_)
                · rw [if_neg hc18] at h
                  refine o_iload_n k190_88 rfl ?_
                  refine o_iload k190_89 rfl ?_
                  refine o_call k190_91 pj_127 (fun _ => rfl) (by decide) rfl (as := [.int s11.2.1, .int s11.2.2.1]) (rest := []) rfl (L0 := [some (.int s11.2.1), some (.int s11.2.2.1)]) rfl (t_X8_has (M := s11.2.2.2) (a0 := s11.2.1) (a1 := s11.2.2.1) rfl) ?_
                  refine o_if_eq k190_94 (fun hc19 => ?_) (fun hc19 => ?_)
                  · rw [if_pos hc19] at h
                    refine o_iinc (w := s11.2.2.1 + (-1)) (L' := [some (.ref 43), some (.int s11.1), some (.int s6.2.1), some (.int s11.2.1), some (.int (s11.2.2.1 + (-1)))]) k190_107 rfl rfl rfl ?_
                    refine o_goto k190_110 ?_
                    have h9 := Option.some.inj h
                    subst h9
                    exact hK
                  · rw [if_neg hc19] at h
                    refine o_iload_n k190_97 rfl ?_
                    refine o_aload_n k190_98 rfl ?_
                    refine o_gf k190_99 (gf_43_23 _) ?_
                    refine o_iload k190_102 rfl ?_
                    obtain ⟨hc20, h⟩ := ck_i h
                    refine o_iald k190_104 rfl ia_50 hc20 ?_
                    refine o_ixor k190_105 ?_
                    refine o_istore_n (v := (s11.2.1 ^^^ (s11.2.2.2 50 s11.2.2.1.toNatClampNeg))) (L' := [some (.ref 43), some (.int s11.1), some (.int s6.2.1), some (.int (s11.2.1 ^^^ (s11.2.2.2 50 s11.2.2.1.toNatClampNeg))), some (.int s11.2.2.1)]) k190_106 rfl rfl ?_
                    refine o_iinc (w := s11.2.2.1 + (-1)) (L' := [some (.ref 43), some (.int s11.1), some (.int s6.2.1), some (.int (s11.2.1 ^^^ (s11.2.2.2 50 s11.2.2.1.toNatClampNeg))), some (.int (s11.2.2.1 + (-1)))]) k190_107 rfl rfl rfl ?_
                    refine o_goto k190_110 ?_
                    have h9 := Option.some.inj h
                    subst h9
                    exact hK
                · rw [if_pos hc18] at h
                  refine o_aload_n k190_72 rfl ?_
                  refine o_gf k190_73 (gf_43_23 _) ?_
                  refine o_iload k190_76 rfl ?_
                  refine o_iload_n k190_78 rfl ?_
                  obtain ⟨hc21, h⟩ := ck_i h
                  refine bl_i h (fun M22 eM22 h => ?_)
                  refine o_iast (M' := M22) k190_79 eM22 ia_50 hc21 ?_
                  refine o_iconst (v := 0) k190_80 (by decide) ?_
                  refine o_istore_n (v := 0) (L' := [some (.ref 43), some (.int s11.1), some (.int s6.2.1), some (.int 0), some (.int s11.2.2.1)]) k190_81 rfl rfl ?_
                  refine o_iinc (w := s11.1 + 1) (L' := [some (.ref 43), some (.int (s11.1 + 1)), some (.int s6.2.1), some (.int 0), some (.int s11.2.2.1)]) k190_82 rfl rfl rfl ?_
                  refine o_goto k190_85 ?_
                  refine o_iinc (w := s11.2.2.1 + (-1)) (L' := [some (.ref 43), some (.int (s11.1 + 1)), some (.int s6.2.1), some (.int 0), some (.int (s11.2.2.1 + (-1)))]) k190_107 rfl rfl rfl ?_
                  refine o_goto k190_110 ?_
                  have h9 := Option.some.inj h
                  subst h9
                  exact hK
        · show oo LN xs 0 0 190 113 [some (.ref 43), some (.int s23.1), some (.int s6.2.1), some (.int s23.2.1), some (.int s23.2.2.1)] [] s23.2.2.2 (some (.int t.1), t.2)
          refine o_iinc (w := s6.2.1 + 1) (L' := [some (.ref 43), some (.int s23.1), some (.int (s6.2.1 + 1)), some (.int s23.2.1), some (.int s23.2.2.1)]) k190_113 rfl rfl rfl ?_
          refine o_goto k190_116 ?_
          have h9 := Option.some.inj h
          subst h9
          exact hK _ _
    · show ∀ (d25 d26 : Option Value), oo LN xs 0 0 190 119 [some (.ref 43), some (.int s24.1), some (.int s24.2.1), d25, d26] [] s24.2.2 (some (.int t.1), t.2)
      intro d25 d26
      refine o_iload_n k190_119 rfl ?_
      have h9 := Option.some.inj h
      subst h9
      exact o_iret pj_190 k190_120 rfl nr_i
def f_X8_alias_43 (a0 : Int32) (M : am_M) : Option (Int32 × am_M) := (if (f_X8_in a0.toInt64 0 2) = 0 then (some ((-1), M)) else ((f_X8_findEffects_43 M).bind (fun q2 => ((lp (σ := Int32 × Int32) (ρ := Int32 × Int32) (fun s3 => (if (q2 43 22) ≤ s3.2 then (some (.inr (s3.1, s3.2))) else (bl (fun (v10 : Int32) => (((lp (σ := Int32 × Int32) (ρ := Int32 × Int32) (fun s11 => (if s3.2 ≤ s11.2 then (some (.inr (s11.1, s11.2))) else (if a0 = 2 then (if am_dbin s11.2 64 = true then (if am_dbin s3.2 64 = true then (bl (if (q2 49 s11.2.toNatClampNeg) = (q2 49 s3.2.toNatClampNeg) then 1 else 0) (fun (v17 : Int32) => (some (.inl ((s11.1 + (f_X8_flag v17)), (s11.2 + 1)))))) else none) else none) else (some (.inr (s11.1, s11.2)))))) lp_F (v10, 0)).bind (fun s18 => (some (.inl (s18.1, (s3.2 + 1)))))) : Option ((Int32 × Int32) ⊕ (Int32 × Int32)))) (fun (j19 : Int32 → Option ((Int32 × Int32) ⊕ (Int32 × Int32))) => (if a0 = 1 then (if am_dbin s3.2 64 = true then (bl (if (q2 49 s3.2.toNatClampNeg) = 0 then 1 else 0) (fun (v9 : Int32) => (j19 (s3.1 + (f_X8_flag v9))))) else none) else (j19 s3.1)))))) lp_F (0, 0)).bind (fun s20 => (if a0 = 0 then ((f_X8_rankOfEffects_43 q2).bind (fun q23 => (some (((q2 43 22) - q23.1), q23.2)))) else (some (s20.1, q2))))))))
set_option maxRecDepth 20000 in
theorem t_X8_alias_43 {LN : Nat} {xs : Nat → Int32} {a0 : Int32} {M : am_M} {t : Int32 × am_M} (h : f_X8_alias_43 a0 M = some t) : oo LN xs 0 0 191 0 [some (.ref 43), some (.int a0), none, none, none] [] M (some (.int t.1), t.2) := by
  unfold f_X8_alias_43 at h
  refine o_iload_n k191_0 rfl ?_
  refine o_i2l k191_1 ?_
  refine o_lconst (v := 0) k191_2 (by decide) ?_
  refine o_ldc2_w k191_3 ?_
  refine o_call k191_6 pj_125 (fun _ => rfl) (by decide) rfl (as := [.long a0.toInt64, .long 0, .long 2]) (rest := []) rfl (L0 := [some (.long a0.toInt64), none, some (.long 0), none, some (.long 2), none]) rfl (t_X8_in (M := M) (a0 := a0.toInt64) (a1 := 0) (a2 := 2) rfl) ?_
  refine o_if_ne k191_9 (fun hc1 => ?_) (fun hc1 => ?_)
  · rw [if_neg hc1] at h
    refine o_aload_n k191_14 rfl ?_
    refine bd_i h (fun q2 hq2 h => ?_)
    refine o_call k191_15 pj_189 (fun _ => rfl) (by decide) rfl (as := [.ref 43]) (rest := []) rfl (L0 := [some (.ref 43), none, none, none, none]) rfl (t_X8_findEffects_43 hq2) ?_
    refine o_iconst (v := 0) k191_18 (by decide) ?_
    refine o_istore_n (v := 0) (L' := [some (.ref 43), some (.int a0), some (.int 0), none, none]) k191_19 rfl rfl ?_
    refine o_iconst (v := 0) k191_20 (by decide) ?_
    refine o_istore_n (v := 0) (L' := [some (.ref 43), some (.int a0), some (.int 0), some (.int 0), none]) k191_21 rfl rfl ?_
    refine bd_i h (fun s20 hs20 h => ?_)
    refine lp_o (fun s3 => ∀ (d4 : Option Value), oo LN xs 0 0 191 22 [some (.ref 43), some (.int a0), some (.int s3.1), some (.int s3.2), d4] [] q2 (some (.int t.1), t.2)) (fun s20 => ∀ (d21 : Option Value), oo LN xs 0 0 191 108 [some (.ref 43), some (.int a0), some (.int s20.1), some (.int s20.2), d21] [] q2 (some (.int t.1), t.2)) ?_ hs20 ?_ none
    · intro s3 ws3 h hK d4
      refine o_iload_n k191_22 rfl ?_
      refine o_aload_n k191_23 rfl ?_
      refine o_gf k191_24 (gf_43_22 _) ?_
      refine o_icmp_ge k191_27 (fun hc5 => ?_) (fun hc5 => ?_)
      · rw [if_pos hc5] at h
        have h9 := Option.some.inj h
        subst h9
        exact hK _
      · rw [if_neg hc5] at h
        refine o_iload_n k191_30 rfl ?_
        refine o_iconst (v := 1) k191_31 (by decide) ?_
        refine bl_i h (fun j19 ej19 h => ?_)
        have hJ55 : ∀ (v10 : Int32), j19 v10 = some ws3 → oo LN xs 0 0 191 55 [some (.ref 43), some (.int a0), some (.int v10), some (.int s3.2), d4] [] q2 (some (.int t.1), t.2) := by
          intro v10 h
          rw [ej19] at h
          dsimp only at h
          refine o_iconst (v := 0) k191_55 (by decide) ?_
          refine o_istore (v := 0) (L' := [some (.ref 43), some (.int a0), some (.int v10), some (.int s3.2), some (.int 0)]) k191_56 rfl rfl ?_
          refine bd_i h (fun s18 hs18 h => ?_)
          refine lp_o (fun s11 => oo LN xs 0 0 191 58 [some (.ref 43), some (.int a0), some (.int s11.1), some (.int s3.2), some (.int s11.2)] [] q2 (some (.int t.1), t.2)) (fun s18 => oo LN xs 0 0 191 102 [some (.ref 43), some (.int a0), some (.int s18.1), some (.int s3.2), some (.int s18.2)] [] q2 (some (.int t.1), t.2)) ?_ hs18 ?_
          · intro s11 ws11 h hK
            refine o_iload k191_58 rfl ?_
            refine o_iload_n k191_60 rfl ?_
            refine o_icmp_ge k191_61 (fun hc12 => ?_) (fun hc12 => ?_)
            · rw [if_pos hc12] at h
              have h9 := Option.some.inj h
              subst h9
              exact hK
            · rw [if_neg hc12] at h
              refine o_iload_n k191_64 rfl ?_
              refine o_iconst (v := 2) k191_65 (by decide) ?_
              refine o_icmp_ne k191_66 (fun hc13 => ?_) (fun hc13 => ?_)
              · rw [if_neg hc13] at h
                have h9 := Option.some.inj h
                subst h9
                exact hK
              · rw [if_pos hc13] at h
                refine o_iload_n k191_69 rfl ?_
                refine o_aload_n k191_70 rfl ?_
                refine o_gf k191_71 (gf_43_21 _) ?_
                refine o_iload k191_74 rfl ?_
                obtain ⟨hc14, h⟩ := ck_i h
                refine o_iald k191_76 rfl ia_49 hc14 ?_
                refine o_aload_n k191_77 rfl ?_
                refine o_gf k191_78 (gf_43_21 _) ?_
                refine o_iload_n k191_81 rfl ?_
                obtain ⟨hc15, h⟩ := ck_i h
                refine o_iald k191_82 rfl ia_49 hc15 ?_
                refine bl_i h (fun v17 ev17 h => ?_)
                have hJ91 : ∀ (yv17 : Int32), yv17 = v17 → oo LN xs 0 0 191 91 [some (.ref 43), some (.int a0), some (.int s11.1), some (.int s3.2), some (.int s11.2)] [.int yv17, .int s11.1] q2 (some (.int t.1), t.2) := by
                  intro yv17 hyv17
                  rw [hyv17]
                  refine o_call k191_91 pj_126 (fun _ => rfl) (by decide) rfl (as := [.int v17]) (rest := [.int s11.1]) rfl (L0 := [some (.int v17)]) rfl (t_X8_flag (M := q2) (a0 := v17) rfl) ?_
                  refine o_iadd k191_94 ?_
                  refine o_istore_n (v := (s11.1 + (f_X8_flag v17))) (L' := [some (.ref 43), some (.int a0), some (.int (s11.1 + (f_X8_flag v17))), some (.int s3.2), some (.int s11.2)]) k191_95 rfl rfl ?_
                  refine o_iinc (w := s11.2 + 1) (L' := [some (.ref 43), some (.int a0), some (.int (s11.1 + (f_X8_flag v17))), some (.int s3.2), some (.int (s11.2 + 1))]) k191_96 rfl rfl rfl ?_
                  refine o_goto k191_99 ?_
                  have h9 := Option.some.inj h
                  subst h9
                  exact hK
                refine o_icmp_ne k191_83 (fun hc16 => ?_) (fun hc16 => ?_)
                · skip
                  refine o_iconst (v := 0) k191_90 (by decide) ?_
                  exact hJ91 _ (by simp only [ev17, if_neg hc16])
                · skip
                  refine o_iconst (v := 1) k191_86 (by decide) ?_
                  refine o_goto k191_87 ?_
                  exact hJ91 _ (by simp only [ev17, if_pos hc16])
          · show oo LN xs 0 0 191 102 [some (.ref 43), some (.int a0), some (.int s18.1), some (.int s3.2), some (.int s18.2)] [] q2 (some (.int t.1), t.2)
            refine o_iinc (w := s3.2 + 1) (L' := [some (.ref 43), some (.int a0), some (.int s18.1), some (.int (s3.2 + 1)), some (.int s18.2)]) k191_102 rfl rfl rfl ?_
            refine o_goto k191_105 ?_
            have h9 := Option.some.inj h
            subst h9
            exact hK _
        refine o_icmp_ne k191_32 (fun hc6 => ?_) (fun hc6 => ?_)
        · rw [if_neg hc6] at h
          exact hJ55 _ h
        · rw [if_pos hc6] at h
          refine o_iload_n k191_35 rfl ?_
          refine o_aload_n k191_36 rfl ?_
          refine o_gf k191_37 (gf_43_21 _) ?_
          refine o_iload_n k191_40 rfl ?_
          obtain ⟨hc7, h⟩ := ck_i h
          refine o_iald k191_41 rfl ia_49 hc7 ?_
          refine bl_i h (fun v9 ev9 h => ?_)
          have hJ50 : ∀ (yv9 : Int32), yv9 = v9 → oo LN xs 0 0 191 50 [some (.ref 43), some (.int a0), some (.int s3.1), some (.int s3.2), d4] [.int yv9, .int s3.1] q2 (some (.int t.1), t.2) := by
            intro yv9 hyv9
            rw [hyv9]
            refine o_call k191_50 pj_126 (fun _ => rfl) (by decide) rfl (as := [.int v9]) (rest := [.int s3.1]) rfl (L0 := [some (.int v9)]) rfl (t_X8_flag (M := q2) (a0 := v9) rfl) ?_
            refine o_iadd k191_53 ?_
            refine o_istore_n (v := (s3.1 + (f_X8_flag v9))) (L' := [some (.ref 43), some (.int a0), some (.int (s3.1 + (f_X8_flag v9))), some (.int s3.2), d4]) k191_54 rfl rfl ?_
            exact hJ55 _ h
          refine o_if_ne k191_42 (fun hc8 => ?_) (fun hc8 => ?_)
          · skip
            refine o_iconst (v := 0) k191_49 (by decide) ?_
            exact hJ50 _ (by simp only [ev9, if_neg hc8])
          · skip
            refine o_iconst (v := 1) k191_45 (by decide) ?_
            refine o_goto k191_46 ?_
            exact hJ50 _ (by simp only [ev9, if_pos hc8])
    · show ∀ (d21 : Option Value), oo LN xs 0 0 191 108 [some (.ref 43), some (.int a0), some (.int s20.1), some (.int s20.2), d21] [] q2 (some (.int t.1), t.2)
      intro d21
      refine o_iload_n k191_108 rfl ?_
      refine o_if_ne k191_109 (fun hc22 => ?_) (fun hc22 => ?_)
      · rw [if_neg hc22] at h
        refine o_iload_n k191_124 rfl ?_
        have h9 := Option.some.inj h
        subst h9
        exact o_iret pj_191 k191_125 rfl nr_i
      · rw [if_pos hc22] at h
        refine o_aload_n k191_112 rfl ?_
        refine o_gf k191_113 (gf_43_22 _) ?_
        refine o_aload_n k191_116 rfl ?_
        refine bd_i h (fun q23 hq23 h => ?_)
        refine o_call k191_117 pj_190 (fun _ => rfl) (by decide) rfl (as := [.ref 43]) (rest := [.int (q2 43 22)]) rfl (L0 := [some (.ref 43), none, none, none, none]) rfl (t_X8_rankOfEffects_43 hq23) ?_
        refine o_isub k191_120 ?_
        refine o_goto k191_121 ?_
        have h9 := Option.some.inj h
        subst h9
        exact o_iret pj_191 k191_125 rfl nr_i
  · rw [if_pos hc1] at h
    refine o_iconst (v := (-1)) k191_12 (by decide) ?_
    have h9 := Option.some.inj h
    subst h9
    exact o_iret pj_191 k191_13 rfl nr_i
def f_X7_suspects_0 (a0 : Int32) (M : am_M) : Option Int32 := (if (f_X0_hasChain_9 a0 M) = 0 then (some (-1)) else (if am_dbin a0 8 = true then (some (M 13 a0.toNatClampNeg)) else none))
set_option maxRecDepth 20000 in
theorem t_X7_suspects_0 {LN : Nat} {xs : Nat → Int32} {a0 : Int32} {M : am_M} {t : Int32} (h : f_X7_suspects_0 a0 M = some t) : oo LN xs 0 0 108 0 [some (.ref 0), some (.int a0)] [] M (some (.int t), M) := by
  unfold f_X7_suspects_0 at h
  refine o_aload_n k108_0 rfl ?_
  refine o_gf k108_1 (gf_0_2 _) ?_
  refine o_iload_n k108_4 rfl ?_
  refine o_call k108_5 pj_7 (fun _ => rfl) (by decide) rfl (as := [.ref 9, .int a0]) (rest := []) rfl (L0 := [some (.ref 9), some (.int a0)]) rfl (t_X0_hasChain_9 (M := M) (a0 := a0) rfl) ?_
  refine o_if_eq k108_8 (fun hc1 => ?_) (fun hc1 => ?_)
  · rw [if_pos hc1] at h
    refine o_iconst (v := (-1)) k108_23 (by decide) ?_
    have h9 := Option.some.inj h
    subst h9
    exact o_iret pj_108 k108_24 rfl nr_i
  · rw [if_neg hc1] at h
    refine o_aload_n k108_11 rfl ?_
    refine o_gf k108_12 (gf_0_2 _) ?_
    refine o_gf k108_15 (gf_9_10 _) ?_
    refine o_iload_n k108_18 rfl ?_
    obtain ⟨hc2, h⟩ := ck_i h
    refine o_iald k108_19 rfl ia_13 hc2 ?_
    refine o_goto k108_20 ?_
    have h9 := Option.some.inj h
    subst h9
    exact o_iret pj_108 k108_24 rfl nr_i
def f_X8_suspects_43 (a0 : Int32) (M : am_M) : Option Int32 := ((f_X8_isChain_43 a0 M).bind (fun v1 => (if v1 = 0 then (some (-1)) else (if am_dbin ((143 : Int32) + a0) 151 = true then (some (M 44 ((143 : Int32) + a0).toNatClampNeg)) else none))))
set_option maxRecDepth 20000 in
theorem t_X8_suspects_43 {LN : Nat} {xs : Nat → Int32} {a0 : Int32} {M : am_M} {t : Int32} (h : f_X8_suspects_43 a0 M = some t) : oo LN xs 0 0 192 0 [some (.ref 43), some (.int a0)] [] M (some (.int t), M) := by
  unfold f_X8_suspects_43 at h
  refine o_aload_n k192_0 rfl ?_
  refine o_iload_n k192_1 rfl ?_
  refine bd_i h (fun v1 hv1 h => ?_)
  refine o_call k192_2 pj_151 (fun _ => rfl) (by decide) rfl (as := [.ref 43, .int a0]) (rest := []) rfl (L0 := [some (.ref 43), some (.int a0)]) rfl (t_X8_isChain_43 hv1) ?_
  refine o_if_eq k192_5 (fun hc2 => ?_) (fun hc2 => ?_)
  · rw [if_pos hc2] at h
    refine o_iconst (v := (-1)) k192_21 (by decide) ?_
    have h9 := Option.some.inj h
    subst h9
    exact o_iret pj_192 k192_22 rfl nr_i
  · rw [if_neg hc2] at h
    refine o_aload_n k192_8 rfl ?_
    refine o_gf k192_9 (gf_43_0 _) ?_
    refine o_sipush (v := 143) k192_12 (by decide) ?_
    refine o_iload_n k192_15 rfl ?_
    refine o_iadd k192_16 ?_
    obtain ⟨hc3, h⟩ := ck_i h
    refine o_iald k192_17 rfl ia_44 hc3 ?_
    refine o_goto k192_18 ?_
    have h9 := Option.some.inj h
    subst h9
    exact o_iret pj_192 k192_22 rfl nr_i
def f_X0_mayDump_9 (a0 : Int32) (a1 : Int32) (a2 : Int32) (a3 : Int32) (M : am_M) : Option Int32 := ((lp (σ := Int32) (ρ := (Int32) ⊕ (Int32)) (fun s1 => (if (M 9 1) ≤ s1 then (some (.inr (.inr s1))) else (bl (fun (v6 : Int32) => ((if v6 = 2 then (some (.inl (s1 + 1))) else (if v6 = ((a1 >>> (s1 &&& 31)) &&& 1) then (some (.inl (s1 + 1))) else (some (.inr (.inl 0))))) : Option ((Int32) ⊕ ((Int32) ⊕ (Int32))))) (fun (j9 : Int32 → Option ((Int32) ⊕ ((Int32) ⊕ (Int32)))) => (if a2 ≤ s1 then (j9 a3) else (if am_dbin (f_X0_at a0 s1) 64 = true then (j9 (M 10 (f_X0_at a0 s1).toNatClampNeg)) else none)))))) lp_F 0).bind (fun os10 => Sum.elim (fun u => (some u)) (fun s10 => (some 1)) os10))
set_option maxRecDepth 20000 in
theorem t_X0_mayDump_9 {LN : Nat} {xs : Nat → Int32} {a0 : Int32} {a1 : Int32} {a2 : Int32} {a3 : Int32} {M : am_M} {t : Int32} (h : f_X0_mayDump_9 a0 a1 a2 a3 M = some t) : oo LN xs 0 0 29 0 [some (.ref 9), some (.int a0), some (.int a1), some (.int a2), some (.int a3), none, none] [] M (some (.int t), M) := by
  unfold f_X0_mayDump_9 at h
  refine o_iconst (v := 0) k29_0 (by decide) ?_
  refine o_istore (v := 0) (L' := [some (.ref 9), some (.int a0), some (.int a1), some (.int a2), some (.int a3), some (.int 0), none]) k29_1 rfl rfl ?_
  refine bd_i h (fun Os10 hOs10 h => ?_)
  refine lp_o (fun s1 => ∀ (d2 : Option Value), oo LN xs 0 0 29 3 [some (.ref 9), some (.int a0), some (.int a1), some (.int a2), some (.int a3), some (.int s1), d2] [] M (some (.int t), M)) (fun oq => Sum.elim (fun u => u = t) (fun s10 => ∀ (d11 : Option Value), oo LN xs 0 0 29 61 [some (.ref 9), some (.int a0), some (.int a1), some (.int a2), some (.int a3), some (.int s10), d11] [] M (some (.int t), M)) oq) ?_ hOs10 ?_ none
  · intro s1 ws1 h hK d2
    refine o_iload k29_3 rfl ?_
    refine o_aload_n k29_5 rfl ?_
    refine o_gf k29_6 (gf_9_1 _) ?_
    refine o_icmp_ge k29_9 (fun hc3 => ?_) (fun hc3 => ?_)
    · rw [if_pos hc3] at h
      have h9 := Option.some.inj h
      subst h9
      exact hK _
    · rw [if_neg hc3] at h
      refine o_iload k29_12 rfl ?_
      refine o_iload_n k29_14 rfl ?_
      refine bl_i h (fun j9 ej9 h => ?_)
      have hJ34 : ∀ (v6 : Int32), j9 v6 = some ws1 → oo LN xs 0 0 29 34 [some (.ref 9), some (.int a0), some (.int a1), some (.int a2), some (.int a3), some (.int s1), d2] [.int v6] M (some (.int t), M) := by
        intro v6 h
        rw [ej9] at h
        dsimp only at h
        refine o_istore (v := v6) (L' := [some (.ref 9), some (.int a0), some (.int a1), some (.int a2), some (.int a3), some (.int s1), some (.int v6)]) k29_34 rfl rfl ?_
        refine o_iload k29_36 rfl ?_
        refine o_iconst (v := 2) k29_38 (by decide) ?_
        refine o_icmp_eq k29_39 (fun hc7 => ?_) (fun hc7 => ?_)
        · rw [if_pos hc7] at h
          refine o_iinc (w := s1 + 1) (L' := [some (.ref 9), some (.int a0), some (.int a1), some (.int a2), some (.int a3), some (.int (s1 + 1)), some (.int v6)]) k29_55 rfl rfl rfl ?_
          refine o_goto k29_58 ?_
          have h9 := Option.some.inj h
          subst h9
          exact hK _
        · rw [if_neg hc7] at h
          refine o_iload k29_42 rfl ?_
          refine o_iload_n k29_44 rfl ?_
          refine o_iload k29_45 rfl ?_
          refine o_ishr k29_47 ?_
          refine o_iconst (v := 1) k29_48 (by decide) ?_
          refine o_iand k29_49 ?_
          refine o_icmp_eq k29_50 (fun hc8 => ?_) (fun hc8 => ?_)
          · rw [if_pos hc8] at h
            refine o_iinc (w := s1 + 1) (L' := [some (.ref 9), some (.int a0), some (.int a1), some (.int a2), some (.int a3), some (.int (s1 + 1)), some (.int v6)]) k29_55 rfl rfl rfl ?_
            refine o_goto k29_58 ?_
            have h9 := Option.some.inj h
            subst h9
            exact hK _
          · rw [if_neg hc8] at h
            refine o_iconst (v := 0) k29_53 (by decide) ?_
            have h9 := Option.some.inj h
            subst h9
            have hK2 : 0 = t := hK
            subst hK2
            exact o_iret pj_29 k29_54 rfl (nr_z (by decide))
      refine o_icmp_ge k29_15 (fun hc4 => ?_) (fun hc4 => ?_)
      · rw [if_pos hc4] at h
        refine o_iload k29_32 rfl ?_
        exact hJ34 _ h
      · rw [if_neg hc4] at h
        refine o_aload_n k29_18 rfl ?_
        refine o_gf k29_19 (gf_9_7 _) ?_
        refine o_iload_n k29_22 rfl ?_
        refine o_iload k29_23 rfl ?_
        refine o_call k29_25 pj_5 (fun _ => rfl) (by decide) rfl (as := [.int a0, .int s1]) (rest := [.ref 10]) rfl (L0 := [some (.int a0), some (.int s1)]) rfl (t_X0_at (M := M) (a0 := a0) (a1 := s1) rfl) ?_
        obtain ⟨hc5, h⟩ := ck_i h
        refine o_iald k29_28 rfl ia_10 hc5 ?_
        refine o_goto k29_29 ?_
        exact hJ34 _ h
  · rcases Os10 with u | s10
    · exact Option.some.inj h
    · show ∀ (d11 : Option Value), oo LN xs 0 0 29 61 [some (.ref 9), some (.int a0), some (.int a1), some (.int a2), some (.int a3), some (.int s10), d11] [] M (some (.int t), M)
      replace h : (some 1) = some t := h
      intro d11
      refine o_iconst (v := 1) k29_61 (by decide) ?_
      have h9 := Option.some.inj h
      subst h9
      exact o_iret pj_29 k29_62 rfl (nr_z (by decide))
def f_X0_explanations_9 (a0 : Int32) (a1 : Int32) (M : am_M) : Option Int32 := ((f_X0_mayDump_9 a0 a1 (M 9 1) 0 M).bind (fun v1 => (bl (if v1 = 0 then 0 else 65536) (fun (v3 : Int32) => ((lp (σ := Int32 × Int32) (ρ := Int32 × Int32) (fun s4 => (if (M 9 1) ≤ s4.2 then (some (.inr (s4.1, s4.2))) else ((lp (σ := Int32 × Int32) (ρ := Int32 × Int32) (fun s7 => (if 1 < s7.2 then (some (.inr (s7.1, s7.2))) else ((f_X0_mayDump_9 a0 a1 s4.2 s7.2 M).bind (fun v9 => (if v9 = 0 then (some (.inl (s7.1, (s7.2 + 1)))) else (bl ((s7.1 ||| ((1 : Int32) <<< ((((2 : Int32) * s4.2) + s7.2) &&& 31)))) (fun (v11 : Int32) => (some (.inl (v11, (s7.2 + 1))))))))))) lp_F (s4.1, 0)).bind (fun s12 => (some (.inl (s12.1, (s4.2 + 1)))))))) lp_F (v3, 0)).bind (fun s13 => (some s13.1)))))))
set_option maxRecDepth 20000 in
theorem t_X0_explanations_9 {LN : Nat} {xs : Nat → Int32} {a0 : Int32} {a1 : Int32} {M : am_M} {t : Int32} (h : f_X0_explanations_9 a0 a1 M = some t) : oo LN xs 0 0 28 0 [some (.ref 9), some (.int a0), some (.int a1), none, none, none] [] M (some (.int t), M) := by
  unfold f_X0_explanations_9 at h
  refine o_aload_n k28_0 rfl ?_
  refine o_iload_n k28_1 rfl ?_
  refine o_iload_n k28_2 rfl ?_
  refine o_aload_n k28_3 rfl ?_
  refine o_gf k28_4 (gf_9_1 _) ?_
  refine o_iconst (v := 0) k28_7 (by decide) ?_
  refine bd_i h (fun v1 hv1 h => ?_)
  refine o_call k28_8 pj_29 (fun _ => rfl) (by decide) rfl (as := [.ref 9, .int a0, .int a1, .int (M 9 1), .int 0]) (rest := []) rfl (L0 := [some (.ref 9), some (.int a0), some (.int a1), some (.int (M 9 1)), some (.int 0), none, none]) rfl (t_X0_mayDump_9 hv1) ?_
  refine bl_i h (fun v3 ev3 h => ?_)
  have hJ20 : ∀ (yv3 : Int32), yv3 = v3 → oo LN xs 0 0 28 20 [some (.ref 9), some (.int a0), some (.int a1), none, none, none] [.int yv3] M (some (.int t), M) := by
    intro yv3 hyv3
    rw [hyv3]
    refine o_istore_n (v := v3) (L' := [some (.ref 9), some (.int a0), some (.int a1), some (.int v3), none, none]) k28_20 rfl rfl ?_
    refine o_iconst (v := 0) k28_21 (by decide) ?_
    refine o_istore (v := 0) (L' := [some (.ref 9), some (.int a0), some (.int a1), some (.int v3), some (.int 0), none]) k28_22 rfl rfl ?_
    refine bd_i h (fun s13 hs13 h => ?_)
    refine lp_o (fun s4 => ∀ (d5 : Option Value), oo LN xs 0 0 28 24 [some (.ref 9), some (.int a0), some (.int a1), some (.int s4.1), some (.int s4.2), d5] [] M (some (.int t), M)) (fun s13 => ∀ (d14 : Option Value), oo LN xs 0 0 28 79 [some (.ref 9), some (.int a0), some (.int a1), some (.int s13.1), some (.int s13.2), d14] [] M (some (.int t), M)) ?_ hs13 ?_ none
    · intro s4 ws4 h hK d5
      refine o_iload k28_24 rfl ?_
      refine o_aload_n k28_26 rfl ?_
      refine o_gf k28_27 (gf_9_1 _) ?_
      refine o_icmp_ge k28_30 (fun hc6 => ?_) (fun hc6 => ?_)
      · rw [if_pos hc6] at h
        have h9 := Option.some.inj h
        subst h9
        exact hK _
      · rw [if_neg hc6] at h
        refine o_iconst (v := 0) k28_33 (by decide) ?_
        refine o_istore (v := 0) (L' := [some (.ref 9), some (.int a0), some (.int a1), some (.int s4.1), some (.int s4.2), some (.int 0)]) k28_34 rfl rfl ?_
        refine bd_i h (fun s12 hs12 h => ?_)
        refine lp_o (fun s7 => oo LN xs 0 0 28 36 [some (.ref 9), some (.int a0), some (.int a1), some (.int s7.1), some (.int s4.2), some (.int s7.2)] [] M (some (.int t), M)) (fun s12 => oo LN xs 0 0 28 73 [some (.ref 9), some (.int a0), some (.int a1), some (.int s12.1), some (.int s4.2), some (.int s12.2)] [] M (some (.int t), M)) ?_ hs12 ?_
        · intro s7 ws7 h hK
          refine o_iload k28_36 rfl ?_
          refine o_iconst (v := 1) k28_38 (by decide) ?_
          refine o_icmp_gt k28_39 (fun hc8 => ?_) (fun hc8 => ?_)
          · rw [if_pos hc8] at h
            have h9 := Option.some.inj h
            subst h9
            exact hK
          · rw [if_neg hc8] at h
            refine o_aload_n k28_42 rfl ?_
            refine o_iload_n k28_43 rfl ?_
            refine o_iload_n k28_44 rfl ?_
            refine o_iload k28_45 rfl ?_
            refine o_iload k28_47 rfl ?_
            refine bd_i h (fun v9 hv9 h => ?_)
            refine o_call k28_49 pj_29 (fun _ => rfl) (by decide) rfl (as := [.ref 9, .int a0, .int a1, .int s4.2, .int s7.2]) (rest := []) rfl (L0 := [some (.ref 9), some (.int a0), some (.int a1), some (.int s4.2), some (.int s7.2), none, none]) rfl (t_X0_mayDump_9 hv9) ?_
            refine o_if_eq k28_52 (fun hc10 => ?_) (fun hc10 => ?_)
            · rw [if_pos hc10] at h
              refine o_iinc (w := s7.2 + 1) (L' := [some (.ref 9), some (.int a0), some (.int a1), some (.int s7.1), some (.int s4.2), some (.int (s7.2 + 1))]) k28_67 rfl rfl rfl ?_
              refine o_goto k28_70 ?_
              have h9 := Option.some.inj h
              subst h9
              exact hK
            · rw [if_neg hc10] at h
              refine o_iload_n k28_55 rfl ?_
              refine o_iconst (v := 1) k28_56 (by decide) ?_
              refine o_iconst (v := 2) k28_57 (by decide) ?_
              refine o_iload k28_58 rfl ?_
              refine o_imul k28_60 ?_
              refine o_iload k28_61 rfl ?_
              refine o_iadd k28_63 ?_
              refine o_ishl k28_64 ?_
              refine o_ior k28_65 ?_
              refine bl_i h (fun v11 ev11 h => ?_)
              refine o_istore_n (v := v11) k28_66 ev11 (L' := [some (.ref 9), some (.int a0), some (.int a1), some (.int v11), some (.int s4.2), some (.int s7.2)]) rfl ?_
              refine o_iinc (w := s7.2 + 1) (L' := [some (.ref 9), some (.int a0), some (.int a1), some (.int v11), some (.int s4.2), some (.int (s7.2 + 1))]) k28_67 rfl rfl rfl ?_
              refine o_goto k28_70 ?_
              have h9 := Option.some.inj h
              subst h9
              exact hK
        · show oo LN xs 0 0 28 73 [some (.ref 9), some (.int a0), some (.int a1), some (.int s12.1), some (.int s4.2), some (.int s12.2)] [] M (some (.int t), M)
          refine o_iinc (w := s4.2 + 1) (L' := [some (.ref 9), some (.int a0), some (.int a1), some (.int s12.1), some (.int (s4.2 + 1)), some (.int s12.2)]) k28_73 rfl rfl rfl ?_
          refine o_goto k28_76 ?_
          have h9 := Option.some.inj h
          subst h9
          exact hK _
    · show ∀ (d14 : Option Value), oo LN xs 0 0 28 79 [some (.ref 9), some (.int a0), some (.int a1), some (.int s13.1), some (.int s13.2), d14] [] M (some (.int t), M)
      intro d14
      refine o_iload_n k28_79 rfl ?_
      have h9 := Option.some.inj h
      subst h9
      exact o_iret pj_28 k28_80 rfl nr_i
  refine o_if_eq k28_11 (fun hc2 => ?_) (fun hc2 => ?_)
  · skip
    refine o_iconst (v := 0) k28_19 (by decide) ?_
    exact hJ20 _ (by simp only [ev3, if_pos hc2])
  · skip
    refine o_ldc k28_14 ?_
    refine o_goto k28_16 ?_
    exact hJ20 _ (by simp only [ev3, if_neg hc2])
def f_X7_dump_0 (a0 : Int32) (a1 : Int32) (M : am_M) : Option (Int32 × am_M) := (if (f_X0_hasChain_9 a0 M) = 0 then (some ((-1), M)) else (if a1 < 0 then (some ((-1), M)) else (if a1 < ((1 : Int32) <<< ((M 9 1) &&& 31)) then (if am_dbin a0 8 = true then ((f_X0_explanations_9 a0 a1 M).bind (fun v5 => (if am_dbin a0 8 = true then (bl (am_up M 13 a0.toNatClampNeg ((M 13 a0.toNatClampNeg) &&& v5)) (fun (M7 : am_M) => (if am_dbin a0 8 = true then (some ((f_J6_bitCount_0f7a4 (M7 13 a0.toNatClampNeg)), M7)) else none))) else none))) else none) else (some ((-1), M)))))
set_option maxRecDepth 20000 in
theorem t_X7_dump_0 {LN : Nat} {xs : Nat → Int32} {a0 : Int32} {a1 : Int32} {M : am_M} {t : Int32 × am_M} (h : f_X7_dump_0 a0 a1 M = some t) : oo LN xs 0 0 109 0 [some (.ref 0), some (.int a0), some (.int a1)] [] M (some (.int t.1), t.2) := by
  unfold f_X7_dump_0 at h
  refine o_aload_n k109_0 rfl ?_
  refine o_gf k109_1 (gf_0_2 _) ?_
  refine o_iload_n k109_4 rfl ?_
  refine o_call k109_5 pj_7 (fun _ => rfl) (by decide) rfl (as := [.ref 9, .int a0]) (rest := []) rfl (L0 := [some (.ref 9), some (.int a0)]) rfl (t_X0_hasChain_9 (M := M) (a0 := a0) rfl) ?_
  refine o_if_eq k109_8 (fun hc1 => ?_) (fun hc1 => ?_)
  · rw [if_pos hc1] at h
    refine o_iconst (v := (-1)) k109_28 (by decide) ?_
    have h9 := Option.some.inj h
    subst h9
    exact o_iret pj_109 k109_29 rfl nr_i
  · rw [if_neg hc1] at h
    refine o_iload_n k109_11 rfl ?_
    refine o_if_lt k109_12 (fun hc2 => ?_) (fun hc2 => ?_)
    · rw [if_pos hc2] at h
      refine o_iconst (v := (-1)) k109_28 (by decide) ?_
      have h9 := Option.some.inj h
      subst h9
      exact o_iret pj_109 k109_29 rfl nr_i
    · rw [if_neg hc2] at h
      refine o_iload_n k109_15 rfl ?_
      refine o_iconst (v := 1) k109_16 (by decide) ?_
      refine o_aload_n k109_17 rfl ?_
      refine o_gf k109_18 (gf_0_2 _) ?_
      refine o_gf k109_21 (gf_9_1 _) ?_
      refine o_ishl k109_24 ?_
      refine o_icmp_lt k109_25 (fun hc3 => ?_) (fun hc3 => ?_)
      · rw [if_pos hc3] at h
        refine o_aload_n k109_30 rfl ?_
        refine o_gf k109_31 (gf_0_2 _) ?_
        refine o_gf k109_34 (gf_9_10 _) ?_
        refine o_iload_n k109_37 rfl ?_
        refine o_dup2 k109_38 ?_
        obtain ⟨hc4, h⟩ := ck_i h
        refine o_iald k109_39 rfl ia_13 hc4 ?_
        refine o_aload_n k109_40 rfl ?_
        refine o_gf k109_41 (gf_0_2 _) ?_
        refine o_iload_n k109_44 rfl ?_
        refine o_iload_n k109_45 rfl ?_
        refine bd_i h (fun v5 hv5 h => ?_)
        refine o_call k109_46 pj_28 (fun _ => rfl) (by decide) rfl (as := [.ref 9, .int a0, .int a1]) (rest := [.int (M 13 a0.toNatClampNeg), .int a0, .ref 13]) rfl (L0 := [some (.ref 9), some (.int a0), some (.int a1), none, none, none]) rfl (t_X0_explanations_9 hv5) ?_
        refine o_iand k109_49 ?_
        obtain ⟨hc6, h⟩ := ck_i h
        refine bl_i h (fun M7 eM7 h => ?_)
        refine o_iast (M' := M7) k109_50 eM7 ia_13 hc6 ?_
        refine o_aload_n k109_51 rfl ?_
        refine o_gf k109_52 (gf_0_2 _) ?_
        refine o_gf k109_55 (gf_9_10 _) ?_
        refine o_iload_n k109_58 rfl ?_
        obtain ⟨hc8, h⟩ := ck_i h
        refine o_iald k109_59 rfl ia_13 hc8 ?_
        refine o_call k109_60 pj_212 (fun _ => rfl) (by decide) rfl (as := [.int (M7 13 a0.toNatClampNeg)]) (rest := []) rfl (L0 := [some (.int (M7 13 a0.toNatClampNeg))]) rfl (t_J6_bitCount_0f7a4 (M := M7) (a0 := (M7 13 a0.toNatClampNeg)) rfl) ?_
        have h9 := Option.some.inj h
        subst h9
        exact o_iret pj_109 k109_63 rfl nr_i
      · rw [if_neg hc3] at h
        refine o_iconst (v := (-1)) k109_28 (by decide) ?_
        have h9 := Option.some.inj h
        subst h9
        exact o_iret pj_109 k109_29 rfl nr_i
def f_X8_mayDump_43 (a0 : Int32) (a1 : Int32) (a2 : Int32) (a3 : Int32) (M : am_M) : Option Int32 := ((lp (σ := Int32 × Int32) (ρ := Int32 × Int32) (fun s1 => (if (M 44 (1 : Int32).toNatClampNeg) ≤ s1.2 then (some (.inr (s1.1, s1.2))) else (if s1.1 = 0 then (some (.inl (0, (s1.2 + 1)))) else (if a1 ≤ s1.2 then (if a2 = ((a3 >>> (s1.2 &&& 31)) &&& 1) then (some (.inl (1, (s1.2 + 1)))) else (some (.inl (0, (s1.2 + 1))))) else ((f_X8_cellOf_43 a0 s1.2 M).bind (fun v8 => (if v8 = 2 then (some (.inl (1, (s1.2 + 1)))) else ((f_X8_cellOf_43 a0 s1.2 M).bind (fun v10 => (if v10 = ((a3 >>> (s1.2 &&& 31)) &&& 1) then (some (.inl (1, (s1.2 + 1)))) else (some (.inl (0, (s1.2 + 1)))))))))))))) lp_F (1, 0)).bind (fun s12 => (if s12.1 = 0 ∨ s12.1 = 1 then (some s12.1) else none)))
set_option maxRecDepth 20000 in
theorem t_X8_mayDump_43 {LN : Nat} {xs : Nat → Int32} {a0 : Int32} {a1 : Int32} {a2 : Int32} {a3 : Int32} {M : am_M} {t : Int32} (h : f_X8_mayDump_43 a0 a1 a2 a3 M = some t) : oo LN xs 0 0 193 0 [some (.ref 43), some (.int a0), some (.int a1), some (.int a2), some (.int a3), none, none, none] [] M (some (.int t), M) := by
  unfold f_X8_mayDump_43 at h
  refine o_iconst (v := 1) k193_0 (by decide) ?_
  refine o_istore (v := 1) (L' := [some (.ref 43), some (.int a0), some (.int a1), some (.int a2), some (.int a3), some (.int 1), none, none]) k193_1 rfl rfl ?_
  refine o_iconst (v := 0) k193_3 (by decide) ?_
  refine o_istore (v := 0) (L' := [some (.ref 43), some (.int a0), some (.int a1), some (.int a2), some (.int a3), some (.int 1), some (.int 0), none]) k193_4 rfl rfl ?_
  refine bd_i h (fun s12 hs12 h => ?_)
  refine lp_o (fun s1 => ∀ (d2 : Option Value), oo LN xs 0 0 193 6 [some (.ref 43), some (.int a0), some (.int a1), some (.int a2), some (.int a3), some (.int s1.1), some (.int s1.2), d2] [] M (some (.int t), M)) (fun s12 => ∀ (d13 : Option Value), oo LN xs 0 0 193 82 [some (.ref 43), some (.int a0), some (.int a1), some (.int a2), some (.int a3), some (.int s12.1), some (.int s12.2), d13] [] M (some (.int t), M)) ?_ hs12 ?_ none
  · intro s1 ws1 h hK d2
    refine o_iload k193_6 rfl ?_
    refine o_aload_n k193_8 rfl ?_
    refine o_gf k193_9 (gf_43_0 _) ?_
    refine o_iconst (v := 1) k193_12 (by decide) ?_
    refine o_iald k193_13 rfl ia_44 (by decide) ?_
    refine o_icmp_ge k193_14 (fun hc4 => ?_) (fun hc4 => ?_)
    · rw [if_pos hc4] at h
      have h9 := Option.some.inj h
      subst h9
      exact hK _
    · rw [if_neg hc4] at h
      refine o_iload k193_17 rfl ?_
      refine o_iload k193_19 rfl ?_
      refine o_ishr k193_21 ?_
      refine o_iconst (v := 1) k193_22 (by decide) ?_
      refine o_iand k193_23 ?_
      refine o_istore (v := ((a3 >>> (s1.2 &&& 31)) &&& 1)) (L' := [some (.ref 43), some (.int a0), some (.int a1), some (.int a2), some (.int a3), some (.int s1.1), some (.int s1.2), some (.int ((a3 >>> (s1.2 &&& 31)) &&& 1))]) k193_24 rfl rfl ?_
      refine o_iload k193_26 rfl ?_
      refine o_if_eq k193_28 (fun hc5 => ?_) (fun hc5 => ?_)
      · rw [if_pos hc5] at h
        refine o_iconst (v := 0) k193_73 (by decide) ?_
        refine o_istore (v := 0) (L' := [some (.ref 43), some (.int a0), some (.int a1), some (.int a2), some (.int a3), some (.int 0), some (.int s1.2), some (.int ((a3 >>> (s1.2 &&& 31)) &&& 1))]) k193_74 rfl rfl ?_
        refine o_iinc (w := s1.2 + 1) (L' := [some (.ref 43), some (.int a0), some (.int a1), some (.int a2), some (.int a3), some (.int 0), some (.int (s1.2 + 1)), some (.int ((a3 >>> (s1.2 &&& 31)) &&& 1))]) k193_76 rfl rfl rfl ?_
        refine o_goto k193_79 ?_
        have h9 := Option.some.inj h
        subst h9
        exact hK _
      · rw [if_neg hc5] at h
        refine o_iload k193_31 rfl ?_
        refine o_iload_n k193_33 rfl ?_
        refine o_icmp_ge k193_34 (fun hc6 => ?_) (fun hc6 => ?_)
        · rw [if_pos hc6] at h
          refine o_iload_n k193_63 rfl ?_
          refine o_iload k193_64 rfl ?_
          refine o_icmp_ne k193_66 (fun hc7 => ?_) (fun hc7 => ?_)
          · rw [if_neg hc7] at h
            refine o_iconst (v := 0) k193_73 (by decide) ?_
            refine o_istore (v := 0) (L' := [some (.ref 43), some (.int a0), some (.int a1), some (.int a2), some (.int a3), some (.int 0), some (.int s1.2), some (.int ((a3 >>> (s1.2 &&& 31)) &&& 1))]) k193_74 rfl rfl ?_
            refine o_iinc (w := s1.2 + 1) (L' := [some (.ref 43), some (.int a0), some (.int a1), some (.int a2), some (.int a3), some (.int 0), some (.int (s1.2 + 1)), some (.int ((a3 >>> (s1.2 &&& 31)) &&& 1))]) k193_76 rfl rfl rfl ?_
            refine o_goto k193_79 ?_
            have h9 := Option.some.inj h
            subst h9
            exact hK _
          · rw [if_pos hc7] at h
            refine o_iconst (v := 1) k193_69 (by decide) ?_
            refine o_goto k193_70 ?_
            refine o_istore (v := 1) (L' := [some (.ref 43), some (.int a0), some (.int a1), some (.int a2), some (.int a3), some (.int 1), some (.int s1.2), some (.int ((a3 >>> (s1.2 &&& 31)) &&& 1))]) k193_74 rfl rfl ?_
            refine o_iinc (w := s1.2 + 1) (L' := [some (.ref 43), some (.int a0), some (.int a1), some (.int a2), some (.int a3), some (.int 1), some (.int (s1.2 + 1)), some (.int ((a3 >>> (s1.2 &&& 31)) &&& 1))]) k193_76 rfl rfl rfl ?_
            refine o_goto k193_79 ?_
            have h9 := Option.some.inj h
            subst h9
            exact hK _
        · rw [if_neg hc6] at h
          refine o_aload_n k193_37 rfl ?_
          refine o_iload_n k193_38 rfl ?_
          refine o_iload k193_39 rfl ?_
          refine bd_i h (fun v8 hv8 h => ?_)
          refine o_call k193_41 pj_154 (fun _ => rfl) (by decide) rfl (as := [.ref 43, .int a0, .int s1.2]) (rest := []) rfl (L0 := [some (.ref 43), some (.int a0), some (.int s1.2)]) rfl (t_X8_cellOf_43 hv8) ?_
          refine o_iconst (v := 2) k193_44 (by decide) ?_
          refine o_icmp_eq k193_45 (fun hc9 => ?_) (fun hc9 => ?_)
          · rw [if_pos hc9] at h
            refine o_iconst (v := 1) k193_69 (by decide) ?_
            refine o_goto k193_70 ?_
            refine o_istore (v := 1) (L' := [some (.ref 43), some (.int a0), some (.int a1), some (.int a2), some (.int a3), some (.int 1), some (.int s1.2), some (.int ((a3 >>> (s1.2 &&& 31)) &&& 1))]) k193_74 rfl rfl ?_
            refine o_iinc (w := s1.2 + 1) (L' := [some (.ref 43), some (.int a0), some (.int a1), some (.int a2), some (.int a3), some (.int 1), some (.int (s1.2 + 1)), some (.int ((a3 >>> (s1.2 &&& 31)) &&& 1))]) k193_76 rfl rfl rfl ?_
            refine o_goto k193_79 ?_
            have h9 := Option.some.inj h
            subst h9
            exact hK _
          · rw [if_neg hc9] at h
            refine o_aload_n k193_48 rfl ?_
            refine o_iload_n k193_49 rfl ?_
            refine o_iload k193_50 rfl ?_
            refine bd_i h (fun v10 hv10 h => ?_)
            refine o_call k193_52 pj_154 (fun _ => rfl) (by decide) rfl (as := [.ref 43, .int a0, .int s1.2]) (rest := []) rfl (L0 := [some (.ref 43), some (.int a0), some (.int s1.2)]) rfl (t_X8_cellOf_43 hv10) ?_
            refine o_iload k193_55 rfl ?_
            refine o_icmp_ne k193_57 (fun hc11 => ?_) (fun hc11 => ?_)
            · rw [if_neg hc11] at h
              refine o_iconst (v := 0) k193_73 (by decide) ?_
              refine o_istore (v := 0) (L' := [some (.ref 43), some (.int a0), some (.int a1), some (.int a2), some (.int a3), some (.int 0), some (.int s1.2), some (.int ((a3 >>> (s1.2 &&& 31)) &&& 1))]) k193_74 rfl rfl ?_
              refine o_iinc (w := s1.2 + 1) (L' := [some (.ref 43), some (.int a0), some (.int a1), some (.int a2), some (.int a3), some (.int 0), some (.int (s1.2 + 1)), some (.int ((a3 >>> (s1.2 &&& 31)) &&& 1))]) k193_76 rfl rfl rfl ?_
              refine o_goto k193_79 ?_
              have h9 := Option.some.inj h
              subst h9
              exact hK _
            · rw [if_pos hc11] at h
              refine o_goto k193_60 ?_
              refine o_iconst (v := 1) k193_69 (by decide) ?_
              refine o_goto k193_70 ?_
              refine o_istore (v := 1) (L' := [some (.ref 43), some (.int a0), some (.int a1), some (.int a2), some (.int a3), some (.int 1), some (.int s1.2), some (.int ((a3 >>> (s1.2 &&& 31)) &&& 1))]) k193_74 rfl rfl ?_
              refine o_iinc (w := s1.2 + 1) (L' := [some (.ref 43), some (.int a0), some (.int a1), some (.int a2), some (.int a3), some (.int 1), some (.int (s1.2 + 1)), some (.int ((a3 >>> (s1.2 &&& 31)) &&& 1))]) k193_76 rfl rfl rfl ?_
              refine o_goto k193_79 ?_
              have h9 := Option.some.inj h
              subst h9
              exact hK _
  · show ∀ (d13 : Option Value), oo LN xs 0 0 193 82 [some (.ref 43), some (.int a0), some (.int a1), some (.int a2), some (.int a3), some (.int s12.1), some (.int s12.2), d13] [] M (some (.int t), M)
    intro d13
    refine o_iload k193_82 rfl ?_
    obtain ⟨hc14, h⟩ := ck_i h
    have h9 := Option.some.inj h
    subst h9
    exact o_iret pj_193 k193_84 rfl (nr_z hc14)
