/-! FUNCTIONS, on -/
def f_X8_readNumber_43 (a0 : Int32) (a1 : Int32) (M : am_M) : Option (Int32 × am_M) := (bl (fun (M5 : am_M) => ((bl (fun (M8 : am_M) => ((bl (if (M8 43 17) = 0 then (M8 43 16) else 0) (fun (v10 : Int32) => ((f_X8_reads_43 M8).bind (fun q11 => (some (v10, q11)))))) : Option (Int32 × am_M))) (fun (j12 : am_M → Option (Int32 × am_M)) => (if (M5 43 17) = 0 then ((f_X8_requires_43 (f_X8_in ((M5 43 16).toInt64) a0.toInt64 a1.toInt64) 3 M5).bind (fun q7 => (j12 q7))) else (j12 M5)))) : Option (Int32 × am_M))) (fun (j13 : am_M → Option (Int32 × am_M)) => (if (M 43 17) = 0 then (bl (if (M 43 15) = 2 then 1 else 0) (fun (v3 : Int32) => ((f_X8_requires_43 v3 2 M).bind (fun q4 => (j13 q4))))) else (j13 M))))
set_option maxRecDepth 20000 in
theorem t_X8_readNumber_43 {LN : Nat} {xs : Nat → Int32} {a0 : Int32} {a1 : Int32} {M : am_M} {t : Int32 × am_M} (h : f_X8_readNumber_43 a0 a1 M = some t) : oo LN xs 0 0 140 0 [some (.ref 43), some (.int a0), some (.int a1), none] [] M (some (.int t.1), t.2) := by
  unfold f_X8_readNumber_43 at h
  refine o_aload_n k140_0 rfl ?_
  refine o_gf k140_1 (gf_43_17 _) ?_
  refine bl_i h (fun j13 ej13 h => ?_)
  have hJ25 : ∀ (M5 : am_M), j13 M5 = some t → oo LN xs 0 0 140 25 [some (.ref 43), some (.int a0), some (.int a1), none] [] M5 (some (.int t.1), t.2) := by
    intro M5 h
    rw [ej13] at h
    dsimp only at h
    refine o_aload_n k140_25 rfl ?_
    refine o_gf k140_26 (gf_43_17 _) ?_
    refine bl_i h (fun j12 ej12 h => ?_)
    have hJ49 : ∀ (M8 : am_M), j12 M8 = some t → oo LN xs 0 0 140 49 [some (.ref 43), some (.int a0), some (.int a1), none] [] M8 (some (.int t.1), t.2) := by
      intro M8 h
      rw [ej12] at h
      dsimp only at h
      refine o_aload_n k140_49 rfl ?_
      refine o_gf k140_50 (gf_43_17 _) ?_
      refine bl_i h (fun v10 ev10 h => ?_)
      have hJ64 : ∀ (yv10 : Int32), yv10 = v10 → oo LN xs 0 0 140 64 [some (.ref 43), some (.int a0), some (.int a1), none] [.int yv10] M8 (some (.int t.1), t.2) := by
        intro yv10 hyv10
        rw [hyv10]
        refine o_istore_n (v := v10) (L' := [some (.ref 43), some (.int a0), some (.int a1), some (.int v10)]) k140_64 rfl rfl ?_
        refine o_aload_n k140_65 rfl ?_
        refine bd_i h (fun q11 hq11 h => ?_)
        refine o_call k140_66 pj_139 (fun _ => rfl) (by decide) rfl (as := [.ref 43]) (rest := []) rfl (L0 := [some (.ref 43), none]) rfl (t_X8_reads_43 hq11) ?_
        refine o_iload_n k140_69 rfl ?_
        have h9 := Option.some.inj h
        subst h9
        exact o_iret pj_140 k140_70 rfl nr_i
      refine o_if_ne k140_53 (fun hc9 => ?_) (fun hc9 => ?_)
      · skip
        refine o_iconst (v := 0) k140_63 (by decide) ?_
        exact hJ64 _ (by simp only [ev10, if_neg hc9])
      · skip
        refine o_aload_n k140_56 rfl ?_
        refine o_gf k140_57 (gf_43_16 _) ?_
        refine o_goto k140_60 ?_
        exact hJ64 _ (by simp only [ev10, if_pos hc9])
    refine o_if_ne k140_29 (fun hc6 => ?_) (fun hc6 => ?_)
    · rw [if_neg hc6] at h
      exact hJ49 _ h
    · rw [if_pos hc6] at h
      refine o_aload_n k140_32 rfl ?_
      refine o_aload_n k140_33 rfl ?_
      refine o_gf k140_34 (gf_43_16 _) ?_
      refine o_i2l k140_37 ?_
      refine o_iload_n k140_38 rfl ?_
      refine o_i2l k140_39 ?_
      refine o_iload_n k140_40 rfl ?_
      refine o_i2l k140_41 ?_
      refine o_call k140_42 pj_125 (fun _ => rfl) (by decide) rfl (as := [.long ((M5 43 16).toInt64), .long a0.toInt64, .long a1.toInt64]) (rest := [.ref 43]) rfl (L0 := [some (.long ((M5 43 16).toInt64)), none, some (.long a0.toInt64), none, some (.long a1.toInt64), none]) rfl (t_X8_in (M := M5) (a0 := ((M5 43 16).toInt64)) (a1 := a0.toInt64) (a2 := a1.toInt64) rfl) ?_
      refine o_iconst (v := 3) k140_45 (by decide) ?_
      refine bd_i h (fun q7 hq7 h => ?_)
      refine o_call k140_46 pj_134 (fun _ => rfl) (by decide) rfl (as := [.ref 43, .int (f_X8_in ((M5 43 16).toInt64) a0.toInt64 a1.toInt64), .int 3]) (rest := []) rfl (L0 := [some (.ref 43), some (.int (f_X8_in ((M5 43 16).toInt64) a0.toInt64 a1.toInt64)), some (.int 3)]) rfl (t_X8_requires_43 hq7) ?_
      exact hJ49 _ h
  refine o_if_ne k140_4 (fun hc1 => ?_) (fun hc1 => ?_)
  · rw [if_neg hc1] at h
    exact hJ25 _ h
  · rw [if_pos hc1] at h
    refine o_aload_n k140_7 rfl ?_
    refine o_aload_n k140_8 rfl ?_
    refine o_gf k140_9 (gf_43_15 _) ?_
    refine o_iconst (v := 2) k140_12 (by decide) ?_
    refine bl_i h (fun v3 ev3 h => ?_)
    have hJ21 : ∀ (yv3 : Int32), yv3 = v3 → oo LN xs 0 0 140 21 [some (.ref 43), some (.int a0), some (.int a1), none] [.int yv3, .ref 43] M (some (.int t.1), t.2) := by
      intro yv3 hyv3
      rw [hyv3]
      refine o_iconst (v := 2) k140_21 (by decide) ?_
      refine bd_i h (fun q4 hq4 h => ?_)
      refine o_call k140_22 pj_134 (fun _ => rfl) (by decide) rfl (as := [.ref 43, .int v3, .int 2]) (rest := []) rfl (L0 := [some (.ref 43), some (.int v3), some (.int 2)]) rfl (t_X8_requires_43 hq4) ?_
      exact hJ25 _ h
    refine o_icmp_ne k140_13 (fun hc2 => ?_) (fun hc2 => ?_)
    · skip
      refine o_iconst (v := 0) k140_20 (by decide) ?_
      exact hJ21 _ (by simp only [ev3, if_neg hc2])
    · skip
      refine o_iconst (v := 1) k140_16 (by decide) ?_
      refine o_goto k140_17 ?_
      exact hJ21 _ (by simp only [ev3, if_pos hc2])
def f_X8_readChain_43 (M : am_M) : Option (Int32 × am_M) := ((f_X8_readNumber_43 0 7 M).bind (fun q1 => (if q1.1 ≤ (q1.2 43 7) then (bl (am_up q1.2 43 7 (q1.2 43 7)) (fun (M3 : am_M) => (bl (am_up M3 43 10 1) (fun (M4 : am_M) => (some (q1.1, M4)))))) else (bl (am_up q1.2 43 7 q1.1) (fun (M5 : am_M) => (bl (am_up M5 43 10 1) (fun (M6 : am_M) => (some (q1.1, M6)))))))))
set_option maxRecDepth 20000 in
theorem t_X8_readChain_43 {LN : Nat} {xs : Nat → Int32} {M : am_M} {t : Int32 × am_M} (h : f_X8_readChain_43 M = some t) : oo LN xs 0 0 141 0 [some (.ref 43), none] [] M (some (.int t.1), t.2) := by
  unfold f_X8_readChain_43 at h
  refine o_aload_n k141_0 rfl ?_
  refine o_iconst (v := 0) k141_1 (by decide) ?_
  refine o_bipush (v := 7) k141_2 (by decide) ?_
  refine bd_i h (fun q1 hq1 h => ?_)
  refine o_call k141_4 pj_140 (fun _ => rfl) (by decide) rfl (as := [.ref 43, .int 0, .int 7]) (rest := []) rfl (L0 := [some (.ref 43), some (.int 0), some (.int 7), none]) rfl (t_X8_readNumber_43 hq1) ?_
  refine o_istore_n (v := q1.1) (L' := [some (.ref 43), some (.int q1.1)]) k141_7 rfl rfl ?_
  refine o_aload_n k141_8 rfl ?_
  refine o_iload_n k141_9 rfl ?_
  refine o_aload_n k141_10 rfl ?_
  refine o_gf k141_11 (gf_43_7 _) ?_
  refine o_icmp_le k141_14 (fun hc2 => ?_) (fun hc2 => ?_)
  · rw [if_pos hc2] at h
    refine o_aload_n k141_21 rfl ?_
    refine o_gf k141_22 (gf_43_7 _) ?_
    refine bl_i h (fun M3 eM3 h => ?_)
    refine o_pf (M' := M3) k141_25 (pf_43_7 eM3) ?_
    refine o_aload_n k141_28 rfl ?_
    refine o_iconst (v := 1) k141_29 (by decide) ?_
    refine bl_i h (fun M4 eM4 h => ?_)
    refine o_pf (M' := M4) k141_30 (pf_43_10 (by decide) eM4) ?_
    refine o_iload_n k141_33 rfl ?_
    have h9 := Option.some.inj h
    subst h9
    exact o_iret pj_141 k141_34 rfl nr_i
  · rw [if_neg hc2] at h
    refine o_iload_n k141_17 rfl ?_
    refine o_goto k141_18 ?_
    refine bl_i h (fun M5 eM5 h => ?_)
    refine o_pf (M' := M5) k141_25 (pf_43_7 eM5) ?_
    refine o_aload_n k141_28 rfl ?_
    refine o_iconst (v := 1) k141_29 (by decide) ?_
    refine bl_i h (fun M6 eM6 h => ?_)
    refine o_pf (M' := M6) k141_30 (pf_43_10 (by decide) eM6) ?_
    refine o_iload_n k141_33 rfl ?_
    have h9 := Option.some.inj h
    subst h9
    exact o_iret pj_141 k141_34 rfl nr_i
def f_X8_readOutput_43 (M : am_M) : Option (Int32 × am_M) := ((f_X8_readNumber_43 0 7 M).bind (fun q1 => (if q1.1 ≤ (q1.2 43 9) then (bl (am_up q1.2 43 9 (q1.2 43 9)) (fun (M3 : am_M) => (some (q1.1, M3)))) else (bl (am_up q1.2 43 9 q1.1) (fun (M4 : am_M) => (some (q1.1, M4)))))))
set_option maxRecDepth 20000 in
theorem t_X8_readOutput_43 {LN : Nat} {xs : Nat → Int32} {M : am_M} {t : Int32 × am_M} (h : f_X8_readOutput_43 M = some t) : oo LN xs 0 0 142 0 [some (.ref 43), none] [] M (some (.int t.1), t.2) := by
  unfold f_X8_readOutput_43 at h
  refine o_aload_n k142_0 rfl ?_
  refine o_iconst (v := 0) k142_1 (by decide) ?_
  refine o_bipush (v := 7) k142_2 (by decide) ?_
  refine bd_i h (fun q1 hq1 h => ?_)
  refine o_call k142_4 pj_140 (fun _ => rfl) (by decide) rfl (as := [.ref 43, .int 0, .int 7]) (rest := []) rfl (L0 := [some (.ref 43), some (.int 0), some (.int 7), none]) rfl (t_X8_readNumber_43 hq1) ?_
  refine o_istore_n (v := q1.1) (L' := [some (.ref 43), some (.int q1.1)]) k142_7 rfl rfl ?_
  refine o_aload_n k142_8 rfl ?_
  refine o_iload_n k142_9 rfl ?_
  refine o_aload_n k142_10 rfl ?_
  refine o_gf k142_11 (gf_43_9 _) ?_
  refine o_icmp_le k142_14 (fun hc2 => ?_) (fun hc2 => ?_)
  · rw [if_pos hc2] at h
    refine o_aload_n k142_21 rfl ?_
    refine o_gf k142_22 (gf_43_9 _) ?_
    refine bl_i h (fun M3 eM3 h => ?_)
    refine o_pf (M' := M3) k142_25 (pf_43_9 eM3) ?_
    refine o_iload_n k142_28 rfl ?_
    have h9 := Option.some.inj h
    subst h9
    exact o_iret pj_142 k142_29 rfl nr_i
  · rw [if_neg hc2] at h
    refine o_iload_n k142_17 rfl ?_
    refine o_goto k142_18 ?_
    refine bl_i h (fun M4 eM4 h => ?_)
    refine o_pf (M' := M4) k142_25 (pf_43_9 eM4) ?_
    refine o_iload_n k142_28 rfl ?_
    have h9 := Option.some.inj h
    subst h9
    exact o_iret pj_142 k142_29 rfl nr_i
def f_X8_readColumn_43 (M : am_M) : Option am_M := ((f_X8_readChain_43 M).bind (fun q1 => (if am_dbin ((135 : Int32) + q1.1) 151 = true then ((f_X8_readOutput_43 q1.2).bind (fun q3 => (if am_dbin ((135 : Int32) + q1.1) 151 = true then (bl (am_up q3.2 47 ((135 : Int32) + q1.1).toNatClampNeg ((q1.2 47 ((135 : Int32) + q1.1).toNatClampNeg) ||| ((1 : Int32) <<< (q3.1 &&& 31)))) (fun (M5 : am_M) => ((lp (σ := am_M) (ρ := am_M) (fun M7 => (if (M7 43 17) = 0 then (if (M7 43 15) = 2 then (if am_dbin ((135 : Int32) + q1.1) 151 = true then ((f_X8_readOutput_43 M7).bind (fun q11 => (if am_dbin ((135 : Int32) + q1.1) 151 = true then (bl (am_up q11.2 47 ((135 : Int32) + q1.1).toNatClampNeg ((M7 47 ((135 : Int32) + q1.1).toNatClampNeg) ||| ((1 : Int32) <<< (q11.1 &&& 31)))) (fun (M13 : am_M) => (some (.inl M13)))) else none))) else none) else (some (.inr M7))) else (some (.inr M7)))) lp_F M5).bind (fun M15 => (some M15))))) else none))) else none)))
set_option maxRecDepth 20000 in
theorem t_X8_readColumn_43 {LN : Nat} {xs : Nat → Int32} {M : am_M} {t : am_M} (h : f_X8_readColumn_43 M = some t) : oo LN xs 0 0 144 0 [some (.ref 43), none] [] M (none, t) := by
  unfold f_X8_readColumn_43 at h
  refine o_aload_n k144_0 rfl ?_
  refine bd_i h (fun q1 hq1 h => ?_)
  refine o_call k144_1 pj_141 (fun _ => rfl) (by decide) rfl (as := [.ref 43]) (rest := []) rfl (L0 := [some (.ref 43), none]) rfl (t_X8_readChain_43 hq1) ?_
  refine o_istore_n (v := q1.1) (L' := [some (.ref 43), some (.int q1.1)]) k144_4 rfl rfl ?_
  refine o_aload_n k144_5 rfl ?_
  refine o_gf k144_6 (gf_43_3 _) ?_
  refine o_sipush (v := 135) k144_9 (by decide) ?_
  refine o_iload_n k144_12 rfl ?_
  refine o_iadd k144_13 ?_
  refine o_dup2 k144_14 ?_
  obtain ⟨hc2, h⟩ := ck_i h
  refine o_iald k144_15 rfl ia_47 hc2 ?_
  refine o_iconst (v := 1) k144_16 (by decide) ?_
  refine o_aload_n k144_17 rfl ?_
  refine bd_i h (fun q3 hq3 h => ?_)
  refine o_call k144_18 pj_142 (fun _ => rfl) (by decide) rfl (as := [.ref 43]) (rest := [.int 1, .int (q1.2 47 ((135 : Int32) + q1.1).toNatClampNeg), .int ((135 : Int32) + q1.1), .ref 47]) rfl (L0 := [some (.ref 43), none]) rfl (t_X8_readOutput_43 hq3) ?_
  refine o_ishl k144_21 ?_
  refine o_ior k144_22 ?_
  obtain ⟨hc4, h⟩ := ck_i h
  refine bl_i h (fun M5 eM5 h => ?_)
  refine o_iast (M' := M5) k144_23 eM5 ia_47 hc4 ?_
  refine bd_i h (fun s14 hs14 h => ?_)
  refine lp_o (fun M7 => oo LN xs 0 0 144 24 [some (.ref 43), some (.int q1.1)] [] M7 (none, t)) (fun M15 => oo LN xs 0 0 144 61 [some (.ref 43), some (.int q1.1)] [] M15 (none, t)) ?_ hs14 ?_
  · rintro M7 ws6 h hK
    show oo LN xs 0 0 144 24 [some (.ref 43), some (.int q1.1)] [] M7 (none, t)
    refine o_aload_n k144_24 rfl ?_
    refine o_gf k144_25 (gf_43_17 _) ?_
    refine o_if_ne k144_28 (fun hc8 => ?_) (fun hc8 => ?_)
    · rw [if_neg hc8] at h
      have h9 := Option.some.inj h
      subst h9
      exact hK
    · rw [if_pos hc8] at h
      refine o_aload_n k144_31 rfl ?_
      refine o_gf k144_32 (gf_43_15 _) ?_
      refine o_iconst (v := 2) k144_35 (by decide) ?_
      refine o_icmp_ne k144_36 (fun hc9 => ?_) (fun hc9 => ?_)
      · rw [if_neg hc9] at h
        have h9 := Option.some.inj h
        subst h9
        exact hK
      · rw [if_pos hc9] at h
        refine o_aload_n k144_39 rfl ?_
        refine o_gf k144_40 (gf_43_3 _) ?_
        refine o_sipush (v := 135) k144_43 (by decide) ?_
        refine o_iload_n k144_46 rfl ?_
        refine o_iadd k144_47 ?_
        refine o_dup2 k144_48 ?_
        obtain ⟨hc10, h⟩ := ck_i h
        refine o_iald k144_49 rfl ia_47 hc10 ?_
        refine o_iconst (v := 1) k144_50 (by decide) ?_
        refine o_aload_n k144_51 rfl ?_
        refine bd_i h (fun q11 hq11 h => ?_)
        refine o_call k144_52 pj_142 (fun _ => rfl) (by decide) rfl (as := [.ref 43]) (rest := [.int 1, .int (M7 47 ((135 : Int32) + q1.1).toNatClampNeg), .int ((135 : Int32) + q1.1), .ref 47]) rfl (L0 := [some (.ref 43), none]) rfl (t_X8_readOutput_43 hq11) ?_
        refine o_ishl k144_55 ?_
        refine o_ior k144_56 ?_
        obtain ⟨hc12, h⟩ := ck_i h
        refine bl_i h (fun M13 eM13 h => ?_)
        refine o_iast (M' := M13) k144_57 eM13 ia_47 hc12 ?_
        refine o_goto k144_58 ?_
        have h9 := Option.some.inj h
        subst h9
        exact hK
  · obtain ⟨M15, rfl⟩ : ∃ z, z = s14 := ⟨_, rfl⟩
    show oo LN xs 0 0 144 61 [some (.ref 43), some (.int q1.1)] [] M15 (none, t)
    have h9 := Option.some.inj h
    subst h9
    exact o_vret pj_144 k144_61 rfl
def f_X8_readOuts_43 (M : am_M) : Option am_M := ((f_X8_readChain_43 M).bind (fun q2 => (bl (am_up q2.2 47 (3 : Int32).toNatClampNeg ((M 47 (3 : Int32).toNatClampNeg) ||| ((1 : Int32) <<< (q2.1 &&& 31)))) (fun (M4 : am_M) => ((lp (σ := am_M) (ρ := am_M) (fun M6 => (if (M6 43 17) = 0 then (if (M6 43 15) = 2 then ((f_X8_readChain_43 M6).bind (fun q10 => (bl (am_up q10.2 47 (3 : Int32).toNatClampNeg ((M6 47 (3 : Int32).toNatClampNeg) ||| ((1 : Int32) <<< (q10.1 &&& 31)))) (fun (M12 : am_M) => (some (.inl M12)))))) else (some (.inr M6))) else (some (.inr M6)))) lp_F M4).bind (fun M14 => (some M14)))))))
set_option maxRecDepth 20000 in
theorem t_X8_readOuts_43 {LN : Nat} {xs : Nat → Int32} {M : am_M} {t : am_M} (h : f_X8_readOuts_43 M = some t) : oo LN xs 0 0 145 0 [some (.ref 43)] [] M (none, t) := by
  unfold f_X8_readOuts_43 at h
  refine o_aload_n k145_0 rfl ?_
  refine o_gf k145_1 (gf_43_3 _) ?_
  refine o_iconst (v := 3) k145_4 (by decide) ?_
  refine o_dup2 k145_5 ?_
  refine o_iald k145_6 rfl ia_47 (by decide) ?_
  refine o_iconst (v := 1) k145_7 (by decide) ?_
  refine o_aload_n k145_8 rfl ?_
  refine bd_i h (fun q2 hq2 h => ?_)
  refine o_call k145_9 pj_141 (fun _ => rfl) (by decide) rfl (as := [.ref 43]) (rest := [.int 1, .int (M 47 (3 : Int32).toNatClampNeg), .int 3, .ref 47]) rfl (L0 := [some (.ref 43), none]) rfl (t_X8_readChain_43 hq2) ?_
  refine o_ishl k145_12 ?_
  refine o_ior k145_13 ?_
  refine bl_i h (fun M4 eM4 h => ?_)
  refine o_iast (M' := M4) k145_14 eM4 ia_47 (by decide) ?_
  refine bd_i h (fun s13 hs13 h => ?_)
  refine lp_o (fun M6 => oo LN xs 0 0 145 15 [some (.ref 43)] [] M6 (none, t)) (fun M14 => oo LN xs 0 0 145 48 [some (.ref 43)] [] M14 (none, t)) ?_ hs13 ?_
  · rintro M6 ws5 h hK
    show oo LN xs 0 0 145 15 [some (.ref 43)] [] M6 (none, t)
    refine o_aload_n k145_15 rfl ?_
    refine o_gf k145_16 (gf_43_17 _) ?_
    refine o_if_ne k145_19 (fun hc7 => ?_) (fun hc7 => ?_)
    · rw [if_neg hc7] at h
      have h9 := Option.some.inj h
      subst h9
      exact hK
    · rw [if_pos hc7] at h
      refine o_aload_n k145_22 rfl ?_
      refine o_gf k145_23 (gf_43_15 _) ?_
      refine o_iconst (v := 2) k145_26 (by decide) ?_
      refine o_icmp_ne k145_27 (fun hc8 => ?_) (fun hc8 => ?_)
      · rw [if_neg hc8] at h
        have h9 := Option.some.inj h
        subst h9
        exact hK
      · rw [if_pos hc8] at h
        refine o_aload_n k145_30 rfl ?_
        refine o_gf k145_31 (gf_43_3 _) ?_
        refine o_iconst (v := 3) k145_34 (by decide) ?_
        refine o_dup2 k145_35 ?_
        refine o_iald k145_36 rfl ia_47 (by decide) ?_
        refine o_iconst (v := 1) k145_37 (by decide) ?_
        refine o_aload_n k145_38 rfl ?_
        refine bd_i h (fun q10 hq10 h => ?_)
        refine o_call k145_39 pj_141 (fun _ => rfl) (by decide) rfl (as := [.ref 43]) (rest := [.int 1, .int (M6 47 (3 : Int32).toNatClampNeg), .int 3, .ref 47]) rfl (L0 := [some (.ref 43), none]) rfl (t_X8_readChain_43 hq10) ?_
        refine o_ishl k145_42 ?_
        refine o_ior k145_43 ?_
        refine bl_i h (fun M12 eM12 h => ?_)
        refine o_iast (M' := M12) k145_44 eM12 ia_47 (by decide) ?_
        refine o_goto k145_45 ?_
        have h9 := Option.some.inj h
        subst h9
        exact hK
  · obtain ⟨M14, rfl⟩ : ∃ z, z = s13 := ⟨_, rfl⟩
    show oo LN xs 0 0 145 48 [some (.ref 43)] [] M14 (none, t)
    have h9 := Option.some.inj h
    subst h9
    exact o_vret pj_145 k145_48 rfl
def f_X8_readCell_43 (M : am_M) : Option am_M := ((f_X8_readChain_43 M).bind (fun q1 => ((f_X8_readNumber_43 0 7 q1.2).bind (fun q2 => (bl (if q2.1 ≤ (q2.2 43 8) then (q2.2 43 8) else q2.1) (fun (v4 : Int32) => (bl (am_up q2.2 43 8 v4) (fun (M5 : am_M) => ((f_X8_readNumber_43 0 2 M5).bind (fun q6 => (if am_dbin (((7 : Int32) + ((8 : Int32) * q1.1)) + q2.1) 151 = true then (bl (am_up q6.2 47 (((7 : Int32) + ((8 : Int32) * q1.1)) + q2.1).toNatClampNeg q6.1) (fun (M8 : am_M) => (some M8))) else none)))))))))))
set_option maxRecDepth 20000 in
theorem t_X8_readCell_43 {LN : Nat} {xs : Nat → Int32} {M : am_M} {t : am_M} (h : f_X8_readCell_43 M = some t) : oo LN xs 0 0 143 0 [some (.ref 43), none, none] [] M (none, t) := by
  unfold f_X8_readCell_43 at h
  refine o_aload_n k143_0 rfl ?_
  refine bd_i h (fun q1 hq1 h => ?_)
  refine o_call k143_1 pj_141 (fun _ => rfl) (by decide) rfl (as := [.ref 43]) (rest := []) rfl (L0 := [some (.ref 43), none]) rfl (t_X8_readChain_43 hq1) ?_
  refine o_istore_n (v := q1.1) (L' := [some (.ref 43), some (.int q1.1), none]) k143_4 rfl rfl ?_
  refine o_aload_n k143_5 rfl ?_
  refine o_iconst (v := 0) k143_6 (by decide) ?_
  refine o_bipush (v := 7) k143_7 (by decide) ?_
  refine bd_i h (fun q2 hq2 h => ?_)
  refine o_call k143_9 pj_140 (fun _ => rfl) (by decide) rfl (as := [.ref 43, .int 0, .int 7]) (rest := []) rfl (L0 := [some (.ref 43), some (.int 0), some (.int 7), none]) rfl (t_X8_readNumber_43 hq2) ?_
  refine o_istore_n (v := q2.1) (L' := [some (.ref 43), some (.int q1.1), some (.int q2.1)]) k143_12 rfl rfl ?_
  refine o_aload_n k143_13 rfl ?_
  refine o_iload_n k143_14 rfl ?_
  refine o_aload_n k143_15 rfl ?_
  refine o_gf k143_16 (gf_43_8 _) ?_
  refine bl_i h (fun v4 ev4 h => ?_)
  have hJ30 : ∀ (yv4 : Int32), yv4 = v4 → oo LN xs 0 0 143 30 [some (.ref 43), some (.int q1.1), some (.int q2.1)] [.int yv4, .ref 43] q2.2 (none, t) := by
    intro yv4 hyv4
    rw [hyv4]
    refine bl_i h (fun M5 eM5 h => ?_)
    refine o_pf (M' := M5) k143_30 (pf_43_8 eM5) ?_
    refine o_aload_n k143_33 rfl ?_
    refine o_gf k143_34 (gf_43_3 _) ?_
    refine o_bipush (v := 7) k143_37 (by decide) ?_
    refine o_bipush (v := 8) k143_39 (by decide) ?_
    refine o_iload_n k143_41 rfl ?_
    refine o_imul k143_42 ?_
    refine o_iadd k143_43 ?_
    refine o_iload_n k143_44 rfl ?_
    refine o_iadd k143_45 ?_
    refine o_aload_n k143_46 rfl ?_
    refine o_iconst (v := 0) k143_47 (by decide) ?_
    refine o_iconst (v := 2) k143_48 (by decide) ?_
    refine bd_i h (fun q6 hq6 h => ?_)
    refine o_call k143_49 pj_140 (fun _ => rfl) (by decide) rfl (as := [.ref 43, .int 0, .int 2]) (rest := [.int (((7 : Int32) + ((8 : Int32) * q1.1)) + q2.1), .ref 47]) rfl (L0 := [some (.ref 43), some (.int 0), some (.int 2), none]) rfl (t_X8_readNumber_43 hq6) ?_
    obtain ⟨hc7, h⟩ := ck_i h
    refine bl_i h (fun M8 eM8 h => ?_)
    refine o_iast (M' := M8) k143_52 eM8 ia_47 hc7 ?_
    have h9 := Option.some.inj h
    subst h9
    exact o_vret pj_143 k143_53 rfl
  refine o_icmp_le k143_19 (fun hc3 => ?_) (fun hc3 => ?_)
  · skip
    refine o_aload_n k143_26 rfl ?_
    refine o_gf k143_27 (gf_43_8 _) ?_
    exact hJ30 _ (by simp only [ev4, if_pos hc3])
  · skip
    refine o_iload_n k143_22 rfl ?_
    refine o_goto k143_23 ?_
    exact hJ30 _ (by simp only [ev4, if_neg hc3])
def f_X8_readLineOf_43 (a0 : Int32) (M : am_M) : Option am_M := (if a0 = 0 then ((f_X8_readNumber_43 1 8 M).bind (fun q1 => (bl (am_up q1.2 47 (0 : Int32).toNatClampNeg q1.1) (fun (M3 : am_M) => ((f_X8_readNumber_43 1 8 M3).bind (fun q4 => (bl (am_up q4.2 47 (1 : Int32).toNatClampNeg q4.1) (fun (M6 : am_M) => ((f_X8_readNumber_43 1 8 M6).bind (fun q7 => (bl (am_up q7.2 47 (2 : Int32).toNatClampNeg q7.1) (fun (M9 : am_M) => (some M9))))))))))))) else (if a0 = 1 then ((f_X8_readColumn_43 M).bind (fun q10 => (some q10))) else (if a0 = 2 then ((f_X8_readOuts_43 M).bind (fun q11 => (some q11))) else (if a0 = 3 then ((f_X8_readNumber_43 1 12 M).bind (fun q12 => (bl (am_up q12.2 47 (4 : Int32).toNatClampNeg q12.1) (fun (M14 : am_M) => ((f_X8_readNumber_43 0 4095 M14).bind (fun q15 => (bl (am_up q15.2 47 (5 : Int32).toNatClampNeg q15.1) (fun (M17 : am_M) => (some M17))))))))) else (if a0 = 4 then ((f_X8_readNumber_43 0 255 M).bind (fun q18 => (bl (am_up q18.2 47 (6 : Int32).toNatClampNeg q18.1) (fun (M20 : am_M) => (some M20))))) else ((f_X8_readCell_43 M).bind (fun q21 => (some q21))))))))
set_option maxRecDepth 20000 in
theorem t_X8_readLineOf_43 {LN : Nat} {xs : Nat → Int32} {a0 : Int32} {M : am_M} {t : am_M} (h : f_X8_readLineOf_43 a0 M = some t) : oo LN xs 0 0 146 0 [some (.ref 43), some (.int a0)] [] M (none, t) := by
  unfold f_X8_readLineOf_43 at h
  refine o_iload_n k146_0 rfl ?_
  by_cases hx1_0 : a0 = 0
  · rw [if_pos hx1_0] at h
    refine o_tswI (tgt := 36) (off := 35) k146_1 (by rw [hx1_0]; decide) (by rw [hx1_0]; decide) (by rw [hx1_0]; decide) (by decide) ?_
    refine o_aload_n k146_36 rfl ?_
    refine o_gf k146_37 (gf_43_3 _) ?_
    refine o_iconst (v := 0) k146_40 (by decide) ?_
    refine o_aload_n k146_41 rfl ?_
    refine o_iconst (v := 1) k146_42 (by decide) ?_
    refine o_bipush (v := 8) k146_43 (by decide) ?_
    refine bd_i h (fun q1 hq1 h => ?_)
    refine o_call k146_45 pj_140 (fun _ => rfl) (by decide) rfl (as := [.ref 43, .int 1, .int 8]) (rest := [.int 0, .ref 47]) rfl (L0 := [some (.ref 43), some (.int 1), some (.int 8), none]) rfl (t_X8_readNumber_43 hq1) ?_
    refine bl_i h (fun M3 eM3 h => ?_)
    refine o_iast (M' := M3) k146_48 eM3 ia_47 (by decide) ?_
    refine o_aload_n k146_49 rfl ?_
    refine o_gf k146_50 (gf_43_3 _) ?_
    refine o_iconst (v := 1) k146_53 (by decide) ?_
    refine o_aload_n k146_54 rfl ?_
    refine o_iconst (v := 1) k146_55 (by decide) ?_
    refine o_bipush (v := 8) k146_56 (by decide) ?_
    refine bd_i h (fun q4 hq4 h => ?_)
    refine o_call k146_58 pj_140 (fun _ => rfl) (by decide) rfl (as := [.ref 43, .int 1, .int 8]) (rest := [.int 1, .ref 47]) rfl (L0 := [some (.ref 43), some (.int 1), some (.int 8), none]) rfl (t_X8_readNumber_43 hq4) ?_
    refine bl_i h (fun M6 eM6 h => ?_)
    refine o_iast (M' := M6) k146_61 eM6 ia_47 (by decide) ?_
    refine o_aload_n k146_62 rfl ?_
    refine o_gf k146_63 (gf_43_3 _) ?_
    refine o_iconst (v := 2) k146_66 (by decide) ?_
    refine o_aload_n k146_67 rfl ?_
    refine o_iconst (v := 1) k146_68 (by decide) ?_
    refine o_bipush (v := 8) k146_69 (by decide) ?_
    refine bd_i h (fun q7 hq7 h => ?_)
    refine o_call k146_71 pj_140 (fun _ => rfl) (by decide) rfl (as := [.ref 43, .int 1, .int 8]) (rest := [.int 2, .ref 47]) rfl (L0 := [some (.ref 43), some (.int 1), some (.int 8), none]) rfl (t_X8_readNumber_43 hq7) ?_
    refine bl_i h (fun M9 eM9 h => ?_)
    refine o_iast (M' := M9) k146_74 eM9 ia_47 (by decide) ?_
    refine o_goto k146_75 ?_
    have h9 := Option.some.inj h
    subst h9
    exact o_vret pj_146 k146_144 rfl
  rw [if_neg hx1_0] at h
  by_cases hx1_1 : a0 = 1
  · rw [if_pos hx1_1] at h
    refine o_tswI (tgt := 78) (off := 77) k146_1 (by rw [hx1_1]; decide) (by rw [hx1_1]; decide) (by rw [hx1_1]; decide) (by decide) ?_
    refine o_aload_n k146_78 rfl ?_
    refine bd_i h (fun q10 hq10 h => ?_)
    refine o_call k146_79 pj_144 (fun _ => rfl) (by decide) rfl (as := [.ref 43]) (rest := []) rfl (L0 := [some (.ref 43), none]) rfl (t_X8_readColumn_43 hq10) ?_
    refine o_goto k146_82 ?_
    have h9 := Option.some.inj h
    subst h9
    exact o_vret pj_146 k146_144 rfl
  rw [if_neg hx1_1] at h
  by_cases hx1_2 : a0 = 2
  · rw [if_pos hx1_2] at h
    refine o_tswI (tgt := 85) (off := 84) k146_1 (by rw [hx1_2]; decide) (by rw [hx1_2]; decide) (by rw [hx1_2]; decide) (by decide) ?_
    refine o_aload_n k146_85 rfl ?_
    refine bd_i h (fun q11 hq11 h => ?_)
    refine o_call k146_86 pj_145 (fun _ => rfl) (by decide) rfl (as := [.ref 43]) (rest := []) rfl (L0 := [some (.ref 43)]) rfl (t_X8_readOuts_43 hq11) ?_
    refine o_goto k146_89 ?_
    have h9 := Option.some.inj h
    subst h9
    exact o_vret pj_146 k146_144 rfl
  rw [if_neg hx1_2] at h
  by_cases hx1_3 : a0 = 3
  · rw [if_pos hx1_3] at h
    refine o_tswI (tgt := 92) (off := 91) k146_1 (by rw [hx1_3]; decide) (by rw [hx1_3]; decide) (by rw [hx1_3]; decide) (by decide) ?_
    refine o_aload_n k146_92 rfl ?_
    refine o_gf k146_93 (gf_43_3 _) ?_
    refine o_iconst (v := 4) k146_96 (by decide) ?_
    refine o_aload_n k146_97 rfl ?_
    refine o_iconst (v := 1) k146_98 (by decide) ?_
    refine o_bipush (v := 12) k146_99 (by decide) ?_
    refine bd_i h (fun q12 hq12 h => ?_)
    refine o_call k146_101 pj_140 (fun _ => rfl) (by decide) rfl (as := [.ref 43, .int 1, .int 12]) (rest := [.int 4, .ref 47]) rfl (L0 := [some (.ref 43), some (.int 1), some (.int 12), none]) rfl (t_X8_readNumber_43 hq12) ?_
    refine bl_i h (fun M14 eM14 h => ?_)
    refine o_iast (M' := M14) k146_104 eM14 ia_47 (by decide) ?_
    refine o_aload_n k146_105 rfl ?_
    refine o_gf k146_106 (gf_43_3 _) ?_
    refine o_iconst (v := 5) k146_109 (by decide) ?_
    refine o_aload_n k146_110 rfl ?_
    refine o_iconst (v := 0) k146_111 (by decide) ?_
    refine o_sipush (v := 4095) k146_112 (by decide) ?_
    refine bd_i h (fun q15 hq15 h => ?_)
    refine o_call k146_115 pj_140 (fun _ => rfl) (by decide) rfl (as := [.ref 43, .int 0, .int 4095]) (rest := [.int 5, .ref 47]) rfl (L0 := [some (.ref 43), some (.int 0), some (.int 4095), none]) rfl (t_X8_readNumber_43 hq15) ?_
    refine bl_i h (fun M17 eM17 h => ?_)
    refine o_iast (M' := M17) k146_118 eM17 ia_47 (by decide) ?_
    refine o_goto k146_119 ?_
    have h9 := Option.some.inj h
    subst h9
    exact o_vret pj_146 k146_144 rfl
  rw [if_neg hx1_3] at h
  by_cases hx1_4 : a0 = 4
  · rw [if_pos hx1_4] at h
    refine o_tswI (tgt := 122) (off := 121) k146_1 (by rw [hx1_4]; decide) (by rw [hx1_4]; decide) (by rw [hx1_4]; decide) (by decide) ?_
    refine o_aload_n k146_122 rfl ?_
    refine o_gf k146_123 (gf_43_3 _) ?_
    refine o_bipush (v := 6) k146_126 (by decide) ?_
    refine o_aload_n k146_128 rfl ?_
    refine o_iconst (v := 0) k146_129 (by decide) ?_
    refine o_sipush (v := 255) k146_130 (by decide) ?_
    refine bd_i h (fun q18 hq18 h => ?_)
    refine o_call k146_133 pj_140 (fun _ => rfl) (by decide) rfl (as := [.ref 43, .int 0, .int 255]) (rest := [.int 6, .ref 47]) rfl (L0 := [some (.ref 43), some (.int 0), some (.int 255), none]) rfl (t_X8_readNumber_43 hq18) ?_
    refine bl_i h (fun M20 eM20 h => ?_)
    refine o_iast (M' := M20) k146_136 eM20 ia_47 (by decide) ?_
    refine o_goto k146_137 ?_
    have h9 := Option.some.inj h
    subst h9
    exact o_vret pj_146 k146_144 rfl
  rw [if_neg hx1_4] at h
  refine o_tswD (tgt := 140) k146_1 (by have n0 := ne_lit (k := 0) 0 (by decide) hx1_0; have n1 := ne_lit (k := 1) 1 (by decide) hx1_1; have n2 := ne_lit (k := 2) 2 (by decide) hx1_2; have n3 := ne_lit (k := 3) 3 (by decide) hx1_3; have n4 := ne_lit (k := 4) 4 (by decide) hx1_4; omega) (by decide) ?_
  refine o_aload_n k146_140 rfl ?_
  refine bd_i h (fun q21 hq21 h => ?_)
  refine o_call k146_141 pj_143 (fun _ => rfl) (by decide) rfl (as := [.ref 43]) (rest := []) rfl (L0 := [some (.ref 43), none, none]) rfl (t_X8_readCell_43 hq21) ?_
  have h9 := Option.some.inj h
  subst h9
  exact o_vret pj_146 k146_144 rfl
def f_X8_readLine_43 (M : am_M) : Option am_M := (bl (fun (v3 : Int32) => ((bl (if v3 = (-4) then 0 else 1) (fun (v5 : Int32) => ((f_X8_requires_43 v5 2 M).bind (fun q6 => (bl (if v3 = 0 then (if (q6 43 4) = 0 then 1 else 0) else 1) (fun (v9 : Int32) => ((f_X8_requires_43 v9 4 q6).bind (fun q10 => (bl (if v3 = 3 then (if (q10 43 5) = 0 then 1 else 0) else 1) (fun (v13 : Int32) => ((f_X8_requires_43 v13 4 q10).bind (fun q14 => (bl (if v3 = 4 then (if (q14 43 6) = 0 then 1 else 0) else 1) (fun (v17 : Int32) => ((f_X8_requires_43 v17 4 q14).bind (fun q18 => (bl (if (q18 43 4) = 0 then (if v3 = 0 then 1 else 0) else 1) (fun (v21 : Int32) => (if v21 = 0 ∨ v21 = 1 then (bl (am_up q18 43 4 v21) (fun (M22 : am_M) => (bl (if (M22 43 5) = 0 then (if v3 = 3 then 1 else 0) else 1) (fun (v26 : Int32) => (if v26 = 0 ∨ v26 = 1 then (bl (am_up M22 43 5 v26) (fun (M27 : am_M) => (bl (if (M27 43 6) = 0 then (if v3 = 4 then 1 else 0) else 1) (fun (v31 : Int32) => (if v31 = 0 ∨ v31 = 1 then (bl (am_up M27 43 6 v31) (fun (M32 : am_M) => ((f_X8_reads_43 M32).bind (fun q34 => (if (q34 43 17) ≤ 0 then ((f_X8_readLineOf_43 v3 q34).bind (fun q36 => (bl (fun (M41 : am_M) => (((f_X8_reads_43 M41).bind (fun q42 => (some q42))) : Option am_M)) (fun (j43 : am_M → Option am_M) => (if (q36 43 17) = 0 then (bl (if (q36 43 15) = 3 then 1 else 0) (fun (v39 : Int32) => ((f_X8_requires_43 v39 2 q36).bind (fun q40 => (j43 q40))))) else (j43 q36)))))) else (some q34)))))) else none))))) else none))))) else none))))))))))))))))))) : Option am_M)) (fun (j44 : Int32 → Option am_M) => (if (M 43 15) = 1 then ((f_X8_lineNow_43 M).bind (fun v2 => (j44 v2))) else (j44 (-4)))))
set_option maxRecDepth 20000 in
theorem t_X8_readLine_43 {LN : Nat} {xs : Nat → Int32} {M : am_M} {t : am_M} (h : f_X8_readLine_43 M = some t) : oo LN xs 0 0 147 0 [some (.ref 43), none] [] M (none, t) := by
  unfold f_X8_readLine_43 at h
  refine o_aload_n k147_0 rfl ?_
  refine o_gf k147_1 (gf_43_15 _) ?_
  refine o_iconst (v := 1) k147_4 (by decide) ?_
  refine bl_i h (fun j44 ej44 h => ?_)
  have hJ17 : ∀ (v3 : Int32), j44 v3 = some t → oo LN xs 0 0 147 17 [some (.ref 43), none] [.int v3] M (none, t) := by
    intro v3 h
    rw [ej44] at h
    dsimp only at h
    refine o_istore_n (v := v3) (L' := [some (.ref 43), some (.int v3)]) k147_17 rfl rfl ?_
    refine o_aload_n k147_18 rfl ?_
    refine o_iload_n k147_19 rfl ?_
    refine o_bipush (v := (-4)) k147_20 (by decide) ?_
    refine bl_i h (fun v5 ev5 h => ?_)
    have hJ30 : ∀ (yv5 : Int32), yv5 = v5 → oo LN xs 0 0 147 30 [some (.ref 43), some (.int v3)] [.int yv5, .ref 43] M (none, t) := by
      intro yv5 hyv5
      rw [hyv5]
      refine o_iconst (v := 2) k147_30 (by decide) ?_
      refine bd_i h (fun q6 hq6 h => ?_)
      refine o_call k147_31 pj_134 (fun _ => rfl) (by decide) rfl (as := [.ref 43, .int v5, .int 2]) (rest := []) rfl (L0 := [some (.ref 43), some (.int v5), some (.int 2)]) rfl (t_X8_requires_43 hq6) ?_
      refine o_aload_n k147_34 rfl ?_
      refine o_iload_n k147_35 rfl ?_
      refine bl_i h (fun v9 ev9 h => ?_)
      have hJ51 : ∀ (yv9 : Int32), yv9 = v9 → oo LN xs 0 0 147 51 [some (.ref 43), some (.int v3)] [.int yv9, .ref 43] q6 (none, t) := by
        intro yv9 hyv9
        rw [hyv9]
        refine o_iconst (v := 4) k147_51 (by decide) ?_
        refine bd_i h (fun q10 hq10 h => ?_)
        refine o_call k147_52 pj_134 (fun _ => rfl) (by decide) rfl (as := [.ref 43, .int v9, .int 4]) (rest := []) rfl (L0 := [some (.ref 43), some (.int v9), some (.int 4)]) rfl (t_X8_requires_43 hq10) ?_
        refine o_aload_n k147_55 rfl ?_
        refine o_iload_n k147_56 rfl ?_
        refine o_iconst (v := 3) k147_57 (by decide) ?_
        refine bl_i h (fun v13 ev13 h => ?_)
        have hJ73 : ∀ (yv13 : Int32), yv13 = v13 → oo LN xs 0 0 147 73 [some (.ref 43), some (.int v3)] [.int yv13, .ref 43] q10 (none, t) := by
          intro yv13 hyv13
          rw [hyv13]
          refine o_iconst (v := 4) k147_73 (by decide) ?_
          refine bd_i h (fun q14 hq14 h => ?_)
          refine o_call k147_74 pj_134 (fun _ => rfl) (by decide) rfl (as := [.ref 43, .int v13, .int 4]) (rest := []) rfl (L0 := [some (.ref 43), some (.int v13), some (.int 4)]) rfl (t_X8_requires_43 hq14) ?_
          refine o_aload_n k147_77 rfl ?_
          refine o_iload_n k147_78 rfl ?_
          refine o_iconst (v := 4) k147_79 (by decide) ?_
          refine bl_i h (fun v17 ev17 h => ?_)
          have hJ95 : ∀ (yv17 : Int32), yv17 = v17 → oo LN xs 0 0 147 95 [some (.ref 43), some (.int v3)] [.int yv17, .ref 43] q14 (none, t) := by
            intro yv17 hyv17
            rw [hyv17]
            refine o_iconst (v := 4) k147_95 (by decide) ?_
            refine bd_i h (fun q18 hq18 h => ?_)
            refine o_call k147_96 pj_134 (fun _ => rfl) (by decide) rfl (as := [.ref 43, .int v17, .int 4]) (rest := []) rfl (L0 := [some (.ref 43), some (.int v17), some (.int 4)]) rfl (t_X8_requires_43 hq18) ?_
            refine o_aload_n k147_99 rfl ?_
            refine o_aload_n k147_100 rfl ?_
            refine o_gf k147_101 (gf_43_4 _) ?_
            refine bl_i h (fun v21 ev21 h => ?_)
            have hJ116 : ∀ (yv21 : Int32), yv21 = v21 → oo LN xs 0 0 147 116 [some (.ref 43), some (.int v3)] [.int yv21, .ref 43] q18 (none, t) := by
              intro yv21 hyv21
              rw [hyv21]
              obtain ⟨hc23, h⟩ := ck_i h
              refine bl_i h (fun M22 eM22 h => ?_)
              refine o_pf (M' := M22) k147_116 (pf_43_4 hc23 eM22) ?_
              refine o_aload_n k147_119 rfl ?_
              refine o_aload_n k147_120 rfl ?_
              refine o_gf k147_121 (gf_43_5 _) ?_
              refine bl_i h (fun v26 ev26 h => ?_)
              have hJ137 : ∀ (yv26 : Int32), yv26 = v26 → oo LN xs 0 0 147 137 [some (.ref 43), some (.int v3)] [.int yv26, .ref 43] M22 (none, t) := by
                intro yv26 hyv26
                rw [hyv26]
                obtain ⟨hc28, h⟩ := ck_i h
                refine bl_i h (fun M27 eM27 h => ?_)
                refine o_pf (M' := M27) k147_137 (pf_43_5 hc28 eM27) ?_
                refine o_aload_n k147_140 rfl ?_
                refine o_aload_n k147_141 rfl ?_
                refine o_gf k147_142 (gf_43_6 _) ?_
                refine bl_i h (fun v31 ev31 h => ?_)
                have hJ158 : ∀ (yv31 : Int32), yv31 = v31 → oo LN xs 0 0 147 158 [some (.ref 43), some (.int v3)] [.int yv31, .ref 43] M27 (none, t) := by
                  intro yv31 hyv31
                  rw [hyv31]
                  obtain ⟨hc33, h⟩ := ck_i h
                  refine bl_i h (fun M32 eM32 h => ?_)
                  refine o_pf (M' := M32) k147_158 (pf_43_6 hc33 eM32) ?_
                  refine o_aload_n k147_161 rfl ?_
                  refine bd_i h (fun q34 hq34 h => ?_)
                  refine o_call k147_162 pj_139 (fun _ => rfl) (by decide) rfl (as := [.ref 43]) (rest := []) rfl (L0 := [some (.ref 43), none]) rfl (t_X8_reads_43 hq34) ?_
                  refine o_aload_n k147_165 rfl ?_
                  refine o_gf k147_166 (gf_43_17 _) ?_
                  refine o_if_le k147_169 (fun hc35 => ?_) (fun hc35 => ?_)
                  · rw [if_pos hc35] at h
                    refine o_aload_n k147_173 rfl ?_
                    refine o_iload_n k147_174 rfl ?_
                    refine bd_i h (fun q36 hq36 h => ?_)
                    refine o_call k147_175 pj_146 (fun _ => rfl) (by decide) rfl (as := [.ref 43, .int v3]) (rest := []) rfl (L0 := [some (.ref 43), some (.int v3)]) rfl (t_X8_readLineOf_43 hq36) ?_
                    refine o_aload_n k147_178 rfl ?_
                    refine o_gf k147_179 (gf_43_17 _) ?_
                    refine bl_i h (fun j43 ej43 h => ?_)
                    have hJ203 : ∀ (M41 : am_M), j43 M41 = some t → oo LN xs 0 0 147 203 [some (.ref 43), some (.int v3)] [] M41 (none, t) := by
                      intro M41 h
                      rw [ej43] at h
                      dsimp only at h
                      refine o_aload_n k147_203 rfl ?_
                      refine bd_i h (fun q42 hq42 h => ?_)
                      refine o_call k147_204 pj_139 (fun _ => rfl) (by decide) rfl (as := [.ref 43]) (rest := []) rfl (L0 := [some (.ref 43), none]) rfl (t_X8_reads_43 hq42) ?_
                      have h9 := Option.some.inj h
                      subst h9
                      exact o_vret pj_147 k147_207 rfl
                    refine o_if_ne k147_182 (fun hc37 => ?_) (fun hc37 => ?_)
                    · rw [if_neg hc37] at h
                      exact hJ203 _ h
                    · rw [if_pos hc37] at h
                      refine o_aload_n k147_185 rfl ?_
                      refine o_aload_n k147_186 rfl ?_
                      refine o_gf k147_187 (gf_43_15 _) ?_
                      refine o_iconst (v := 3) k147_190 (by decide) ?_
                      refine bl_i h (fun v39 ev39 h => ?_)
                      have hJ199 : ∀ (yv39 : Int32), yv39 = v39 → oo LN xs 0 0 147 199 [some (.ref 43), some (.int v3)] [.int yv39, .ref 43] q36 (none, t) := by
                        intro yv39 hyv39
                        rw [hyv39]
                        refine o_iconst (v := 2) k147_199 (by decide) ?_
                        refine bd_i h (fun q40 hq40 h => ?_)
                        refine o_call k147_200 pj_134 (fun _ => rfl) (by decide) rfl (as := [.ref 43, .int v39, .int 2]) (rest := []) rfl (L0 := [some (.ref 43), some (.int v39), some (.int 2)]) rfl (t_X8_requires_43 hq40) ?_
                        exact hJ203 _ h
                      refine o_icmp_ne k147_191 (fun hc38 => ?_) (fun hc38 => ?_)
                      · skip
                        refine o_iconst (v := 0) k147_198 (by decide) ?_
                        exact hJ199 _ (by simp only [ev39, if_neg hc38])
                      · skip
                        refine o_iconst (v := 1) k147_194 (by decide) ?_
                        refine o_goto k147_195 ?_
                        exact hJ199 _ (by simp only [ev39, if_pos hc38])
                  · rw [if_neg hc35] at h
                    have h9 := Option.some.inj h
                    subst h9
                    exact o_vret pj_147 k147_172 rfl
                refine o_if_ne k147_145 (fun hc29 => ?_) (fun hc29 => ?_)
                · skip
                  refine o_iconst (v := 1) k147_153 (by decide) ?_
                  refine o_goto k147_154 ?_
                  exact hJ158 _ (by simp only [ev31, if_neg hc29])
                · skip
                  refine o_iload_n k147_148 rfl ?_
                  refine o_iconst (v := 4) k147_149 (by decide) ?_
                  refine o_icmp_ne k147_150 (fun hc30 => ?_) (fun hc30 => ?_)
                  · skip
                    refine o_iconst (v := 0) k147_157 (by decide) ?_
                    exact hJ158 _ (by simp only [ev31, if_pos hc29, if_neg hc30])
                  · skip
                    refine o_iconst (v := 1) k147_153 (by decide) ?_
                    refine o_goto k147_154 ?_
                    exact hJ158 _ (by simp only [ev31, if_pos hc29, if_pos hc30])
              refine o_if_ne k147_124 (fun hc24 => ?_) (fun hc24 => ?_)
              · skip
                refine o_iconst (v := 1) k147_132 (by decide) ?_
                refine o_goto k147_133 ?_
                exact hJ137 _ (by simp only [ev26, if_neg hc24])
              · skip
                refine o_iload_n k147_127 rfl ?_
                refine o_iconst (v := 3) k147_128 (by decide) ?_
                refine o_icmp_ne k147_129 (fun hc25 => ?_) (fun hc25 => ?_)
                · skip
                  refine o_iconst (v := 0) k147_136 (by decide) ?_
                  exact hJ137 _ (by simp only [ev26, if_pos hc24, if_neg hc25])
                · skip
                  refine o_iconst (v := 1) k147_132 (by decide) ?_
                  refine o_goto k147_133 ?_
                  exact hJ137 _ (by simp only [ev26, if_pos hc24, if_pos hc25])
            refine o_if_ne k147_104 (fun hc19 => ?_) (fun hc19 => ?_)
            · skip
              refine o_iconst (v := 1) k147_111 (by decide) ?_
              refine o_goto k147_112 ?_
              exact hJ116 _ (by simp only [ev21, if_neg hc19])
            · skip
              refine o_iload_n k147_107 rfl ?_
              refine o_if_ne k147_108 (fun hc20 => ?_) (fun hc20 => ?_)
              · skip
                refine o_iconst (v := 0) k147_115 (by decide) ?_
                exact hJ116 _ (by simp only [ev21, if_pos hc19, if_neg hc20])
              · skip
                refine o_iconst (v := 1) k147_111 (by decide) ?_
                refine o_goto k147_112 ?_
                exact hJ116 _ (by simp only [ev21, if_pos hc19, if_pos hc20])
          refine o_icmp_ne k147_80 (fun hc15 => ?_) (fun hc15 => ?_)
          · skip
            refine o_iconst (v := 1) k147_90 (by decide) ?_
            refine o_goto k147_91 ?_
            exact hJ95 _ (by simp only [ev17, if_neg hc15])
          · skip
            refine o_aload_n k147_83 rfl ?_
            refine o_gf k147_84 (gf_43_6 _) ?_
            refine o_if_ne k147_87 (fun hc16 => ?_) (fun hc16 => ?_)
            · skip
              refine o_iconst (v := 0) k147_94 (by decide) ?_
              exact hJ95 _ (by simp only [ev17, if_pos hc15, if_neg hc16])
            · skip
              refine o_iconst (v := 1) k147_90 (by decide) ?_
              refine o_goto k147_91 ?_
              exact hJ95 _ (by simp only [ev17, if_pos hc15, if_pos hc16])
        refine o_icmp_ne k147_58 (fun hc11 => ?_) (fun hc11 => ?_)
        · skip
          refine o_iconst (v := 1) k147_68 (by decide) ?_
          refine o_goto k147_69 ?_
          exact hJ73 _ (by simp only [ev13, if_neg hc11])
        · skip
          refine o_aload_n k147_61 rfl ?_
          refine o_gf k147_62 (gf_43_5 _) ?_
          refine o_if_ne k147_65 (fun hc12 => ?_) (fun hc12 => ?_)
          · skip
            refine o_iconst (v := 0) k147_72 (by decide) ?_
            exact hJ73 _ (by simp only [ev13, if_pos hc11, if_neg hc12])
          · skip
            refine o_iconst (v := 1) k147_68 (by decide) ?_
            refine o_goto k147_69 ?_
            exact hJ73 _ (by simp only [ev13, if_pos hc11, if_pos hc12])
      refine o_if_ne k147_36 (fun hc7 => ?_) (fun hc7 => ?_)
      · skip
        refine o_iconst (v := 1) k147_46 (by decide) ?_
        refine o_goto k147_47 ?_
        exact hJ51 _ (by simp only [ev9, if_neg hc7])
      · skip
        refine o_aload_n k147_39 rfl ?_
        refine o_gf k147_40 (gf_43_4 _) ?_
        refine o_if_ne k147_43 (fun hc8 => ?_) (fun hc8 => ?_)
        · skip
          refine o_iconst (v := 0) k147_50 (by decide) ?_
          exact hJ51 _ (by simp only [ev9, if_pos hc7, if_neg hc8])
        · skip
          refine o_iconst (v := 1) k147_46 (by decide) ?_
          refine o_goto k147_47 ?_
          exact hJ51 _ (by simp only [ev9, if_pos hc7, if_pos hc8])
    refine o_icmp_eq k147_22 (fun hc4 => ?_) (fun hc4 => ?_)
    · skip
      refine o_iconst (v := 0) k147_29 (by decide) ?_
      exact hJ30 _ (by simp only [ev5, if_pos hc4])
    · skip
      refine o_iconst (v := 1) k147_25 (by decide) ?_
      refine o_goto k147_26 ?_
      exact hJ30 _ (by simp only [ev5, if_neg hc4])
  refine o_icmp_ne k147_5 (fun hc1 => ?_) (fun hc1 => ?_)
  · rw [if_neg hc1] at h
    refine o_bipush (v := (-4)) k147_15 (by decide) ?_
    exact hJ17 _ h
  · rw [if_pos hc1] at h
    refine o_aload_n k147_8 rfl ?_
    refine bd_i h (fun v2 hv2 h => ?_)
    refine o_call k147_9 pj_138 (fun _ => rfl) (by decide) rfl (as := [.ref 43]) (rest := []) rfl (L0 := [some (.ref 43)]) rfl (t_X8_lineNow_43 hv2) ?_
    refine o_goto k147_12 ?_
    exact hJ17 _ h
def f_X8_isWhole_43 (M : am_M) : Int32 := (bl (if (M 43 4) = 0 then (if (M 43 10) = 0 then 1 else 0) else 1) (fun (v3 : Int32) => (bl (if v3 = 0 then 0 else (if (M 47 (0 : Int32).toNatClampNeg) ≤ (M 43 7) then 0 else (if (M 47 (1 : Int32).toNatClampNeg) ≤ (M 43 8) then 0 else (if (M 47 (2 : Int32).toNatClampNeg) ≤ (M 43 9) then 0 else 1)))) (fun (v11 : Int32) => (bl (if v11 = 0 then 0 else (if ((M 47 (5 : Int32).toNatClampNeg) >>> ((M 47 (4 : Int32).toNatClampNeg) &&& 31)) = 0 then 1 else 0)) (fun (v16 : Int32) => (if v16 = 0 then 0 else (if (M 43 6) = 0 then 1 else (if ((M 47 (6 : Int32).toNatClampNeg) >>> ((M 47 (2 : Int32).toNatClampNeg) &&& 31)) = 0 then 1 else 0)))))))))
set_option maxRecDepth 20000 in
theorem t_X8_isWhole_43 {LN : Nat} {xs : Nat → Int32} {M : am_M} {t : Int32} (h : f_X8_isWhole_43 M = t) : oo LN xs 0 0 148 0 [some (.ref 43), none] [] M (some (.int t), M) := by
  unfold f_X8_isWhole_43 at h
  refine o_aload_n k148_0 rfl ?_
  refine o_gf k148_1 (gf_43_4 _) ?_
  refine bl_i h (fun v3 ev3 h => ?_)
  have hJ19 : ∀ (yv3 : Int32), yv3 = v3 → oo LN xs 0 0 148 19 [some (.ref 43), none] [.int yv3] M (some (.int t), M) := by
    intro yv3 hyv3
    rw [hyv3]
    refine o_istore_n (v := v3) (L' := [some (.ref 43), some (.int v3)]) k148_19 rfl rfl ?_
    refine o_iload_n k148_20 rfl ?_
    refine bl_i h (fun v11 ev11 h => ?_)
    have hJ68 : ∀ (yv11 : Int32), yv11 = v11 → oo LN xs 0 0 148 68 [some (.ref 43), some (.int v3)] [.int yv11] M (some (.int t), M) := by
      intro yv11 hyv11
      rw [hyv11]
      refine o_istore_n (v := v11) (L' := [some (.ref 43), some (.int v11)]) k148_68 rfl rfl ?_
      refine o_iload_n k148_69 rfl ?_
      refine bl_i h (fun v16 ev16 h => ?_)
      have hJ94 : ∀ (yv16 : Int32), yv16 = v16 → oo LN xs 0 0 148 94 [some (.ref 43), some (.int v11)] [.int yv16] M (some (.int t), M) := by
        intro yv16 hyv16
        rw [hyv16]
        refine o_istore_n (v := v16) (L' := [some (.ref 43), some (.int v16)]) k148_94 rfl rfl ?_
        refine o_iload_n k148_95 rfl ?_
        refine o_if_eq k148_96 (fun hc17 => ?_) (fun hc17 => ?_)
        · rw [if_pos hc17] at h
          refine o_iconst (v := 0) k148_127 (by decide) ?_
          subst h
          exact o_iret pj_148 k148_128 rfl (nr_z (by decide))
        · rw [if_neg hc17] at h
          refine o_aload_n k148_99 rfl ?_
          refine o_gf k148_100 (gf_43_6 _) ?_
          refine o_if_eq k148_103 (fun hc18 => ?_) (fun hc18 => ?_)
          · rw [if_pos hc18] at h
            refine o_iconst (v := 1) k148_123 (by decide) ?_
            refine o_goto k148_124 ?_
            subst h
            exact o_iret pj_148 k148_128 rfl (nr_z (by decide))
          · rw [if_neg hc18] at h
            refine o_aload_n k148_106 rfl ?_
            refine o_gf k148_107 (gf_43_3 _) ?_
            refine o_bipush (v := 6) k148_110 (by decide) ?_
            refine o_iald k148_112 rfl ia_47 (by decide) ?_
            refine o_aload_n k148_113 rfl ?_
            refine o_gf k148_114 (gf_43_3 _) ?_
            refine o_iconst (v := 2) k148_117 (by decide) ?_
            refine o_iald k148_118 rfl ia_47 (by decide) ?_
            refine o_ishr k148_119 ?_
            refine o_if_ne k148_120 (fun hc21 => ?_) (fun hc21 => ?_)
            · rw [if_neg hc21] at h
              refine o_iconst (v := 0) k148_127 (by decide) ?_
              subst h
              exact o_iret pj_148 k148_128 rfl (nr_z (by decide))
            · rw [if_pos hc21] at h
              refine o_iconst (v := 1) k148_123 (by decide) ?_
              refine o_goto k148_124 ?_
              subst h
              exact o_iret pj_148 k148_128 rfl (nr_z (by decide))
      refine o_if_eq k148_70 (fun hc12 => ?_) (fun hc12 => ?_)
      · skip
        refine o_iconst (v := 0) k148_93 (by decide) ?_
        exact hJ94 _ (by simp only [ev16, if_pos hc12])
      · skip
        refine o_aload_n k148_73 rfl ?_
        refine o_gf k148_74 (gf_43_3 _) ?_
        refine o_iconst (v := 5) k148_77 (by decide) ?_
        refine o_iald k148_78 rfl ia_47 (by decide) ?_
        refine o_aload_n k148_79 rfl ?_
        refine o_gf k148_80 (gf_43_3 _) ?_
        refine o_iconst (v := 4) k148_83 (by decide) ?_
        refine o_iald k148_84 rfl ia_47 (by decide) ?_
        refine o_ishr k148_85 ?_
        refine o_if_ne k148_86 (fun hc15 => ?_) (fun hc15 => ?_)
        · skip
          refine o_iconst (v := 0) k148_93 (by decide) ?_
          exact hJ94 _ (by simp only [ev16, if_neg hc12, if_neg hc15])
        · skip
          refine o_iconst (v := 1) k148_89 (by decide) ?_
          refine o_goto k148_90 ?_
          exact hJ94 _ (by simp only [ev16, if_neg hc12, if_pos hc15])
    refine o_if_eq k148_21 (fun hc4 => ?_) (fun hc4 => ?_)
    · skip
      refine o_iconst (v := 0) k148_67 (by decide) ?_
      exact hJ68 _ (by simp only [ev11, if_pos hc4])
    · skip
      refine o_aload_n k148_24 rfl ?_
      refine o_gf k148_25 (gf_43_7 _) ?_
      refine o_aload_n k148_28 rfl ?_
      refine o_gf k148_29 (gf_43_3 _) ?_
      refine o_iconst (v := 0) k148_32 (by decide) ?_
      refine o_iald k148_33 rfl ia_47 (by decide) ?_
      refine o_icmp_ge k148_34 (fun hc6 => ?_) (fun hc6 => ?_)
      · skip
        refine o_iconst (v := 0) k148_67 (by decide) ?_
        exact hJ68 _ (by simp only [ev11, if_neg hc4, if_pos hc6])
      · skip
        refine o_aload_n k148_37 rfl ?_
        refine o_gf k148_38 (gf_43_8 _) ?_
        refine o_aload_n k148_41 rfl ?_
        refine o_gf k148_42 (gf_43_3 _) ?_
        refine o_iconst (v := 1) k148_45 (by decide) ?_
        refine o_iald k148_46 rfl ia_47 (by decide) ?_
        refine o_icmp_ge k148_47 (fun hc8 => ?_) (fun hc8 => ?_)
        · skip
          refine o_iconst (v := 0) k148_67 (by decide) ?_
          exact hJ68 _ (by simp only [ev11, if_neg hc4, if_neg hc6, if_pos hc8])
        · skip
          refine o_aload_n k148_50 rfl ?_
          refine o_gf k148_51 (gf_43_9 _) ?_
          refine o_aload_n k148_54 rfl ?_
          refine o_gf k148_55 (gf_43_3 _) ?_
          refine o_iconst (v := 2) k148_58 (by decide) ?_
          refine o_iald k148_59 rfl ia_47 (by decide) ?_
          refine o_icmp_ge k148_60 (fun hc10 => ?_) (fun hc10 => ?_)
          · skip
            refine o_iconst (v := 0) k148_67 (by decide) ?_
            exact hJ68 _ (by simp only [ev11, if_neg hc4, if_neg hc6, if_neg hc8, if_pos hc10])
          · skip
            refine o_iconst (v := 1) k148_63 (by decide) ?_
            refine o_goto k148_64 ?_
            exact hJ68 _ (by simp only [ev11, if_neg hc4, if_neg hc6, if_neg hc8, if_neg hc10])
  refine o_if_ne k148_4 (fun hc1 => ?_) (fun hc1 => ?_)
  · skip
    refine o_iconst (v := 1) k148_14 (by decide) ?_
    refine o_goto k148_15 ?_
    exact hJ19 _ (by simp only [ev3, if_neg hc1])
  · skip
    refine o_aload_n k148_7 rfl ?_
    refine o_gf k148_8 (gf_43_10 _) ?_
    refine o_if_ne k148_11 (fun hc2 => ?_) (fun hc2 => ?_)
    · skip
      refine o_iconst (v := 0) k148_18 (by decide) ?_
      exact hJ19 _ (by simp only [ev3, if_pos hc1, if_neg hc2])
    · skip
      refine o_iconst (v := 1) k148_14 (by decide) ?_
      refine o_goto k148_15 ?_
      exact hJ19 _ (by simp only [ev3, if_pos hc1, if_pos hc2])
def f_X8_allSuspects (a0 : Int32) : Int32 := ((((1 : Int32) <<< (((2 : Int32) * a0) &&& 31)) - 1) ||| 65536)
set_option maxRecDepth 20000 in
theorem t_X8_allSuspects {LN : Nat} {xs : Nat → Int32} {a0 : Int32} {M : am_M} {t : Int32} (h : f_X8_allSuspects a0 = t) : oo LN xs 0 0 130 0 [some (.int a0)] [] M (some (.int t), M) := by
  unfold f_X8_allSuspects at h
  refine o_iconst (v := 1) k130_0 (by decide) ?_
  refine o_iconst (v := 2) k130_1 (by decide) ?_
  refine o_iload_n k130_2 rfl ?_
  refine o_imul k130_3 ?_
  refine o_ishl k130_4 ?_
  refine o_iconst (v := 1) k130_5 (by decide) ?_
  refine o_isub k130_6 ?_
  refine o_ldc k130_7 ?_
  refine o_ior k130_9 ?_
  subst h
  exact o_iret pj_130 k130_10 rfl nr_i
def f_X8_keepDraft_43 (M : am_M) : Option am_M := ((lp (σ := Int32 × am_M) (ρ := Int32 × am_M) (fun (s1 : Int32 × am_M) => match s1 with | (x2, M3) => (if 8 ≤ x2 then (some (.inr (x2, M3))) else (if am_dbin ((143 : Int32) + x2) 151 = true then (bl (am_up M3 47 ((143 : Int32) + x2).toNatClampNeg (f_X8_allSuspects (M3 47 (1 : Int32).toNatClampNeg))) (fun (M7 : am_M) => (some (.inl ((x2 + 1), M7))))) else none))) lp_F (0, M)).bind (fun (s8 : Int32 × am_M) => match s8 with | (x9, M10) => ((lp (σ := Int32 × am_M) (ρ := Int32 × am_M) (fun (s11 : Int32 × am_M) => match s11 with | (x12, M13) => (if 151 ≤ x12 then (some (.inr (x12, M13))) else (if am_dbin x12 151 = true then (if am_dbin x12 151 = true then (bl (am_up M13 44 x12.toNatClampNeg (M13 47 x12.toNatClampNeg)) (fun (M17 : am_M) => (some (.inl ((x12 + 1), M17))))) else none) else none))) lp_F (0, M10)).bind (fun (s18 : Int32 × am_M) => match s18 with | (x19, M20) => (bl (am_up M20 46 (0 : Int32).toNatClampNeg (vp_nar .boolean 0)) (fun (M22 : am_M) => (bl (am_up M22 46 (1 : Int32).toNatClampNeg (vp_nar .boolean 0)) (fun (M24 : am_M) => (some M24)))))))))
set_option maxRecDepth 20000 in
theorem t_X8_keepDraft_43 {LN : Nat} {xs : Nat → Int32} {M : am_M} {t : am_M} (h : f_X8_keepDraft_43 M = some t) : oo LN xs 0 0 131 0 [some (.ref 43), none] [] M (none, t) := by
  unfold f_X8_keepDraft_43 at h
  refine o_iconst (v := 0) k131_0 (by decide) ?_
  refine o_istore_n (v := 0) (L' := [some (.ref 43), some (.int 0)]) k131_1 rfl rfl ?_
  refine bd_i h (fun s8 hs8 h => ?_)
  refine lp_o (fun (s1 : Int32 × am_M) => match s1 with | (x2, M3) => oo LN xs 0 0 131 2 [some (.ref 43), some (.int x2)] [] M3 (none, t)) (fun (s8 : Int32 × am_M) => match s8 with | (x9, M10) => oo LN xs 0 0 131 33 [some (.ref 43), some (.int x9)] [] M10 (none, t)) ?_ hs8 ?_
  · rintro ⟨x2, M3⟩ ws1 h hK
    dsimp only at h
    show oo LN xs 0 0 131 2 [some (.ref 43), some (.int x2)] [] M3 (none, t)
    refine o_iload_n k131_2 rfl ?_
    refine o_bipush (v := 8) k131_3 (by decide) ?_
    refine o_icmp_ge k131_5 (fun hc4 => ?_) (fun hc4 => ?_)
    · rw [if_pos hc4] at h
      have h9 := Option.some.inj h
      subst h9
      exact hK
    · rw [if_neg hc4] at h
      refine o_aload_n k131_8 rfl ?_
      refine o_gf k131_9 (gf_43_3 _) ?_
      refine o_sipush (v := 143) k131_12 (by decide) ?_
      refine o_iload_n k131_15 rfl ?_
      refine o_iadd k131_16 ?_
      refine o_aload_n k131_17 rfl ?_
      refine o_gf k131_18 (gf_43_3 _) ?_
      refine o_iconst (v := 1) k131_21 (by decide) ?_
      refine o_iald k131_22 rfl ia_47 (by decide) ?_
      refine o_call k131_23 pj_130 (fun _ => rfl) (by decide) rfl (as := [.int (M3 47 (1 : Int32).toNatClampNeg)]) (rest := [.int ((143 : Int32) + x2), .ref 47]) rfl (L0 := [some (.int (M3 47 (1 : Int32).toNatClampNeg))]) rfl (t_X8_allSuspects (M := M3) (a0 := (M3 47 (1 : Int32).toNatClampNeg)) rfl) ?_
      obtain ⟨hc6, h⟩ := ck_i h
      refine bl_i h (fun M7 eM7 h => ?_)
      refine o_iast (M' := M7) k131_26 eM7 ia_47 hc6 ?_
      refine o_iinc (k := 1) (L' := [some (.ref 43), some (.int (x2 + 1))]) k131_27 rfl (by decide) rfl ?_
      refine o_goto k131_30 ?_
      have h9 := Option.some.inj h
      subst h9
      exact hK
  · obtain ⟨x9, M10⟩ := s8
    show oo LN xs 0 0 131 33 [some (.ref 43), some (.int x9)] [] M10 (none, t)
    dsimp only at h
    refine o_iconst (v := 0) k131_33 (by decide) ?_
    refine o_istore_n (v := 0) (L' := [some (.ref 43), some (.int 0)]) k131_34 rfl rfl ?_
    refine bd_i h (fun s18 hs18 h => ?_)
    refine lp_o (fun (s11 : Int32 × am_M) => match s11 with | (x12, M13) => oo LN xs 0 0 131 35 [some (.ref 43), some (.int x12)] [] M13 (none, t)) (fun (s18 : Int32 × am_M) => match s18 with | (x19, M20) => oo LN xs 0 0 131 60 [some (.ref 43), some (.int x19)] [] M20 (none, t)) ?_ hs18 ?_
    · rintro ⟨x12, M13⟩ ws11 h hK
      dsimp only at h
      show oo LN xs 0 0 131 35 [some (.ref 43), some (.int x12)] [] M13 (none, t)
      refine o_iload_n k131_35 rfl ?_
      refine o_sipush (v := 151) k131_36 (by decide) ?_
      refine o_icmp_ge k131_39 (fun hc14 => ?_) (fun hc14 => ?_)
      · rw [if_pos hc14] at h
        have h9 := Option.some.inj h
        subst h9
        exact hK
      · rw [if_neg hc14] at h
        refine o_aload_n k131_42 rfl ?_
        refine o_gf k131_43 (gf_43_0 _) ?_
        refine o_iload_n k131_46 rfl ?_
        refine o_aload_n k131_47 rfl ?_
        refine o_gf k131_48 (gf_43_3 _) ?_
        refine o_iload_n k131_51 rfl ?_
        obtain ⟨hc15, h⟩ := ck_i h
        refine o_iald k131_52 rfl ia_47 hc15 ?_
        obtain ⟨hc16, h⟩ := ck_i h
        refine bl_i h (fun M17 eM17 h => ?_)
        refine o_iast (M' := M17) k131_53 eM17 ia_44 hc16 ?_
        refine o_iinc (k := 1) (L' := [some (.ref 43), some (.int (x12 + 1))]) k131_54 rfl (by decide) rfl ?_
        refine o_goto k131_57 ?_
        have h9 := Option.some.inj h
        subst h9
        exact hK
    · obtain ⟨x19, M20⟩ := s18
      show oo LN xs 0 0 131 60 [some (.ref 43), some (.int x19)] [] M20 (none, t)
      dsimp only at h
      refine o_aload_n k131_60 rfl ?_
      refine o_gf k131_61 (gf_43_2 _) ?_
      refine o_iconst (v := 0) k131_64 (by decide) ?_
      refine o_iconst (v := 0) k131_65 (by decide) ?_
      refine bl_i h (fun M22 eM22 h => ?_)
      refine o_bast (M' := M22) k131_66 eM22 ba_46 (by decide) ?_
      refine o_aload_n k131_67 rfl ?_
      refine o_gf k131_68 (gf_43_2 _) ?_
      refine o_iconst (v := 1) k131_71 (by decide) ?_
      refine o_iconst (v := 0) k131_72 (by decide) ?_
      refine bl_i h (fun M24 eM24 h => ?_)
      refine o_bast (M' := M24) k131_73 eM24 ba_46 (by decide) ?_
      have h9 := Option.some.inj h
      subst h9
      exact o_vret pj_131 k131_74 rfl
def f_X8_text_43 (M : am_M) : Option (Int32 × am_M) := (bl (am_up M 43 17 0) (fun (M1 : am_M) => (bl (am_up M1 43 13 0) (fun (M2 : am_M) => ((f_X8_firstDraft_43 M2).bind (fun q3 => ((f_X8_reads_43 q3).bind (fun q4 => ((lp (σ := Int32 × am_M) (ρ := Int32 × am_M) (fun (s5 : Int32 × am_M) => match s5 with | (x6, M7) => (if (M7 43 17) = 0 then (if (M7 43 15) = 0 then (some (.inr (x6, M7))) else ((f_X8_readLine_43 M7).bind (fun q10 => (some (.inl ((x6 + 1), q10)))))) else (some (.inr (x6, M7))))) lp_F (0, q4)).bind (fun (s11 : Int32 × am_M) => match s11 with | (x12, M13) => (bl (fun (M16 : am_M) => ((bl (am_up M16 43 12 0) (fun (M17 : am_M) => (if (M17 43 17) ≤ 0 then ((f_X8_keepDraft_43 M17).bind (fun q19 => (some (x12, q19)))) else (some ((((-10) : Int32) - (M17 43 18)), M17))))) : Option (Int32 × am_M))) (fun (j20 : am_M → Option (Int32 × am_M)) => (if (M13 43 17) = 0 then ((f_X8_requires_43 (f_X8_isWhole_43 M13) 6 M13).bind (fun q15 => (j20 q15))) else (j20 M13))))))))))))))
set_option maxRecDepth 20000 in
theorem t_X8_text_43 {LN : Nat} {xs : Nat → Int32} {M : am_M} {t : Int32 × am_M} (h : f_X8_text_43 M = some t) : oo LN xs 0 0 149 0 [some (.ref 43), none] [] M (some (.int t.1), t.2) := by
  unfold f_X8_text_43 at h
  refine o_iconst (v := 0) k149_0 (by decide) ?_
  refine o_istore_n (v := 0) (L' := [some (.ref 43), some (.int 0)]) k149_1 rfl rfl ?_
  refine o_aload_n k149_2 rfl ?_
  refine o_iconst (v := 0) k149_3 (by decide) ?_
  refine bl_i h (fun M1 eM1 h => ?_)
  refine o_pf (M' := M1) k149_4 (pf_43_17 eM1) ?_
  refine o_aload_n k149_7 rfl ?_
  refine o_iconst (v := 0) k149_8 (by decide) ?_
  refine bl_i h (fun M2 eM2 h => ?_)
  refine o_pf (M' := M2) k149_9 (pf_43_13 eM2) ?_
  refine o_aload_n k149_12 rfl ?_
  refine bd_i h (fun q3 hq3 h => ?_)
  refine o_call k149_13 pj_129 (fun _ => rfl) (by decide) rfl (as := [.ref 43]) (rest := []) rfl (L0 := [some (.ref 43), none]) rfl (t_X8_firstDraft_43 hq3) ?_
  refine o_aload_n k149_16 rfl ?_
  refine bd_i h (fun q4 hq4 h => ?_)
  refine o_call k149_17 pj_139 (fun _ => rfl) (by decide) rfl (as := [.ref 43]) (rest := []) rfl (L0 := [some (.ref 43), none]) rfl (t_X8_reads_43 hq4) ?_
  refine bd_i h (fun s11 hs11 h => ?_)
  refine lp_o (fun (s5 : Int32 × am_M) => match s5 with | (x6, M7) => oo LN xs 0 0 149 20 [some (.ref 43), some (.int x6)] [] M7 (some (.int t.1), t.2)) (fun (s11 : Int32 × am_M) => match s11 with | (x12, M13) => oo LN xs 0 0 149 44 [some (.ref 43), some (.int x12)] [] M13 (some (.int t.1), t.2)) ?_ hs11 ?_
  · rintro ⟨x6, M7⟩ ws5 h hK
    dsimp only at h
    show oo LN xs 0 0 149 20 [some (.ref 43), some (.int x6)] [] M7 (some (.int t.1), t.2)
    refine o_aload_n k149_20 rfl ?_
    refine o_gf k149_21 (gf_43_17 _) ?_
    refine o_if_ne k149_24 (fun hc8 => ?_) (fun hc8 => ?_)
    · rw [if_neg hc8] at h
      have h9 := Option.some.inj h
      subst h9
      exact hK
    · rw [if_pos hc8] at h
      refine o_aload_n k149_27 rfl ?_
      refine o_gf k149_28 (gf_43_15 _) ?_
      refine o_if_eq k149_31 (fun hc9 => ?_) (fun hc9 => ?_)
      · rw [if_pos hc9] at h
        have h9 := Option.some.inj h
        subst h9
        exact hK
      · rw [if_neg hc9] at h
        refine o_aload_n k149_34 rfl ?_
        refine bd_i h (fun q10 hq10 h => ?_)
        refine o_call k149_35 pj_147 (fun _ => rfl) (by decide) rfl (as := [.ref 43]) (rest := []) rfl (L0 := [some (.ref 43), none]) rfl (t_X8_readLine_43 hq10) ?_
        refine o_iinc (k := 1) (L' := [some (.ref 43), some (.int (x6 + 1))]) k149_38 rfl (by decide) rfl ?_
        refine o_goto k149_41 ?_
        have h9 := Option.some.inj h
        subst h9
        exact hK
  · obtain ⟨x12, M13⟩ := s11
    show oo LN xs 0 0 149 44 [some (.ref 43), some (.int x12)] [] M13 (some (.int t.1), t.2)
    dsimp only at h
    refine o_aload_n k149_44 rfl ?_
    refine o_gf k149_45 (gf_43_17 _) ?_
    refine bl_i h (fun j20 ej20 h => ?_)
    have hJ61 : ∀ (M16 : am_M), j20 M16 = some t → oo LN xs 0 0 149 61 [some (.ref 43), some (.int x12)] [] M16 (some (.int t.1), t.2) := by
      intro M16 h
      rw [ej20] at h
      dsimp only at h
      refine o_aload_n k149_61 rfl ?_
      refine o_iconst (v := 0) k149_62 (by decide) ?_
      refine bl_i h (fun M17 eM17 h => ?_)
      refine o_pf (M' := M17) k149_63 (pf_43_12 eM17) ?_
      refine o_aload_n k149_66 rfl ?_
      refine o_gf k149_67 (gf_43_17 _) ?_
      refine o_if_le k149_70 (fun hc18 => ?_) (fun hc18 => ?_)
      · rw [if_pos hc18] at h
        refine o_aload_n k149_81 rfl ?_
        refine bd_i h (fun q19 hq19 h => ?_)
        refine o_call k149_82 pj_131 (fun _ => rfl) (by decide) rfl (as := [.ref 43]) (rest := []) rfl (L0 := [some (.ref 43), none]) rfl (t_X8_keepDraft_43 hq19) ?_
        refine o_iload_n k149_85 rfl ?_
        have h9 := Option.some.inj h
        subst h9
        exact o_iret pj_149 k149_86 rfl nr_i
      · rw [if_neg hc18] at h
        refine o_bipush (v := (-10)) k149_73 (by decide) ?_
        refine o_aload_n k149_75 rfl ?_
        refine o_gf k149_76 (gf_43_18 _) ?_
        refine o_isub k149_79 ?_
        have h9 := Option.some.inj h
        subst h9
        exact o_iret pj_149 k149_80 rfl nr_i
    refine o_if_ne k149_48 (fun hc14 => ?_) (fun hc14 => ?_)
    · rw [if_neg hc14] at h
      exact hJ61 _ h
    · rw [if_pos hc14] at h
      refine o_aload_n k149_51 rfl ?_
      refine o_aload_n k149_52 rfl ?_
      refine o_call k149_53 pj_148 (fun _ => rfl) (by decide) rfl (as := [.ref 43]) (rest := [.ref 43]) rfl (L0 := [some (.ref 43), none]) rfl (t_X8_isWhole_43 (M := M13) rfl) ?_
      refine o_bipush (v := 6) k149_56 (by decide) ?_
      refine bd_i h (fun q15 hq15 h => ?_)
      refine o_call k149_58 pj_134 (fun _ => rfl) (by decide) rfl (as := [.ref 43, .int (f_X8_isWhole_43 M13), .int 6]) (rest := []) rfl (L0 := [some (.ref 43), some (.int (f_X8_isWhole_43 M13)), some (.int 6)]) rfl (t_X8_requires_43 hq15) ?_
      exact hJ61 _ h
def f_X7_fault_0 (M : am_M) : Int32 := (M 0 1)
set_option maxRecDepth 20000 in
theorem t_X7_fault_0 {LN : Nat} {xs : Nat → Int32} {M : am_M} {t : Int32} (h : f_X7_fault_0 M = t) : oo LN xs 0 0 85 0 [some (.ref 0)] [] M (some (.int t), M) := by
  unfold f_X7_fault_0 at h
  refine o_aload_n k85_0 rfl ?_
  refine o_gf k85_1 (gf_0_1 _) ?_
  subst h
  exact o_iret pj_85 k85_4 rfl nr_i
def f_X8_fault_43 (M : am_M) : Int32 := (M 43 17)
set_option maxRecDepth 20000 in
theorem t_X8_fault_43 {LN : Nat} {xs : Nat → Int32} {M : am_M} {t : Int32} (h : f_X8_fault_43 M = t) : oo LN xs 0 0 150 0 [some (.ref 43)] [] M (some (.int t), M) := by
  unfold f_X8_fault_43 at h
  refine o_aload_n k150_0 rfl ?_
  refine o_gf k150_1 (gf_43_17 _) ?_
  subst h
  exact o_iret pj_150 k150_4 rfl nr_i
def f_X0_cellsWith_9 (a0 : Int32) (M : am_M) : Option Int32 := ((lp (σ := Int32 × Int32) (ρ := Int32 × Int32) (fun (s1 : Int32 × Int32) => match s1 with | (x2, x3) => (if (M 9 0) ≤ x3 then (some (.inr (x2, x3))) else ((lp (σ := Int32 × Int32) (ρ := Int32 × Int32) (fun (s6 : Int32 × Int32) => match s6 with | (x7, x8) => (if (M 9 1) ≤ x8 then (some (.inr (x7, x8))) else (if am_dbin (f_X0_at x3 x8) 64 = true then (if (M 10 (f_X0_at x3 x8).toNatClampNeg) = a0 then (some (.inl ((x7 + 1), (x8 + 1)))) else (some (.inl (x7, (x8 + 1))))) else none))) lp_F (x2, 0)).bind (fun (s12 : Int32 × Int32) => match s12 with | (x13, x14) => (some (.inl (x13, (x3 + 1)))))))) lp_F (0, 0)).bind (fun (s15 : Int32 × Int32) => match s15 with | (x16, x17) => (some x16)))
set_option maxRecDepth 20000 in
theorem t_X0_cellsWith_9 {LN : Nat} {xs : Nat → Int32} {a0 : Int32} {M : am_M} {t : Int32} (h : f_X0_cellsWith_9 a0 M = some t) : oo LN xs 0 0 13 0 [some (.ref 9), some (.int a0), none, none, none] [] M (some (.int t), M) := by
  unfold f_X0_cellsWith_9 at h
  refine o_iconst (v := 0) k13_0 (by decide) ?_
  refine o_istore_n (v := 0) (L' := [some (.ref 9), some (.int a0), some (.int 0), none, none]) k13_1 rfl rfl ?_
  refine o_iconst (v := 0) k13_2 (by decide) ?_
  refine o_istore_n (v := 0) (L' := [some (.ref 9), some (.int a0), some (.int 0), some (.int 0), none]) k13_3 rfl rfl ?_
  refine bd_i h (fun s15 hs15 h => ?_)
  refine lp_o (fun (s1 : Int32 × Int32) => match s1 with | (x2, x3) => ∀ (d4 : Option (Int32 ⊕ Int64)), oo LN xs 0 0 13 4 [some (.ref 9), some (.int a0), some (.int x2), some (.int x3), (d4.map dv)] [] M (some (.int t), M)) (fun (s15 : Int32 × Int32) => match s15 with | (x16, x17) => ∀ (d18 : Option (Int32 ⊕ Int64)), oo LN xs 0 0 13 54 [some (.ref 9), some (.int a0), some (.int x16), some (.int x17), (d18.map dv)] [] M (some (.int t), M)) ?_ hs15 ?_ none
  · rintro ⟨x2, x3⟩ ws1 h hK
    dsimp only at h
    show ∀ (d4 : Option (Int32 ⊕ Int64)), oo LN xs 0 0 13 4 [some (.ref 9), some (.int a0), some (.int x2), some (.int x3), (d4.map dv)] [] M (some (.int t), M)
    intro d4
    refine o_iload_n k13_4 rfl ?_
    refine o_aload_n k13_5 rfl ?_
    refine o_gf k13_6 (gf_9_0 _) ?_
    refine o_icmp_ge k13_9 (fun hc5 => ?_) (fun hc5 => ?_)
    · rw [if_pos hc5] at h
      have h9 := Option.some.inj h
      subst h9
      exact hK d4
    · rw [if_neg hc5] at h
      refine o_iconst (v := 0) k13_12 (by decide) ?_
      refine o_istore (v := 0) (L' := [some (.ref 9), some (.int a0), some (.int x2), some (.int x3), some (.int 0)]) k13_13 rfl rfl ?_
      refine bd_i h (fun s12 hs12 h => ?_)
      refine lp_o (fun (s6 : Int32 × Int32) => match s6 with | (x7, x8) => oo LN xs 0 0 13 15 [some (.ref 9), some (.int a0), some (.int x7), some (.int x3), some (.int x8)] [] M (some (.int t), M)) (fun (s12 : Int32 × Int32) => match s12 with | (x13, x14) => oo LN xs 0 0 13 48 [some (.ref 9), some (.int a0), some (.int x13), some (.int x3), some (.int x14)] [] M (some (.int t), M)) ?_ hs12 ?_
      · rintro ⟨x7, x8⟩ ws6 h hK
        dsimp only at h
        show oo LN xs 0 0 13 15 [some (.ref 9), some (.int a0), some (.int x7), some (.int x3), some (.int x8)] [] M (some (.int t), M)
        refine o_iload k13_15 rfl ?_
        refine o_aload_n k13_17 rfl ?_
        refine o_gf k13_18 (gf_9_1 _) ?_
        refine o_icmp_ge k13_21 (fun hc9 => ?_) (fun hc9 => ?_)
        · rw [if_pos hc9] at h
          have h9 := Option.some.inj h
          subst h9
          exact hK
        · rw [if_neg hc9] at h
          refine o_aload_n k13_24 rfl ?_
          refine o_gf k13_25 (gf_9_7 _) ?_
          refine o_iload_n k13_28 rfl ?_
          refine o_iload k13_29 rfl ?_
          refine o_call k13_31 pj_5 (fun _ => rfl) (by decide) rfl (as := [.int x3, .int x8]) (rest := [.ref 10]) rfl (L0 := [some (.int x3), some (.int x8)]) rfl (t_X0_at (M := M) (a0 := x3) (a1 := x8) rfl) ?_
          obtain ⟨hc10, h⟩ := ck_i h
          refine o_iald k13_34 rfl ia_10 hc10 ?_
          refine o_iload_n k13_35 rfl ?_
          refine o_icmp_ne k13_36 (fun hc11 => ?_) (fun hc11 => ?_)
          · rw [if_neg hc11] at h
            refine o_iinc (k := 1) (L' := [some (.ref 9), some (.int a0), some (.int x7), some (.int x3), some (.int (x8 + 1))]) k13_42 rfl (by decide) rfl ?_
            refine o_goto k13_45 ?_
            have h9 := Option.some.inj h
            subst h9
            exact hK
          · rw [if_pos hc11] at h
            refine o_iinc (k := 1) (L' := [some (.ref 9), some (.int a0), some (.int (x7 + 1)), some (.int x3), some (.int x8)]) k13_39 rfl (by decide) rfl ?_
            refine o_iinc (k := 1) (L' := [some (.ref 9), some (.int a0), some (.int (x7 + 1)), some (.int x3), some (.int (x8 + 1))]) k13_42 rfl (by decide) rfl ?_
            refine o_goto k13_45 ?_
            have h9 := Option.some.inj h
            subst h9
            exact hK
      · obtain ⟨x13, x14⟩ := s12
        show oo LN xs 0 0 13 48 [some (.ref 9), some (.int a0), some (.int x13), some (.int x3), some (.int x14)] [] M (some (.int t), M)
        dsimp only at h
        refine o_iinc (k := 1) (L' := [some (.ref 9), some (.int a0), some (.int x13), some (.int (x3 + 1)), some (.int x14)]) k13_48 rfl (by decide) rfl ?_
        refine o_goto k13_51 ?_
        have h9 := Option.some.inj h
        subst h9
        exact hK (some (.inl x14))
  · obtain ⟨x16, x17⟩ := s15
    show ∀ (d18 : Option (Int32 ⊕ Int64)), oo LN xs 0 0 13 54 [some (.ref 9), some (.int a0), some (.int x16), some (.int x17), (d18.map dv)] [] M (some (.int t), M)
    dsimp only at h
    intro d18
    refine o_iload_n k13_54 rfl ?_
    have h9 := Option.some.inj h
    subst h9
    exact o_iret pj_13 k13_55 rfl nr_i
def f_X7_rule_0 (a0 : Int32) (M : am_M) : Option Int32 := (if a0 = 0 then (some (M 9 0)) else (if a0 = 1 then (some (M 9 1)) else (if a0 = 2 then (some (M 9 2)) else (if a0 = 3 then (some (M 9 3)) else (if a0 = 4 then (some (M 9 4)) else (if a0 = 5 then (some (M 9 5)) else (if a0 = 6 then (some (M 9 6)) else (if a0 = 7 then ((f_X0_cellsWith_9 2 M).bind (fun v1 => (some v1))) else (some (-1))))))))))
set_option maxRecDepth 20000 in
theorem t_X7_rule_0 {LN : Nat} {xs : Nat → Int32} {a0 : Int32} {M : am_M} {t : Int32} (h : f_X7_rule_0 a0 M = some t) : oo LN xs 0 0 86 0 [some (.ref 0), some (.int a0)] [] M (some (.int t), M) := by
  unfold f_X7_rule_0 at h
  refine o_iload_n k86_0 rfl ?_
  by_cases hx1_0 : a0 = 0
  · rw [if_pos hx1_0] at h
    refine o_tswI (tgt := 48) (off := 47) k86_1 (by rw [hx1_0]; decide) (by rw [hx1_0]; decide) (by rw [hx1_0]; decide) (by decide) ?_
    refine o_aload_n k86_48 rfl ?_
    refine o_gf k86_49 (gf_0_2 _) ?_
    refine o_gf k86_52 (gf_9_0 _) ?_
    have h9 := Option.some.inj h
    subst h9
    exact o_iret pj_86 k86_55 rfl nr_i
  rw [if_neg hx1_0] at h
  by_cases hx1_1 : a0 = 1
  · rw [if_pos hx1_1] at h
    refine o_tswI (tgt := 56) (off := 55) k86_1 (by rw [hx1_1]; decide) (by rw [hx1_1]; decide) (by rw [hx1_1]; decide) (by decide) ?_
    refine o_aload_n k86_56 rfl ?_
    refine o_gf k86_57 (gf_0_2 _) ?_
    refine o_gf k86_60 (gf_9_1 _) ?_
    have h9 := Option.some.inj h
    subst h9
    exact o_iret pj_86 k86_63 rfl nr_i
  rw [if_neg hx1_1] at h
  by_cases hx1_2 : a0 = 2
  · rw [if_pos hx1_2] at h
    refine o_tswI (tgt := 64) (off := 63) k86_1 (by rw [hx1_2]; decide) (by rw [hx1_2]; decide) (by rw [hx1_2]; decide) (by decide) ?_
    refine o_aload_n k86_64 rfl ?_
    refine o_gf k86_65 (gf_0_2 _) ?_
    refine o_gf k86_68 (gf_9_2 _) ?_
    have h9 := Option.some.inj h
    subst h9
    exact o_iret pj_86 k86_71 rfl nr_i
  rw [if_neg hx1_2] at h
  by_cases hx1_3 : a0 = 3
  · rw [if_pos hx1_3] at h
    refine o_tswI (tgt := 72) (off := 71) k86_1 (by rw [hx1_3]; decide) (by rw [hx1_3]; decide) (by rw [hx1_3]; decide) (by decide) ?_
    refine o_aload_n k86_72 rfl ?_
    refine o_gf k86_73 (gf_0_2 _) ?_
    refine o_gf k86_76 (gf_9_3 _) ?_
    have h9 := Option.some.inj h
    subst h9
    exact o_iret pj_86 k86_79 rfl nr_i
  rw [if_neg hx1_3] at h
  by_cases hx1_4 : a0 = 4
  · rw [if_pos hx1_4] at h
    refine o_tswI (tgt := 80) (off := 79) k86_1 (by rw [hx1_4]; decide) (by rw [hx1_4]; decide) (by rw [hx1_4]; decide) (by decide) ?_
    refine o_aload_n k86_80 rfl ?_
    refine o_gf k86_81 (gf_0_2 _) ?_
    refine o_gf k86_84 (gf_9_4 _) ?_
    have h9 := Option.some.inj h
    subst h9
    exact o_iret pj_86 k86_87 rfl nr_i
  rw [if_neg hx1_4] at h
  by_cases hx1_5 : a0 = 5
  · rw [if_pos hx1_5] at h
    refine o_tswI (tgt := 88) (off := 87) k86_1 (by rw [hx1_5]; decide) (by rw [hx1_5]; decide) (by rw [hx1_5]; decide) (by decide) ?_
    refine o_aload_n k86_88 rfl ?_
    refine o_gf k86_89 (gf_0_2 _) ?_
    refine o_gf k86_92 (gf_9_5 _) ?_
    have h9 := Option.some.inj h
    subst h9
    exact o_iret pj_86 k86_95 rfl nr_i
  rw [if_neg hx1_5] at h
  by_cases hx1_6 : a0 = 6
  · rw [if_pos hx1_6] at h
    refine o_tswI (tgt := 96) (off := 95) k86_1 (by rw [hx1_6]; decide) (by rw [hx1_6]; decide) (by rw [hx1_6]; decide) (by decide) ?_
    refine o_aload_n k86_96 rfl ?_
    refine o_gf k86_97 (gf_0_2 _) ?_
    refine o_gf k86_100 (gf_9_6 _) ?_
    have h9 := Option.some.inj h
    subst h9
    exact o_iret pj_86 k86_103 rfl nr_i
  rw [if_neg hx1_6] at h
  by_cases hx1_7 : a0 = 7
  · rw [if_pos hx1_7] at h
    refine o_tswI (tgt := 104) (off := 103) k86_1 (by rw [hx1_7]; decide) (by rw [hx1_7]; decide) (by rw [hx1_7]; decide) (by decide) ?_
    refine o_aload_n k86_104 rfl ?_
    refine o_gf k86_105 (gf_0_2 _) ?_
    refine o_iconst (v := 2) k86_108 (by decide) ?_
    refine bd_i h (fun v1 hv1 h => ?_)
    refine o_call k86_109 pj_13 (fun _ => rfl) (by decide) rfl (as := [.ref 9, .int 2]) (rest := []) rfl (L0 := [some (.ref 9), some (.int 2), none, none, none]) rfl (t_X0_cellsWith_9 hv1) ?_
    have h9 := Option.some.inj h
    subst h9
    exact o_iret pj_86 k86_112 rfl nr_i
  rw [if_neg hx1_7] at h
  refine o_tswD (tgt := 113) k86_1 (by have n0 := ne_lit (k := 0) 0 (by decide) hx1_0; have n1 := ne_lit (k := 1) 1 (by decide) hx1_1; have n2 := ne_lit (k := 2) 2 (by decide) hx1_2; have n3 := ne_lit (k := 3) 3 (by decide) hx1_3; have n4 := ne_lit (k := 4) 4 (by decide) hx1_4; have n5 := ne_lit (k := 5) 5 (by decide) hx1_5; have n6 := ne_lit (k := 6) 6 (by decide) hx1_6; have n7 := ne_lit (k := 7) 7 (by decide) hx1_7; omega) (by decide) ?_
  refine o_iconst (v := (-1)) k86_113 (by decide) ?_
  have h9 := Option.some.inj h
  subst h9
  exact o_iret pj_86 k86_114 rfl nr_i
def f_X8_cellOf_43 (a0 : Int32) (a1 : Int32) (M : am_M) : Option Int32 := (if am_dbin (((7 : Int32) + ((8 : Int32) * a0)) + a1) 151 = true then (some (M 44 (((7 : Int32) + ((8 : Int32) * a0)) + a1).toNatClampNeg)) else none)
set_option maxRecDepth 20000 in
theorem t_X8_cellOf_43 {LN : Nat} {xs : Nat → Int32} {a0 : Int32} {a1 : Int32} {M : am_M} {t : Int32} (h : f_X8_cellOf_43 a0 a1 M = some t) : oo LN xs 0 0 154 0 [some (.ref 43), some (.int a0), some (.int a1)] [] M (some (.int t), M) := by
  unfold f_X8_cellOf_43 at h
  refine o_aload_n k154_0 rfl ?_
  refine o_gf k154_1 (gf_43_0 _) ?_
  refine o_bipush (v := 7) k154_4 (by decide) ?_
  refine o_bipush (v := 8) k154_6 (by decide) ?_
  refine o_iload_n k154_8 rfl ?_
  refine o_imul k154_9 ?_
  refine o_iadd k154_10 ?_
  refine o_iload_n k154_11 rfl ?_
  refine o_iadd k154_12 ?_
  obtain ⟨hc1, h⟩ := ck_i h
  refine o_iald k154_13 rfl ia_44 hc1 ?_
  have h9 := Option.some.inj h
  subst h9
  exact o_iret pj_154 k154_14 rfl nr_i
def f_X8_flag (a0 : Int32) : Int32 := (if a0 = 0 then 0 else 1)
set_option maxRecDepth 20000 in
theorem t_X8_flag {LN : Nat} {xs : Nat → Int32} {a0 : Int32} {M : am_M} {t : Int32} (h : f_X8_flag a0 = t) : oo LN xs 0 0 126 0 [some (.int a0)] [] M (some (.int t), M) := by
  unfold f_X8_flag at h
  refine o_iload_n k126_0 rfl ?_
  refine o_if_eq k126_1 (fun hc1 => ?_) (fun hc1 => ?_)
  · rw [if_pos hc1] at h
    refine o_iconst (v := 0) k126_8 (by decide) ?_
    subst h
    exact o_iret pj_126 k126_9 rfl nr_i
  · rw [if_neg hc1] at h
    refine o_iconst (v := 1) k126_4 (by decide) ?_
    refine o_goto k126_5 ?_
    subst h
    exact o_iret pj_126 k126_9 rfl nr_i
def f_X8_cellsOf_43 (a0 : Int32) (M : am_M) : Option Int32 := ((lp (σ := Int32 × Int32) (ρ := Int32 × Int32) (fun (s1 : Int32 × Int32) => match s1 with | (x2, x3) => (if (M 44 (0 : Int32).toNatClampNeg) ≤ x3 then (some (.inr (x2, x3))) else ((lp (σ := Int32 × Int32) (ρ := Int32 × Int32) (fun (s7 : Int32 × Int32) => match s7 with | (x8, x9) => (if (M 44 (1 : Int32).toNatClampNeg) ≤ x9 then (some (.inr (x8, x9))) else ((f_X8_cellOf_43 x3 x9 M).bind (fun v12 => (bl (if v12 = a0 then 1 else 0) (fun (v14 : Int32) => (some (.inl ((x8 + (f_X8_flag v14)), (x9 + 1)))))))))) lp_F (x2, 0)).bind (fun (s15 : Int32 × Int32) => match s15 with | (x16, x17) => (some (.inl (x16, (x3 + 1)))))))) lp_F (0, 0)).bind (fun (s18 : Int32 × Int32) => match s18 with | (x19, x20) => (some x19)))
set_option maxRecDepth 20000 in
theorem t_X8_cellsOf_43 {LN : Nat} {xs : Nat → Int32} {a0 : Int32} {M : am_M} {t : Int32} (h : f_X8_cellsOf_43 a0 M = some t) : oo LN xs 0 0 157 0 [some (.ref 43), some (.int a0), none, none, none] [] M (some (.int t), M) := by
  unfold f_X8_cellsOf_43 at h
  refine o_iconst (v := 0) k157_0 (by decide) ?_
  refine o_istore_n (v := 0) (L' := [some (.ref 43), some (.int a0), some (.int 0), none, none]) k157_1 rfl rfl ?_
  refine o_iconst (v := 0) k157_2 (by decide) ?_
  refine o_istore_n (v := 0) (L' := [some (.ref 43), some (.int a0), some (.int 0), some (.int 0), none]) k157_3 rfl rfl ?_
  refine bd_i h (fun s18 hs18 h => ?_)
  refine lp_o (fun (s1 : Int32 × Int32) => match s1 with | (x2, x3) => ∀ (d4 : Option (Int32 ⊕ Int64)), oo LN xs 0 0 157 4 [some (.ref 43), some (.int a0), some (.int x2), some (.int x3), (d4.map dv)] [] M (some (.int t), M)) (fun (s18 : Int32 × Int32) => match s18 with | (x19, x20) => ∀ (d21 : Option (Int32 ⊕ Int64)), oo LN xs 0 0 157 62 [some (.ref 43), some (.int a0), some (.int x19), some (.int x20), (d21.map dv)] [] M (some (.int t), M)) ?_ hs18 ?_ none
  · rintro ⟨x2, x3⟩ ws1 h hK
    dsimp only at h
    show ∀ (d4 : Option (Int32 ⊕ Int64)), oo LN xs 0 0 157 4 [some (.ref 43), some (.int a0), some (.int x2), some (.int x3), (d4.map dv)] [] M (some (.int t), M)
    intro d4
    refine o_iload_n k157_4 rfl ?_
    refine o_aload_n k157_5 rfl ?_
    refine o_gf k157_6 (gf_43_0 _) ?_
    refine o_iconst (v := 0) k157_9 (by decide) ?_
    refine o_iald k157_10 rfl ia_44 (by decide) ?_
    refine o_icmp_ge k157_11 (fun hc6 => ?_) (fun hc6 => ?_)
    · rw [if_pos hc6] at h
      have h9 := Option.some.inj h
      subst h9
      exact hK d4
    · rw [if_neg hc6] at h
      refine o_iconst (v := 0) k157_14 (by decide) ?_
      refine o_istore (v := 0) (L' := [some (.ref 43), some (.int a0), some (.int x2), some (.int x3), some (.int 0)]) k157_15 rfl rfl ?_
      refine bd_i h (fun s15 hs15 h => ?_)
      refine lp_o (fun (s7 : Int32 × Int32) => match s7 with | (x8, x9) => oo LN xs 0 0 157 17 [some (.ref 43), some (.int a0), some (.int x8), some (.int x3), some (.int x9)] [] M (some (.int t), M)) (fun (s15 : Int32 × Int32) => match s15 with | (x16, x17) => oo LN xs 0 0 157 56 [some (.ref 43), some (.int a0), some (.int x16), some (.int x3), some (.int x17)] [] M (some (.int t), M)) ?_ hs15 ?_
      · rintro ⟨x8, x9⟩ ws7 h hK
        dsimp only at h
        show oo LN xs 0 0 157 17 [some (.ref 43), some (.int a0), some (.int x8), some (.int x3), some (.int x9)] [] M (some (.int t), M)
        refine o_iload k157_17 rfl ?_
        refine o_aload_n k157_19 rfl ?_
        refine o_gf k157_20 (gf_43_0 _) ?_
        refine o_iconst (v := 1) k157_23 (by decide) ?_
        refine o_iald k157_24 rfl ia_44 (by decide) ?_
        refine o_icmp_ge k157_25 (fun hc11 => ?_) (fun hc11 => ?_)
        · rw [if_pos hc11] at h
          have h9 := Option.some.inj h
          subst h9
          exact hK
        · rw [if_neg hc11] at h
          refine o_iload_n k157_28 rfl ?_
          refine o_aload_n k157_29 rfl ?_
          refine o_iload_n k157_30 rfl ?_
          refine o_iload k157_31 rfl ?_
          refine bd_i h (fun v12 hv12 h => ?_)
          refine o_call k157_33 pj_154 (fun _ => rfl) (by decide) rfl (as := [.ref 43, .int x3, .int x9]) (rest := [.int x8]) rfl (L0 := [some (.ref 43), some (.int x3), some (.int x9)]) rfl (t_X8_cellOf_43 hv12) ?_
          refine o_iload_n k157_36 rfl ?_
          refine bl_i h (fun v14 ev14 h => ?_)
          have hJ45 : ∀ (yv14 : Int32), yv14 = v14 → oo LN xs 0 0 157 45 [some (.ref 43), some (.int a0), some (.int x8), some (.int x3), some (.int x9)] [.int yv14, .int x8] M (some (.int t), M) := by
            intro yv14 hyv14
            rw [hyv14]
            refine o_call k157_45 pj_126 (fun _ => rfl) (by decide) rfl (as := [.int v14]) (rest := [.int x8]) rfl (L0 := [some (.int v14)]) rfl (t_X8_flag (M := M) (a0 := v14) rfl) ?_
            refine o_iadd k157_48 ?_
            refine o_istore_n (v := (x8 + (f_X8_flag v14))) (L' := [some (.ref 43), some (.int a0), some (.int (x8 + (f_X8_flag v14))), some (.int x3), some (.int x9)]) k157_49 rfl rfl ?_
            refine o_iinc (k := 1) (L' := [some (.ref 43), some (.int a0), some (.int (x8 + (f_X8_flag v14))), some (.int x3), some (.int (x9 + 1))]) k157_50 rfl (by decide) rfl ?_
            refine o_goto k157_53 ?_
            have h9 := Option.some.inj h
            subst h9
            exact hK
          refine o_icmp_ne k157_37 (fun hc13 => ?_) (fun hc13 => ?_)
          · skip
            refine o_iconst (v := 0) k157_44 (by decide) ?_
            exact hJ45 _ (by simp only [ev14, if_neg hc13])
          · skip
            refine o_iconst (v := 1) k157_40 (by decide) ?_
            refine o_goto k157_41 ?_
            exact hJ45 _ (by simp only [ev14, if_pos hc13])
      · obtain ⟨x16, x17⟩ := s15
        show oo LN xs 0 0 157 56 [some (.ref 43), some (.int a0), some (.int x16), some (.int x3), some (.int x17)] [] M (some (.int t), M)
        dsimp only at h
        refine o_iinc (k := 1) (L' := [some (.ref 43), some (.int a0), some (.int x16), some (.int (x3 + 1)), some (.int x17)]) k157_56 rfl (by decide) rfl ?_
        refine o_goto k157_59 ?_
        have h9 := Option.some.inj h
        subst h9
        exact hK (some (.inl x17))
  · obtain ⟨x19, x20⟩ := s18
    show ∀ (d21 : Option (Int32 ⊕ Int64)), oo LN xs 0 0 157 62 [some (.ref 43), some (.int a0), some (.int x19), some (.int x20), (d21.map dv)] [] M (some (.int t), M)
    dsimp only at h
    intro d21
    refine o_iload_n k157_62 rfl ?_
    have h9 := Option.some.inj h
    subst h9
    exact o_iret pj_157 k157_63 rfl nr_i
def f_X8_rule_43 (a0 : Int32) (M : am_M) : Option Int32 := (if (f_X8_in a0.toInt64 0 6) = 0 then (if a0 = 7 then ((f_X8_cellsOf_43 2 M).bind (fun v3 => (some v3))) else (some (-1))) else (if am_dbin a0 151 = true then (some (M 44 a0.toNatClampNeg)) else none))
set_option maxRecDepth 20000 in
theorem t_X8_rule_43 {LN : Nat} {xs : Nat → Int32} {a0 : Int32} {M : am_M} {t : Int32} (h : f_X8_rule_43 a0 M = some t) : oo LN xs 0 0 158 0 [some (.ref 43), some (.int a0)] [] M (some (.int t), M) := by
  unfold f_X8_rule_43 at h
  refine o_iload_n k158_0 rfl ?_
  refine o_i2l k158_1 ?_
  refine o_lconst (v := 0) k158_2 (by decide) ?_
  refine o_ldc2_w k158_3 ?_
  refine o_call k158_6 pj_125 (fun _ => rfl) (by decide) rfl (as := [.long a0.toInt64, .long 0, .long 6]) (rest := []) rfl (L0 := [some (.long a0.toInt64), none, some (.long 0), none, some (.long 6), none]) rfl (t_X8_in (M := M) (a0 := a0.toInt64) (a1 := 0) (a2 := 6) rfl) ?_
  refine o_if_eq k158_9 (fun hc1 => ?_) (fun hc1 => ?_)
  · rw [if_pos hc1] at h
    refine o_iload_n k158_21 rfl ?_
    refine o_bipush (v := 7) k158_22 (by decide) ?_
    refine o_icmp_ne k158_24 (fun hc2 => ?_) (fun hc2 => ?_)
    · rw [if_neg hc2] at h
      refine o_iconst (v := (-1)) k158_35 (by decide) ?_
      have h9 := Option.some.inj h
      subst h9
      exact o_iret pj_158 k158_36 rfl nr_i
    · rw [if_pos hc2] at h
      refine o_aload_n k158_27 rfl ?_
      refine o_iconst (v := 2) k158_28 (by decide) ?_
      refine bd_i h (fun v3 hv3 h => ?_)
      refine o_call k158_29 pj_157 (fun _ => rfl) (by decide) rfl (as := [.ref 43, .int 2]) (rest := []) rfl (L0 := [some (.ref 43), some (.int 2), none, none, none]) rfl (t_X8_cellsOf_43 hv3) ?_
      refine o_goto k158_32 ?_
      have h9 := Option.some.inj h
      subst h9
      exact o_iret pj_158 k158_36 rfl nr_i
  · rw [if_neg hc1] at h
    refine o_aload_n k158_12 rfl ?_
    refine o_gf k158_13 (gf_43_0 _) ?_
    refine o_iload_n k158_16 rfl ?_
    obtain ⟨hc4, h⟩ := ck_i h
    refine o_iald k158_17 rfl ia_44 hc4 ?_
    refine o_goto k158_18 ?_
    have h9 := Option.some.inj h
    subst h9
    exact o_iret pj_158 k158_36 rfl nr_i
def f_X0_hasChain_9 (a0 : Int32) (M : am_M) : Int32 := (if a0 < 0 then 0 else (if (M 9 0) ≤ a0 then 0 else 1))
set_option maxRecDepth 20000 in
theorem t_X0_hasChain_9 {LN : Nat} {xs : Nat → Int32} {a0 : Int32} {M : am_M} {t : Int32} (h : f_X0_hasChain_9 a0 M = t) : oo LN xs 0 0 7 0 [some (.ref 9), some (.int a0)] [] M (some (.int t), M) := by
  unfold f_X0_hasChain_9 at h
  refine o_iload_n k7_0 rfl ?_
  refine o_if_lt k7_1 (fun hc1 => ?_) (fun hc1 => ?_)
  · rw [if_pos hc1] at h
    refine o_iconst (v := 0) k7_16 (by decide) ?_
    subst h
    exact o_iret pj_7 k7_17 rfl (nr_z (by decide))
  · rw [if_neg hc1] at h
    refine o_iload_n k7_4 rfl ?_
    refine o_aload_n k7_5 rfl ?_
    refine o_gf k7_6 (gf_9_0 _) ?_
    refine o_icmp_ge k7_9 (fun hc2 => ?_) (fun hc2 => ?_)
    · rw [if_pos hc2] at h
      refine o_iconst (v := 0) k7_16 (by decide) ?_
      subst h
      exact o_iret pj_7 k7_17 rfl (nr_z (by decide))
    · rw [if_neg hc2] at h
      refine o_iconst (v := 1) k7_12 (by decide) ?_
      refine o_goto k7_13 ?_
      subst h
      exact o_iret pj_7 k7_17 rfl (nr_z (by decide))
def f_X0_hasCell_9 (a0 : Int32) (a1 : Int32) (M : am_M) : Int32 := (if (f_X0_hasChain_9 a0 M) = 0 then 0 else (if a1 < 0 then 0 else (if (M 9 1) ≤ a1 then 0 else 1)))
set_option maxRecDepth 20000 in
theorem t_X0_hasCell_9 {LN : Nat} {xs : Nat → Int32} {a0 : Int32} {a1 : Int32} {M : am_M} {t : Int32} (h : f_X0_hasCell_9 a0 a1 M = t) : oo LN xs 0 0 8 0 [some (.ref 9), some (.int a0), some (.int a1)] [] M (some (.int t), M) := by
  unfold f_X0_hasCell_9 at h
  refine o_aload_n k8_0 rfl ?_
  refine o_iload_n k8_1 rfl ?_
  refine o_call k8_2 pj_7 (fun _ => rfl) (by decide) rfl (as := [.ref 9, .int a0]) (rest := []) rfl (L0 := [some (.ref 9), some (.int a0)]) rfl (t_X0_hasChain_9 (M := M) (a0 := a0) rfl) ?_
  refine o_if_eq k8_5 (fun hc1 => ?_) (fun hc1 => ?_)
  · rw [if_pos hc1] at h
    refine o_iconst (v := 0) k8_24 (by decide) ?_
    subst h
    exact o_iret pj_8 k8_25 rfl (nr_z (by decide))
  · rw [if_neg hc1] at h
    refine o_iload_n k8_8 rfl ?_
    refine o_if_lt k8_9 (fun hc2 => ?_) (fun hc2 => ?_)
    · rw [if_pos hc2] at h
      refine o_iconst (v := 0) k8_24 (by decide) ?_
      subst h
      exact o_iret pj_8 k8_25 rfl (nr_z (by decide))
    · rw [if_neg hc2] at h
      refine o_iload_n k8_12 rfl ?_
      refine o_aload_n k8_13 rfl ?_
      refine o_gf k8_14 (gf_9_1 _) ?_
      refine o_icmp_ge k8_17 (fun hc3 => ?_) (fun hc3 => ?_)
      · rw [if_pos hc3] at h
        refine o_iconst (v := 0) k8_24 (by decide) ?_
        subst h
        exact o_iret pj_8 k8_25 rfl (nr_z (by decide))
      · rw [if_neg hc3] at h
        refine o_iconst (v := 1) k8_20 (by decide) ?_
        refine o_goto k8_21 ?_
        subst h
        exact o_iret pj_8 k8_25 rfl (nr_z (by decide))
def f_X0_isIn (a0 : Int32) (a1 : Int32) : Int32 := (if ((a1 >>> (a0 &&& 31)) &&& 1) = 1 then 1 else 0)
set_option maxRecDepth 20000 in
theorem t_X0_isIn {LN : Nat} {xs : Nat → Int32} {a0 : Int32} {a1 : Int32} {M : am_M} {t : Int32} (h : f_X0_isIn a0 a1 = t) : oo LN xs 0 0 6 0 [some (.int a0), some (.int a1)] [] M (some (.int t), M) := by
  unfold f_X0_isIn at h
  refine o_iload_n k6_0 rfl ?_
  refine o_iload_n k6_1 rfl ?_
  refine o_ishr k6_2 ?_
  refine o_iconst (v := 1) k6_3 (by decide) ?_
  refine o_iand k6_4 ?_
  refine o_iconst (v := 1) k6_5 (by decide) ?_
  refine o_icmp_ne k6_6 (fun hc1 => ?_) (fun hc1 => ?_)
  · rw [if_neg hc1] at h
    refine o_iconst (v := 0) k6_13 (by decide) ?_
    subst h
    exact o_iret pj_6 k6_14 rfl (nr_z (by decide))
  · rw [if_pos hc1] at h
    refine o_iconst (v := 1) k6_9 (by decide) ?_
    refine o_goto k6_10 ?_
    subst h
    exact o_iret pj_6 k6_14 rfl (nr_z (by decide))
def f_X0_blurred_9 (a0 : Int32) (a1 : Int32) (M : am_M) : Option Int32 := ((lp (σ := Int32 × Int32) (ρ := Int32 × Int32) (fun (s1 : Int32 × Int32) => match s1 with | (x2, x3) => (if (M 9 0) ≤ x3 then (some (.inr (x2, x3))) else (if (f_X0_isIn x3 a1) = 0 then (if am_dbin (f_X0_at x3 a0) 64 = true then (if (M 10 (f_X0_at x3 a0).toNatClampNeg) = 2 then (if am_dbin x3 8 = true then (some (.inl ((x2 ||| (M 12 x3.toNatClampNeg)), (x3 + 1)))) else none) else (some (.inl (x2, (x3 + 1))))) else none) else (some (.inl (x2, (x3 + 1))))))) lp_F (0, 0)).bind (fun (s9 : Int32 × Int32) => match s9 with | (x10, x11) => (some x10)))
set_option maxRecDepth 20000 in
theorem t_X0_blurred_9 {LN : Nat} {xs : Nat → Int32} {a0 : Int32} {a1 : Int32} {M : am_M} {t : Int32} (h : f_X0_blurred_9 a0 a1 M = some t) : oo LN xs 0 0 17 0 [some (.ref 9), some (.int a0), some (.int a1), none, none] [] M (some (.int t), M) := by
  unfold f_X0_blurred_9 at h
  refine o_iconst (v := 0) k17_0 (by decide) ?_
  refine o_istore_n (v := 0) (L' := [some (.ref 9), some (.int a0), some (.int a1), some (.int 0), none]) k17_1 rfl rfl ?_
  refine o_iconst (v := 0) k17_2 (by decide) ?_
  refine o_istore (v := 0) (L' := [some (.ref 9), some (.int a0), some (.int a1), some (.int 0), some (.int 0)]) k17_3 rfl rfl ?_
  refine bd_i h (fun s9 hs9 h => ?_)
  refine lp_o (fun (s1 : Int32 × Int32) => match s1 with | (x2, x3) => oo LN xs 0 0 17 5 [some (.ref 9), some (.int a0), some (.int a1), some (.int x2), some (.int x3)] [] M (some (.int t), M)) (fun (s9 : Int32 × Int32) => match s9 with | (x10, x11) => oo LN xs 0 0 17 54 [some (.ref 9), some (.int a0), some (.int a1), some (.int x10), some (.int x11)] [] M (some (.int t), M)) ?_ hs9 ?_
  · rintro ⟨x2, x3⟩ ws1 h hK
    dsimp only at h
    show oo LN xs 0 0 17 5 [some (.ref 9), some (.int a0), some (.int a1), some (.int x2), some (.int x3)] [] M (some (.int t), M)
    refine o_iload k17_5 rfl ?_
    refine o_aload_n k17_7 rfl ?_
    refine o_gf k17_8 (gf_9_0 _) ?_
    refine o_icmp_ge k17_11 (fun hc4 => ?_) (fun hc4 => ?_)
    · rw [if_pos hc4] at h
      have h9 := Option.some.inj h
      subst h9
      exact hK
    · rw [if_neg hc4] at h
      refine o_iload k17_14 rfl ?_
      refine o_iload_n k17_16 rfl ?_
      refine o_call k17_17 pj_6 (fun _ => rfl) (by decide) rfl (as := [.int x3, .int a1]) (rest := []) rfl (L0 := [some (.int x3), some (.int a1)]) rfl (t_X0_isIn (M := M) (a0 := x3) (a1 := a1) rfl) ?_
      refine o_if_ne k17_20 (fun hc5 => ?_) (fun hc5 => ?_)
      · rw [if_neg hc5] at h
        refine o_iinc (k := 1) (L' := [some (.ref 9), some (.int a0), some (.int a1), some (.int x2), some (.int (x3 + 1))]) k17_48 rfl (by decide) rfl ?_
        refine o_goto k17_51 ?_
        have h9 := Option.some.inj h
        subst h9
        exact hK
      · rw [if_pos hc5] at h
        refine o_aload_n k17_23 rfl ?_
        refine o_gf k17_24 (gf_9_7 _) ?_
        refine o_iload k17_27 rfl ?_
        refine o_iload_n k17_29 rfl ?_
        refine o_call k17_30 pj_5 (fun _ => rfl) (by decide) rfl (as := [.int x3, .int a0]) (rest := [.ref 10]) rfl (L0 := [some (.int x3), some (.int a0)]) rfl (t_X0_at (M := M) (a0 := x3) (a1 := a0) rfl) ?_
        obtain ⟨hc6, h⟩ := ck_i h
        refine o_iald k17_33 rfl ia_10 hc6 ?_
        refine o_iconst (v := 2) k17_34 (by decide) ?_
        refine o_icmp_ne k17_35 (fun hc7 => ?_) (fun hc7 => ?_)
        · rw [if_neg hc7] at h
          refine o_iinc (k := 1) (L' := [some (.ref 9), some (.int a0), some (.int a1), some (.int x2), some (.int (x3 + 1))]) k17_48 rfl (by decide) rfl ?_
          refine o_goto k17_51 ?_
          have h9 := Option.some.inj h
          subst h9
          exact hK
        · rw [if_pos hc7] at h
          refine o_iload_n k17_38 rfl ?_
          refine o_aload_n k17_39 rfl ?_
          refine o_gf k17_40 (gf_9_9 _) ?_
          refine o_iload k17_43 rfl ?_
          obtain ⟨hc8, h⟩ := ck_i h
          refine o_iald k17_45 rfl ia_12 hc8 ?_
          refine o_ior k17_46 ?_
          refine o_istore_n (v := (x2 ||| (M 12 x3.toNatClampNeg))) (L' := [some (.ref 9), some (.int a0), some (.int a1), some (.int (x2 ||| (M 12 x3.toNatClampNeg))), some (.int x3)]) k17_47 rfl rfl ?_
          refine o_iinc (k := 1) (L' := [some (.ref 9), some (.int a0), some (.int a1), some (.int (x2 ||| (M 12 x3.toNatClampNeg))), some (.int (x3 + 1))]) k17_48 rfl (by decide) rfl ?_
          refine o_goto k17_51 ?_
          have h9 := Option.some.inj h
          subst h9
          exact hK
  · obtain ⟨x10, x11⟩ := s9
    show oo LN xs 0 0 17 54 [some (.ref 9), some (.int a0), some (.int a1), some (.int x10), some (.int x11)] [] M (some (.int t), M)
    dsimp only at h
    refine o_iload_n k17_54 rfl ?_
    have h9 := Option.some.inj h
    subst h9
    exact o_iret pj_17 k17_55 rfl nr_i
def f_X0_isWatched_9 (a0 : Int32) (a1 : Int32) (a2 : Int32) (a3 : Int32) (M : am_M) : Option Int32 := (if am_dbin (f_X0_at a0 a1) 64 = true then (if (M 10 (f_X0_at a0 a1).toNatClampNeg) = 2 then (some 0) else (if (f_X0_isIn a0 a2) = 0 then (if am_dbin a0 8 = true then (if ((M 12 a0.toNatClampNeg) &&& (a3 ^^^ (-1))) = 0 then (some 0) else (some 1)) else none) else (some 0))) else none)
set_option maxRecDepth 20000 in
theorem t_X0_isWatched_9 {LN : Nat} {xs : Nat → Int32} {a0 : Int32} {a1 : Int32} {a2 : Int32} {a3 : Int32} {M : am_M} {t : Int32} (h : f_X0_isWatched_9 a0 a1 a2 a3 M = some t) : oo LN xs 0 0 18 0 [some (.ref 9), some (.int a0), some (.int a1), some (.int a2), some (.int a3)] [] M (some (.int t), M) := by
  unfold f_X0_isWatched_9 at h
  refine o_aload_n k18_0 rfl ?_
  refine o_gf k18_1 (gf_9_7 _) ?_
  refine o_iload_n k18_4 rfl ?_
  refine o_iload_n k18_5 rfl ?_
  refine o_call k18_6 pj_5 (fun _ => rfl) (by decide) rfl (as := [.int a0, .int a1]) (rest := [.ref 10]) rfl (L0 := [some (.int a0), some (.int a1)]) rfl (t_X0_at (M := M) (a0 := a0) (a1 := a1) rfl) ?_
  obtain ⟨hc1, h⟩ := ck_i h
  refine o_iald k18_9 rfl ia_10 hc1 ?_
  refine o_iconst (v := 2) k18_10 (by decide) ?_
  refine o_icmp_eq k18_11 (fun hc2 => ?_) (fun hc2 => ?_)
  · rw [if_pos hc2] at h
    refine o_iconst (v := 0) k18_40 (by decide) ?_
    have h9 := Option.some.inj h
    subst h9
    exact o_iret pj_18 k18_41 rfl (nr_z (by decide))
  · rw [if_neg hc2] at h
    refine o_iload_n k18_14 rfl ?_
    refine o_iload_n k18_15 rfl ?_
    refine o_call k18_16 pj_6 (fun _ => rfl) (by decide) rfl (as := [.int a0, .int a2]) (rest := []) rfl (L0 := [some (.int a0), some (.int a2)]) rfl (t_X0_isIn (M := M) (a0 := a0) (a1 := a2) rfl) ?_
    refine o_if_ne k18_19 (fun hc3 => ?_) (fun hc3 => ?_)
    · rw [if_neg hc3] at h
      refine o_iconst (v := 0) k18_40 (by decide) ?_
      have h9 := Option.some.inj h
      subst h9
      exact o_iret pj_18 k18_41 rfl (nr_z (by decide))
    · rw [if_pos hc3] at h
      refine o_aload_n k18_22 rfl ?_
      refine o_gf k18_23 (gf_9_9 _) ?_
      refine o_iload_n k18_26 rfl ?_
      obtain ⟨hc4, h⟩ := ck_i h
      refine o_iald k18_27 rfl ia_12 hc4 ?_
      refine o_iload k18_28 rfl ?_
      refine o_iconst (v := (-1)) k18_30 (by decide) ?_
      refine o_ixor k18_31 ?_
      refine o_iand k18_32 ?_
      refine o_if_eq k18_33 (fun hc5 => ?_) (fun hc5 => ?_)
      · rw [if_pos hc5] at h
        refine o_iconst (v := 0) k18_40 (by decide) ?_
        have h9 := Option.some.inj h
        subst h9
        exact o_iret pj_18 k18_41 rfl (nr_z (by decide))
      · rw [if_neg hc5] at h
        refine o_iconst (v := 1) k18_36 (by decide) ?_
        refine o_goto k18_37 ?_
        have h9 := Option.some.inj h
        subst h9
        exact o_iret pj_18 k18_41 rfl (nr_z (by decide))
def f_X7_cell_0 (a0 : Int32) (a1 : Int32) (a2 : Int32) (M : am_M) : Option Int32 := (if (f_X0_hasCell_9 a0 a1 M) = 0 then (some (-1)) else (if a2 = 0 then (if am_dbin (f_X0_at a0 a1) 64 = true then (some (M 10 (f_X0_at a0 a1).toNatClampNeg)) else none) else (if a2 = 1 then (if am_dbin (f_X0_at a0 a1) 64 = true then (some (M 11 (f_X0_at a0 a1).toNatClampNeg)) else none) else (if a2 = 2 then ((f_X0_blurred_9 a1 (M 9 3) M).bind (fun v4 => ((f_X0_isWatched_9 a0 a1 (M 9 3) v4 M).bind (fun v5 => (if v5 = 0 then (some 0) else (some 1)))))) else (some (-1))))))
set_option maxRecDepth 20000 in
theorem t_X7_cell_0 {LN : Nat} {xs : Nat → Int32} {a0 : Int32} {a1 : Int32} {a2 : Int32} {M : am_M} {t : Int32} (h : f_X7_cell_0 a0 a1 a2 M = some t) : oo LN xs 0 0 87 0 [some (.ref 0), some (.int a0), some (.int a1), some (.int a2)] [] M (some (.int t), M) := by
  unfold f_X7_cell_0 at h
  refine o_aload_n k87_0 rfl ?_
  refine o_gf k87_1 (gf_0_2 _) ?_
  refine o_iload_n k87_4 rfl ?_
  refine o_iload_n k87_5 rfl ?_
  refine o_call k87_6 pj_8 (fun _ => rfl) (by decide) rfl (as := [.ref 9, .int a0, .int a1]) (rest := []) rfl (L0 := [some (.ref 9), some (.int a0), some (.int a1)]) rfl (t_X0_hasCell_9 (M := M) (a0 := a0) (a1 := a1) rfl) ?_
  refine o_if_ne k87_9 (fun hc1 => ?_) (fun hc1 => ?_)
  · rw [if_neg hc1] at h
    refine o_iload_n k87_14 rfl ?_
    by_cases hx15_0 : a2 = 0
    · rw [if_pos hx15_0] at h
      refine o_tswI (tgt := 40) (off := 25) k87_15 (by rw [hx15_0]; decide) (by rw [hx15_0]; decide) (by rw [hx15_0]; decide) (by decide) ?_
      refine o_aload_n k87_40 rfl ?_
      refine o_gf k87_41 (gf_0_2 _) ?_
      refine o_gf k87_44 (gf_9_7 _) ?_
      refine o_iload_n k87_47 rfl ?_
      refine o_iload_n k87_48 rfl ?_
      refine o_call k87_49 pj_5 (fun _ => rfl) (by decide) rfl (as := [.int a0, .int a1]) (rest := [.ref 10]) rfl (L0 := [some (.int a0), some (.int a1)]) rfl (t_X0_at (M := M) (a0 := a0) (a1 := a1) rfl) ?_
      obtain ⟨hc2, h⟩ := ck_i h
      refine o_iald k87_52 rfl ia_10 hc2 ?_
      have h9 := Option.some.inj h
      subst h9
      exact o_iret pj_87 k87_53 rfl nr_i
    rw [if_neg hx15_0] at h
    by_cases hx15_1 : a2 = 1
    · rw [if_pos hx15_1] at h
      refine o_tswI (tgt := 54) (off := 39) k87_15 (by rw [hx15_1]; decide) (by rw [hx15_1]; decide) (by rw [hx15_1]; decide) (by decide) ?_
      refine o_aload_n k87_54 rfl ?_
      refine o_gf k87_55 (gf_0_2 _) ?_
      refine o_gf k87_58 (gf_9_8 _) ?_
      refine o_iload_n k87_61 rfl ?_
      refine o_iload_n k87_62 rfl ?_
      refine o_call k87_63 pj_5 (fun _ => rfl) (by decide) rfl (as := [.int a0, .int a1]) (rest := [.ref 11]) rfl (L0 := [some (.int a0), some (.int a1)]) rfl (t_X0_at (M := M) (a0 := a0) (a1 := a1) rfl) ?_
      obtain ⟨hc3, h⟩ := ck_i h
      refine o_iald k87_66 rfl ia_11 hc3 ?_
      have h9 := Option.some.inj h
      subst h9
      exact o_iret pj_87 k87_67 rfl nr_i
    rw [if_neg hx15_1] at h
    by_cases hx15_2 : a2 = 2
    · rw [if_pos hx15_2] at h
      refine o_tswI (tgt := 68) (off := 53) k87_15 (by rw [hx15_2]; decide) (by rw [hx15_2]; decide) (by rw [hx15_2]; decide) (by decide) ?_
      refine o_aload_n k87_68 rfl ?_
      refine o_gf k87_69 (gf_0_2 _) ?_
      refine o_iload_n k87_72 rfl ?_
      refine o_iload_n k87_73 rfl ?_
      refine o_aload_n k87_74 rfl ?_
      refine o_gf k87_75 (gf_0_2 _) ?_
      refine o_gf k87_78 (gf_9_3 _) ?_
      refine o_aload_n k87_81 rfl ?_
      refine o_gf k87_82 (gf_0_2 _) ?_
      refine o_iload_n k87_85 rfl ?_
      refine o_aload_n k87_86 rfl ?_
      refine o_gf k87_87 (gf_0_2 _) ?_
      refine o_gf k87_90 (gf_9_3 _) ?_
      refine bd_i h (fun v4 hv4 h => ?_)
      refine o_call k87_93 pj_17 (fun _ => rfl) (by decide) rfl (as := [.ref 9, .int a1, .int (M 9 3)]) (rest := [.int (M 9 3), .int a1, .int a0, .ref 9]) rfl (L0 := [some (.ref 9), some (.int a1), some (.int (M 9 3)), none, none]) rfl (t_X0_blurred_9 hv4) ?_
      refine bd_i h (fun v5 hv5 h => ?_)
      refine o_call k87_96 pj_18 (fun _ => rfl) (by decide) rfl (as := [.ref 9, .int a0, .int a1, .int (M 9 3), .int v4]) (rest := []) rfl (L0 := [some (.ref 9), some (.int a0), some (.int a1), some (.int (M 9 3)), some (.int v4)]) rfl (t_X0_isWatched_9 hv5) ?_
      refine o_if_eq k87_99 (fun hc6 => ?_) (fun hc6 => ?_)
      · rw [if_pos hc6] at h
        refine o_iconst (v := 0) k87_106 (by decide) ?_
        have h9 := Option.some.inj h
        subst h9
        exact o_iret pj_87 k87_107 rfl nr_i
      · rw [if_neg hc6] at h
        refine o_iconst (v := 1) k87_102 (by decide) ?_
        refine o_goto k87_103 ?_
        have h9 := Option.some.inj h
        subst h9
        exact o_iret pj_87 k87_107 rfl nr_i
    rw [if_neg hx15_2] at h
    refine o_tswD (tgt := 108) k87_15 (by have n0 := ne_lit (k := 0) 0 (by decide) hx15_0; have n1 := ne_lit (k := 1) 1 (by decide) hx15_1; have n2 := ne_lit (k := 2) 2 (by decide) hx15_2; omega) (by decide) ?_
    refine o_iconst (v := (-1)) k87_108 (by decide) ?_
    have h9 := Option.some.inj h
    subst h9
    exact o_iret pj_87 k87_109 rfl nr_i
  · rw [if_pos hc1] at h
    refine o_iconst (v := (-1)) k87_12 (by decide) ?_
    have h9 := Option.some.inj h
    subst h9
    exact o_iret pj_87 k87_13 rfl nr_i
def f_X8_isChain_43 (a0 : Int32) (M : am_M) : Option Int32 := (if (f_X8_in a0.toInt64 0 (((M 44 (0 : Int32).toNatClampNeg) - 1).toInt64)) = 0 ∨ (f_X8_in a0.toInt64 0 (((M 44 (0 : Int32).toNatClampNeg) - 1).toInt64)) = 1 then (some (f_X8_in a0.toInt64 0 (((M 44 (0 : Int32).toNatClampNeg) - 1).toInt64))) else none)
set_option maxRecDepth 20000 in
theorem t_X8_isChain_43 {LN : Nat} {xs : Nat → Int32} {a0 : Int32} {M : am_M} {t : Int32} (h : f_X8_isChain_43 a0 M = some t) : oo LN xs 0 0 151 0 [some (.ref 43), some (.int a0)] [] M (some (.int t), M) := by
  unfold f_X8_isChain_43 at h
  refine o_iload_n k151_0 rfl ?_
  refine o_i2l k151_1 ?_
  refine o_lconst (v := 0) k151_2 (by decide) ?_
  refine o_aload_n k151_3 rfl ?_
  refine o_gf k151_4 (gf_43_0 _) ?_
  refine o_iconst (v := 0) k151_7 (by decide) ?_
  refine o_iald k151_8 rfl ia_44 (by decide) ?_
  refine o_iconst (v := 1) k151_9 (by decide) ?_
  refine o_isub k151_10 ?_
  refine o_i2l k151_11 ?_
  refine o_call k151_12 pj_125 (fun _ => rfl) (by decide) rfl (as := [.long a0.toInt64, .long 0, .long (((M 44 (0 : Int32).toNatClampNeg) - 1).toInt64)]) (rest := []) rfl (L0 := [some (.long a0.toInt64), none, some (.long 0), none, some (.long (((M 44 (0 : Int32).toNatClampNeg) - 1).toInt64)), none]) rfl (t_X8_in (M := M) (a0 := a0.toInt64) (a1 := 0) (a2 := (((M 44 (0 : Int32).toNatClampNeg) - 1).toInt64)) rfl) ?_
  obtain ⟨hc2, h⟩ := ck_i h
  have h9 := Option.some.inj h
  subst h9
  exact o_iret pj_151 k151_15 rfl (nr_z hc2)
def f_X8_isCell_43 (a0 : Int32) (a1 : Int32) (M : am_M) : Option Int32 := ((f_X8_isChain_43 a0 M).bind (fun v1 => (if v1 = 0 then (some 0) else (if (f_X8_in a1.toInt64 0 (((M 44 (1 : Int32).toNatClampNeg) - 1).toInt64)) = 0 then (some 0) else (some 1)))))
set_option maxRecDepth 20000 in
theorem t_X8_isCell_43 {LN : Nat} {xs : Nat → Int32} {a0 : Int32} {a1 : Int32} {M : am_M} {t : Int32} (h : f_X8_isCell_43 a0 a1 M = some t) : oo LN xs 0 0 152 0 [some (.ref 43), some (.int a0), some (.int a1)] [] M (some (.int t), M) := by
  unfold f_X8_isCell_43 at h
  refine o_aload_n k152_0 rfl ?_
  refine o_iload_n k152_1 rfl ?_
  refine bd_i h (fun v1 hv1 h => ?_)
  refine o_call k152_2 pj_151 (fun _ => rfl) (by decide) rfl (as := [.ref 43, .int a0]) (rest := []) rfl (L0 := [some (.ref 43), some (.int a0)]) rfl (t_X8_isChain_43 hv1) ?_
  refine o_if_eq k152_5 (fun hc2 => ?_) (fun hc2 => ?_)
  · rw [if_pos hc2] at h
    refine o_iconst (v := 0) k152_30 (by decide) ?_
    have h9 := Option.some.inj h
    subst h9
    exact o_iret pj_152 k152_31 rfl (nr_z (by decide))
  · rw [if_neg hc2] at h
    refine o_iload_n k152_8 rfl ?_
    refine o_i2l k152_9 ?_
    refine o_lconst (v := 0) k152_10 (by decide) ?_
    refine o_aload_n k152_11 rfl ?_
    refine o_gf k152_12 (gf_43_0 _) ?_
    refine o_iconst (v := 1) k152_15 (by decide) ?_
    refine o_iald k152_16 rfl ia_44 (by decide) ?_
    refine o_iconst (v := 1) k152_17 (by decide) ?_
    refine o_isub k152_18 ?_
    refine o_i2l k152_19 ?_
    refine o_call k152_20 pj_125 (fun _ => rfl) (by decide) rfl (as := [.long a1.toInt64, .long 0, .long (((M 44 (1 : Int32).toNatClampNeg) - 1).toInt64)]) (rest := []) rfl (L0 := [some (.long a1.toInt64), none, some (.long 0), none, some (.long (((M 44 (1 : Int32).toNatClampNeg) - 1).toInt64)), none]) rfl (t_X8_in (M := M) (a0 := a1.toInt64) (a1 := 0) (a2 := (((M 44 (1 : Int32).toNatClampNeg) - 1).toInt64)) rfl) ?_
    refine o_if_eq k152_23 (fun hc4 => ?_) (fun hc4 => ?_)
    · rw [if_pos hc4] at h
      refine o_iconst (v := 0) k152_30 (by decide) ?_
      have h9 := Option.some.inj h
      subst h9
      exact o_iret pj_152 k152_31 rfl (nr_z (by decide))
    · rw [if_neg hc4] at h
      refine o_iconst (v := 1) k152_26 (by decide) ?_
      refine o_goto k152_27 ?_
      have h9 := Option.some.inj h
      subst h9
      exact o_iret pj_152 k152_31 rfl (nr_z (by decide))
def f_X8_has (a0 : Int32) (a1 : Int32) : Int32 := (if ((a0 >>> (a1 &&& 31)) &&& 1) = 1 then 1 else 0)
set_option maxRecDepth 20000 in
theorem t_X8_has {LN : Nat} {xs : Nat → Int32} {a0 : Int32} {a1 : Int32} {M : am_M} {t : Int32} (h : f_X8_has a0 a1 = t) : oo LN xs 0 0 127 0 [some (.int a0), some (.int a1)] [] M (some (.int t), M) := by
  unfold f_X8_has at h
  refine o_iload_n k127_0 rfl ?_
  refine o_iload_n k127_1 rfl ?_
  refine o_ishr k127_2 ?_
  refine o_iconst (v := 1) k127_3 (by decide) ?_
  refine o_iand k127_4 ?_
  refine o_iconst (v := 1) k127_5 (by decide) ?_
  refine o_icmp_ne k127_6 (fun hc1 => ?_) (fun hc1 => ?_)
  · rw [if_neg hc1] at h
    refine o_iconst (v := 0) k127_13 (by decide) ?_
    subst h
    exact o_iret pj_127 k127_14 rfl (nr_z (by decide))
  · rw [if_pos hc1] at h
    refine o_iconst (v := 1) k127_9 (by decide) ?_
    refine o_goto k127_10 ?_
    subst h
    exact o_iret pj_127 k127_14 rfl (nr_z (by decide))
def f_X8_seenAt_43 (a0 : Int32) (a1 : Int32) (M : am_M) : Option Int32 := ((lp (σ := Int32 × Int32) (ρ := Int32 × Int32) (fun (s1 : Int32 × Int32) => match s1 with | (x2, x3) => (if (M 44 (0 : Int32).toNatClampNeg) ≤ x3 then (some (.inr (x2, x3))) else (if (f_X8_has (M 44 (3 : Int32).toNatClampNeg) x3) = 0 then (if am_dbin ((135 : Int32) + x3) 151 = true then (if (f_X8_has (M 44 ((135 : Int32) + x3).toNatClampNeg) a1) = 0 then (some (.inl (x2, (x3 + 1)))) else (if x2 = 2 then (some (.inl (2, (x3 + 1)))) else ((f_X8_cellOf_43 x3 a0 M).bind (fun v11 => (if v11 = 2 then (some (.inl (2, (x3 + 1)))) else ((f_X8_cellOf_43 x3 a0 M).bind (fun v13 => (some (.inl ((x2 ^^^ v13), (x3 + 1))))))))))) else none) else (some (.inl (x2, (x3 + 1))))))) lp_F (0, 0)).bind (fun (s14 : Int32 × Int32) => match s14 with | (x15, x16) => (some x15)))
set_option maxRecDepth 20000 in
theorem t_X8_seenAt_43 {LN : Nat} {xs : Nat → Int32} {a0 : Int32} {a1 : Int32} {M : am_M} {t : Int32} (h : f_X8_seenAt_43 a0 a1 M = some t) : oo LN xs 0 0 155 0 [some (.ref 43), some (.int a0), some (.int a1), none, none] [] M (some (.int t), M) := by
  unfold f_X8_seenAt_43 at h
  refine o_iconst (v := 0) k155_0 (by decide) ?_
  refine o_istore_n (v := 0) (L' := [some (.ref 43), some (.int a0), some (.int a1), some (.int 0), none]) k155_1 rfl rfl ?_
  refine o_iconst (v := 0) k155_2 (by decide) ?_
  refine o_istore (v := 0) (L' := [some (.ref 43), some (.int a0), some (.int a1), some (.int 0), some (.int 0)]) k155_3 rfl rfl ?_
  refine bd_i h (fun s14 hs14 h => ?_)
  refine lp_o (fun (s1 : Int32 × Int32) => match s1 with | (x2, x3) => oo LN xs 0 0 155 5 [some (.ref 43), some (.int a0), some (.int a1), some (.int x2), some (.int x3)] [] M (some (.int t), M)) (fun (s14 : Int32 × Int32) => match s14 with | (x15, x16) => oo LN xs 0 0 155 84 [some (.ref 43), some (.int a0), some (.int a1), some (.int x15), some (.int x16)] [] M (some (.int t), M)) ?_ hs14 ?_
  · rintro ⟨x2, x3⟩ ws1 h hK
    dsimp only at h
    show oo LN xs 0 0 155 5 [some (.ref 43), some (.int a0), some (.int a1), some (.int x2), some (.int x3)] [] M (some (.int t), M)
    refine o_iload k155_5 rfl ?_
    refine o_aload_n k155_7 rfl ?_
    refine o_gf k155_8 (gf_43_0 _) ?_
    refine o_iconst (v := 0) k155_11 (by decide) ?_
    refine o_iald k155_12 rfl ia_44 (by decide) ?_
    refine o_icmp_ge k155_13 (fun hc5 => ?_) (fun hc5 => ?_)
    · rw [if_pos hc5] at h
      have h9 := Option.some.inj h
      subst h9
      exact hK
    · rw [if_neg hc5] at h
      refine o_aload_n k155_16 rfl ?_
      refine o_gf k155_17 (gf_43_0 _) ?_
      refine o_iconst (v := 3) k155_20 (by decide) ?_
      refine o_iald k155_21 rfl ia_44 (by decide) ?_
      refine o_iload k155_22 rfl ?_
      refine o_call k155_24 pj_127 (fun _ => rfl) (by decide) rfl (as := [.int (M 44 (3 : Int32).toNatClampNeg), .int x3]) (rest := []) rfl (L0 := [some (.int (M 44 (3 : Int32).toNatClampNeg)), some (.int x3)]) rfl (t_X8_has (M := M) (a0 := (M 44 (3 : Int32).toNatClampNeg)) (a1 := x3) rfl) ?_
      refine o_if_ne k155_27 (fun hc7 => ?_) (fun hc7 => ?_)
      · rw [if_neg hc7] at h
        refine o_iinc (k := 1) (L' := [some (.ref 43), some (.int a0), some (.int a1), some (.int x2), some (.int (x3 + 1))]) k155_78 rfl (by decide) rfl ?_
        refine o_goto k155_81 ?_
        have h9 := Option.some.inj h
        subst h9
        exact hK
      · rw [if_pos hc7] at h
        refine o_aload_n k155_30 rfl ?_
        refine o_gf k155_31 (gf_43_0 _) ?_
        refine o_sipush (v := 135) k155_34 (by decide) ?_
        refine o_iload k155_37 rfl ?_
        refine o_iadd k155_39 ?_
        obtain ⟨hc8, h⟩ := ck_i h
        refine o_iald k155_40 rfl ia_44 hc8 ?_
        refine o_iload_n k155_41 rfl ?_
        refine o_call k155_42 pj_127 (fun _ => rfl) (by decide) rfl (as := [.int (M 44 ((135 : Int32) + x3).toNatClampNeg), .int a1]) (rest := []) rfl (L0 := [some (.int (M 44 ((135 : Int32) + x3).toNatClampNeg)), some (.int a1)]) rfl (t_X8_has (M := M) (a0 := (M 44 ((135 : Int32) + x3).toNatClampNeg)) (a1 := a1) rfl) ?_
        refine o_if_eq k155_45 (fun hc9 => ?_) (fun hc9 => ?_)
        · rw [if_pos hc9] at h
          refine o_iinc (k := 1) (L' := [some (.ref 43), some (.int a0), some (.int a1), some (.int x2), some (.int (x3 + 1))]) k155_78 rfl (by decide) rfl ?_
          refine o_goto k155_81 ?_
          have h9 := Option.some.inj h
          subst h9
          exact hK
        · rw [if_neg hc9] at h
          refine o_iload_n k155_48 rfl ?_
          refine o_iconst (v := 2) k155_49 (by decide) ?_
          refine o_icmp_eq k155_50 (fun hc10 => ?_) (fun hc10 => ?_)
          · rw [if_pos hc10] at h
            refine o_iconst (v := 2) k155_64 (by decide) ?_
            refine o_goto k155_65 ?_
            refine o_istore_n (v := 2) (L' := [some (.ref 43), some (.int a0), some (.int a1), some (.int 2), some (.int x3)]) k155_77 rfl rfl ?_
            refine o_iinc (k := 1) (L' := [some (.ref 43), some (.int a0), some (.int a1), some (.int 2), some (.int (x3 + 1))]) k155_78 rfl (by decide) rfl ?_
            refine o_goto k155_81 ?_
            have h9 := Option.some.inj h
            subst h9
            exact hK
          · rw [if_neg hc10] at h
            refine o_aload_n k155_53 rfl ?_
            refine o_iload k155_54 rfl ?_
            refine o_iload_n k155_56 rfl ?_
            refine bd_i h (fun v11 hv11 h => ?_)
            refine o_call k155_57 pj_154 (fun _ => rfl) (by decide) rfl (as := [.ref 43, .int x3, .int a0]) (rest := []) rfl (L0 := [some (.ref 43), some (.int x3), some (.int a0)]) rfl (t_X8_cellOf_43 hv11) ?_
            refine o_iconst (v := 2) k155_60 (by decide) ?_
            refine o_icmp_ne k155_61 (fun hc12 => ?_) (fun hc12 => ?_)
            · rw [if_neg hc12] at h
              refine o_iload_n k155_68 rfl ?_
              refine o_aload_n k155_69 rfl ?_
              refine o_iload k155_70 rfl ?_
              refine o_iload_n k155_72 rfl ?_
              refine bd_i h (fun v13 hv13 h => ?_)
              refine o_call k155_73 pj_154 (fun _ => rfl) (by decide) rfl (as := [.ref 43, .int x3, .int a0]) (rest := [.int x2]) rfl (L0 := [some (.ref 43), some (.int x3), some (.int a0)]) rfl (t_X8_cellOf_43 hv13) ?_
              refine o_ixor k155_76 ?_
              refine o_istore_n (v := (x2 ^^^ v13)) (L' := [some (.ref 43), some (.int a0), some (.int a1), some (.int (x2 ^^^ v13)), some (.int x3)]) k155_77 rfl rfl ?_
              refine o_iinc (k := 1) (L' := [some (.ref 43), some (.int a0), some (.int a1), some (.int (x2 ^^^ v13)), some (.int (x3 + 1))]) k155_78 rfl (by decide) rfl ?_
              refine o_goto k155_81 ?_
              have h9 := Option.some.inj h
              subst h9
              exact hK
            · rw [if_pos hc12] at h
              refine o_iconst (v := 2) k155_64 (by decide) ?_
              refine o_goto k155_65 ?_
              refine o_istore_n (v := 2) (L' := [some (.ref 43), some (.int a0), some (.int a1), some (.int 2), some (.int x3)]) k155_77 rfl rfl ?_
              refine o_iinc (k := 1) (L' := [some (.ref 43), some (.int a0), some (.int a1), some (.int 2), some (.int (x3 + 1))]) k155_78 rfl (by decide) rfl ?_
              refine o_goto k155_81 ?_
              have h9 := Option.some.inj h
              subst h9
              exact hK
  · obtain ⟨x15, x16⟩ := s14
    show oo LN xs 0 0 155 84 [some (.ref 43), some (.int a0), some (.int a1), some (.int x15), some (.int x16)] [] M (some (.int t), M)
    dsimp only at h
    refine o_iload_n k155_84 rfl ?_
    have h9 := Option.some.inj h
    subst h9
    exact o_iret pj_155 k155_85 rfl nr_i
def f_X8_isWatched_43 (a0 : Int32) (a1 : Int32) (M : am_M) : Option Int32 := ((lp (σ := Int32 × Int32) (ρ := Int32 × Int32) (fun (s1 : Int32 × Int32) => match s1 with | (x2, x3) => (if (M 44 (2 : Int32).toNatClampNeg) ≤ x3 then (some (.inr (x2, x3))) else (if x2 = 0 then (if am_dbin ((135 : Int32) + a0) 151 = true then (if (f_X8_has (M 44 ((135 : Int32) + a0).toNatClampNeg) x3) = 0 then (some (.inl (0, (x3 + 1)))) else ((f_X8_seenAt_43 a1 x3 M).bind (fun v9 => (if v9 = 2 then (some (.inl (0, (x3 + 1)))) else (some (.inl (1, (x3 + 1)))))))) else none) else (some (.inl (1, (x3 + 1))))))) lp_F (0, 0)).bind (fun (s11 : Int32 × Int32) => match s11 with | (x12, x13) => (if x12 = 0 then (some 0) else ((f_X8_cellOf_43 a0 a1 M).bind (fun v15 => (if v15 = 2 then (some 0) else (if (f_X8_has (M 44 (3 : Int32).toNatClampNeg) a0) = 0 then (some 1) else (some 0))))))))
set_option maxRecDepth 20000 in
theorem t_X8_isWatched_43 {LN : Nat} {xs : Nat → Int32} {a0 : Int32} {a1 : Int32} {M : am_M} {t : Int32} (h : f_X8_isWatched_43 a0 a1 M = some t) : oo LN xs 0 0 156 0 [some (.ref 43), some (.int a0), some (.int a1), none, none] [] M (some (.int t), M) := by
  unfold f_X8_isWatched_43 at h
  refine o_iconst (v := 0) k156_0 (by decide) ?_
  refine o_istore_n (v := 0) (L' := [some (.ref 43), some (.int a0), some (.int a1), some (.int 0), none]) k156_1 rfl rfl ?_
  refine o_iconst (v := 0) k156_2 (by decide) ?_
  refine o_istore (v := 0) (L' := [some (.ref 43), some (.int a0), some (.int a1), some (.int 0), some (.int 0)]) k156_3 rfl rfl ?_
  refine bd_i h (fun s11 hs11 h => ?_)
  refine lp_o (fun (s1 : Int32 × Int32) => match s1 with | (x2, x3) => oo LN xs 0 0 156 5 [some (.ref 43), some (.int a0), some (.int a1), some (.int x2), some (.int x3)] [] M (some (.int t), M)) (fun (s11 : Int32 × Int32) => match s11 with | (x12, x13) => oo LN xs 0 0 156 61 [some (.ref 43), some (.int a0), some (.int a1), some (.int x12), some (.int x13)] [] M (some (.int t), M)) ?_ hs11 ?_
  · rintro ⟨x2, x3⟩ ws1 h hK
    dsimp only at h
    show oo LN xs 0 0 156 5 [some (.ref 43), some (.int a0), some (.int a1), some (.int x2), some (.int x3)] [] M (some (.int t), M)
    refine o_iload k156_5 rfl ?_
    refine o_aload_n k156_7 rfl ?_
    refine o_gf k156_8 (gf_43_0 _) ?_
    refine o_iconst (v := 2) k156_11 (by decide) ?_
    refine o_iald k156_12 rfl ia_44 (by decide) ?_
    refine o_icmp_ge k156_13 (fun hc5 => ?_) (fun hc5 => ?_)
    · rw [if_pos hc5] at h
      have h9 := Option.some.inj h
      subst h9
      exact hK
    · rw [if_neg hc5] at h
      refine o_iload_n k156_16 rfl ?_
      refine o_if_ne k156_17 (fun hc6 => ?_) (fun hc6 => ?_)
      · rw [if_neg hc6] at h
        refine o_iconst (v := 1) k156_49 (by decide) ?_
        refine o_goto k156_50 ?_
        refine o_istore_n (v := 1) (L' := [some (.ref 43), some (.int a0), some (.int a1), some (.int 1), some (.int x3)]) k156_54 rfl rfl ?_
        refine o_iinc (k := 1) (L' := [some (.ref 43), some (.int a0), some (.int a1), some (.int 1), some (.int (x3 + 1))]) k156_55 rfl (by decide) rfl ?_
        refine o_goto k156_58 ?_
        have h9 := Option.some.inj h
        subst h9
        exact hK
      · rw [if_pos hc6] at h
        refine o_aload_n k156_20 rfl ?_
        refine o_gf k156_21 (gf_43_0 _) ?_
        refine o_sipush (v := 135) k156_24 (by decide) ?_
        refine o_iload_n k156_27 rfl ?_
        refine o_iadd k156_28 ?_
        obtain ⟨hc7, h⟩ := ck_i h
        refine o_iald k156_29 rfl ia_44 hc7 ?_
        refine o_iload k156_30 rfl ?_
        refine o_call k156_32 pj_127 (fun _ => rfl) (by decide) rfl (as := [.int (M 44 ((135 : Int32) + a0).toNatClampNeg), .int x3]) (rest := []) rfl (L0 := [some (.int (M 44 ((135 : Int32) + a0).toNatClampNeg)), some (.int x3)]) rfl (t_X8_has (M := M) (a0 := (M 44 ((135 : Int32) + a0).toNatClampNeg)) (a1 := x3) rfl) ?_
        refine o_if_eq k156_35 (fun hc8 => ?_) (fun hc8 => ?_)
        · rw [if_pos hc8] at h
          refine o_iconst (v := 0) k156_53 (by decide) ?_
          refine o_istore_n (v := 0) (L' := [some (.ref 43), some (.int a0), some (.int a1), some (.int 0), some (.int x3)]) k156_54 rfl rfl ?_
          refine o_iinc (k := 1) (L' := [some (.ref 43), some (.int a0), some (.int a1), some (.int 0), some (.int (x3 + 1))]) k156_55 rfl (by decide) rfl ?_
          refine o_goto k156_58 ?_
          have h9 := Option.some.inj h
          subst h9
          exact hK
        · rw [if_neg hc8] at h
          refine o_aload_n k156_38 rfl ?_
          refine o_iload_n k156_39 rfl ?_
          refine o_iload k156_40 rfl ?_
          refine bd_i h (fun v9 hv9 h => ?_)
          refine o_call k156_42 pj_155 (fun _ => rfl) (by decide) rfl (as := [.ref 43, .int a1, .int x3]) (rest := []) rfl (L0 := [some (.ref 43), some (.int a1), some (.int x3), none, none]) rfl (t_X8_seenAt_43 hv9) ?_
          refine o_iconst (v := 2) k156_45 (by decide) ?_
          refine o_icmp_eq k156_46 (fun hc10 => ?_) (fun hc10 => ?_)
          · rw [if_pos hc10] at h
            refine o_iconst (v := 0) k156_53 (by decide) ?_
            refine o_istore_n (v := 0) (L' := [some (.ref 43), some (.int a0), some (.int a1), some (.int 0), some (.int x3)]) k156_54 rfl rfl ?_
            refine o_iinc (k := 1) (L' := [some (.ref 43), some (.int a0), some (.int a1), some (.int 0), some (.int (x3 + 1))]) k156_55 rfl (by decide) rfl ?_
            refine o_goto k156_58 ?_
            have h9 := Option.some.inj h
            subst h9
            exact hK
          · rw [if_neg hc10] at h
            refine o_iconst (v := 1) k156_49 (by decide) ?_
            refine o_goto k156_50 ?_
            refine o_istore_n (v := 1) (L' := [some (.ref 43), some (.int a0), some (.int a1), some (.int 1), some (.int x3)]) k156_54 rfl rfl ?_
            refine o_iinc (k := 1) (L' := [some (.ref 43), some (.int a0), some (.int a1), some (.int 1), some (.int (x3 + 1))]) k156_55 rfl (by decide) rfl ?_
            refine o_goto k156_58 ?_
            have h9 := Option.some.inj h
            subst h9
            exact hK
  · obtain ⟨x12, x13⟩ := s11
    show oo LN xs 0 0 156 61 [some (.ref 43), some (.int a0), some (.int a1), some (.int x12), some (.int x13)] [] M (some (.int t), M)
    dsimp only at h
    refine o_iload_n k156_61 rfl ?_
    refine o_if_eq k156_62 (fun hc14 => ?_) (fun hc14 => ?_)
    · rw [if_pos hc14] at h
      refine o_iconst (v := 0) k156_92 (by decide) ?_
      have h9 := Option.some.inj h
      subst h9
      exact o_iret pj_156 k156_93 rfl (nr_z (by decide))
    · rw [if_neg hc14] at h
      refine o_aload_n k156_65 rfl ?_
      refine o_iload_n k156_66 rfl ?_
      refine o_iload_n k156_67 rfl ?_
      refine bd_i h (fun v15 hv15 h => ?_)
      refine o_call k156_68 pj_154 (fun _ => rfl) (by decide) rfl (as := [.ref 43, .int a0, .int a1]) (rest := []) rfl (L0 := [some (.ref 43), some (.int a0), some (.int a1)]) rfl (t_X8_cellOf_43 hv15) ?_
      refine o_iconst (v := 2) k156_71 (by decide) ?_
      refine o_icmp_eq k156_72 (fun hc16 => ?_) (fun hc16 => ?_)
      · rw [if_pos hc16] at h
        refine o_iconst (v := 0) k156_92 (by decide) ?_
        have h9 := Option.some.inj h
        subst h9
        exact o_iret pj_156 k156_93 rfl (nr_z (by decide))
      · rw [if_neg hc16] at h
        refine o_aload_n k156_75 rfl ?_
        refine o_gf k156_76 (gf_43_0 _) ?_
        refine o_iconst (v := 3) k156_79 (by decide) ?_
        refine o_iald k156_80 rfl ia_44 (by decide) ?_
        refine o_iload_n k156_81 rfl ?_
        refine o_call k156_82 pj_127 (fun _ => rfl) (by decide) rfl (as := [.int (M 44 (3 : Int32).toNatClampNeg), .int a0]) (rest := []) rfl (L0 := [some (.int (M 44 (3 : Int32).toNatClampNeg)), some (.int a0)]) rfl (t_X8_has (M := M) (a0 := (M 44 (3 : Int32).toNatClampNeg)) (a1 := a0) rfl) ?_
        refine o_if_ne k156_85 (fun hc18 => ?_) (fun hc18 => ?_)
        · rw [if_neg hc18] at h
          refine o_iconst (v := 0) k156_92 (by decide) ?_
          have h9 := Option.some.inj h
          subst h9
          exact o_iret pj_156 k156_93 rfl (nr_z (by decide))
        · rw [if_pos hc18] at h
          refine o_iconst (v := 1) k156_88 (by decide) ?_
          refine o_goto k156_89 ?_
          have h9 := Option.some.inj h
          subst h9
          exact o_iret pj_156 k156_93 rfl (nr_z (by decide))
