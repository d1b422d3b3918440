/-! FUNCTIONS, on -/
def f_X0_watchedWithout_9 (a0 : Int32) (M : am_M) : Option Int32 := ((lp (σ := Int32 × Int32) (ρ := Int32 × Int32) (fun s1 => (if (M 9 1) ≤ s1.2 then (some (.inr (s1.1, s1.2))) else ((f_X0_blurred_9 s1.2 a0 M).bind (fun v5 => ((lp (σ := Int32 × Int32) (ρ := Int32 × Int32) (fun s6 => (if (M 9 0) ≤ s6.2 then (some (.inr (s6.1, s6.2))) else ((f_X0_isWatched_9 s6.2 s1.2 a0 v5 M).bind (fun v8 => (if v8 = 0 then (some (.inl (s6.1, (s6.2 + 1)))) else (some (.inl ((s6.1 + 1), (s6.2 + 1))))))))) lp_F (s1.1, 0)).bind (fun s10 => (some (.inl (s10.1, (s1.2 + 1)))))))))) lp_F (0, 0)).bind (fun s11 => (some s11.1)))
set_option maxRecDepth 20000 in
theorem t_X0_watchedWithout_9 {LN : Nat} {xs : Nat → Int32} {a0 : Int32} {M : am_M} {t : Int32} (h : f_X0_watchedWithout_9 a0 M = some t) : oo LN xs 0 0 19 0 [some (.ref 9), some (.int a0), none, none, none, none] [] M (some (.int t), M) := by
  unfold f_X0_watchedWithout_9 at h
  refine o_iconst (v := 0) k19_0 (by decide) ?_
  refine o_istore_n (v := 0) (L' := [some (.ref 9), some (.int a0), some (.int 0), none, none, none]) k19_1 rfl rfl ?_
  refine o_iconst (v := 0) k19_2 (by decide) ?_
  refine o_istore_n (v := 0) (L' := [some (.ref 9), some (.int a0), some (.int 0), some (.int 0), none, none]) k19_3 rfl rfl ?_
  refine bd_i h (fun s11 hs11 h => ?_)
  refine lp_o (fun s1 => ∀ (d2 d3 : Option Value), oo LN xs 0 0 19 4 [some (.ref 9), some (.int a0), some (.int s1.1), some (.int s1.2), d2, d3] [] M (some (.int t), M)) (fun s11 => ∀ (d12 d13 : Option Value), oo LN xs 0 0 19 60 [some (.ref 9), some (.int a0), some (.int s11.1), some (.int s11.2), d12, d13] [] M (some (.int t), M)) ?_ hs11 ?_ none none
  · intro s1 ws1 h hK d2 d3
    refine o_iload_n k19_4 rfl ?_
    refine o_aload_n k19_5 rfl ?_
    refine o_gf k19_6 (gf_9_1 _) ?_
    refine o_icmp_ge k19_9 (fun hc4 => ?_) (fun hc4 => ?_)
    · rw [if_pos hc4] at h
      have h9 := Option.some.inj h
      subst h9
      exact hK _ _
    · rw [if_neg hc4] at h
      refine o_aload_n k19_12 rfl ?_
      refine o_iload_n k19_13 rfl ?_
      refine o_iload_n k19_14 rfl ?_
      refine bd_i h (fun v5 hv5 h => ?_)
      refine o_call k19_15 pj_17 (fun _ => rfl) (by decide) rfl (as := [.ref 9, .int s1.2, .int a0]) (rest := []) rfl (L0 := [some (.ref 9), some (.int s1.2), some (.int a0), none, none]) rfl (t_X0_blurred_9 hv5) ?_
      refine o_istore (v := v5) (L' := [some (.ref 9), some (.int a0), some (.int s1.1), some (.int s1.2), some (.int v5), d3]) k19_18 rfl rfl ?_
      refine o_iconst (v := 0) k19_20 (by decide) ?_
      refine o_istore (v := 0) (L' := [some (.ref 9), some (.int a0), some (.int s1.1), some (.int s1.2), some (.int v5), some (.int 0)]) k19_21 rfl rfl ?_
      refine bd_i h (fun s10 hs10 h => ?_)
      refine lp_o (fun s6 => oo LN xs 0 0 19 23 [some (.ref 9), some (.int a0), some (.int s6.1), some (.int s1.2), some (.int v5), some (.int s6.2)] [] M (some (.int t), M)) (fun s10 => oo LN xs 0 0 19 54 [some (.ref 9), some (.int a0), some (.int s10.1), some (.int s1.2), some (.int v5), some (.int s10.2)] [] M (some (.int t), M)) ?_ hs10 ?_
      · intro s6 ws6 h hK
        refine o_iload k19_23 rfl ?_
        refine o_aload_n k19_25 rfl ?_
        refine o_gf k19_26 (gf_9_0 _) ?_
        refine o_icmp_ge k19_29 (fun hc7 => ?_) (fun hc7 => ?_)
        · rw [if_pos hc7] at h
          have h9 := Option.some.inj h
          subst h9
          exact hK
        · rw [if_neg hc7] at h
          refine o_aload_n k19_32 rfl ?_
          refine o_iload k19_33 rfl ?_
          refine o_iload_n k19_35 rfl ?_
          refine o_iload_n k19_36 rfl ?_
          refine o_iload k19_37 rfl ?_
          refine bd_i h (fun v8 hv8 h => ?_)
          refine o_call k19_39 pj_18 (fun _ => rfl) (by decide) rfl (as := [.ref 9, .int s6.2, .int s1.2, .int a0, .int v5]) (rest := []) rfl (L0 := [some (.ref 9), some (.int s6.2), some (.int s1.2), some (.int a0), some (.int v5)]) rfl (t_X0_isWatched_9 hv8) ?_
          refine o_if_eq k19_42 (fun hc9 => ?_) (fun hc9 => ?_)
          · rw [if_pos hc9] at h
            refine o_iinc (w := s6.2 + 1) (L' := [some (.ref 9), some (.int a0), some (.int s6.1), some (.int s1.2), some (.int v5), some (.int (s6.2 + 1))]) k19_48 rfl rfl rfl ?_
            refine o_goto k19_51 ?_
            have h9 := Option.some.inj h
            subst h9
            exact hK
          · rw [if_neg hc9] at h
            refine o_iinc (w := s6.1 + 1) (L' := [some (.ref 9), some (.int a0), some (.int (s6.1 + 1)), some (.int s1.2), some (.int v5), some (.int s6.2)]) k19_45 rfl rfl rfl ?_
            refine o_iinc (w := s6.2 + 1) (L' := [some (.ref 9), some (.int a0), some (.int (s6.1 + 1)), some (.int s1.2), some (.int v5), some (.int (s6.2 + 1))]) k19_48 rfl rfl rfl ?_
            refine o_goto k19_51 ?_
            have h9 := Option.some.inj h
            subst h9
            exact hK
      · show oo LN xs 0 0 19 54 [some (.ref 9), some (.int a0), some (.int s10.1), some (.int s1.2), some (.int v5), some (.int s10.2)] [] M (some (.int t), M)
        refine o_iinc (w := s1.2 + 1) (L' := [some (.ref 9), some (.int a0), some (.int s10.1), some (.int (s1.2 + 1)), some (.int v5), some (.int s10.2)]) k19_54 rfl rfl rfl ?_
        refine o_goto k19_57 ?_
        have h9 := Option.some.inj h
        subst h9
        exact hK _ _
  · show ∀ (d12 d13 : Option Value), oo LN xs 0 0 19 60 [some (.ref 9), some (.int a0), some (.int s11.1), some (.int s11.2), d12, d13] [] M (some (.int t), M)
    intro d12 d13
    refine o_iload_n k19_60 rfl ?_
    have h9 := Option.some.inj h
    subst h9
    exact o_iret pj_19 k19_61 rfl nr_i
def f_X7_watched_0 (M : am_M) : Option Int32 := ((f_X0_watchedWithout_9 (M 9 3) M).bind (fun v1 => (some v1)))
set_option maxRecDepth 20000 in
theorem t_X7_watched_0 {LN : Nat} {xs : Nat → Int32} {M : am_M} {t : Int32} (h : f_X7_watched_0 M = some t) : oo LN xs 0 0 94 0 [some (.ref 0)] [] M (some (.int t), M) := by
  unfold f_X7_watched_0 at h
  refine o_aload_n k94_0 rfl ?_
  refine o_gf k94_1 (gf_0_2 _) ?_
  refine o_aload_n k94_4 rfl ?_
  refine o_gf k94_5 (gf_0_2 _) ?_
  refine o_gf k94_8 (gf_9_3 _) ?_
  refine bd_i h (fun v1 hv1 h => ?_)
  refine o_call k94_11 pj_19 (fun _ => rfl) (by decide) rfl (as := [.ref 9, .int (M 9 3)]) (rest := []) rfl (L0 := [some (.ref 9), some (.int (M 9 3)), none, none, none, none]) rfl (t_X0_watchedWithout_9 hv1) ?_
  have h9 := Option.some.inj h
  subst h9
  exact o_iret pj_94 k94_14 rfl nr_i
def f_X8_watched_43 (M : am_M) : Option Int32 := ((lp (σ := Int32 × Int32) (ρ := Int32 × Int32) (fun s1 => (if (M 44 (0 : Int32).toNatClampNeg) ≤ s1.2 then (some (.inr (s1.1, s1.2))) else ((lp (σ := Int32 × Int32) (ρ := Int32 × Int32) (fun s5 => (if (M 44 (1 : Int32).toNatClampNeg) ≤ s5.2 then (some (.inr (s5.1, s5.2))) else ((f_X8_isWatched_43 s1.2 s5.2 M).bind (fun v8 => (some (.inl ((s5.1 + (f_X8_flag v8)), (s5.2 + 1)))))))) lp_F (s1.1, 0)).bind (fun s9 => (some (.inl (s9.1, (s1.2 + 1)))))))) lp_F (0, 0)).bind (fun s10 => (some s10.1)))
set_option maxRecDepth 20000 in
theorem t_X8_watched_43 {LN : Nat} {xs : Nat → Int32} {M : am_M} {t : Int32} (h : f_X8_watched_43 M = some t) : oo LN xs 0 0 172 0 [some (.ref 43), none, none, none] [] M (some (.int t), M) := by
  unfold f_X8_watched_43 at h
  refine o_iconst (v := 0) k172_0 (by decide) ?_
  refine o_istore_n (v := 0) (L' := [some (.ref 43), some (.int 0), none, none]) k172_1 rfl rfl ?_
  refine o_iconst (v := 0) k172_2 (by decide) ?_
  refine o_istore_n (v := 0) (L' := [some (.ref 43), some (.int 0), some (.int 0), none]) k172_3 rfl rfl ?_
  refine bd_i h (fun s10 hs10 h => ?_)
  refine lp_o (fun s1 => ∀ (d2 : Option Value), oo LN xs 0 0 172 4 [some (.ref 43), some (.int s1.1), some (.int s1.2), d2] [] M (some (.int t), M)) (fun s10 => ∀ (d11 : Option Value), oo LN xs 0 0 172 50 [some (.ref 43), some (.int s10.1), some (.int s10.2), d11] [] M (some (.int t), M)) ?_ hs10 ?_ none
  · intro s1 ws1 h hK d2
    refine o_iload_n k172_4 rfl ?_
    refine o_aload_n k172_5 rfl ?_
    refine o_gf k172_6 (gf_43_0 _) ?_
    refine o_iconst (v := 0) k172_9 (by decide) ?_
    refine o_iald k172_10 rfl ia_44 (by decide) ?_
    refine o_icmp_ge k172_11 (fun hc4 => ?_) (fun hc4 => ?_)
    · rw [if_pos hc4] at h
      have h9 := Option.some.inj h
      subst h9
      exact hK _
    · rw [if_neg hc4] at h
      refine o_iconst (v := 0) k172_14 (by decide) ?_
      refine o_istore_n (v := 0) (L' := [some (.ref 43), some (.int s1.1), some (.int s1.2), some (.int 0)]) k172_15 rfl rfl ?_
      refine bd_i h (fun s9 hs9 h => ?_)
      refine lp_o (fun s5 => oo LN xs 0 0 172 16 [some (.ref 43), some (.int s5.1), some (.int s1.2), some (.int s5.2)] [] M (some (.int t), M)) (fun s9 => oo LN xs 0 0 172 44 [some (.ref 43), some (.int s9.1), some (.int s1.2), some (.int s9.2)] [] M (some (.int t), M)) ?_ hs9 ?_
      · intro s5 ws5 h hK
        refine o_iload_n k172_16 rfl ?_
        refine o_aload_n k172_17 rfl ?_
        refine o_gf k172_18 (gf_43_0 _) ?_
        refine o_iconst (v := 1) k172_21 (by decide) ?_
        refine o_iald k172_22 rfl ia_44 (by decide) ?_
        refine o_icmp_ge k172_23 (fun hc7 => ?_) (fun hc7 => ?_)
        · rw [if_pos hc7] at h
          have h9 := Option.some.inj h
          subst h9
          exact hK
        · rw [if_neg hc7] at h
          refine o_iload_n k172_26 rfl ?_
          refine o_aload_n k172_27 rfl ?_
          refine o_iload_n k172_28 rfl ?_
          refine o_iload_n k172_29 rfl ?_
          refine bd_i h (fun v8 hv8 h => ?_)
          refine o_call k172_30 pj_156 (fun _ => rfl) (by decide) rfl (as := [.ref 43, .int s1.2, .int s5.2]) (rest := [.int s5.1]) rfl (L0 := [some (.ref 43), some (.int s1.2), some (.int s5.2), none, none]) rfl (t_X8_isWatched_43 hv8) ?_
          refine o_call k172_33 pj_126 (fun _ => rfl) (by decide) rfl (as := [.int v8]) (rest := [.int s5.1]) rfl (L0 := [some (.int v8)]) rfl (t_X8_flag (M := M) (a0 := v8) rfl) ?_
          refine o_iadd k172_36 ?_
          refine o_istore_n (v := (s5.1 + (f_X8_flag v8))) (L' := [some (.ref 43), some (.int (s5.1 + (f_X8_flag v8))), some (.int s1.2), some (.int s5.2)]) k172_37 rfl rfl ?_
          refine o_iinc (w := s5.2 + 1) (L' := [some (.ref 43), some (.int (s5.1 + (f_X8_flag v8))), some (.int s1.2), some (.int (s5.2 + 1))]) k172_38 rfl rfl rfl ?_
          refine o_goto k172_41 ?_
          have h9 := Option.some.inj h
          subst h9
          exact hK
      · show oo LN xs 0 0 172 44 [some (.ref 43), some (.int s9.1), some (.int s1.2), some (.int s9.2)] [] M (some (.int t), M)
        refine o_iinc (w := s1.2 + 1) (L' := [some (.ref 43), some (.int s9.1), some (.int (s1.2 + 1)), some (.int s9.2)]) k172_44 rfl rfl rfl ?_
        refine o_goto k172_47 ?_
        have h9 := Option.some.inj h
        subst h9
        exact hK _
  · show ∀ (d11 : Option Value), oo LN xs 0 0 172 50 [some (.ref 43), some (.int s10.1), some (.int s10.2), d11] [] M (some (.int t), M)
    intro d11
    refine o_iload_n k172_50 rfl ?_
    have h9 := Option.some.inj h
    subst h9
    exact o_iret pj_172 k172_51 rfl nr_i
def f_X7_best_0 (M : am_M) : Option Int32 := ((f_X0_watchedWithout_9 0 M).bind (fun v1 => ((lp (σ := Int32 × Int32 × Int32) (ρ := Int32 × Int32 × Int32) (fun s2 => (if (f_X0_allChains_9 M) < s2.2.2 then (some (.inr (s2.1, s2.2.1, s2.2.2))) else ((f_X0_watchedWithout_9 s2.2.2 M).bind (fun v5 => (if v5 ≤ s2.2.1 then (some (.inl (s2.1, s2.2.1, (s2.2.2 + 1)))) else (some (.inl (s2.2.2, v5, (s2.2.2 + 1))))))))) lp_F (0, v1, 1)).bind (fun s7 => (some s7.1)))))
set_option maxRecDepth 20000 in
theorem t_X7_best_0 {LN : Nat} {xs : Nat → Int32} {M : am_M} {t : Int32} (h : f_X7_best_0 M = some t) : oo LN xs 0 0 95 0 [some (.ref 0), none, none, none, none, none] [] M (some (.int t), M) := by
  unfold f_X7_best_0 at h
  refine o_iconst (v := 0) k95_0 (by decide) ?_
  refine o_istore_n (v := 0) (L' := [some (.ref 0), some (.int 0), none, none, none, none]) k95_1 rfl rfl ?_
  refine o_aload_n k95_2 rfl ?_
  refine o_gf k95_3 (gf_0_2 _) ?_
  refine o_iconst (v := 0) k95_6 (by decide) ?_
  refine bd_i h (fun v1 hv1 h => ?_)
  refine o_call k95_7 pj_19 (fun _ => rfl) (by decide) rfl (as := [.ref 9, .int 0]) (rest := []) rfl (L0 := [some (.ref 9), some (.int 0), none, none, none, none]) rfl (t_X0_watchedWithout_9 hv1) ?_
  refine o_istore_n (v := v1) (L' := [some (.ref 0), some (.int 0), some (.int v1), none, none, none]) k95_10 rfl rfl ?_
  refine o_aload_n k95_11 rfl ?_
  refine o_gf k95_12 (gf_0_2 _) ?_
  refine o_call k95_15 pj_10 (fun _ => rfl) (by decide) rfl (as := [.ref 9]) (rest := []) rfl (L0 := [some (.ref 9)]) rfl (t_X0_allChains_9 (M := M) rfl) ?_
  refine o_istore_n (v := (f_X0_allChains_9 M)) (L' := [some (.ref 0), some (.int 0), some (.int v1), some (.int (f_X0_allChains_9 M)), none, none]) k95_18 rfl rfl ?_
  refine o_iconst (v := 1) k95_19 (by decide) ?_
  refine o_istore (v := 1) (L' := [some (.ref 0), some (.int 0), some (.int v1), some (.int (f_X0_allChains_9 M)), some (.int 1), none]) k95_20 rfl rfl ?_
  refine bd_i h (fun s7 hs7 h => ?_)
  refine lp_o (fun s2 => ∀ (d3 : Option Value), oo LN xs 0 0 95 22 [some (.ref 0), some (.int s2.1), some (.int s2.2.1), some (.int (f_X0_allChains_9 M)), some (.int s2.2.2), d3] [] M (some (.int t), M)) (fun s7 => ∀ (d8 : Option Value), oo LN xs 0 0 95 57 [some (.ref 0), some (.int s7.1), some (.int s7.2.1), some (.int (f_X0_allChains_9 M)), some (.int s7.2.2), d8] [] M (some (.int t), M)) ?_ hs7 ?_ none
  · intro s2 ws2 h hK d3
    refine o_iload k95_22 rfl ?_
    refine o_iload_n k95_24 rfl ?_
    refine o_icmp_gt k95_25 (fun hc4 => ?_) (fun hc4 => ?_)
    · rw [if_pos hc4] at h
      have h9 := Option.some.inj h
      subst h9
      exact hK _
    · rw [if_neg hc4] at h
      refine o_aload_n k95_28 rfl ?_
      refine o_gf k95_29 (gf_0_2 _) ?_
      refine o_iload k95_32 rfl ?_
      refine bd_i h (fun v5 hv5 h => ?_)
      refine o_call k95_34 pj_19 (fun _ => rfl) (by decide) rfl (as := [.ref 9, .int s2.2.2]) (rest := []) rfl (L0 := [some (.ref 9), some (.int s2.2.2), none, none, none, none]) rfl (t_X0_watchedWithout_9 hv5) ?_
      refine o_istore (v := v5) (L' := [some (.ref 0), some (.int s2.1), some (.int s2.2.1), some (.int (f_X0_allChains_9 M)), some (.int s2.2.2), some (.int v5)]) k95_37 rfl rfl ?_
      refine o_iload k95_39 rfl ?_
      refine o_iload_n k95_41 rfl ?_
      refine o_icmp_le k95_42 (fun hc6 => ?_) (fun hc6 => ?_)
      · rw [if_pos hc6] at h
        refine o_iinc (w := s2.2.2 + 1) (L' := [some (.ref 0), some (.int s2.1), some (.int s2.2.1), some (.int (f_X0_allChains_9 M)), some (.int (s2.2.2 + 1)), some (.int v5)]) k95_51 rfl rfl rfl ?_
        refine o_goto k95_54 ?_
        have h9 := Option.some.inj h
        subst h9
        exact hK _
      · rw [if_neg hc6] at h
        refine o_iload k95_45 rfl ?_
        refine o_istore_n (v := v5) (L' := [some (.ref 0), some (.int s2.1), some (.int v5), some (.int (f_X0_allChains_9 M)), some (.int s2.2.2), some (.int v5)]) k95_47 rfl rfl ?_
        refine o_iload k95_48 rfl ?_
        refine o_istore_n (v := s2.2.2) (L' := [some (.ref 0), some (.int s2.2.2), some (.int v5), some (.int (f_X0_allChains_9 M)), some (.int s2.2.2), some (.int v5)]) k95_50 rfl rfl ?_
        refine o_iinc (w := s2.2.2 + 1) (L' := [some (.ref 0), some (.int s2.2.2), some (.int v5), some (.int (f_X0_allChains_9 M)), some (.int (s2.2.2 + 1)), some (.int v5)]) k95_51 rfl rfl rfl ?_
        refine o_goto k95_54 ?_
        have h9 := Option.some.inj h
        subst h9
        exact hK _
  · show ∀ (d8 : Option Value), oo LN xs 0 0 95 57 [some (.ref 0), some (.int s7.1), some (.int s7.2.1), some (.int (f_X0_allChains_9 M)), some (.int s7.2.2), d8] [] M (some (.int t), M)
    intro d8
    refine o_iload_n k95_57 rfl ?_
    have h9 := Option.some.inj h
    subst h9
    exact o_iret pj_95 k95_58 rfl nr_i
def f_X8_best_43 (M : am_M) : Option (Int32 × am_M) := ((lp (σ := Int32 × Int32 × Int32 × am_M) (ρ := Int32 × Int32 × Int32 × am_M) (fun s2 => (if ((1 : Int32) <<< ((s2.2.2.2 44 (0 : Int32).toNatClampNeg) &&& 31)) ≤ s2.2.2.1 then (some (.inr (s2.1, s2.2.1, s2.2.2.1, s2.2.2.2))) else (bl (am_up s2.2.2.2 44 (3 : Int32).toNatClampNeg s2.2.2.1) (fun (M7 : am_M) => ((f_X8_watched_43 M7).bind (fun v8 => (if v8 ≤ s2.2.1 then (some (.inl (s2.1, s2.2.1, (s2.2.2.1 + 1), M7))) else (some (.inl (s2.2.2.1, v8, (s2.2.2.1 + 1), M7)))))))))) lp_F (0, (-1), 0, M)).bind (fun s10 => (bl (am_up s10.2.2.2 44 (3 : Int32).toNatClampNeg (M 44 (3 : Int32).toNatClampNeg)) (fun (M13 : am_M) => (some (s10.1, M13))))))
set_option maxRecDepth 20000 in
theorem t_X8_best_43 {LN : Nat} {xs : Nat → Int32} {M : am_M} {t : Int32 × am_M} (h : f_X8_best_43 M = some t) : oo LN xs 0 0 173 0 [some (.ref 43), none, none, none, none, none] [] M (some (.int t.1), t.2) := by
  unfold f_X8_best_43 at h
  refine o_aload_n k173_0 rfl ?_
  refine o_gf k173_1 (gf_43_0 _) ?_
  refine o_iconst (v := 3) k173_4 (by decide) ?_
  refine o_iald k173_5 rfl ia_44 (by decide) ?_
  refine o_istore_n (v := (M 44 (3 : Int32).toNatClampNeg)) (L' := [some (.ref 43), some (.int (M 44 (3 : Int32).toNatClampNeg)), none, none, none, none]) k173_6 rfl rfl ?_
  refine o_iconst (v := 0) k173_7 (by decide) ?_
  refine o_istore_n (v := 0) (L' := [some (.ref 43), some (.int (M 44 (3 : Int32).toNatClampNeg)), some (.int 0), none, none, none]) k173_8 rfl rfl ?_
  refine o_iconst (v := (-1)) k173_9 (by decide) ?_
  refine o_istore_n (v := (-1)) (L' := [some (.ref 43), some (.int (M 44 (3 : Int32).toNatClampNeg)), some (.int 0), some (.int (-1)), none, none]) k173_10 rfl rfl ?_
  refine o_iconst (v := 0) k173_11 (by decide) ?_
  refine o_istore (v := 0) (L' := [some (.ref 43), some (.int (M 44 (3 : Int32).toNatClampNeg)), some (.int 0), some (.int (-1)), some (.int 0), none]) k173_12 rfl rfl ?_
  refine bd_i h (fun s10 hs10 h => ?_)
  refine lp_o (fun s2 => ∀ (d3 : Option Value), oo LN xs 0 0 173 14 [some (.ref 43), some (.int (M 44 (3 : Int32).toNatClampNeg)), some (.int s2.1), some (.int s2.2.1), some (.int s2.2.2.1), d3] [] s2.2.2.2 (some (.int t.1), t.2)) (fun s10 => ∀ (d11 : Option Value), oo LN xs 0 0 173 59 [some (.ref 43), some (.int (M 44 (3 : Int32).toNatClampNeg)), some (.int s10.1), some (.int s10.2.1), some (.int s10.2.2.1), d11] [] s10.2.2.2 (some (.int t.1), t.2)) ?_ hs10 ?_ none
  · intro s2 ws2 h hK d3
    refine o_iload k173_14 rfl ?_
    refine o_iconst (v := 1) k173_16 (by decide) ?_
    refine o_aload_n k173_17 rfl ?_
    refine o_gf k173_18 (gf_43_0 _) ?_
    refine o_iconst (v := 0) k173_21 (by decide) ?_
    refine o_iald k173_22 rfl ia_44 (by decide) ?_
    refine o_ishl k173_23 ?_
    refine o_icmp_ge k173_24 (fun hc5 => ?_) (fun hc5 => ?_)
    · rw [if_pos hc5] at h
      have h9 := Option.some.inj h
      subst h9
      exact hK _
    · rw [if_neg hc5] at h
      refine o_aload_n k173_27 rfl ?_
      refine o_gf k173_28 (gf_43_0 _) ?_
      refine o_iconst (v := 3) k173_31 (by decide) ?_
      refine o_iload k173_32 rfl ?_
      refine bl_i h (fun M7 eM7 h => ?_)
      refine o_iast (M' := M7) k173_34 eM7 ia_44 (by decide) ?_
      refine o_aload_n k173_35 rfl ?_
      refine bd_i h (fun v8 hv8 h => ?_)
      refine o_call k173_36 pj_172 (fun _ => rfl) (by decide) rfl (as := [.ref 43]) (rest := []) rfl (L0 := [some (.ref 43), none, none, none]) rfl (t_X8_watched_43 hv8) ?_
      refine o_istore (v := v8) (L' := [some (.ref 43), some (.int (M 44 (3 : Int32).toNatClampNeg)), some (.int s2.1), some (.int s2.2.1), some (.int s2.2.2.1), some (.int v8)]) k173_39 rfl rfl ?_
      refine o_iload k173_41 rfl ?_
      refine o_iload_n k173_43 rfl ?_
      refine o_icmp_le k173_44 (fun hc9 => ?_) (fun hc9 => ?_)
      · rw [if_pos hc9] at h
        refine o_iinc (w := s2.2.2.1 + 1) (L' := [some (.ref 43), some (.int (M 44 (3 : Int32).toNatClampNeg)), some (.int s2.1), some (.int s2.2.1), some (.int (s2.2.2.1 + 1)), some (.int v8)]) k173_53 rfl rfl rfl ?_
        refine o_goto k173_56 ?_
        have h9 := Option.some.inj h
        subst h9
        exact hK _
      · rw [if_neg hc9] at h
        refine o_iload k173_47 rfl ?_
        refine o_istore_n (v := v8) (L' := [some (.ref 43), some (.int (M 44 (3 : Int32).toNatClampNeg)), some (.int s2.1), some (.int v8), some (.int s2.2.2.1), some (.int v8)]) k173_49 rfl rfl ?_
        refine o_iload k173_50 rfl ?_
        refine o_istore_n (v := s2.2.2.1) (L' := [some (.ref 43), some (.int (M 44 (3 : Int32).toNatClampNeg)), some (.int s2.2.2.1), some (.int v8), some (.int s2.2.2.1), some (.int v8)]) k173_52 rfl rfl ?_
        refine o_iinc (w := s2.2.2.1 + 1) (L' := [some (.ref 43), some (.int (M 44 (3 : Int32).toNatClampNeg)), some (.int s2.2.2.1), some (.int v8), some (.int (s2.2.2.1 + 1)), some (.int v8)]) k173_53 rfl rfl rfl ?_
        refine o_goto k173_56 ?_
        have h9 := Option.some.inj h
        subst h9
        exact hK _
  · show ∀ (d11 : Option Value), oo LN xs 0 0 173 59 [some (.ref 43), some (.int (M 44 (3 : Int32).toNatClampNeg)), some (.int s10.1), some (.int s10.2.1), some (.int s10.2.2.1), d11] [] s10.2.2.2 (some (.int t.1), t.2)
    intro d11
    refine o_aload_n k173_59 rfl ?_
    refine o_gf k173_60 (gf_43_0 _) ?_
    refine o_iconst (v := 3) k173_63 (by decide) ?_
    refine o_iload_n k173_64 rfl ?_
    refine bl_i h (fun M13 eM13 h => ?_)
    refine o_iast (M' := M13) k173_65 eM13 ia_44 (by decide) ?_
    refine o_iload_n k173_66 rfl ?_
    have h9 := Option.some.inj h
    subst h9
    exact o_iret pj_173 k173_67 rfl nr_i
def f_X0_takes_9 (a0 : Int32) (a1 : Int32) (a2 : Int32) (M : am_M) : Int32 := (if (f_X0_hasCell_9 a0 a1 M) = 0 then 0 else (if a2 < 0 then 0 else (if 2 < a2 then 0 else 1)))
set_option maxRecDepth 20000 in
theorem t_X0_takes_9 {LN : Nat} {xs : Nat → Int32} {a0 : Int32} {a1 : Int32} {a2 : Int32} {M : am_M} {t : Int32} (h : f_X0_takes_9 a0 a1 a2 M = t) : oo LN xs 0 0 9 0 [some (.ref 9), some (.int a0), some (.int a1), some (.int a2)] [] M (some (.int t), M) := by
  unfold f_X0_takes_9 at h
  refine o_aload_n k9_0 rfl ?_
  refine o_iload_n k9_1 rfl ?_
  refine o_iload_n k9_2 rfl ?_
  refine o_call k9_3 pj_8 (fun _ => rfl) (by decide) rfl (as := [.ref 9, .int a0, .int a1]) (rest := []) rfl (L0 := [some (.ref 9), some (.int a0), some (.int a1)]) rfl (t_X0_hasCell_9 (M := M) (a0 := a0) (a1 := a1) rfl) ?_
  refine o_if_eq k9_6 (fun hc1 => ?_) (fun hc1 => ?_)
  · rw [if_pos hc1] at h
    refine o_iconst (v := 0) k9_22 (by decide) ?_
    subst h
    exact o_iret pj_9 k9_23 rfl (nr_z (by decide))
  · rw [if_neg hc1] at h
    refine o_iload_n k9_9 rfl ?_
    refine o_if_lt k9_10 (fun hc2 => ?_) (fun hc2 => ?_)
    · rw [if_pos hc2] at h
      refine o_iconst (v := 0) k9_22 (by decide) ?_
      subst h
      exact o_iret pj_9 k9_23 rfl (nr_z (by decide))
    · rw [if_neg hc2] at h
      refine o_iload_n k9_13 rfl ?_
      refine o_iconst (v := 2) k9_14 (by decide) ?_
      refine o_icmp_gt k9_15 (fun hc3 => ?_) (fun hc3 => ?_)
      · rw [if_pos hc3] at h
        refine o_iconst (v := 0) k9_22 (by decide) ?_
        subst h
        exact o_iret pj_9 k9_23 rfl (nr_z (by decide))
      · rw [if_neg hc3] at h
        refine o_iconst (v := 1) k9_18 (by decide) ?_
        refine o_goto k9_19 ?_
        subst h
        exact o_iret pj_9 k9_23 rfl (nr_z (by decide))
def f_X7_exchange_10 (a0 : Int32) (a1 : Int32) (M : am_M) : Option (Int32 × am_M) := (if am_dbin a0 64 = true then (if am_dbin a0 64 = true then (bl (am_up M 10 a0.toNatClampNeg a1) (fun (M3 : am_M) => (some ((M 10 a0.toNatClampNeg), M3)))) else none) else none)
set_option maxRecDepth 20000 in
theorem t_X7_exchange_10 {LN : Nat} {xs : Nat → Int32} {a0 : Int32} {a1 : Int32} {M : am_M} {t : Int32 × am_M} (h : f_X7_exchange_10 a0 a1 M = some t) : oo LN xs 0 0 102 0 [some (.ref 10), some (.int a0), some (.int a1), none] [] M (some (.int t.1), t.2) := by
  unfold f_X7_exchange_10 at h
  refine o_aload_n k102_0 rfl ?_
  refine o_iload_n k102_1 rfl ?_
  obtain ⟨hc1, h⟩ := ck_i h
  refine o_iald k102_2 rfl ia_10 hc1 ?_
  refine o_istore_n (v := (M 10 a0.toNatClampNeg)) (L' := [some (.ref 10), some (.int a0), some (.int a1), some (.int (M 10 a0.toNatClampNeg))]) k102_3 rfl rfl ?_
  refine o_aload_n k102_4 rfl ?_
  refine o_iload_n k102_5 rfl ?_
  refine o_iload_n k102_6 rfl ?_
  obtain ⟨hc2, h⟩ := ck_i h
  refine bl_i h (fun M3 eM3 h => ?_)
  refine o_iast (M' := M3) k102_7 eM3 ia_10 hc2 ?_
  refine o_iload_n k102_8 rfl ?_
  have h9 := Option.some.inj h
  subst h9
  exact o_iret pj_102 k102_9 rfl nr_i
def f_X7_set_0 (a0 : Int32) (a1 : Int32) (a2 : Int32) (M : am_M) : Option (Int32 × am_M) := (if (f_X0_takes_9 a0 a1 a2 M) = 0 then (some ((-1), M)) else ((f_X7_exchange_10 (f_X0_at a0 a1) a2 M).bind (fun q2 => (some (q2.1, q2.2)))))
set_option maxRecDepth 20000 in
theorem t_X7_set_0 {LN : Nat} {xs : Nat → Int32} {a0 : Int32} {a1 : Int32} {a2 : Int32} {M : am_M} {t : Int32 × am_M} (h : f_X7_set_0 a0 a1 a2 M = some t) : oo LN xs 0 0 97 0 [some (.ref 0), some (.int a0), some (.int a1), some (.int a2)] [] M (some (.int t.1), t.2) := by
  unfold f_X7_set_0 at h
  refine o_aload_n k97_0 rfl ?_
  refine o_gf k97_1 (gf_0_2 _) ?_
  refine o_iload_n k97_4 rfl ?_
  refine o_iload_n k97_5 rfl ?_
  refine o_iload_n k97_6 rfl ?_
  refine o_call k97_7 pj_9 (fun _ => rfl) (by decide) rfl (as := [.ref 9, .int a0, .int a1, .int a2]) (rest := []) rfl (L0 := [some (.ref 9), some (.int a0), some (.int a1), some (.int a2)]) rfl (t_X0_takes_9 (M := M) (a0 := a0) (a1 := a1) (a2 := a2) rfl) ?_
  refine o_if_ne k97_10 (fun hc1 => ?_) (fun hc1 => ?_)
  · rw [if_neg hc1] at h
    refine o_aload_n k97_15 rfl ?_
    refine o_gf k97_16 (gf_0_2 _) ?_
    refine o_gf k97_19 (gf_9_7 _) ?_
    refine o_iload_n k97_22 rfl ?_
    refine o_iload_n k97_23 rfl ?_
    refine o_call k97_24 pj_5 (fun _ => rfl) (by decide) rfl (as := [.int a0, .int a1]) (rest := [.ref 10]) rfl (L0 := [some (.int a0), some (.int a1)]) rfl (t_X0_at (M := M) (a0 := a0) (a1 := a1) rfl) ?_
    refine o_iload_n k97_27 rfl ?_
    refine bd_i h (fun q2 hq2 h => ?_)
    refine o_call k97_28 pj_102 (fun _ => rfl) (by decide) rfl (as := [.ref 10, .int (f_X0_at a0 a1), .int a2]) (rest := []) rfl (L0 := [some (.ref 10), some (.int (f_X0_at a0 a1)), some (.int a2), none]) rfl (t_X7_exchange_10 hq2) ?_
    have h9 := Option.some.inj h
    subst h9
    exact o_iret pj_97 k97_31 rfl nr_i
  · rw [if_pos hc1] at h
    refine o_iconst (v := (-1)) k97_13 (by decide) ?_
    have h9 := Option.some.inj h
    subst h9
    exact o_iret pj_97 k97_14 rfl nr_i
def f_X8_becomes_43 (a0 : Int32) (a1 : Int32) (M : am_M) : Option (Int32 × am_M) := (if am_dbin a0 151 = true then (if am_dbin a0 151 = true then (bl (am_up M 44 a0.toNatClampNeg a1) (fun (M3 : am_M) => (some ((M 44 a0.toNatClampNeg), M3)))) else none) else none)
set_option maxRecDepth 20000 in
theorem t_X8_becomes_43 {LN : Nat} {xs : Nat → Int32} {a0 : Int32} {a1 : Int32} {M : am_M} {t : Int32 × am_M} (h : f_X8_becomes_43 a0 a1 M = some t) : oo LN xs 0 0 174 0 [some (.ref 43), some (.int a0), some (.int a1), none] [] M (some (.int t.1), t.2) := by
  unfold f_X8_becomes_43 at h
  refine o_aload_n k174_0 rfl ?_
  refine o_gf k174_1 (gf_43_0 _) ?_
  refine o_iload_n k174_4 rfl ?_
  obtain ⟨hc1, h⟩ := ck_i h
  refine o_iald k174_5 rfl ia_44 hc1 ?_
  refine o_istore_n (v := (M 44 a0.toNatClampNeg)) (L' := [some (.ref 43), some (.int a0), some (.int a1), some (.int (M 44 a0.toNatClampNeg))]) k174_6 rfl rfl ?_
  refine o_aload_n k174_7 rfl ?_
  refine o_gf k174_8 (gf_43_0 _) ?_
  refine o_iload_n k174_11 rfl ?_
  refine o_iload_n k174_12 rfl ?_
  obtain ⟨hc2, h⟩ := ck_i h
  refine bl_i h (fun M3 eM3 h => ?_)
  refine o_iast (M' := M3) k174_13 eM3 ia_44 hc2 ?_
  refine o_iload_n k174_14 rfl ?_
  have h9 := Option.some.inj h
  subst h9
  exact o_iret pj_174 k174_15 rfl nr_i
def f_X8_set_43 (a0 : Int32) (a1 : Int32) (a2 : Int32) (M : am_M) : Option (Int32 × am_M) := ((f_X8_isCell_43 a0 a1 M).bind (fun v1 => (if v1 = 0 then (some ((-1), M)) else (if (f_X8_in a2.toInt64 0 2) = 0 then (some ((-1), M)) else ((f_X8_becomes_43 (((7 : Int32) + ((8 : Int32) * a0)) + a1) a2 M).bind (fun q4 => (some (q4.1, q4.2))))))))
set_option maxRecDepth 20000 in
theorem t_X8_set_43 {LN : Nat} {xs : Nat → Int32} {a0 : Int32} {a1 : Int32} {a2 : Int32} {M : am_M} {t : Int32 × am_M} (h : f_X8_set_43 a0 a1 a2 M = some t) : oo LN xs 0 0 175 0 [some (.ref 43), some (.int a0), some (.int a1), some (.int a2)] [] M (some (.int t.1), t.2) := by
  unfold f_X8_set_43 at h
  refine o_aload_n k175_0 rfl ?_
  refine o_iload_n k175_1 rfl ?_
  refine o_iload_n k175_2 rfl ?_
  refine bd_i h (fun v1 hv1 h => ?_)
  refine o_call k175_3 pj_152 (fun _ => rfl) (by decide) rfl (as := [.ref 43, .int a0, .int a1]) (rest := []) rfl (L0 := [some (.ref 43), some (.int a0), some (.int a1)]) rfl (t_X8_isCell_43 hv1) ?_
  refine o_if_eq k175_6 (fun hc2 => ?_) (fun hc2 => ?_)
  · rw [if_pos hc2] at h
    refine o_iconst (v := (-1)) k175_38 (by decide) ?_
    have h9 := Option.some.inj h
    subst h9
    exact o_iret pj_175 k175_39 rfl nr_i
  · rw [if_neg hc2] at h
    refine o_iload_n k175_9 rfl ?_
    refine o_i2l k175_10 ?_
    refine o_lconst (v := 0) k175_11 (by decide) ?_
    refine o_ldc2_w k175_12 ?_
    refine o_call k175_15 pj_125 (fun _ => rfl) (by decide) rfl (as := [.long a2.toInt64, .long 0, .long 2]) (rest := []) rfl (L0 := [some (.long a2.toInt64), none, some (.long 0), none, some (.long 2), none]) rfl (t_X8_in (M := M) (a0 := a2.toInt64) (a1 := 0) (a2 := 2) rfl) ?_
    refine o_if_eq k175_18 (fun hc3 => ?_) (fun hc3 => ?_)
    · rw [if_pos hc3] at h
      refine o_iconst (v := (-1)) k175_38 (by decide) ?_
      have h9 := Option.some.inj h
      subst h9
      exact o_iret pj_175 k175_39 rfl nr_i
    · rw [if_neg hc3] at h
      refine o_aload_n k175_21 rfl ?_
      refine o_bipush (v := 7) k175_22 (by decide) ?_
      refine o_bipush (v := 8) k175_24 (by decide) ?_
      refine o_iload_n k175_26 rfl ?_
      refine o_imul k175_27 ?_
      refine o_iadd k175_28 ?_
      refine o_iload_n k175_29 rfl ?_
      refine o_iadd k175_30 ?_
      refine o_iload_n k175_31 rfl ?_
      refine bd_i h (fun q4 hq4 h => ?_)
      refine o_call k175_32 pj_174 (fun _ => rfl) (by decide) rfl (as := [.ref 43, .int (((7 : Int32) + ((8 : Int32) * a0)) + a1), .int a2]) (rest := []) rfl (L0 := [some (.ref 43), some (.int (((7 : Int32) + ((8 : Int32) * a0)) + a1)), some (.int a2), none]) rfl (t_X8_becomes_43 hq4) ?_
      refine o_goto k175_35 ?_
      have h9 := Option.some.inj h
      subst h9
      exact o_iret pj_175 k175_39 rfl nr_i
def f_X0_allOutputs_9 (M : am_M) : Int32 := (((1 : Int32) <<< ((M 9 2) &&& 31)) - 1)
set_option maxRecDepth 20000 in
theorem t_X0_allOutputs_9 {LN : Nat} {xs : Nat → Int32} {M : am_M} {t : Int32} (h : f_X0_allOutputs_9 M = t) : oo LN xs 0 0 11 0 [some (.ref 9)] [] M (some (.int t), M) := by
  unfold f_X0_allOutputs_9 at h
  refine o_iconst (v := 1) k11_0 (by decide) ?_
  refine o_aload_n k11_1 rfl ?_
  refine o_gf k11_2 (gf_9_2 _) ?_
  refine o_ishl k11_5 ?_
  refine o_iconst (v := 1) k11_6 (by decide) ?_
  refine o_isub k11_7 ?_
  subst h
  exact o_iret pj_11 k11_8 rfl nr_i
def f_X7_exchange_12 (a0 : Int32) (a1 : Int32) (M : am_M) : Option (Int32 × am_M) := (if am_dbin a0 8 = true then (if am_dbin a0 8 = true then (bl (am_up M 12 a0.toNatClampNeg a1) (fun (M3 : am_M) => (some ((M 12 a0.toNatClampNeg), M3)))) else none) else none)
set_option maxRecDepth 20000 in
theorem t_X7_exchange_12 {LN : Nat} {xs : Nat → Int32} {a0 : Int32} {a1 : Int32} {M : am_M} {t : Int32 × am_M} (h : f_X7_exchange_12 a0 a1 M = some t) : oo LN xs 0 0 102 0 [some (.ref 12), some (.int a0), some (.int a1), none] [] M (some (.int t.1), t.2) := by
  unfold f_X7_exchange_12 at h
  refine o_aload_n k102_0 rfl ?_
  refine o_iload_n k102_1 rfl ?_
  obtain ⟨hc1, h⟩ := ck_i h
  refine o_iald k102_2 rfl ia_12 hc1 ?_
  refine o_istore_n (v := (M 12 a0.toNatClampNeg)) (L' := [some (.ref 12), some (.int a0), some (.int a1), some (.int (M 12 a0.toNatClampNeg))]) k102_3 rfl rfl ?_
  refine o_aload_n k102_4 rfl ?_
  refine o_iload_n k102_5 rfl ?_
  refine o_iload_n k102_6 rfl ?_
  obtain ⟨hc2, h⟩ := ck_i h
  refine bl_i h (fun M3 eM3 h => ?_)
  refine o_iast (M' := M3) k102_7 eM3 ia_12 hc2 ?_
  refine o_iload_n k102_8 rfl ?_
  have h9 := Option.some.inj h
  subst h9
  exact o_iret pj_102 k102_9 rfl nr_i
def f_X7_put_0 (a0 : Int32) (a1 : Int32) (M : am_M) : Option (Int32 × am_M) := (if (f_X0_hasChain_9 a0 M) = 0 then (some ((-1), M)) else (if (a1 &&& ((f_X0_allOutputs_9 M) ^^^ (-1))) = 0 then ((f_X7_exchange_12 a0 a1 M).bind (fun q3 => (some (q3.1, q3.2)))) else (some ((-1), M))))
set_option maxRecDepth 20000 in
theorem t_X7_put_0 {LN : Nat} {xs : Nat → Int32} {a0 : Int32} {a1 : Int32} {M : am_M} {t : Int32 × am_M} (h : f_X7_put_0 a0 a1 M = some t) : oo LN xs 0 0 98 0 [some (.ref 0), some (.int a0), some (.int a1)] [] M (some (.int t.1), t.2) := by
  unfold f_X7_put_0 at h
  refine o_aload_n k98_0 rfl ?_
  refine o_gf k98_1 (gf_0_2 _) ?_
  refine o_iload_n k98_4 rfl ?_
  refine o_call k98_5 pj_7 (fun _ => rfl) (by decide) rfl (as := [.ref 9, .int a0]) (rest := []) rfl (L0 := [some (.ref 9), some (.int a0)]) rfl (t_X0_hasChain_9 (M := M) (a0 := a0) rfl) ?_
  refine o_if_eq k98_8 (fun hc1 => ?_) (fun hc1 => ?_)
  · rw [if_pos hc1] at h
    refine o_iconst (v := (-1)) k98_25 (by decide) ?_
    have h9 := Option.some.inj h
    subst h9
    exact o_iret pj_98 k98_26 rfl nr_i
  · rw [if_neg hc1] at h
    refine o_iload_n k98_11 rfl ?_
    refine o_aload_n k98_12 rfl ?_
    refine o_gf k98_13 (gf_0_2 _) ?_
    refine o_call k98_16 pj_11 (fun _ => rfl) (by decide) rfl (as := [.ref 9]) (rest := [.int a1]) rfl (L0 := [some (.ref 9)]) rfl (t_X0_allOutputs_9 (M := M) rfl) ?_
    refine o_iconst (v := (-1)) k98_19 (by decide) ?_
    refine o_ixor k98_20 ?_
    refine o_iand k98_21 ?_
    refine o_if_eq k98_22 (fun hc2 => ?_) (fun hc2 => ?_)
    · rw [if_pos hc2] at h
      refine o_aload_n k98_27 rfl ?_
      refine o_gf k98_28 (gf_0_2 _) ?_
      refine o_gf k98_31 (gf_9_9 _) ?_
      refine o_iload_n k98_34 rfl ?_
      refine o_iload_n k98_35 rfl ?_
      refine bd_i h (fun q3 hq3 h => ?_)
      refine o_call k98_36 pj_102 (fun _ => rfl) (by decide) rfl (as := [.ref 12, .int a0, .int a1]) (rest := []) rfl (L0 := [some (.ref 12), some (.int a0), some (.int a1), none]) rfl (t_X7_exchange_12 hq3) ?_
      have h9 := Option.some.inj h
      subst h9
      exact o_iret pj_98 k98_39 rfl nr_i
    · rw [if_neg hc2] at h
      refine o_iconst (v := (-1)) k98_25 (by decide) ?_
      have h9 := Option.some.inj h
      subst h9
      exact o_iret pj_98 k98_26 rfl nr_i
def f_X8_put_43 (a0 : Int32) (a1 : Int32) (M : am_M) : Option (Int32 × am_M) := ((f_X8_isChain_43 a0 M).bind (fun v1 => (if v1 = 0 then (some ((-1), M)) else (if (f_X8_in a1.toInt64 0 ((((1 : Int32) <<< ((M 44 (2 : Int32).toNatClampNeg) &&& 31)) - 1).toInt64)) = 0 then (some ((-1), M)) else ((f_X8_becomes_43 ((135 : Int32) + a0) a1 M).bind (fun q5 => (some (q5.1, q5.2))))))))
set_option maxRecDepth 20000 in
theorem t_X8_put_43 {LN : Nat} {xs : Nat → Int32} {a0 : Int32} {a1 : Int32} {M : am_M} {t : Int32 × am_M} (h : f_X8_put_43 a0 a1 M = some t) : oo LN xs 0 0 176 0 [some (.ref 43), some (.int a0), some (.int a1)] [] M (some (.int t.1), t.2) := by
  unfold f_X8_put_43 at h
  refine o_aload_n k176_0 rfl ?_
  refine o_iload_n k176_1 rfl ?_
  refine bd_i h (fun v1 hv1 h => ?_)
  refine o_call k176_2 pj_151 (fun _ => rfl) (by decide) rfl (as := [.ref 43, .int a0]) (rest := []) rfl (L0 := [some (.ref 43), some (.int a0)]) rfl (t_X8_isChain_43 hv1) ?_
  refine o_if_eq k176_5 (fun hc2 => ?_) (fun hc2 => ?_)
  · rw [if_pos hc2] at h
    refine o_iconst (v := (-1)) k176_41 (by decide) ?_
    have h9 := Option.some.inj h
    subst h9
    exact o_iret pj_176 k176_42 rfl nr_i
  · rw [if_neg hc2] at h
    refine o_iload_n k176_8 rfl ?_
    refine o_i2l k176_9 ?_
    refine o_lconst (v := 0) k176_10 (by decide) ?_
    refine o_iconst (v := 1) k176_11 (by decide) ?_
    refine o_aload_n k176_12 rfl ?_
    refine o_gf k176_13 (gf_43_0 _) ?_
    refine o_iconst (v := 2) k176_16 (by decide) ?_
    refine o_iald k176_17 rfl ia_44 (by decide) ?_
    refine o_ishl k176_18 ?_
    refine o_iconst (v := 1) k176_19 (by decide) ?_
    refine o_isub k176_20 ?_
    refine o_i2l k176_21 ?_
    refine o_call k176_22 pj_125 (fun _ => rfl) (by decide) rfl (as := [.long a1.toInt64, .long 0, .long ((((1 : Int32) <<< ((M 44 (2 : Int32).toNatClampNeg) &&& 31)) - 1).toInt64)]) (rest := []) rfl (L0 := [some (.long a1.toInt64), none, some (.long 0), none, some (.long ((((1 : Int32) <<< ((M 44 (2 : Int32).toNatClampNeg) &&& 31)) - 1).toInt64)), none]) rfl (t_X8_in (M := M) (a0 := a1.toInt64) (a1 := 0) (a2 := ((((1 : Int32) <<< ((M 44 (2 : Int32).toNatClampNeg) &&& 31)) - 1).toInt64)) rfl) ?_
    refine o_if_eq k176_25 (fun hc4 => ?_) (fun hc4 => ?_)
    · rw [if_pos hc4] at h
      refine o_iconst (v := (-1)) k176_41 (by decide) ?_
      have h9 := Option.some.inj h
      subst h9
      exact o_iret pj_176 k176_42 rfl nr_i
    · rw [if_neg hc4] at h
      refine o_aload_n k176_28 rfl ?_
      refine o_sipush (v := 135) k176_29 (by decide) ?_
      refine o_iload_n k176_32 rfl ?_
      refine o_iadd k176_33 ?_
      refine o_iload_n k176_34 rfl ?_
      refine bd_i h (fun q5 hq5 h => ?_)
      refine o_call k176_35 pj_174 (fun _ => rfl) (by decide) rfl (as := [.ref 43, .int ((135 : Int32) + a0), .int a1]) (rest := []) rfl (L0 := [some (.ref 43), some (.int ((135 : Int32) + a0)), some (.int a1), none]) rfl (t_X8_becomes_43 hq5) ?_
      refine o_goto k176_38 ?_
      have h9 := Option.some.inj h
      subst h9
      exact o_iret pj_176 k176_42 rfl nr_i
def f_X7_out_0 (a0 : Int32) (M : am_M) : Option (Int32 × am_M) := (if (a0 &&& ((f_X0_allChains_9 M) ^^^ (-1))) = 0 then (bl (am_up M 9 3 a0) (fun (M2 : am_M) => (some ((M 9 3), M2)))) else (some ((-1), M)))
set_option maxRecDepth 20000 in
theorem t_X7_out_0 {LN : Nat} {xs : Nat → Int32} {a0 : Int32} {M : am_M} {t : Int32 × am_M} (h : f_X7_out_0 a0 M = some t) : oo LN xs 0 0 99 0 [some (.ref 0), some (.int a0), none] [] M (some (.int t.1), t.2) := by
  unfold f_X7_out_0 at h
  refine o_iload_n k99_0 rfl ?_
  refine o_aload_n k99_1 rfl ?_
  refine o_gf k99_2 (gf_0_2 _) ?_
  refine o_call k99_5 pj_10 (fun _ => rfl) (by decide) rfl (as := [.ref 9]) (rest := [.int a0]) rfl (L0 := [some (.ref 9)]) rfl (t_X0_allChains_9 (M := M) rfl) ?_
  refine o_iconst (v := (-1)) k99_8 (by decide) ?_
  refine o_ixor k99_9 ?_
  refine o_iand k99_10 ?_
  refine o_if_eq k99_11 (fun hc1 => ?_) (fun hc1 => ?_)
  · rw [if_pos hc1] at h
    refine o_aload_n k99_16 rfl ?_
    refine o_gf k99_17 (gf_0_2 _) ?_
    refine o_gf k99_20 (gf_9_3 _) ?_
    refine o_istore_n (v := (M 9 3)) (L' := [some (.ref 0), some (.int a0), some (.int (M 9 3))]) k99_23 rfl rfl ?_
    refine o_aload_n k99_24 rfl ?_
    refine o_gf k99_25 (gf_0_2 _) ?_
    refine o_iload_n k99_28 rfl ?_
    refine bl_i h (fun M2 eM2 h => ?_)
    refine o_pf (M' := M2) k99_29 (pf_9_3 eM2) ?_
    refine o_iload_n k99_32 rfl ?_
    have h9 := Option.some.inj h
    subst h9
    exact o_iret pj_99 k99_33 rfl nr_i
  · rw [if_neg hc1] at h
    refine o_iconst (v := (-1)) k99_14 (by decide) ?_
    have h9 := Option.some.inj h
    subst h9
    exact o_iret pj_99 k99_15 rfl nr_i
def f_X8_out_43 (a0 : Int32) (M : am_M) : Option (Int32 × am_M) := (if (f_X8_in a0.toInt64 0 ((((1 : Int32) <<< ((M 44 (0 : Int32).toNatClampNeg) &&& 31)) - 1).toInt64)) = 0 then (some ((-1), M)) else ((f_X8_becomes_43 3 a0 M).bind (fun q3 => (some (q3.1, q3.2)))))
set_option maxRecDepth 20000 in
theorem t_X8_out_43 {LN : Nat} {xs : Nat → Int32} {a0 : Int32} {M : am_M} {t : Int32 × am_M} (h : f_X8_out_43 a0 M = some t) : oo LN xs 0 0 177 0 [some (.ref 43), some (.int a0)] [] M (some (.int t.1), t.2) := by
  unfold f_X8_out_43 at h
  refine o_iload_n k177_0 rfl ?_
  refine o_i2l k177_1 ?_
  refine o_lconst (v := 0) k177_2 (by decide) ?_
  refine o_iconst (v := 1) k177_3 (by decide) ?_
  refine o_aload_n k177_4 rfl ?_
  refine o_gf k177_5 (gf_43_0 _) ?_
  refine o_iconst (v := 0) k177_8 (by decide) ?_
  refine o_iald k177_9 rfl ia_44 (by decide) ?_
  refine o_ishl k177_10 ?_
  refine o_iconst (v := 1) k177_11 (by decide) ?_
  refine o_isub k177_12 ?_
  refine o_i2l k177_13 ?_
  refine o_call k177_14 pj_125 (fun _ => rfl) (by decide) rfl (as := [.long a0.toInt64, .long 0, .long ((((1 : Int32) <<< ((M 44 (0 : Int32).toNatClampNeg) &&& 31)) - 1).toInt64)]) (rest := []) rfl (L0 := [some (.long a0.toInt64), none, some (.long 0), none, some (.long ((((1 : Int32) <<< ((M 44 (0 : Int32).toNatClampNeg) &&& 31)) - 1).toInt64)), none]) rfl (t_X8_in (M := M) (a0 := a0.toInt64) (a1 := 0) (a2 := ((((1 : Int32) <<< ((M 44 (0 : Int32).toNatClampNeg) &&& 31)) - 1).toInt64)) rfl) ?_
  refine o_if_eq k177_17 (fun hc2 => ?_) (fun hc2 => ?_)
  · rw [if_pos hc2] at h
    refine o_iconst (v := (-1)) k177_29 (by decide) ?_
    have h9 := Option.some.inj h
    subst h9
    exact o_iret pj_177 k177_30 rfl nr_i
  · rw [if_neg hc2] at h
    refine o_aload_n k177_20 rfl ?_
    refine o_iconst (v := 3) k177_21 (by decide) ?_
    refine o_iload_n k177_22 rfl ?_
    refine bd_i h (fun q3 hq3 h => ?_)
    refine o_call k177_23 pj_174 (fun _ => rfl) (by decide) rfl (as := [.ref 43, .int 3, .int a0]) (rest := []) rfl (L0 := [some (.ref 43), some (.int 3), some (.int a0), none]) rfl (t_X8_becomes_43 hq3) ?_
    refine o_goto k177_26 ?_
    have h9 := Option.some.inj h
    subst h9
    exact o_iret pj_177 k177_30 rfl nr_i
def f_X7_drawnCell (a0 : Int32) : Int32 := (if (a0 - a0 / 5 * 5) = 2 then 2 else (if (a0 - a0 / 5 * 5) = 4 then 2 else (if (a0 - a0 / 5 * 5) = 1 then 1 else 0)))
set_option maxRecDepth 20000 in
theorem t_X7_drawnCell {LN : Nat} {xs : Nat → Int32} {a0 : Int32} {M : am_M} {t : Int32} (h : f_X7_drawnCell a0 = t) : oo LN xs 0 0 101 0 [some (.int a0), none] [] M (some (.int t), M) := by
  unfold f_X7_drawnCell at h
  refine o_iload_n k101_0 rfl ?_
  refine o_iconst (v := 5) k101_1 (by decide) ?_
  refine o_irem k101_2 (by decide) ?_
  refine o_istore_n (v := (a0 - a0 / 5 * 5)) (L' := [some (.int a0), some (.int (a0 - a0 / 5 * 5))]) k101_3 rfl rfl ?_
  refine o_iload_n k101_4 rfl ?_
  refine o_iconst (v := 2) k101_5 (by decide) ?_
  refine o_icmp_eq k101_6 (fun hc1 => ?_) (fun hc1 => ?_)
  · rw [if_pos hc1] at h
    refine o_iconst (v := 2) k101_14 (by decide) ?_
    subst h
    exact o_iret pj_101 k101_15 rfl nr_i
  · rw [if_neg hc1] at h
    refine o_iload_n k101_9 rfl ?_
    refine o_iconst (v := 4) k101_10 (by decide) ?_
    refine o_icmp_ne k101_11 (fun hc2 => ?_) (fun hc2 => ?_)
    · rw [if_neg hc2] at h
      refine o_iload_n k101_16 rfl ?_
      refine o_iconst (v := 1) k101_17 (by decide) ?_
      refine o_icmp_ne k101_18 (fun hc3 => ?_) (fun hc3 => ?_)
      · rw [if_neg hc3] at h
        refine o_iconst (v := 0) k101_25 (by decide) ?_
        subst h
        exact o_iret pj_101 k101_26 rfl nr_i
      · rw [if_pos hc3] at h
        refine o_iconst (v := 1) k101_21 (by decide) ?_
        refine o_goto k101_22 ?_
        subst h
        exact o_iret pj_101 k101_26 rfl nr_i
    · rw [if_pos hc2] at h
      refine o_iconst (v := 2) k101_14 (by decide) ?_
      subst h
      exact o_iret pj_101 k101_15 rfl nr_i
def f_X7_draw_0 (a0 : Int32) (M : am_M) : Option (Int32 × am_M) := ((lp (σ := Int32 × Int32 × am_M) (ρ := Int32 × Int32 × am_M) (fun s1 => (if (s1.2.2 9 0) ≤ s1.2.1 then (some (.inr (s1.1, s1.2.1, s1.2.2))) else ((lp (σ := Int32 × Int32 × am_M) (ρ := Int32 × Int32 × am_M) (fun s4 => (if (s4.2.2 9 1) ≤ s4.2.1 then (some (.inr (s4.1, s4.2.1, s4.2.2))) else (if am_dbin (f_X0_at s1.2.1 s4.2.1) 64 = true then (bl (am_up s4.2.2 10 (f_X0_at s1.2.1 s4.2.1).toNatClampNeg (f_X7_drawnCell ((ushr ((s4.1 * 1103515245) + 12345) 16) &&& 32767))) (fun (M7 : am_M) => (some (.inl (((s4.1 * 1103515245) + 12345), (s4.2.1 + 1), M7))))) else none))) lp_F (s1.1, 0, s1.2.2)).bind (fun s8 => (some (.inl (s8.1, (s1.2.1 + 1), s8.2.2))))))) lp_F (a0, 0, M)).bind (fun s9 => ((f_X0_cellsWith_9 2 s9.2.2).bind (fun v11 => (some (v11, s9.2.2))))))
set_option maxRecDepth 20000 in
theorem t_X7_draw_0 {LN : Nat} {xs : Nat → Int32} {a0 : Int32} {M : am_M} {t : Int32 × am_M} (h : f_X7_draw_0 a0 M = some t) : oo LN xs 0 0 100 0 [some (.ref 0), some (.int a0), none, none, none] [] M (some (.int t.1), t.2) := by
  unfold f_X7_draw_0 at h
  refine o_iload_n k100_0 rfl ?_
  refine o_istore_n (v := a0) (L' := [some (.ref 0), some (.int a0), some (.int a0), none, none]) k100_1 rfl rfl ?_
  refine o_iconst (v := 0) k100_2 (by decide) ?_
  refine o_istore_n (v := 0) (L' := [some (.ref 0), some (.int a0), some (.int a0), some (.int 0), none]) k100_3 rfl rfl ?_
  refine bd_i h (fun s9 hs9 h => ?_)
  refine lp_o (fun s1 => ∀ (d2 : Option Value), oo LN xs 0 0 100 4 [some (.ref 0), some (.int a0), some (.int s1.1), some (.int s1.2.1), d2] [] s1.2.2 (some (.int t.1), t.2)) (fun s9 => ∀ (d10 : Option Value), oo LN xs 0 0 100 76 [some (.ref 0), some (.int a0), some (.int s9.1), some (.int s9.2.1), d10] [] s9.2.2 (some (.int t.1), t.2)) ?_ hs9 ?_ none
  · intro s1 ws1 h hK d2
    refine o_iload_n k100_4 rfl ?_
    refine o_aload_n k100_5 rfl ?_
    refine o_gf k100_6 (gf_0_2 _) ?_
    refine o_gf k100_9 (gf_9_0 _) ?_
    refine o_icmp_ge k100_12 (fun hc3 => ?_) (fun hc3 => ?_)
    · rw [if_pos hc3] at h
      have h9 := Option.some.inj h
      subst h9
      exact hK _
    · rw [if_neg hc3] at h
      refine o_iconst (v := 0) k100_15 (by decide) ?_
      refine o_istore (v := 0) (L' := [some (.ref 0), some (.int a0), some (.int s1.1), some (.int s1.2.1), some (.int 0)]) k100_16 rfl rfl ?_
      refine bd_i h (fun s8 hs8 h => ?_)
      refine lp_o (fun s4 => oo LN xs 0 0 100 18 [some (.ref 0), some (.int a0), some (.int s4.1), some (.int s1.2.1), some (.int s4.2.1)] [] s4.2.2 (some (.int t.1), t.2)) (fun s8 => oo LN xs 0 0 100 70 [some (.ref 0), some (.int a0), some (.int s8.1), some (.int s1.2.1), some (.int s8.2.1)] [] s8.2.2 (some (.int t.1), t.2)) ?_ hs8 ?_
      · intro s4 ws4 h hK
        refine o_iload k100_18 rfl ?_
        refine o_aload_n k100_20 rfl ?_
        refine o_gf k100_21 (gf_0_2 _) ?_
        refine o_gf k100_24 (gf_9_1 _) ?_
        refine o_icmp_ge k100_27 (fun hc5 => ?_) (fun hc5 => ?_)
        · rw [if_pos hc5] at h
          have h9 := Option.some.inj h
          subst h9
          exact hK
        · rw [if_neg hc5] at h
          refine o_iload_n k100_30 rfl ?_
          refine o_ldc k100_31 ?_
          refine o_imul k100_33 ?_
          refine o_sipush (v := 12345) k100_34 (by decide) ?_
          refine o_iadd k100_37 ?_
          refine o_istore_n (v := ((s4.1 * 1103515245) + 12345)) (L' := [some (.ref 0), some (.int a0), some (.int ((s4.1 * 1103515245) + 12345)), some (.int s1.2.1), some (.int s4.2.1)]) k100_38 rfl rfl ?_
          refine o_aload_n k100_39 rfl ?_
          refine o_gf k100_40 (gf_0_2 _) ?_
          refine o_gf k100_43 (gf_9_7 _) ?_
          refine o_iload_n k100_46 rfl ?_
          refine o_iload k100_47 rfl ?_
          refine o_call k100_49 pj_5 (fun _ => rfl) (by decide) rfl (as := [.int s1.2.1, .int s4.2.1]) (rest := [.ref 10]) rfl (L0 := [some (.int s1.2.1), some (.int s4.2.1)]) rfl (t_X0_at (M := s4.2.2) (a0 := s1.2.1) (a1 := s4.2.1) rfl) ?_
          refine o_iload_n k100_52 rfl ?_
          refine o_bipush (v := 16) k100_53 (by decide) ?_
          refine o_iushr k100_55 ?_
          refine o_sipush (v := 32767) k100_56 (by decide) ?_
          refine o_iand k100_59 ?_
          refine o_call k100_60 pj_101 (fun _ => rfl) (by decide) rfl (as := [.int ((ushr ((s4.1 * 1103515245) + 12345) 16) &&& 32767)]) (rest := [.int (f_X0_at s1.2.1 s4.2.1), .ref 10]) rfl (L0 := [some (.int ((ushr ((s4.1 * 1103515245) + 12345) 16) &&& 32767)), none]) rfl (t_X7_drawnCell (M := s4.2.2) (a0 := ((ushr ((s4.1 * 1103515245) + 12345) 16) &&& 32767)) rfl) ?_
          obtain ⟨hc6, h⟩ := ck_i h
          refine bl_i h (fun M7 eM7 h => ?_)
          refine o_iast (M' := M7) k100_63 eM7 ia_10 hc6 ?_
          refine o_iinc (w := s4.2.1 + 1) (L' := [some (.ref 0), some (.int a0), some (.int ((s4.1 * 1103515245) + 12345)), some (.int s1.2.1), some (.int (s4.2.1 + 1))]) k100_64 rfl rfl rfl ?_
          refine o_goto k100_67 ?_
          have h9 := Option.some.inj h
          subst h9
          exact hK
      · show oo LN xs 0 0 100 70 [some (.ref 0), some (.int a0), some (.int s8.1), some (.int s1.2.1), some (.int s8.2.1)] [] s8.2.2 (some (.int t.1), t.2)
        refine o_iinc (w := s1.2.1 + 1) (L' := [some (.ref 0), some (.int a0), some (.int s8.1), some (.int (s1.2.1 + 1)), some (.int s8.2.1)]) k100_70 rfl rfl rfl ?_
        refine o_goto k100_73 ?_
        have h9 := Option.some.inj h
        subst h9
        exact hK _
  · show ∀ (d10 : Option Value), oo LN xs 0 0 100 76 [some (.ref 0), some (.int a0), some (.int s9.1), some (.int s9.2.1), d10] [] s9.2.2 (some (.int t.1), t.2)
    intro d10
    refine o_aload_n k100_76 rfl ?_
    refine o_gf k100_77 (gf_0_2 _) ?_
    refine o_iconst (v := 2) k100_80 (by decide) ?_
    refine bd_i h (fun v11 hv11 h => ?_)
    refine o_call k100_81 pj_13 (fun _ => rfl) (by decide) rfl (as := [.ref 9, .int 2]) (rest := []) rfl (L0 := [some (.ref 9), some (.int 2), none, none, none]) rfl (t_X0_cellsWith_9 hv11) ?_
    have h9 := Option.some.inj h
    subst h9
    exact o_iret pj_100 k100_84 rfl nr_i
def f_X8_draw_43 (a0 : Int32) (M : am_M) : Option (Int32 × am_M) := ((lp (σ := Int32 × Int32 × am_M) (ρ := Int32 × Int32 × am_M) (fun s1 => (if (s1.2.2 44 (0 : Int32).toNatClampNeg) ≤ s1.2.1 then (some (.inr (s1.1, s1.2.1, s1.2.2))) else ((lp (σ := Int32 × Int32 × am_M) (ρ := Int32 × Int32 × am_M) (fun s6 => (if (s6.2.2 44 (1 : Int32).toNatClampNeg) ≤ s6.2.1 then (some (.inr (s6.1, s6.2.1, s6.2.2))) else (bl ((((((s6.1 * 1103515245) + 12345) >>> (16 &&& 31)) &&& 32767) - ((((s6.1 * 1103515245) + 12345) >>> (16 &&& 31)) &&& 32767) / 5 * 5)) (fun (v10 : Int32) => (if v10 = 4 then (if am_dbin (((7 : Int32) + ((8 : Int32) * s1.2.1)) + s6.2.1) 151 = true then (bl (am_up s6.2.2 44 (((7 : Int32) + ((8 : Int32) * s1.2.1)) + s6.2.1).toNatClampNeg 2) (fun (M18 : am_M) => (some (.inl (((s6.1 * 1103515245) + 12345), (s6.2.1 + 1), M18))))) else none) else (if v10 = 3 then (if am_dbin (((7 : Int32) + ((8 : Int32) * s1.2.1)) + s6.2.1) 151 = true then (bl (am_up s6.2.2 44 (((7 : Int32) + ((8 : Int32) * s1.2.1)) + s6.2.1).toNatClampNeg 0) (fun (M16 : am_M) => (some (.inl (((s6.1 * 1103515245) + 12345), (s6.2.1 + 1), M16))))) else none) else (if am_dbin (((7 : Int32) + ((8 : Int32) * s1.2.1)) + s6.2.1) 151 = true then (bl (am_up s6.2.2 44 (((7 : Int32) + ((8 : Int32) * s1.2.1)) + s6.2.1).toNatClampNeg v10) (fun (M14 : am_M) => (some (.inl (((s6.1 * 1103515245) + 12345), (s6.2.1 + 1), M14))))) else none))))))) lp_F (s1.1, 0, s1.2.2)).bind (fun s19 => (some (.inl (s19.1, (s1.2.1 + 1), s19.2.2))))))) lp_F (a0, 0, M)).bind (fun s21 => ((f_X8_cellsOf_43 2 s21.2.2).bind (fun v24 => (some (v24, s21.2.2))))))
set_option maxRecDepth 20000 in
theorem t_X8_draw_43 {LN : Nat} {xs : Nat → Int32} {a0 : Int32} {M : am_M} {t : Int32 × am_M} (h : f_X8_draw_43 a0 M = some t) : oo LN xs 0 0 178 0 [some (.ref 43), some (.int a0), none, none, none, none] [] M (some (.int t.1), t.2) := by
  unfold f_X8_draw_43 at h
  refine o_iload_n k178_0 rfl ?_
  refine o_istore_n (v := a0) (L' := [some (.ref 43), some (.int a0), some (.int a0), none, none, none]) k178_1 rfl rfl ?_
  refine o_iconst (v := 0) k178_2 (by decide) ?_
  refine o_istore_n (v := 0) (L' := [some (.ref 43), some (.int a0), some (.int a0), some (.int 0), none, none]) k178_3 rfl rfl ?_
  refine bd_i h (fun s21 hs21 h => ?_)
  refine lp_o (fun s1 => ∀ (d2 d3 : Option Value), oo LN xs 0 0 178 4 [some (.ref 43), some (.int a0), some (.int s1.1), some (.int s1.2.1), d2, d3] [] s1.2.2 (some (.int t.1), t.2)) (fun s21 => ∀ (d22 d23 : Option Value), oo LN xs 0 0 178 98 [some (.ref 43), some (.int a0), some (.int s21.1), some (.int s21.2.1), d22, d23] [] s21.2.2 (some (.int t.1), t.2)) ?_ hs21 ?_ none none
  · intro s1 ws1 h hK d2 d3
    refine o_iload_n k178_4 rfl ?_
    refine o_aload_n k178_5 rfl ?_
    refine o_gf k178_6 (gf_43_0 _) ?_
    refine o_iconst (v := 0) k178_9 (by decide) ?_
    refine o_iald k178_10 rfl ia_44 (by decide) ?_
    refine o_icmp_ge k178_11 (fun hc5 => ?_) (fun hc5 => ?_)
    · rw [if_pos hc5] at h
      have h9 := Option.some.inj h
      subst h9
      exact hK _ _
    · rw [if_neg hc5] at h
      refine o_iconst (v := 0) k178_14 (by decide) ?_
      refine o_istore (v := 0) (L' := [some (.ref 43), some (.int a0), some (.int s1.1), some (.int s1.2.1), some (.int 0), d3]) k178_15 rfl rfl ?_
      refine bd_i h (fun s19 hs19 h => ?_)
      refine lp_o (fun s6 => ∀ (d7 : Option Value), oo LN xs 0 0 178 17 [some (.ref 43), some (.int a0), some (.int s6.1), some (.int s1.2.1), some (.int s6.2.1), d7] [] s6.2.2 (some (.int t.1), t.2)) (fun s19 => ∀ (d20 : Option Value), oo LN xs 0 0 178 92 [some (.ref 43), some (.int a0), some (.int s19.1), some (.int s1.2.1), some (.int s19.2.1), d20] [] s19.2.2 (some (.int t.1), t.2)) ?_ hs19 ?_ d3
      · intro s6 ws6 h hK d7
        refine o_iload k178_17 rfl ?_
        refine o_aload_n k178_19 rfl ?_
        refine o_gf k178_20 (gf_43_0 _) ?_
        refine o_iconst (v := 1) k178_23 (by decide) ?_
        refine o_iald k178_24 rfl ia_44 (by decide) ?_
        refine o_icmp_ge k178_25 (fun hc9 => ?_) (fun hc9 => ?_)
        · rw [if_pos hc9] at h
          have h9 := Option.some.inj h
          subst h9
          exact hK _
        · rw [if_neg hc9] at h
          refine o_iload_n k178_28 rfl ?_
          refine o_ldc k178_29 ?_
          refine o_imul k178_31 ?_
          refine o_sipush (v := 12345) k178_32 (by decide) ?_
          refine o_iadd k178_35 ?_
          refine o_istore_n (v := ((s6.1 * 1103515245) + 12345)) (L' := [some (.ref 43), some (.int a0), some (.int ((s6.1 * 1103515245) + 12345)), some (.int s1.2.1), some (.int s6.2.1), d7]) k178_36 rfl rfl ?_
          refine o_iload_n k178_37 rfl ?_
          refine o_bipush (v := 16) k178_38 (by decide) ?_
          refine o_ishr k178_40 ?_
          refine o_sipush (v := 32767) k178_41 (by decide) ?_
          refine o_iand k178_44 ?_
          refine o_iconst (v := 5) k178_45 (by decide) ?_
          refine o_irem k178_46 (by decide) ?_
          refine bl_i h (fun v10 ev10 h => ?_)
          refine o_istore (v := v10) k178_47 ev10 (L' := [some (.ref 43), some (.int a0), some (.int ((s6.1 * 1103515245) + 12345)), some (.int s1.2.1), some (.int s6.2.1), some (.int v10)]) rfl ?_
          refine o_aload_n k178_49 rfl ?_
          refine o_gf k178_50 (gf_43_0 _) ?_
          refine o_bipush (v := 7) k178_53 (by decide) ?_
          refine o_bipush (v := 8) k178_55 (by decide) ?_
          refine o_iload_n k178_57 rfl ?_
          refine o_imul k178_58 ?_
          refine o_iadd k178_59 ?_
          refine o_iload k178_60 rfl ?_
          refine o_iadd k178_62 ?_
          refine o_iload k178_63 rfl ?_
          refine o_iconst (v := 4) k178_65 (by decide) ?_
          refine o_icmp_ne k178_66 (fun hc11 => ?_) (fun hc11 => ?_)
          · rw [if_neg hc11] at h
            refine o_iload k178_73 rfl ?_
            refine o_iconst (v := 3) k178_75 (by decide) ?_
            refine o_icmp_ne k178_76 (fun hc12 => ?_) (fun hc12 => ?_)
            · rw [if_neg hc12] at h
              refine o_iload k178_83 rfl ?_
              obtain ⟨hc13, h⟩ := ck_i h
              refine bl_i h (fun M14 eM14 h => ?_)
              refine o_iast (M' := M14) k178_85 eM14 ia_44 hc13 ?_
              refine o_iinc (w := s6.2.1 + 1) (L' := [some (.ref 43), some (.int a0), some (.int ((s6.1 * 1103515245) + 12345)), some (.int s1.2.1), some (.int (s6.2.1 + 1)), some (.int v10)]) k178_86 rfl rfl rfl ?_
              refine o_goto k178_89 ?_
              have h9 := Option.some.inj h
              subst h9
              exact hK _
            · rw [if_pos hc12] at h
              refine o_iconst (v := 0) k178_79 (by decide) ?_
              refine o_goto k178_80 ?_
              obtain ⟨hc15, h⟩ := ck_i h
              refine bl_i h (fun M16 eM16 h => ?_)
              refine o_iast (M' := M16) k178_85 eM16 ia_44 hc15 ?_
              refine o_iinc (w := s6.2.1 + 1) (L' := [some (.ref 43), some (.int a0), some (.int ((s6.1 * 1103515245) + 12345)), some (.int s1.2.1), some (.int (s6.2.1 + 1)), some (.int v10)]) k178_86 rfl rfl rfl ?_
              refine o_goto k178_89 ?_
              have h9 := Option.some.inj h
              subst h9
              exact hK _
          · rw [if_pos hc11] at h
            refine o_iconst (v := 2) k178_69 (by decide) ?_
            refine o_goto k178_70 ?_
            obtain ⟨hc17, h⟩ := ck_i h
            refine bl_i h (fun M18 eM18 h => ?_)
            refine o_iast (M' := M18) k178_85 eM18 ia_44 hc17 ?_
            refine o_iinc (w := s6.2.1 + 1) (L' := [some (.ref 43), some (.int a0), some (.int ((s6.1 * 1103515245) + 12345)), some (.int s1.2.1), some (.int (s6.2.1 + 1)), some (.int v10)]) k178_86 rfl rfl rfl ?_
            refine o_goto k178_89 ?_
            have h9 := Option.some.inj h
            subst h9
            exact hK _
      · show ∀ (d20 : Option Value), oo LN xs 0 0 178 92 [some (.ref 43), some (.int a0), some (.int s19.1), some (.int s1.2.1), some (.int s19.2.1), d20] [] s19.2.2 (some (.int t.1), t.2)
        intro d20
        refine o_iinc (w := s1.2.1 + 1) (L' := [some (.ref 43), some (.int a0), some (.int s19.1), some (.int (s1.2.1 + 1)), some (.int s19.2.1), d20]) k178_92 rfl rfl rfl ?_
        refine o_goto k178_95 ?_
        have h9 := Option.some.inj h
        subst h9
        exact hK _ _
  · show ∀ (d22 d23 : Option Value), oo LN xs 0 0 178 98 [some (.ref 43), some (.int a0), some (.int s21.1), some (.int s21.2.1), d22, d23] [] s21.2.2 (some (.int t.1), t.2)
    intro d22 d23
    refine o_aload_n k178_98 rfl ?_
    refine o_iconst (v := 2) k178_99 (by decide) ?_
    refine bd_i h (fun v24 hv24 h => ?_)
    refine o_call k178_100 pj_157 (fun _ => rfl) (by decide) rfl (as := [.ref 43, .int 2]) (rest := []) rfl (L0 := [some (.ref 43), some (.int 2), none, none, none]) rfl (t_X8_cellsOf_43 hv24) ?_
    have h9 := Option.some.inj h
    subst h9
    exact o_iret pj_178 k178_103 rfl nr_i
def f_X7_exchange_11 (a0 : Int32) (a1 : Int32) (M : am_M) : Option (Int32 × am_M) := (if am_dbin a0 64 = true then (if am_dbin a0 64 = true then (bl (am_up M 11 a0.toNatClampNeg a1) (fun (M3 : am_M) => (some ((M 11 a0.toNatClampNeg), M3)))) else none) else none)
set_option maxRecDepth 20000 in
theorem t_X7_exchange_11 {LN : Nat} {xs : Nat → Int32} {a0 : Int32} {a1 : Int32} {M : am_M} {t : Int32 × am_M} (h : f_X7_exchange_11 a0 a1 M = some t) : oo LN xs 0 0 102 0 [some (.ref 11), some (.int a0), some (.int a1), none] [] M (some (.int t.1), t.2) := by
  unfold f_X7_exchange_11 at h
  refine o_aload_n k102_0 rfl ?_
  refine o_iload_n k102_1 rfl ?_
  obtain ⟨hc1, h⟩ := ck_i h
  refine o_iald k102_2 rfl ia_11 hc1 ?_
  refine o_istore_n (v := (M 11 a0.toNatClampNeg)) (L' := [some (.ref 11), some (.int a0), some (.int a1), some (.int (M 11 a0.toNatClampNeg))]) k102_3 rfl rfl ?_
  refine o_aload_n k102_4 rfl ?_
  refine o_iload_n k102_5 rfl ?_
  refine o_iload_n k102_6 rfl ?_
  obtain ⟨hc2, h⟩ := ck_i h
  refine bl_i h (fun M3 eM3 h => ?_)
  refine o_iast (M' := M3) k102_7 eM3 ia_11 hc2 ?_
  refine o_iload_n k102_8 rfl ?_
  have h9 := Option.some.inj h
  subst h9
  exact o_iret pj_102 k102_9 rfl nr_i
def f_X7_want_0 (a0 : Int32) (a1 : Int32) (a2 : Int32) (M : am_M) : Option (Int32 × am_M) := (if (f_X0_takes_9 a0 a1 a2 M) = 0 then (some ((-1), M)) else ((f_X7_exchange_11 (f_X0_at a0 a1) a2 M).bind (fun q2 => (some (q2.1, q2.2)))))
set_option maxRecDepth 20000 in
theorem t_X7_want_0 {LN : Nat} {xs : Nat → Int32} {a0 : Int32} {a1 : Int32} {a2 : Int32} {M : am_M} {t : Int32 × am_M} (h : f_X7_want_0 a0 a1 a2 M = some t) : oo LN xs 0 0 103 0 [some (.ref 0), some (.int a0), some (.int a1), some (.int a2)] [] M (some (.int t.1), t.2) := by
  unfold f_X7_want_0 at h
  refine o_aload_n k103_0 rfl ?_
  refine o_gf k103_1 (gf_0_2 _) ?_
  refine o_iload_n k103_4 rfl ?_
  refine o_iload_n k103_5 rfl ?_
  refine o_iload_n k103_6 rfl ?_
  refine o_call k103_7 pj_9 (fun _ => rfl) (by decide) rfl (as := [.ref 9, .int a0, .int a1, .int a2]) (rest := []) rfl (L0 := [some (.ref 9), some (.int a0), some (.int a1), some (.int a2)]) rfl (t_X0_takes_9 (M := M) (a0 := a0) (a1 := a1) (a2 := a2) rfl) ?_
  refine o_if_ne k103_10 (fun hc1 => ?_) (fun hc1 => ?_)
  · rw [if_neg hc1] at h
    refine o_aload_n k103_15 rfl ?_
    refine o_gf k103_16 (gf_0_2 _) ?_
    refine o_gf k103_19 (gf_9_8 _) ?_
    refine o_iload_n k103_22 rfl ?_
    refine o_iload_n k103_23 rfl ?_
    refine o_call k103_24 pj_5 (fun _ => rfl) (by decide) rfl (as := [.int a0, .int a1]) (rest := [.ref 11]) rfl (L0 := [some (.int a0), some (.int a1)]) rfl (t_X0_at (M := M) (a0 := a0) (a1 := a1) rfl) ?_
    refine o_iload_n k103_27 rfl ?_
    refine bd_i h (fun q2 hq2 h => ?_)
    refine o_call k103_28 pj_102 (fun _ => rfl) (by decide) rfl (as := [.ref 11, .int (f_X0_at a0 a1), .int a2]) (rest := []) rfl (L0 := [some (.ref 11), some (.int (f_X0_at a0 a1)), some (.int a2), none]) rfl (t_X7_exchange_11 hq2) ?_
    have h9 := Option.some.inj h
    subst h9
    exact o_iret pj_103 k103_31 rfl nr_i
  · rw [if_pos hc1] at h
    refine o_iconst (v := (-1)) k103_13 (by decide) ?_
    have h9 := Option.some.inj h
    subst h9
    exact o_iret pj_103 k103_14 rfl nr_i
def f_X8_want_43 (a0 : Int32) (a1 : Int32) (a2 : Int32) (M : am_M) : Option (Int32 × am_M) := ((f_X8_isCell_43 a0 a1 M).bind (fun v1 => (if v1 = 0 then (some ((-1), M)) else (if (f_X8_in a2.toInt64 0 2) = 0 then (some ((-1), M)) else ((f_X8_becomes_43 (((71 : Int32) + ((8 : Int32) * a0)) + a1) a2 M).bind (fun q4 => (some (q4.1, q4.2))))))))
set_option maxRecDepth 20000 in
theorem t_X8_want_43 {LN : Nat} {xs : Nat → Int32} {a0 : Int32} {a1 : Int32} {a2 : Int32} {M : am_M} {t : Int32 × am_M} (h : f_X8_want_43 a0 a1 a2 M = some t) : oo LN xs 0 0 179 0 [some (.ref 43), some (.int a0), some (.int a1), some (.int a2)] [] M (some (.int t.1), t.2) := by
  unfold f_X8_want_43 at h
  refine o_aload_n k179_0 rfl ?_
  refine o_iload_n k179_1 rfl ?_
  refine o_iload_n k179_2 rfl ?_
  refine bd_i h (fun v1 hv1 h => ?_)
  refine o_call k179_3 pj_152 (fun _ => rfl) (by decide) rfl (as := [.ref 43, .int a0, .int a1]) (rest := []) rfl (L0 := [some (.ref 43), some (.int a0), some (.int a1)]) rfl (t_X8_isCell_43 hv1) ?_
  refine o_if_eq k179_6 (fun hc2 => ?_) (fun hc2 => ?_)
  · rw [if_pos hc2] at h
    refine o_iconst (v := (-1)) k179_38 (by decide) ?_
    have h9 := Option.some.inj h
    subst h9
    exact o_iret pj_179 k179_39 rfl nr_i
  · rw [if_neg hc2] at h
    refine o_iload_n k179_9 rfl ?_
    refine o_i2l k179_10 ?_
    refine o_lconst (v := 0) k179_11 (by decide) ?_
    refine o_ldc2_w k179_12 ?_
    refine o_call k179_15 pj_125 (fun _ => rfl) (by decide) rfl (as := [.long a2.toInt64, .long 0, .long 2]) (rest := []) rfl (L0 := [some (.long a2.toInt64), none, some (.long 0), none, some (.long 2), none]) rfl (t_X8_in (M := M) (a0 := a2.toInt64) (a1 := 0) (a2 := 2) rfl) ?_
    refine o_if_eq k179_18 (fun hc3 => ?_) (fun hc3 => ?_)
    · rw [if_pos hc3] at h
      refine o_iconst (v := (-1)) k179_38 (by decide) ?_
      have h9 := Option.some.inj h
      subst h9
      exact o_iret pj_179 k179_39 rfl nr_i
    · rw [if_neg hc3] at h
      refine o_aload_n k179_21 rfl ?_
      refine o_bipush (v := 71) k179_22 (by decide) ?_
      refine o_bipush (v := 8) k179_24 (by decide) ?_
      refine o_iload_n k179_26 rfl ?_
      refine o_imul k179_27 ?_
      refine o_iadd k179_28 ?_
      refine o_iload_n k179_29 rfl ?_
      refine o_iadd k179_30 ?_
      refine o_iload_n k179_31 rfl ?_
      refine bd_i h (fun q4 hq4 h => ?_)
      refine o_call k179_32 pj_174 (fun _ => rfl) (by decide) rfl (as := [.ref 43, .int (((71 : Int32) + ((8 : Int32) * a0)) + a1), .int a2]) (rest := []) rfl (L0 := [some (.ref 43), some (.int (((71 : Int32) + ((8 : Int32) * a0)) + a1)), some (.int a2), none]) rfl (t_X8_becomes_43 hq4) ?_
      refine o_goto k179_35 ?_
      have h9 := Option.some.inj h
      subst h9
      exact o_iret pj_179 k179_39 rfl nr_i
def f_X2_begin_26_9 (M : am_M) : Option am_M := (bl (am_up M 26 2 (imax 1 (imin (M 9 4) 12))) (fun (M1 : am_M) => (bl (am_up M1 26 3 (M1 9 5)) (fun (M2 : am_M) => ((lp (σ := Int32 × am_M) (ρ := Int32 × am_M) (fun s3 => (if 12 ≤ s3.1 then (some (.inr (s3.1, s3.2))) else (if (s3.2 26 2) ≤ s3.1 then (if am_dbin s3.1 12 = true then (bl (am_up s3.2 27 s3.1.toNatClampNeg 0) (fun (M7 : am_M) => (some (.inl ((s3.1 + 1), M7))))) else none) else (if am_dbin s3.1 12 = true then (bl (am_up s3.2 27 s3.1.toNatClampNeg ((1 : Int32) <<< (s3.1 &&& 31))) (fun (M9 : am_M) => (some (.inl ((s3.1 + 1), M9))))) else none)))) lp_F (0, M2)).bind (fun s10 => (some s10.2)))))))
set_option maxRecDepth 20000 in
theorem t_X2_begin_26_9 {LN : Nat} {xs : Nat → Int32} {M : am_M} {t : am_M} (h : f_X2_begin_26_9 M = some t) : oo LN xs 0 0 40 0 [some (.ref 26), some (.ref 9), none] [] M (none, t) := by
  unfold f_X2_begin_26_9 at h
  refine o_aload_n k40_0 rfl ?_
  refine o_iconst (v := 1) k40_1 (by decide) ?_
  refine o_aload_n k40_2 rfl ?_
  refine o_gf k40_3 (gf_9_4 _) ?_
  refine o_bipush (v := 12) k40_6 (by decide) ?_
  refine o_min k40_8 (by decide) ?_
  refine o_max k40_11 (by decide) ?_
  refine bl_i h (fun M1 eM1 h => ?_)
  refine o_pf (M' := M1) k40_14 (pf_26_2 eM1) ?_
  refine o_aload_n k40_17 rfl ?_
  refine o_aload_n k40_18 rfl ?_
  refine o_gf k40_19 (gf_9_5 _) ?_
  refine bl_i h (fun M2 eM2 h => ?_)
  refine o_pf (M' := M2) k40_22 (pf_26_3 eM2) ?_
  refine o_iconst (v := 0) k40_25 (by decide) ?_
  refine o_istore_n (v := 0) (L' := [some (.ref 26), some (.ref 9), some (.int 0)]) k40_26 rfl rfl ?_
  refine bd_i h (fun s10 hs10 h => ?_)
  refine lp_o (fun s3 => oo LN xs 0 0 40 27 [some (.ref 26), some (.ref 9), some (.int s3.1)] [] s3.2 (none, t)) (fun s10 => oo LN xs 0 0 40 60 [some (.ref 26), some (.ref 9), some (.int s10.1)] [] s10.2 (none, t)) ?_ hs10 ?_
  · intro s3 ws3 h hK
    refine o_iload_n k40_27 rfl ?_
    refine o_bipush (v := 12) k40_28 (by decide) ?_
    refine o_icmp_ge k40_30 (fun hc4 => ?_) (fun hc4 => ?_)
    · rw [if_pos hc4] at h
      have h9 := Option.some.inj h
      subst h9
      exact hK
    · rw [if_neg hc4] at h
      refine o_aload_n k40_33 rfl ?_
      refine o_gf k40_34 (gf_26_0 _) ?_
      refine o_iload_n k40_37 rfl ?_
      refine o_iload_n k40_38 rfl ?_
      refine o_aload_n k40_39 rfl ?_
      refine o_gf k40_40 (gf_26_2 _) ?_
      refine o_icmp_ge k40_43 (fun hc5 => ?_) (fun hc5 => ?_)
      · rw [if_pos hc5] at h
        refine o_iconst (v := 0) k40_52 (by decide) ?_
        obtain ⟨hc6, h⟩ := ck_i h
        refine bl_i h (fun M7 eM7 h => ?_)
        refine o_iast (M' := M7) k40_53 eM7 ia_27 hc6 ?_
        refine o_iinc (w := s3.1 + 1) (L' := [some (.ref 26), some (.ref 9), some (.int (s3.1 + 1))]) k40_54 rfl rfl rfl ?_
        refine o_goto k40_57 ?_
        have h9 := Option.some.inj h
        subst h9
        exact hK
      · rw [if_neg hc5] at h
        refine o_iconst (v := 1) k40_46 (by decide) ?_
        refine o_iload_n k40_47 rfl ?_
        refine o_ishl k40_48 ?_
        refine o_goto k40_49 ?_
        obtain ⟨hc8, h⟩ := ck_i h
        refine bl_i h (fun M9 eM9 h => ?_)
        refine o_iast (M' := M9) k40_53 eM9 ia_27 hc8 ?_
        refine o_iinc (w := s3.1 + 1) (L' := [some (.ref 26), some (.ref 9), some (.int (s3.1 + 1))]) k40_54 rfl rfl rfl ?_
        refine o_goto k40_57 ?_
        have h9 := Option.some.inj h
        subst h9
        exact hK
  · show oo LN xs 0 0 40 60 [some (.ref 26), some (.ref 9), some (.int s10.1)] [] s10.2 (none, t)
    have h9 := Option.some.inj h
    subst h9
    exact o_vret pj_40 k40_60 rfl
def f_X2_move_26 (M : am_M) : Option am_M := ((lp (σ := Int32 × Int32) (ρ := Int32 × Int32) (fun s1 => (if (M 26 2) ≤ s1.2 then (some (.inr (s1.1, s1.2))) else (if (((M 26 3) >>> (s1.2 &&& 31)) &&& 1) = 1 then (if am_dbin s1.2 12 = true then (some (.inl ((s1.1 ^^^ (M 27 s1.2.toNatClampNeg)), (s1.2 + 1)))) else none) else (some (.inl (s1.1, (s1.2 + 1))))))) lp_F (0, 0)).bind (fun s5 => ((lp (σ := Int32 × am_M) (ρ := Int32 × am_M) (fun s6 => (if (s6.2 26 2) ≤ s6.1 then (some (.inr (s6.1, s6.2))) else (if am_dbin s6.1 12 = true then (if am_dbin (s6.1 - 1) 12 = true then (bl (am_up s6.2 27 (s6.1 - 1).toNatClampNeg (s6.2 27 s6.1.toNatClampNeg)) (fun (M10 : am_M) => (some (.inl ((s6.1 + 1), M10))))) else none) else none))) lp_F (1, M)).bind (fun s11 => (if am_dbin ((s11.2 26 2) - 1) 12 = true then (bl (am_up s11.2 27 ((s11.2 26 2) - 1).toNatClampNeg s5.1) (fun (M13 : am_M) => (some M13))) else none)))))
set_option maxRecDepth 20000 in
theorem t_X2_move_26 {LN : Nat} {xs : Nat → Int32} {M : am_M} {t : am_M} (h : f_X2_move_26 M = some t) : oo LN xs 0 0 41 0 [some (.ref 26), none, none] [] M (none, t) := by
  unfold f_X2_move_26 at h
  refine o_iconst (v := 0) k41_0 (by decide) ?_
  refine o_istore_n (v := 0) (L' := [some (.ref 26), some (.int 0), none]) k41_1 rfl rfl ?_
  refine o_iconst (v := 0) k41_2 (by decide) ?_
  refine o_istore_n (v := 0) (L' := [some (.ref 26), some (.int 0), some (.int 0)]) k41_3 rfl rfl ?_
  refine bd_i h (fun s5 hs5 h => ?_)
  refine lp_o (fun s1 => oo LN xs 0 0 41 4 [some (.ref 26), some (.int s1.1), some (.int s1.2)] [] M (none, t)) (fun s5 => oo LN xs 0 0 41 39 [some (.ref 26), some (.int s5.1), some (.int s5.2)] [] M (none, t)) ?_ hs5 ?_
  · intro s1 ws1 h hK
    refine o_iload_n k41_4 rfl ?_
    refine o_aload_n k41_5 rfl ?_
    refine o_gf k41_6 (gf_26_2 _) ?_
    refine o_icmp_ge k41_9 (fun hc2 => ?_) (fun hc2 => ?_)
    · rw [if_pos hc2] at h
      have h9 := Option.some.inj h
      subst h9
      exact hK
    · rw [if_neg hc2] at h
      refine o_aload_n k41_12 rfl ?_
      refine o_gf k41_13 (gf_26_3 _) ?_
      refine o_iload_n k41_16 rfl ?_
      refine o_ishr k41_17 ?_
      refine o_iconst (v := 1) k41_18 (by decide) ?_
      refine o_iand k41_19 ?_
      refine o_iconst (v := 1) k41_20 (by decide) ?_
      refine o_icmp_ne k41_21 (fun hc3 => ?_) (fun hc3 => ?_)
      · rw [if_neg hc3] at h
        refine o_iinc (w := s1.2 + 1) (L' := [some (.ref 26), some (.int s1.1), some (.int (s1.2 + 1))]) k41_33 rfl rfl rfl ?_
        refine o_goto k41_36 ?_
        have h9 := Option.some.inj h
        subst h9
        exact hK
      · rw [if_pos hc3] at h
        refine o_iload_n k41_24 rfl ?_
        refine o_aload_n k41_25 rfl ?_
        refine o_gf k41_26 (gf_26_0 _) ?_
        refine o_iload_n k41_29 rfl ?_
        obtain ⟨hc4, h⟩ := ck_i h
        refine o_iald k41_30 rfl ia_27 hc4 ?_
        refine o_ixor k41_31 ?_
        refine o_istore_n (v := (s1.1 ^^^ (M 27 s1.2.toNatClampNeg))) (L' := [some (.ref 26), some (.int (s1.1 ^^^ (M 27 s1.2.toNatClampNeg))), some (.int s1.2)]) k41_32 rfl rfl ?_
        refine o_iinc (w := s1.2 + 1) (L' := [some (.ref 26), some (.int (s1.1 ^^^ (M 27 s1.2.toNatClampNeg))), some (.int (s1.2 + 1))]) k41_33 rfl rfl rfl ?_
        refine o_goto k41_36 ?_
        have h9 := Option.some.inj h
        subst h9
        exact hK
  · show oo LN xs 0 0 41 39 [some (.ref 26), some (.int s5.1), some (.int s5.2)] [] M (none, t)
    refine o_iconst (v := 1) k41_39 (by decide) ?_
    refine o_istore_n (v := 1) (L' := [some (.ref 26), some (.int s5.1), some (.int 1)]) k41_40 rfl rfl ?_
    refine bd_i h (fun s11 hs11 h => ?_)
    refine lp_o (fun s6 => oo LN xs 0 0 41 41 [some (.ref 26), some (.int s5.1), some (.int s6.1)] [] s6.2 (none, t)) (fun s11 => oo LN xs 0 0 41 69 [some (.ref 26), some (.int s5.1), some (.int s11.1)] [] s11.2 (none, t)) ?_ hs11 ?_
    · intro s6 ws6 h hK
      refine o_iload_n k41_41 rfl ?_
      refine o_aload_n k41_42 rfl ?_
      refine o_gf k41_43 (gf_26_2 _) ?_
      refine o_icmp_ge k41_46 (fun hc7 => ?_) (fun hc7 => ?_)
      · rw [if_pos hc7] at h
        have h9 := Option.some.inj h
        subst h9
        exact hK
      · rw [if_neg hc7] at h
        refine o_aload_n k41_49 rfl ?_
        refine o_gf k41_50 (gf_26_0 _) ?_
        refine o_iload_n k41_53 rfl ?_
        refine o_iconst (v := 1) k41_54 (by decide) ?_
        refine o_isub k41_55 ?_
        refine o_aload_n k41_56 rfl ?_
        refine o_gf k41_57 (gf_26_0 _) ?_
        refine o_iload_n k41_60 rfl ?_
        obtain ⟨hc8, h⟩ := ck_i h
        refine o_iald k41_61 rfl ia_27 hc8 ?_
        obtain ⟨hc9, h⟩ := ck_i h
        refine bl_i h (fun M10 eM10 h => ?_)
        refine o_iast (M' := M10) k41_62 eM10 ia_27 hc9 ?_
        refine o_iinc (w := s6.1 + 1) (L' := [some (.ref 26), some (.int s5.1), some (.int (s6.1 + 1))]) k41_63 rfl rfl rfl ?_
        refine o_goto k41_66 ?_
        have h9 := Option.some.inj h
        subst h9
        exact hK
    · show oo LN xs 0 0 41 69 [some (.ref 26), some (.int s5.1), some (.int s11.1)] [] s11.2 (none, t)
      refine o_aload_n k41_69 rfl ?_
      refine o_gf k41_70 (gf_26_0 _) ?_
      refine o_aload_n k41_73 rfl ?_
      refine o_gf k41_74 (gf_26_2 _) ?_
      refine o_iconst (v := 1) k41_77 (by decide) ?_
      refine o_isub k41_78 ?_
      refine o_iload_n k41_79 rfl ?_
      obtain ⟨hc12, h⟩ := ck_i h
      refine bl_i h (fun M13 eM13 h => ?_)
      refine o_iast (M' := M13) k41_80 eM13 ia_27 hc12 ?_
      have h9 := Option.some.inj h
      subst h9
      exact o_vret pj_41 k41_81 rfl
def f_X2_formOf_26 (a0 : Int32) (M : am_M) : Option Int32 := (if (M 26 2) = 0 then none else (if am_dbin (((3 : Int32) * a0) - ((3 : Int32) * a0) / (M 26 2) * (M 26 2)) 12 = true then (some (M 27 (((3 : Int32) * a0) - ((3 : Int32) * a0) / (M 26 2) * (M 26 2)).toNatClampNeg)) else none))
set_option maxRecDepth 20000 in
theorem t_X2_formOf_26 {LN : Nat} {xs : Nat → Int32} {a0 : Int32} {M : am_M} {t : Int32} (h : f_X2_formOf_26 a0 M = some t) : oo LN xs 0 0 42 0 [some (.ref 26), some (.int a0)] [] M (some (.int t), M) := by
  unfold f_X2_formOf_26 at h
  refine o_aload_n k42_0 rfl ?_
  refine o_gf k42_1 (gf_26_0 _) ?_
  refine o_iconst (v := 3) k42_4 (by decide) ?_
  refine o_iload_n k42_5 rfl ?_
  refine o_imul k42_6 ?_
  refine o_aload_n k42_7 rfl ?_
  refine o_gf k42_8 (gf_26_2 _) ?_
  obtain ⟨hc1, h⟩ := ck_n h
  refine o_irem k42_11 hc1 ?_
  obtain ⟨hc2, h⟩ := ck_i h
  refine o_iald k42_12 rfl ia_27 hc2 ?_
  have h9 := Option.some.inj h
  subst h9
  exact o_iret pj_42 k42_13 rfl nr_i
def f_X2_parity (a0 : Int32) : Int32 := ((f_J6_bitCount_0f7a4 a0) &&& 1)
set_option maxRecDepth 20000 in
theorem t_X2_parity {LN : Nat} {xs : Nat → Int32} {a0 : Int32} {M : am_M} {t : Int32} (h : f_X2_parity a0 = t) : oo LN xs 0 0 39 0 [some (.int a0)] [] M (some (.int t), M) := by
  unfold f_X2_parity at h
  refine o_iload_n k39_0 rfl ?_
  refine o_call k39_1 pj_212 (fun _ => rfl) (by decide) rfl (as := [.int a0]) (rest := []) rfl (L0 := [some (.int a0)]) rfl (t_J6_bitCount_0f7a4 (M := M) (a0 := a0) rfl) ?_
  refine o_iconst (v := 1) k39_4 (by decide) ?_
  refine o_iand k39_5 ?_
  subst h
  exact o_iret pj_39 k39_6 rfl nr_i
def f_X7_brought_0 (a0 : Int32) (a1 : Int32) (a2 : Int32) (M : am_M) : Option (Int32 × am_M) := (if a0 < 0 then (some ((-1), M)) else (if ((1 : Int32) <<< ((M 9 4) &&& 31)) ≤ a0 then (some ((-1), M)) else (if (f_X0_hasCell_9 a1 a2 M) = 0 then (some ((-1), M)) else ((f_X2_begin_26_9 M).bind (fun q4 => ((lp (σ := Int32 × am_M) (ρ := Int32 × am_M) (fun s5 => (if a2 ≤ s5.1 then (some (.inr (s5.1, s5.2))) else ((f_X2_move_26 s5.2).bind (fun q7 => (some (.inl ((s5.1 + 1), q7))))))) lp_F (0, q4)).bind (fun s8 => ((f_X2_formOf_26 a1 s8.2).bind (fun v9 => (some ((f_X2_parity (v9 &&& a0)), s8.2)))))))))))
set_option maxRecDepth 20000 in
theorem t_X7_brought_0 {LN : Nat} {xs : Nat → Int32} {a0 : Int32} {a1 : Int32} {a2 : Int32} {M : am_M} {t : Int32 × am_M} (h : f_X7_brought_0 a0 a1 a2 M = some t) : oo LN xs 0 0 104 0 [some (.ref 0), some (.int a0), some (.int a1), some (.int a2), none] [] M (some (.int t.1), t.2) := by
  unfold f_X7_brought_0 at h
  refine o_iload_n k104_0 rfl ?_
  refine o_if_lt k104_1 (fun hc1 => ?_) (fun hc1 => ?_)
  · rw [if_pos hc1] at h
    refine o_iconst (v := (-1)) k104_29 (by decide) ?_
    have h9 := Option.some.inj h
    subst h9
    exact o_iret pj_104 k104_30 rfl nr_i
  · rw [if_neg hc1] at h
    refine o_iload_n k104_4 rfl ?_
    refine o_iconst (v := 1) k104_5 (by decide) ?_
    refine o_aload_n k104_6 rfl ?_
    refine o_gf k104_7 (gf_0_2 _) ?_
    refine o_gf k104_10 (gf_9_4 _) ?_
    refine o_ishl k104_13 ?_
    refine o_icmp_ge k104_14 (fun hc2 => ?_) (fun hc2 => ?_)
    · rw [if_pos hc2] at h
      refine o_iconst (v := (-1)) k104_29 (by decide) ?_
      have h9 := Option.some.inj h
      subst h9
      exact o_iret pj_104 k104_30 rfl nr_i
    · rw [if_neg hc2] at h
      refine o_aload_n k104_17 rfl ?_
      refine o_gf k104_18 (gf_0_2 _) ?_
      refine o_iload_n k104_21 rfl ?_
      refine o_iload_n k104_22 rfl ?_
      refine o_call k104_23 pj_8 (fun _ => rfl) (by decide) rfl (as := [.ref 9, .int a1, .int a2]) (rest := []) rfl (L0 := [some (.ref 9), some (.int a1), some (.int a2)]) rfl (t_X0_hasCell_9 (M := M) (a0 := a1) (a1 := a2) rfl) ?_
      refine o_if_ne k104_26 (fun hc3 => ?_) (fun hc3 => ?_)
      · rw [if_neg hc3] at h
        refine o_aload_n k104_31 rfl ?_
        refine o_gf k104_32 (gf_0_5 _) ?_
        refine o_aload_n k104_35 rfl ?_
        refine o_gf k104_36 (gf_0_2 _) ?_
        refine bd_i h (fun q4 hq4 h => ?_)
        refine o_call k104_39 pj_40 (fun _ => rfl) (by decide) rfl (as := [.ref 26, .ref 9]) (rest := []) rfl (L0 := [some (.ref 26), some (.ref 9), none]) rfl (t_X2_begin_26_9 hq4) ?_
        refine o_iconst (v := 0) k104_42 (by decide) ?_
        refine o_istore (v := 0) (L' := [some (.ref 0), some (.int a0), some (.int a1), some (.int a2), some (.int 0)]) k104_43 rfl rfl ?_
        refine bd_i h (fun s8 hs8 h => ?_)
        refine lp_o (fun s5 => oo LN xs 0 0 104 45 [some (.ref 0), some (.int a0), some (.int a1), some (.int a2), some (.int s5.1)] [] s5.2 (some (.int t.1), t.2)) (fun s8 => oo LN xs 0 0 104 64 [some (.ref 0), some (.int a0), some (.int a1), some (.int a2), some (.int s8.1)] [] s8.2 (some (.int t.1), t.2)) ?_ hs8 ?_
        · intro s5 ws5 h hK
          refine o_iload k104_45 rfl ?_
          refine o_iload_n k104_47 rfl ?_
          refine o_icmp_ge k104_48 (fun hc6 => ?_) (fun hc6 => ?_)
          · rw [if_pos hc6] at h
            have h9 := Option.some.inj h
            subst h9
            exact hK
          · rw [if_neg hc6] at h
            refine o_aload_n k104_51 rfl ?_
            refine o_gf k104_52 (gf_0_5 _) ?_
            refine bd_i h (fun q7 hq7 h => ?_)
            refine o_call k104_55 pj_41 (fun _ => rfl) (by decide) rfl (as := [.ref 26]) (rest := []) rfl (L0 := [some (.ref 26), none, none]) rfl (t_X2_move_26 hq7) ?_
            refine o_iinc (w := s5.1 + 1) (L' := [some (.ref 0), some (.int a0), some (.int a1), some (.int a2), some (.int (s5.1 + 1))]) k104_58 rfl rfl rfl ?_
            refine o_goto k104_61 ?_
            have h9 := Option.some.inj h
            subst h9
            exact hK
        · show oo LN xs 0 0 104 64 [some (.ref 0), some (.int a0), some (.int a1), some (.int a2), some (.int s8.1)] [] s8.2 (some (.int t.1), t.2)
          refine o_aload_n k104_64 rfl ?_
          refine o_gf k104_65 (gf_0_5 _) ?_
          refine o_iload_n k104_68 rfl ?_
          refine bd_i h (fun v9 hv9 h => ?_)
          refine o_call k104_69 pj_42 (fun _ => rfl) (by decide) rfl (as := [.ref 26, .int a1]) (rest := []) rfl (L0 := [some (.ref 26), some (.int a1)]) rfl (t_X2_formOf_26 hv9) ?_
          refine o_iload_n k104_72 rfl ?_
          refine o_iand k104_73 ?_
          refine o_call k104_74 pj_39 (fun _ => rfl) (by decide) rfl (as := [.int (v9 &&& a0)]) (rest := []) rfl (L0 := [some (.int (v9 &&& a0))]) rfl (t_X2_parity (M := s8.2) (a0 := (v9 &&& a0)) rfl) ?_
          have h9 := Option.some.inj h
          subst h9
          exact o_iret pj_104 k104_77 rfl nr_i
      · rw [if_pos hc3] at h
        refine o_iconst (v := (-1)) k104_29 (by decide) ?_
        have h9 := Option.some.inj h
        subst h9
        exact o_iret pj_104 k104_30 rfl nr_i
def f_X8_isSeed_43 (a0 : Int32) (M : am_M) : Option Int32 := (if (f_X8_in a0.toInt64 0 ((((1 : Int32) <<< ((M 44 (4 : Int32).toNatClampNeg) &&& 31)) - 1).toInt64)) = 0 ∨ (f_X8_in a0.toInt64 0 ((((1 : Int32) <<< ((M 44 (4 : Int32).toNatClampNeg) &&& 31)) - 1).toInt64)) = 1 then (some (f_X8_in a0.toInt64 0 ((((1 : Int32) <<< ((M 44 (4 : Int32).toNatClampNeg) &&& 31)) - 1).toInt64))) else none)
set_option maxRecDepth 20000 in
theorem t_X8_isSeed_43 {LN : Nat} {xs : Nat → Int32} {a0 : Int32} {M : am_M} {t : Int32} (h : f_X8_isSeed_43 a0 M = some t) : oo LN xs 0 0 182 0 [some (.ref 43), some (.int a0)] [] M (some (.int t), M) := by
  unfold f_X8_isSeed_43 at h
  refine o_iload_n k182_0 rfl ?_
  refine o_i2l k182_1 ?_
  refine o_lconst (v := 0) k182_2 (by decide) ?_
  refine o_iconst (v := 1) k182_3 (by decide) ?_
  refine o_aload_n k182_4 rfl ?_
  refine o_gf k182_5 (gf_43_0 _) ?_
  refine o_iconst (v := 4) k182_8 (by decide) ?_
  refine o_iald k182_9 rfl ia_44 (by decide) ?_
  refine o_ishl k182_10 ?_
  refine o_iconst (v := 1) k182_11 (by decide) ?_
  refine o_isub k182_12 ?_
  refine o_i2l k182_13 ?_
  refine o_call k182_14 pj_125 (fun _ => rfl) (by decide) rfl (as := [.long a0.toInt64, .long 0, .long ((((1 : Int32) <<< ((M 44 (4 : Int32).toNatClampNeg) &&& 31)) - 1).toInt64)]) (rest := []) rfl (L0 := [some (.long a0.toInt64), none, some (.long 0), none, some (.long ((((1 : Int32) <<< ((M 44 (4 : Int32).toNatClampNeg) &&& 31)) - 1).toInt64)), none]) rfl (t_X8_in (M := M) (a0 := a0.toInt64) (a1 := 0) (a2 := ((((1 : Int32) <<< ((M 44 (4 : Int32).toNatClampNeg) &&& 31)) - 1).toInt64)) rfl) ?_
  obtain ⟨hc2, h⟩ := ck_i h
  have h9 := Option.some.inj h
  subst h9
  exact o_iret pj_182 k182_17 rfl (nr_z hc2)
def f_X8_nextOf_43 (a0 : Int32) (M : am_M) : Option Int32 := ((f_X8_bitsOf (a0 &&& (M 44 (5 : Int32).toNatClampNeg))).bind (fun v2 => (some ((a0 >>> (1 &&& 31)) ||| ((v2 - v2 / 2 * 2) <<< (((M 44 (4 : Int32).toNatClampNeg) - 1) &&& 31))))))
set_option maxRecDepth 20000 in
theorem t_X8_nextOf_43 {LN : Nat} {xs : Nat → Int32} {a0 : Int32} {M : am_M} {t : Int32} (h : f_X8_nextOf_43 a0 M = some t) : oo LN xs 0 0 180 0 [some (.ref 43), some (.int a0)] [] M (some (.int t), M) := by
  unfold f_X8_nextOf_43 at h
  refine o_iload_n k180_0 rfl ?_
  refine o_iconst (v := 1) k180_1 (by decide) ?_
  refine o_ishr k180_2 ?_
  refine o_iload_n k180_3 rfl ?_
  refine o_aload_n k180_4 rfl ?_
  refine o_gf k180_5 (gf_43_0 _) ?_
  refine o_iconst (v := 5) k180_8 (by decide) ?_
  refine o_iald k180_9 rfl ia_44 (by decide) ?_
  refine o_iand k180_10 ?_
  refine bd_i h (fun v2 hv2 h => ?_)
  refine o_call k180_11 pj_128 (fun _ => rfl) (by decide) rfl (as := [.int (a0 &&& (M 44 (5 : Int32).toNatClampNeg))]) (rest := [.int (a0 >>> (1 &&& 31))]) rfl (L0 := [some (.int (a0 &&& (M 44 (5 : Int32).toNatClampNeg))), none, none]) rfl (t_X8_bitsOf hv2) ?_
  refine o_iconst (v := 2) k180_14 (by decide) ?_
  refine o_irem k180_15 (by decide) ?_
  refine o_aload_n k180_16 rfl ?_
  refine o_gf k180_17 (gf_43_0 _) ?_
  refine o_iconst (v := 4) k180_20 (by decide) ?_
  refine o_iald k180_21 rfl ia_44 (by decide) ?_
  refine o_iconst (v := 1) k180_22 (by decide) ?_
  refine o_isub k180_23 ?_
  refine o_ishl k180_24 ?_
  refine o_ior k180_25 ?_
  have h9 := Option.some.inj h
  subst h9
  exact o_iret pj_180 k180_26 rfl nr_i
def f_X8_broughtBy_43 (a0 : Int32) (a1 : Int32) (M : am_M) : Option Int32 := (if (M 44 (4 : Int32).toNatClampNeg) = 0 then none else (some ((a0 >>> ((((3 : Int32) * a1) - ((3 : Int32) * a1) / (M 44 (4 : Int32).toNatClampNeg) * (M 44 (4 : Int32).toNatClampNeg)) &&& 31)) &&& 1)))
set_option maxRecDepth 20000 in
theorem t_X8_broughtBy_43 {LN : Nat} {xs : Nat → Int32} {a0 : Int32} {a1 : Int32} {M : am_M} {t : Int32} (h : f_X8_broughtBy_43 a0 a1 M = some t) : oo LN xs 0 0 181 0 [some (.ref 43), some (.int a0), some (.int a1)] [] M (some (.int t), M) := by
  unfold f_X8_broughtBy_43 at h
  refine o_iload_n k181_0 rfl ?_
  refine o_iconst (v := 3) k181_1 (by decide) ?_
  refine o_iload_n k181_2 rfl ?_
  refine o_imul k181_3 ?_
  refine o_aload_n k181_4 rfl ?_
  refine o_gf k181_5 (gf_43_0 _) ?_
  refine o_iconst (v := 4) k181_8 (by decide) ?_
  refine o_iald k181_9 rfl ia_44 (by decide) ?_
  obtain ⟨hc2, h⟩ := ck_n h
  refine o_irem k181_10 hc2 ?_
  refine o_ishr k181_11 ?_
  refine o_iconst (v := 1) k181_12 (by decide) ?_
  refine o_iand k181_13 ?_
  have h9 := Option.some.inj h
  subst h9
  exact o_iret pj_181 k181_14 rfl nr_i
def f_X8_brought_43 (a0 : Int32) (a1 : Int32) (a2 : Int32) (M : am_M) : Option Int32 := ((f_X8_isSeed_43 a0 M).bind (fun v1 => (if v1 = 0 then (some (-1)) else ((f_X8_isCell_43 a1 a2 M).bind (fun v3 => (if v3 = 0 then (some (-1)) else ((lp (σ := Int32 × Int32) (ρ := Int32 × Int32) (fun s5 => (if a2 ≤ s5.2 then (some (.inr (s5.1, s5.2))) else ((f_X8_nextOf_43 s5.1 M).bind (fun v7 => (some (.inl (v7, (s5.2 + 1)))))))) lp_F (a0, 0)).bind (fun s8 => ((f_X8_broughtBy_43 s8.1 a1 M).bind (fun v9 => (some v9)))))))))))
set_option maxRecDepth 20000 in
theorem t_X8_brought_43 {LN : Nat} {xs : Nat → Int32} {a0 : Int32} {a1 : Int32} {a2 : Int32} {M : am_M} {t : Int32} (h : f_X8_brought_43 a0 a1 a2 M = some t) : oo LN xs 0 0 183 0 [some (.ref 43), some (.int a0), some (.int a1), some (.int a2), none, none] [] M (some (.int t), M) := by
  unfold f_X8_brought_43 at h
  refine o_aload_n k183_0 rfl ?_
  refine o_iload_n k183_1 rfl ?_
  refine bd_i h (fun v1 hv1 h => ?_)
  refine o_call k183_2 pj_182 (fun _ => rfl) (by decide) rfl (as := [.ref 43, .int a0]) (rest := []) rfl (L0 := [some (.ref 43), some (.int a0)]) rfl (t_X8_isSeed_43 hv1) ?_
  refine o_if_eq k183_5 (fun hc2 => ?_) (fun hc2 => ?_)
  · rw [if_pos hc2] at h
    refine o_iconst (v := (-1)) k183_17 (by decide) ?_
    have h9 := Option.some.inj h
    subst h9
    exact o_iret pj_183 k183_18 rfl nr_i
  · rw [if_neg hc2] at h
    refine o_aload_n k183_8 rfl ?_
    refine o_iload_n k183_9 rfl ?_
    refine o_iload_n k183_10 rfl ?_
    refine bd_i h (fun v3 hv3 h => ?_)
    refine o_call k183_11 pj_152 (fun _ => rfl) (by decide) rfl (as := [.ref 43, .int a1, .int a2]) (rest := []) rfl (L0 := [some (.ref 43), some (.int a1), some (.int a2)]) rfl (t_X8_isCell_43 hv3) ?_
    refine o_if_ne k183_14 (fun hc4 => ?_) (fun hc4 => ?_)
    · rw [if_neg hc4] at h
      refine o_iload_n k183_19 rfl ?_
      refine o_istore (v := a0) (L' := [some (.ref 43), some (.int a0), some (.int a1), some (.int a2), some (.int a0), none]) k183_20 rfl rfl ?_
      refine o_iconst (v := 0) k183_22 (by decide) ?_
      refine o_istore (v := 0) (L' := [some (.ref 43), some (.int a0), some (.int a1), some (.int a2), some (.int a0), some (.int 0)]) k183_23 rfl rfl ?_
      refine bd_i h (fun s8 hs8 h => ?_)
      refine lp_o (fun s5 => oo LN xs 0 0 183 25 [some (.ref 43), some (.int a0), some (.int a1), some (.int a2), some (.int s5.1), some (.int s5.2)] [] M (some (.int t), M)) (fun s8 => oo LN xs 0 0 183 45 [some (.ref 43), some (.int a0), some (.int a1), some (.int a2), some (.int s8.1), some (.int s8.2)] [] M (some (.int t), M)) ?_ hs8 ?_
      · intro s5 ws5 h hK
        refine o_iload k183_25 rfl ?_
        refine o_iload_n k183_27 rfl ?_
        refine o_icmp_ge k183_28 (fun hc6 => ?_) (fun hc6 => ?_)
        · rw [if_pos hc6] at h
          have h9 := Option.some.inj h
          subst h9
          exact hK
        · rw [if_neg hc6] at h
          refine o_aload_n k183_31 rfl ?_
          refine o_iload k183_32 rfl ?_
          refine bd_i h (fun v7 hv7 h => ?_)
          refine o_call k183_34 pj_180 (fun _ => rfl) (by decide) rfl (as := [.ref 43, .int s5.1]) (rest := []) rfl (L0 := [some (.ref 43), some (.int s5.1)]) rfl (t_X8_nextOf_43 hv7) ?_
          refine o_istore (v := v7) (L' := [some (.ref 43), some (.int a0), some (.int a1), some (.int a2), some (.int v7), some (.int s5.2)]) k183_37 rfl rfl ?_
          refine o_iinc (w := s5.2 + 1) (L' := [some (.ref 43), some (.int a0), some (.int a1), some (.int a2), some (.int v7), some (.int (s5.2 + 1))]) k183_39 rfl rfl rfl ?_
          refine o_goto k183_42 ?_
          have h9 := Option.some.inj h
          subst h9
          exact hK
      · show oo LN xs 0 0 183 45 [some (.ref 43), some (.int a0), some (.int a1), some (.int a2), some (.int s8.1), some (.int s8.2)] [] M (some (.int t), M)
        refine o_aload_n k183_45 rfl ?_
        refine o_iload k183_46 rfl ?_
        refine o_iload_n k183_48 rfl ?_
        refine bd_i h (fun v9 hv9 h => ?_)
        refine o_call k183_49 pj_181 (fun _ => rfl) (by decide) rfl (as := [.ref 43, .int s8.1, .int a1]) (rest := []) rfl (L0 := [some (.ref 43), some (.int s8.1), some (.int a1)]) rfl (t_X8_broughtBy_43 hv9) ?_
        have h9 := Option.some.inj h
        subst h9
        exact o_iret pj_183 k183_52 rfl nr_i
    · rw [if_pos hc4] at h
      refine o_iconst (v := (-1)) k183_17 (by decide) ?_
      have h9 := Option.some.inj h
      subst h9
      exact o_iret pj_183 k183_18 rfl nr_i
def f_J7_fill_53178_29 (a0 : Int32) (M : am_M) : Option am_M := ((lp (σ := Int32 × am_M) (ρ := Int32 × am_M) (fun s1 => (if 12 ≤ s1.1 then (some (.inr (s1.1, s1.2))) else (if am_dbin s1.1 12 = true then (bl (am_up s1.2 29 s1.1.toNatClampNeg a0) (fun (M4 : am_M) => (some (.inl ((s1.1 + 1), M4))))) else none))) lp_F (0, M)).bind (fun s5 => (some s5.2)))
set_option maxRecDepth 20000 in
theorem t_J7_fill_53178_29 {LN : Nat} {xs : Nat → Int32} {a0 : Int32} {M : am_M} {t : am_M} (h : f_J7_fill_53178_29 a0 M = some t) : oo LN xs 0 0 219 0 [some (.ref 29), some (.int a0), none, none] [] M (none, t) := by
  unfold f_J7_fill_53178_29 at h
  refine o_iconst (v := 0) k219_0 (by decide) ?_
  refine o_istore_n (v := 0) (L' := [some (.ref 29), some (.int a0), some (.int 0), none]) k219_1 rfl rfl ?_
  refine o_aload_n k219_2 rfl ?_
  refine o_alen (v := 12) k219_3 rfl (by decide) ?_
  refine o_istore_n (v := 12) (L' := [some (.ref 29), some (.int a0), some (.int 0), some (.int 12)]) k219_4 rfl rfl ?_
  refine bd_i h (fun s5 hs5 h => ?_)
  refine lp_o (fun s1 => oo LN xs 0 0 219 5 [some (.ref 29), some (.int a0), some (.int s1.1), some (.int 12)] [] s1.2 (none, t)) (fun s5 => oo LN xs 0 0 219 20 [some (.ref 29), some (.int a0), some (.int s5.1), some (.int 12)] [] s5.2 (none, t)) ?_ hs5 ?_
  · intro s1 ws1 h hK
    refine o_iload_n k219_5 rfl ?_
    refine o_iload_n k219_6 rfl ?_
    refine o_icmp_ge k219_7 (fun hc2 => ?_) (fun hc2 => ?_)
    · rw [if_pos hc2] at h
      have h9 := Option.some.inj h
      subst h9
      exact hK
    · rw [if_neg hc2] at h
      refine o_aload_n k219_10 rfl ?_
      refine o_iload_n k219_11 rfl ?_
      refine o_iload_n k219_12 rfl ?_
      obtain ⟨hc3, h⟩ := ck_i h
      refine bl_i h (fun M4 eM4 h => ?_)
      refine o_iast (M' := M4) k219_13 eM4 ia_29 hc3 ?_
      refine o_iinc (w := s1.1 + 1) (L' := [some (.ref 29), some (.int a0), some (.int (s1.1 + 1)), some (.int 12)]) k219_14 rfl rfl rfl ?_
      refine o_goto k219_17 ?_
      have h9 := Option.some.inj h
      subst h9
      exact hK
  · show oo LN xs 0 0 219 20 [some (.ref 29), some (.int a0), some (.int s5.1), some (.int 12)] [] s5.2 (none, t)
    have h9 := Option.some.inj h
    subst h9
    exact o_vret pj_219 k219_20 rfl
def f_X1_begin_28 (M : am_M) : Option am_M := ((f_J7_fill_53178_29 0 M).bind (fun q1 => (bl (am_up q1 28 1 0) (fun (M2 : am_M) => (bl (am_up M2 28 2 0) (fun (M3 : am_M) => (some M3)))))))
set_option maxRecDepth 20000 in
theorem t_X1_begin_28 {LN : Nat} {xs : Nat → Int32} {M : am_M} {t : am_M} (h : f_X1_begin_28 M = some t) : oo LN xs 0 0 35 0 [some (.ref 28)] [] M (none, t) := by
  unfold f_X1_begin_28 at h
  refine o_aload_n k35_0 rfl ?_
  refine o_gf k35_1 (gf_28_0 _) ?_
  refine o_iconst (v := 0) k35_4 (by decide) ?_
  refine bd_i h (fun q1 hq1 h => ?_)
  refine o_call k35_5 pj_219 (fun _ => rfl) (by decide) rfl (as := [.ref 29, .int 0]) (rest := []) rfl (L0 := [some (.ref 29), some (.int 0), none, none]) rfl (t_J7_fill_53178_29 hq1) ?_
  refine o_aload_n k35_8 rfl ?_
  refine o_iconst (v := 0) k35_9 (by decide) ?_
  refine bl_i h (fun M2 eM2 h => ?_)
  refine o_pf (M' := M2) k35_10 (pf_28_1 eM2) ?_
  refine o_aload_n k35_13 rfl ?_
  refine o_iconst (v := 0) k35_14 (by decide) ?_
  refine bl_i h (fun M3 eM3 h => ?_)
  refine o_pf (M' := M3) k35_15 (pf_28_2 (by decide) eM3) ?_
  have h9 := Option.some.inj h
  subst h9
  exact o_vret pj_35 k35_18 rfl
def f_X1_add_28 (a0 : Int32) (M : am_M) : Option am_M := ((lp (σ := Int32 × Int32) (ρ := (am_M) ⊕ (Int32 × Int32)) (fun s1 => (if 12 ≤ s1.2 then (some (.inr (.inr (s1.1, s1.2)))) else (if ((s1.1 >>> (s1.2 &&& 31)) &&& 1) = 1 then (if am_dbin s1.2 12 = true then (if (M 29 s1.2.toNatClampNeg) = 0 then (if am_dbin s1.2 12 = true then (bl (am_up M 29 s1.2.toNatClampNeg s1.1) (fun (M8 : am_M) => (bl (am_up M8 28 1 ((M8 28 1) + 1)) (fun (M9 : am_M) => (some (.inr (.inl M9))))))) else none) else (if am_dbin s1.2 12 = true then (some (.inl ((s1.1 ^^^ (M 29 s1.2.toNatClampNeg)), (s1.2 + 1)))) else none)) else none) else (some (.inl (s1.1, (s1.2 + 1))))))) lp_F (a0, 0)).bind (fun os10 => Sum.elim (fun u => (some u)) (fun s10 => (if s10.1 = 0 then (some M) else (bl (am_up M 28 2 1) (fun (M12 : am_M) => (some M12))))) os10))
set_option maxRecDepth 20000 in
theorem t_X1_add_28 {LN : Nat} {xs : Nat → Int32} {a0 : Int32} {M : am_M} {t : am_M} (h : f_X1_add_28 a0 M = some t) : oo LN xs 0 0 36 0 [some (.ref 28), some (.int a0), none, none] [] M (none, t) := by
  unfold f_X1_add_28 at h
  refine o_iload_n k36_0 rfl ?_
  refine o_istore_n (v := a0) (L' := [some (.ref 28), some (.int a0), some (.int a0), none]) k36_1 rfl rfl ?_
  refine o_iconst (v := 0) k36_2 (by decide) ?_
  refine o_istore_n (v := 0) (L' := [some (.ref 28), some (.int a0), some (.int a0), some (.int 0)]) k36_3 rfl rfl ?_
  refine bd_i h (fun Os10 hOs10 h => ?_)
  refine lp_o (fun s1 => oo LN xs 0 0 36 4 [some (.ref 28), some (.int a0), some (.int s1.1), some (.int s1.2)] [] M (none, t)) (fun oq => Sum.elim (fun u => u = t) (fun s10 => oo LN xs 0 0 36 61 [some (.ref 28), some (.int a0), some (.int s10.1), some (.int s10.2)] [] M (none, t)) oq) ?_ hOs10 ?_
  · intro s1 ws1 h hK
    refine o_iload_n k36_4 rfl ?_
    refine o_bipush (v := 12) k36_5 (by decide) ?_
    refine o_icmp_ge k36_7 (fun hc2 => ?_) (fun hc2 => ?_)
    · rw [if_pos hc2] at h
      have h9 := Option.some.inj h
      subst h9
      exact hK
    · rw [if_neg hc2] at h
      refine o_iload_n k36_10 rfl ?_
      refine o_iload_n k36_11 rfl ?_
      refine o_ishr k36_12 ?_
      refine o_iconst (v := 1) k36_13 (by decide) ?_
      refine o_iand k36_14 ?_
      refine o_iconst (v := 1) k36_15 (by decide) ?_
      refine o_icmp_ne k36_16 (fun hc3 => ?_) (fun hc3 => ?_)
      · rw [if_neg hc3] at h
        refine o_iinc (w := s1.2 + 1) (L' := [some (.ref 28), some (.int a0), some (.int s1.1), some (.int (s1.2 + 1))]) k36_55 rfl rfl rfl ?_
        refine o_goto k36_58 ?_
        have h9 := Option.some.inj h
        subst h9
        exact hK
      · rw [if_pos hc3] at h
        refine o_aload_n k36_19 rfl ?_
        refine o_gf k36_20 (gf_28_0 _) ?_
        refine o_iload_n k36_23 rfl ?_
        obtain ⟨hc4, h⟩ := ck_i h
        refine o_iald k36_24 rfl ia_29 hc4 ?_
        refine o_if_ne k36_25 (fun hc5 => ?_) (fun hc5 => ?_)
        · rw [if_neg hc5] at h
          refine o_iload_n k36_46 rfl ?_
          refine o_aload_n k36_47 rfl ?_
          refine o_gf k36_48 (gf_28_0 _) ?_
          refine o_iload_n k36_51 rfl ?_
          obtain ⟨hc6, h⟩ := ck_i h
          refine o_iald k36_52 rfl ia_29 hc6 ?_
          refine o_ixor k36_53 ?_
          refine o_istore_n (v := (s1.1 ^^^ (M 29 s1.2.toNatClampNeg))) (L' := [some (.ref 28), some (.int a0), some (.int (s1.1 ^^^ (M 29 s1.2.toNatClampNeg))), some (.int s1.2)]) k36_54 rfl rfl ?_
          refine o_iinc (w := s1.2 + 1) (L' := [some (.ref 28), some (.int a0), some (.int (s1.1 ^^^ (M 29 s1.2.toNatClampNeg))), some (.int (s1.2 + 1))]) k36_55 rfl rfl rfl ?_
          refine o_goto k36_58 ?_
          have h9 := Option.some.inj h
          subst h9
          exact hK
        · rw [if_pos hc5] at h
          refine o_aload_n k36_28 rfl ?_
          refine o_gf k36_29 (gf_28_0 _) ?_
          refine o_iload_n k36_32 rfl ?_
          refine o_iload_n k36_33 rfl ?_
          obtain ⟨hc7, h⟩ := ck_i h
          refine bl_i h (fun M8 eM8 h => ?_)
          refine o_iast (M' := M8) k36_34 eM8 ia_29 hc7 ?_
          refine o_aload_n k36_35 rfl ?_
          refine o_dupr k36_36 ?_
          refine o_gf k36_37 (gf_28_1 _) ?_
          refine o_iconst (v := 1) k36_40 (by decide) ?_
          refine o_iadd k36_41 ?_
          refine bl_i h (fun M9 eM9 h => ?_)
          refine o_pf (M' := M9) k36_42 (pf_28_1 eM9) ?_
          have h9 := Option.some.inj h
          subst h9
          have hK2 : M9 = t := hK
          subst hK2
          exact o_vret pj_36 k36_45 rfl
  · rcases Os10 with u | s10
    · exact Option.some.inj h
    · show oo LN xs 0 0 36 61 [some (.ref 28), some (.int a0), some (.int s10.1), some (.int s10.2)] [] M (none, t)
      replace h : (if s10.1 = 0 then (some M) else (bl (am_up M 28 2 1) (fun (M12 : am_M) => (some M12)))) = some t := h
      refine o_iload_n k36_61 rfl ?_
      refine o_if_eq k36_62 (fun hc11 => ?_) (fun hc11 => ?_)
      · rw [if_pos hc11] at h
        have h9 := Option.some.inj h
        subst h9
        exact o_vret pj_36 k36_70 rfl
      · rw [if_neg hc11] at h
        refine o_aload_n k36_65 rfl ?_
        refine o_iconst (v := 1) k36_66 (by decide) ?_
        refine bl_i h (fun M12 eM12 h => ?_)
        refine o_pf (M' := M12) k36_67 (pf_28_2 (by decide) eM12) ?_
        have h9 := Option.some.inj h
        subst h9
        exact o_vret pj_36 k36_70 rfl
def f_X2_wantedOf_26_9 (M : am_M) : Option am_M := ((f_X1_begin_28 M).bind (fun q1 => ((f_X2_begin_26_9 q1).bind (fun q2 => ((lp (σ := Int32 × am_M) (ρ := Int32 × am_M) (fun s3 => (if (s3.2 9 1) ≤ s3.1 then (some (.inr (s3.1, s3.2))) else ((lp (σ := Int32 × am_M) (ρ := Int32 × am_M) (fun s7 => (if (s7.2 9 0) ≤ s7.1 then (some (.inr (s7.1, s7.2))) else (if am_dbin (f_X0_at s7.1 s3.1) 64 = true then (if (s7.2 11 (f_X0_at s7.1 s3.1).toNatClampNeg) = 2 then (some (.inl ((s7.1 + 1), s7.2))) else (bl (fun (v15 : Int32) => (((f_X1_add_28 v15 s7.2).bind (fun q16 => (some (.inl ((s7.1 + 1), q16))))) : Option ((Int32 × am_M) ⊕ (Int32 × am_M)))) (fun (j17 : Int32 → Option ((Int32 × am_M) ⊕ (Int32 × am_M))) => (if (s7.2 11 (f_X0_at s7.1 s3.1).toNatClampNeg) = 1 then ((f_X2_formOf_26 s7.1 s7.2).bind (fun v14 => (j17 (v14 ||| 4096)))) else ((f_X2_formOf_26 s7.1 s7.2).bind (fun v13 => (j17 v13))))))) else none))) lp_F (0, s3.2)).bind (fun s18 => ((f_X2_move_26 s18.2).bind (fun q20 => (some (.inl ((s3.1 + 1), q20))))))))) lp_F (0, q2)).bind (fun s21 => (some s21.2)))))))
set_option maxRecDepth 20000 in
theorem t_X2_wantedOf_26_9 {LN : Nat} {xs : Nat → Int32} {M : am_M} {t : am_M} (h : f_X2_wantedOf_26_9 M = some t) : oo LN xs 0 0 43 0 [some (.ref 26), some (.ref 9), none, none, none] [] M (some (.ref 28), t) := by
  unfold f_X2_wantedOf_26_9 at h
  refine o_aload_n k43_0 rfl ?_
  refine o_gf k43_1 (gf_26_1 _) ?_
  refine bd_i h (fun q1 hq1 h => ?_)
  refine o_call k43_4 pj_35 (fun _ => rfl) (by decide) rfl (as := [.ref 28]) (rest := []) rfl (L0 := [some (.ref 28)]) rfl (t_X1_begin_28 hq1) ?_
  refine o_aload_n k43_7 rfl ?_
  refine o_aload_n k43_8 rfl ?_
  refine bd_i h (fun q2 hq2 h => ?_)
  refine o_call k43_9 pj_40 (fun _ => rfl) (by decide) rfl (as := [.ref 26, .ref 9]) (rest := []) rfl (L0 := [some (.ref 26), some (.ref 9), none]) rfl (t_X2_begin_26_9 hq2) ?_
  refine o_iconst (v := 0) k43_12 (by decide) ?_
  refine o_istore_n (v := 0) (L' := [some (.ref 26), some (.ref 9), some (.int 0), none, none]) k43_13 rfl rfl ?_
  refine bd_i h (fun s21 hs21 h => ?_)
  refine lp_o (fun s3 => ∀ (d4 d5 : Option Value), oo LN xs 0 0 43 14 [some (.ref 26), some (.ref 9), some (.int s3.1), d4, d5] [] s3.2 (some (.ref 28), t)) (fun s21 => ∀ (d22 d23 : Option Value), oo LN xs 0 0 43 96 [some (.ref 26), some (.ref 9), some (.int s21.1), d22, d23] [] s21.2 (some (.ref 28), t)) ?_ hs21 ?_ none none
  · intro s3 ws3 h hK d4 d5
    refine o_iload_n k43_14 rfl ?_
    refine o_aload_n k43_15 rfl ?_
    refine o_gf k43_16 (gf_9_1 _) ?_
    refine o_icmp_ge k43_19 (fun hc6 => ?_) (fun hc6 => ?_)
    · rw [if_pos hc6] at h
      have h9 := Option.some.inj h
      subst h9
      exact hK _ _
    · rw [if_neg hc6] at h
      refine o_iconst (v := 0) k43_22 (by decide) ?_
      refine o_istore_n (v := 0) (L' := [some (.ref 26), some (.ref 9), some (.int s3.1), some (.int 0), d5]) k43_23 rfl rfl ?_
      refine bd_i h (fun s18 hs18 h => ?_)
      refine lp_o (fun s7 => ∀ (d8 : Option Value), oo LN xs 0 0 43 24 [some (.ref 26), some (.ref 9), some (.int s3.1), some (.int s7.1), d8] [] s7.2 (some (.ref 28), t)) (fun s18 => ∀ (d19 : Option Value), oo LN xs 0 0 43 86 [some (.ref 26), some (.ref 9), some (.int s3.1), some (.int s18.1), d19] [] s18.2 (some (.ref 28), t)) ?_ hs18 ?_ d5
      · intro s7 ws7 h hK d8
        refine o_iload_n k43_24 rfl ?_
        refine o_aload_n k43_25 rfl ?_
        refine o_gf k43_26 (gf_9_0 _) ?_
        refine o_icmp_ge k43_29 (fun hc9 => ?_) (fun hc9 => ?_)
        · rw [if_pos hc9] at h
          have h9 := Option.some.inj h
          subst h9
          exact hK _
        · rw [if_neg hc9] at h
          refine o_aload_n k43_32 rfl ?_
          refine o_gf k43_33 (gf_9_8 _) ?_
          refine o_iload_n k43_36 rfl ?_
          refine o_iload_n k43_37 rfl ?_
          refine o_call k43_38 pj_5 (fun _ => rfl) (by decide) rfl (as := [.int s7.1, .int s3.1]) (rest := [.ref 11]) rfl (L0 := [some (.int s7.1), some (.int s3.1)]) rfl (t_X0_at (M := s7.2) (a0 := s7.1) (a1 := s3.1) rfl) ?_
          obtain ⟨hc10, h⟩ := ck_i h
          refine o_iald k43_41 rfl ia_11 hc10 ?_
          refine o_istore (v := (s7.2 11 (f_X0_at s7.1 s3.1).toNatClampNeg)) (L' := [some (.ref 26), some (.ref 9), some (.int s3.1), some (.int s7.1), some (.int (s7.2 11 (f_X0_at s7.1 s3.1).toNatClampNeg))]) k43_42 rfl rfl ?_
          refine o_iload k43_44 rfl ?_
          refine o_iconst (v := 2) k43_46 (by decide) ?_
          refine o_icmp_eq k43_47 (fun hc11 => ?_) (fun hc11 => ?_)
          · rw [if_pos hc11] at h
            refine o_iinc (w := s7.1 + 1) (L' := [some (.ref 26), some (.ref 9), some (.int s3.1), some (.int (s7.1 + 1)), some (.int (s7.2 11 (f_X0_at s7.1 s3.1).toNatClampNeg))]) k43_80 rfl rfl rfl ?_
            refine o_goto k43_83 ?_
            have h9 := Option.some.inj h
            subst h9
            exact hK _
          · rw [if_neg hc11] at h
            refine o_aload_n k43_50 rfl ?_
            refine o_gf k43_51 (gf_26_1 _) ?_
            refine o_iload k43_54 rfl ?_
            refine o_iconst (v := 1) k43_56 (by decide) ?_
            refine bl_i h (fun j17 ej17 h => ?_)
            have hJ77 : ∀ (v15 : Int32), j17 v15 = some ws7 → oo LN xs 0 0 43 77 [some (.ref 26), some (.ref 9), some (.int s3.1), some (.int s7.1), some (.int (s7.2 11 (f_X0_at s7.1 s3.1).toNatClampNeg))] [.int v15, .ref 28] s7.2 (some (.ref 28), t) := by
              intro v15 h
              rw [ej17] at h
              dsimp only at h
              refine bd_i h (fun q16 hq16 h => ?_)
              refine o_call k43_77 pj_36 (fun _ => rfl) (by decide) rfl (as := [.ref 28, .int v15]) (rest := []) rfl (L0 := [some (.ref 28), some (.int v15), none, none]) rfl (t_X1_add_28 hq16) ?_
              refine o_iinc (w := s7.1 + 1) (L' := [some (.ref 26), some (.ref 9), some (.int s3.1), some (.int (s7.1 + 1)), some (.int (s7.2 11 (f_X0_at s7.1 s3.1).toNatClampNeg))]) k43_80 rfl rfl rfl ?_
              refine o_goto k43_83 ?_
              have h9 := Option.some.inj h
              subst h9
              exact hK _
            refine o_icmp_ne k43_57 (fun hc12 => ?_) (fun hc12 => ?_)
            · rw [if_neg hc12] at h
              refine o_aload_n k43_72 rfl ?_
              refine o_iload_n k43_73 rfl ?_
              refine bd_i h (fun v13 hv13 h => ?_)
              refine o_call k43_74 pj_42 (fun _ => rfl) (by decide) rfl (as := [.ref 26, .int s7.1]) (rest := [.ref 28]) rfl (L0 := [some (.ref 26), some (.int s7.1)]) rfl (t_X2_formOf_26 hv13) ?_
              exact hJ77 _ h
            · rw [if_pos hc12] at h
              refine o_aload_n k43_60 rfl ?_
              refine o_iload_n k43_61 rfl ?_
              refine bd_i h (fun v14 hv14 h => ?_)
              refine o_call k43_62 pj_42 (fun _ => rfl) (by decide) rfl (as := [.ref 26, .int s7.1]) (rest := [.ref 28]) rfl (L0 := [some (.ref 26), some (.int s7.1)]) rfl (t_X2_formOf_26 hv14) ?_
              refine o_sipush (v := 4096) k43_65 (by decide) ?_
              refine o_ior k43_68 ?_
              refine o_goto k43_69 ?_
              exact hJ77 _ h
      · show ∀ (d19 : Option Value), oo LN xs 0 0 43 86 [some (.ref 26), some (.ref 9), some (.int s3.1), some (.int s18.1), d19] [] s18.2 (some (.ref 28), t)
        intro d19
        refine o_aload_n k43_86 rfl ?_
        refine bd_i h (fun q20 hq20 h => ?_)
        refine o_call k43_87 pj_41 (fun _ => rfl) (by decide) rfl (as := [.ref 26]) (rest := []) rfl (L0 := [some (.ref 26), none, none]) rfl (t_X2_move_26 hq20) ?_
        refine o_iinc (w := s3.1 + 1) (L' := [some (.ref 26), some (.ref 9), some (.int (s3.1 + 1)), some (.int s18.1), d19]) k43_90 rfl rfl rfl ?_
        refine o_goto k43_93 ?_
        have h9 := Option.some.inj h
        subst h9
        exact hK _ _
  · show ∀ (d22 d23 : Option Value), oo LN xs 0 0 43 96 [some (.ref 26), some (.ref 9), some (.int s21.1), d22, d23] [] s21.2 (some (.ref 28), t)
    intro d22 d23
    refine o_aload_n k43_96 rfl ?_
    refine o_gf k43_97 (gf_26_1 _) ?_
    have h9 := Option.some.inj h
    subst h9
    exact o_aret pj_43 k43_100 rfl
def f_X1_leastSolution_28 (M : am_M) : Option Int32 := ((lp (σ := Int32 × Int32) (ρ := Int32 × Int32) (fun s1 => (if s1.2 < 0 then (some (.inr (s1.1, s1.2))) else (if am_dbin s1.2 12 = true then (bl ((s1.1 ||| ((f_X2_parity ((M 29 s1.2.toNatClampNeg) &&& s1.1)) <<< (s1.2 &&& 31)))) (fun (v4 : Int32) => (some (.inl (v4, (s1.2 + (-1))))))) else none))) lp_F (4096, 11)).bind (fun s5 => (some (s5.1 &&& (-4097)))))
set_option maxRecDepth 20000 in
theorem t_X1_leastSolution_28 {LN : Nat} {xs : Nat → Int32} {M : am_M} {t : Int32} (h : f_X1_leastSolution_28 M = some t) : oo LN xs 0 0 37 0 [some (.ref 28), none, none] [] M (some (.int t), M) := by
  unfold f_X1_leastSolution_28 at h
  refine o_sipush (v := 4096) k37_0 (by decide) ?_
  refine o_istore_n (v := 4096) (L' := [some (.ref 28), some (.int 4096), none]) k37_3 rfl rfl ?_
  refine o_bipush (v := 11) k37_4 (by decide) ?_
  refine o_istore_n (v := 11) (L' := [some (.ref 28), some (.int 4096), some (.int 11)]) k37_6 rfl rfl ?_
  refine bd_i h (fun s5 hs5 h => ?_)
  refine lp_o (fun s1 => oo LN xs 0 0 37 7 [some (.ref 28), some (.int s1.1), some (.int s1.2)] [] M (some (.int t), M)) (fun s5 => oo LN xs 0 0 37 33 [some (.ref 28), some (.int s5.1), some (.int s5.2)] [] M (some (.int t), M)) ?_ hs5 ?_
  · intro s1 ws1 h hK
    refine o_iload_n k37_7 rfl ?_
    refine o_if_lt k37_8 (fun hc2 => ?_) (fun hc2 => ?_)
    · rw [if_pos hc2] at h
      have h9 := Option.some.inj h
      subst h9
      exact hK
    · rw [if_neg hc2] at h
      refine o_iload_n k37_11 rfl ?_
      refine o_aload_n k37_12 rfl ?_
      refine o_gf k37_13 (gf_28_0 _) ?_
      refine o_iload_n k37_16 rfl ?_
      obtain ⟨hc3, h⟩ := ck_i h
      refine o_iald k37_17 rfl ia_29 hc3 ?_
      refine o_iload_n k37_18 rfl ?_
      refine o_iand k37_19 ?_
      refine o_call k37_20 pj_39 (fun _ => rfl) (by decide) rfl (as := [.int ((M 29 s1.2.toNatClampNeg) &&& s1.1)]) (rest := [.int s1.1]) rfl (L0 := [some (.int ((M 29 s1.2.toNatClampNeg) &&& s1.1))]) rfl (t_X2_parity (M := M) (a0 := ((M 29 s1.2.toNatClampNeg) &&& s1.1)) rfl) ?_
      refine o_iload_n k37_23 rfl ?_
      refine o_ishl k37_24 ?_
      refine o_ior k37_25 ?_
      refine bl_i h (fun v4 ev4 h => ?_)
      refine o_istore_n (v := v4) k37_26 ev4 (L' := [some (.ref 28), some (.int v4), some (.int s1.2)]) rfl ?_
      refine o_iinc (w := s1.2 + (-1)) (L' := [some (.ref 28), some (.int v4), some (.int (s1.2 + (-1)))]) k37_27 rfl rfl rfl ?_
      refine o_goto k37_30 ?_
      have h9 := Option.some.inj h
      subst h9
      exact hK
  · show oo LN xs 0 0 37 33 [some (.ref 28), some (.int s5.1), some (.int s5.2)] [] M (some (.int t), M)
    refine o_iload_n k37_33 rfl ?_
    refine o_sipush (v := (-4097)) k37_34 (by decide) ?_
    refine o_iand k37_37 ?_
    have h9 := Option.some.inj h
    subst h9
    exact o_iret pj_37 k37_38 rfl nr_i
def f_X7_seed_0 (a0 : Int32) (M : am_M) : Option (Int32 × am_M) := (if a0 < 0 then (some ((-1), M)) else (if a0 ≤ 1 then ((f_X2_wantedOf_26_9 M).bind (fun q3 => (if (q3 28 2) = 0 then (if a0 = 0 then ((f_X1_leastSolution_28 q3).bind (fun v6 => (some (v6, q3)))) else (some (((q3 9 4) - (q3 28 1)), q3))) else (some ((-4), q3))))) else (some ((-1), M))))
set_option maxRecDepth 20000 in
theorem t_X7_seed_0 {LN : Nat} {xs : Nat → Int32} {a0 : Int32} {M : am_M} {t : Int32 × am_M} (h : f_X7_seed_0 a0 M = some t) : oo LN xs 0 0 105 0 [some (.ref 0), some (.int a0), none] [] M (some (.int t.1), t.2) := by
  unfold f_X7_seed_0 at h
  refine o_iload_n k105_0 rfl ?_
  refine o_if_lt k105_1 (fun hc1 => ?_) (fun hc1 => ?_)
  · rw [if_pos hc1] at h
    refine o_iconst (v := (-1)) k105_9 (by decide) ?_
    have h9 := Option.some.inj h
    subst h9
    exact o_iret pj_105 k105_10 rfl nr_i
  · rw [if_neg hc1] at h
    refine o_iload_n k105_4 rfl ?_
    refine o_iconst (v := 1) k105_5 (by decide) ?_
    refine o_icmp_le k105_6 (fun hc2 => ?_) (fun hc2 => ?_)
    · rw [if_pos hc2] at h
      refine o_aload_n k105_11 rfl ?_
      refine o_gf k105_12 (gf_0_5 _) ?_
      refine o_aload_n k105_15 rfl ?_
      refine o_gf k105_16 (gf_0_2 _) ?_
      refine bd_i h (fun q3 hq3 h => ?_)
      refine o_call k105_19 pj_43 (fun _ => rfl) (by decide) rfl (as := [.ref 26, .ref 9]) (rest := []) rfl (L0 := [some (.ref 26), some (.ref 9), none, none, none]) rfl (t_X2_wantedOf_26_9 hq3) ?_
      refine o_astore_n (L' := [some (.ref 0), some (.int a0), some (.ref 28)]) k105_22 rfl rfl ?_
      refine o_aload_n k105_23 rfl ?_
      refine o_gf k105_24 (gf_28_2 _) ?_
      refine o_if_eq k105_27 (fun hc4 => ?_) (fun hc4 => ?_)
      · rw [if_pos hc4] at h
        refine o_iload_n k105_33 rfl ?_
        refine o_if_ne k105_34 (fun hc5 => ?_) (fun hc5 => ?_)
        · rw [if_neg hc5] at h
          refine o_aload_n k105_44 rfl ?_
          refine o_gf k105_45 (gf_0_2 _) ?_
          refine o_gf k105_48 (gf_9_4 _) ?_
          refine o_aload_n k105_51 rfl ?_
          refine o_gf k105_52 (gf_28_1 _) ?_
          refine o_isub k105_55 ?_
          have h9 := Option.some.inj h
          subst h9
          exact o_iret pj_105 k105_56 rfl nr_i
        · rw [if_pos hc5] at h
          refine o_aload_n k105_37 rfl ?_
          refine bd_i h (fun v6 hv6 h => ?_)
          refine o_call k105_38 pj_37 (fun _ => rfl) (by decide) rfl (as := [.ref 28]) (rest := []) rfl (L0 := [some (.ref 28), none, none]) rfl (t_X1_leastSolution_28 hv6) ?_
          refine o_goto k105_41 ?_
          have h9 := Option.some.inj h
          subst h9
          exact o_iret pj_105 k105_56 rfl nr_i
      · rw [if_neg hc4] at h
        refine o_bipush (v := (-4)) k105_30 (by decide) ?_
        have h9 := Option.some.inj h
        subst h9
        exact o_iret pj_105 k105_32 rfl nr_i
    · rw [if_neg hc2] at h
      refine o_iconst (v := (-1)) k105_9 (by decide) ?_
      have h9 := Option.some.inj h
      subst h9
      exact o_iret pj_105 k105_10 rfl nr_i
def f_X8_bringsAll_43 (a0 : Int32) (M : am_M) : Option Int32 := ((lp (σ := Int32 × Int32) (ρ := (Int32) ⊕ (Int32 × Int32)) (fun s1 => (if (M 44 (1 : Int32).toNatClampNeg) ≤ s1.2 then (some (.inr (.inr (s1.1, s1.2)))) else ((lp (σ := Int32) (ρ := (Int32) ⊕ (Int32)) (fun s6 => (if (M 44 (0 : Int32).toNatClampNeg) ≤ s6 then (some (.inr (.inr s6))) else (if am_dbin (((71 : Int32) + ((8 : Int32) * s6)) + s1.2) 151 = true then (bl ((M 44 (((71 : Int32) + ((8 : Int32) * s6)) + s1.2).toNatClampNeg)) (fun (v11 : Int32) => (if v11 = 2 then (some (.inl (s6 + 1))) else ((f_X8_broughtBy_43 s1.1 s6 M).bind (fun v13 => (if v11 = v13 then (some (.inl (s6 + 1))) else (some (.inr (.inl 0))))))))) else none))) lp_F 0).bind (fun os15 => Sum.elim (fun u => (some (.inr (.inl u)))) (fun s15 => ((f_X8_nextOf_43 s1.1 M).bind (fun v17 => (some (.inl (v17, (s1.2 + 1))))))) os15)))) lp_F (a0, 0)).bind (fun os18 => Sum.elim (fun u => (some u)) (fun s18 => (some 1)) os18))
set_option maxRecDepth 20000 in
theorem t_X8_bringsAll_43 {LN : Nat} {xs : Nat → Int32} {a0 : Int32} {M : am_M} {t : Int32} (h : f_X8_bringsAll_43 a0 M = some t) : oo LN xs 0 0 184 0 [some (.ref 43), some (.int a0), none, none, none, none] [] M (some (.int t), M) := by
  unfold f_X8_bringsAll_43 at h
  refine o_iload_n k184_0 rfl ?_
  refine o_istore_n (v := a0) (L' := [some (.ref 43), some (.int a0), some (.int a0), none, none, none]) k184_1 rfl rfl ?_
  refine o_iconst (v := 0) k184_2 (by decide) ?_
  refine o_istore_n (v := 0) (L' := [some (.ref 43), some (.int a0), some (.int a0), some (.int 0), none, none]) k184_3 rfl rfl ?_
  refine bd_i h (fun Os18 hOs18 h => ?_)
  refine lp_o (fun s1 => ∀ (d2 d3 : Option Value), oo LN xs 0 0 184 4 [some (.ref 43), some (.int a0), some (.int s1.1), some (.int s1.2), d2, d3] [] M (some (.int t), M)) (fun oq => Sum.elim (fun u => u = t) (fun s18 => ∀ (d19 d20 : Option Value), oo LN xs 0 0 184 83 [some (.ref 43), some (.int a0), some (.int s18.1), some (.int s18.2), d19, d20] [] M (some (.int t), M)) oq) ?_ hOs18 ?_ none none
  · intro s1 ws1 h hK d2 d3
    refine o_iload_n k184_4 rfl ?_
    refine o_aload_n k184_5 rfl ?_
    refine o_gf k184_6 (gf_43_0 _) ?_
    refine o_iconst (v := 1) k184_9 (by decide) ?_
    refine o_iald k184_10 rfl ia_44 (by decide) ?_
    refine o_icmp_ge k184_11 (fun hc5 => ?_) (fun hc5 => ?_)
    · rw [if_pos hc5] at h
      have h9 := Option.some.inj h
      subst h9
      exact hK _ _
    · rw [if_neg hc5] at h
      refine o_iconst (v := 0) k184_14 (by decide) ?_
      refine o_istore (v := 0) (L' := [some (.ref 43), some (.int a0), some (.int s1.1), some (.int s1.2), some (.int 0), d3]) k184_15 rfl rfl ?_
      refine bd_i h (fun Os15 hOs15 h => ?_)
      refine lp_o (fun s6 => ∀ (d7 : Option Value), oo LN xs 0 0 184 17 [some (.ref 43), some (.int a0), some (.int s1.1), some (.int s1.2), some (.int s6), d7] [] M (some (.int t), M)) (fun oq => Sum.elim (fun u => u = t) (fun s15 => ∀ (d16 : Option Value), oo LN xs 0 0 184 71 [some (.ref 43), some (.int a0), some (.int s1.1), some (.int s1.2), some (.int s15), d16] [] M (some (.int t), M)) oq) ?_ hOs15 ?_ d3
      · intro s6 ws6 h hK d7
        refine o_iload k184_17 rfl ?_
        refine o_aload_n k184_19 rfl ?_
        refine o_gf k184_20 (gf_43_0 _) ?_
        refine o_iconst (v := 0) k184_23 (by decide) ?_
        refine o_iald k184_24 rfl ia_44 (by decide) ?_
        refine o_icmp_ge k184_25 (fun hc9 => ?_) (fun hc9 => ?_)
        · rw [if_pos hc9] at h
          have h9 := Option.some.inj h
          subst h9
          exact hK _
        · rw [if_neg hc9] at h
          refine o_aload_n k184_28 rfl ?_
          refine o_gf k184_29 (gf_43_0 _) ?_
          refine o_bipush (v := 71) k184_32 (by decide) ?_
          refine o_bipush (v := 8) k184_34 (by decide) ?_
          refine o_iload k184_36 rfl ?_
          refine o_imul k184_38 ?_
          refine o_iadd k184_39 ?_
          refine o_iload_n k184_40 rfl ?_
          refine o_iadd k184_41 ?_
          obtain ⟨hc10, h⟩ := ck_i h
          refine o_iald k184_42 rfl ia_44 hc10 ?_
          refine bl_i h (fun v11 ev11 h => ?_)
          refine o_istore (v := v11) k184_43 ev11 (L' := [some (.ref 43), some (.int a0), some (.int s1.1), some (.int s1.2), some (.int s6), some (.int v11)]) rfl ?_
          refine o_iload k184_45 rfl ?_
          refine o_iconst (v := 2) k184_47 (by decide) ?_
          refine o_icmp_eq k184_48 (fun hc12 => ?_) (fun hc12 => ?_)
          · rw [if_pos hc12] at h
            refine o_iinc (w := s6 + 1) (L' := [some (.ref 43), some (.int a0), some (.int s1.1), some (.int s1.2), some (.int (s6 + 1)), some (.int v11)]) k184_65 rfl rfl rfl ?_
            refine o_goto k184_68 ?_
            have h9 := Option.some.inj h
            subst h9
            exact hK _
          · rw [if_neg hc12] at h
            refine o_iload k184_51 rfl ?_
            refine o_aload_n k184_53 rfl ?_
            refine o_iload_n k184_54 rfl ?_
            refine o_iload k184_55 rfl ?_
            refine bd_i h (fun v13 hv13 h => ?_)
            refine o_call k184_57 pj_181 (fun _ => rfl) (by decide) rfl (as := [.ref 43, .int s1.1, .int s6]) (rest := [.int v11]) rfl (L0 := [some (.ref 43), some (.int s1.1), some (.int s6)]) rfl (t_X8_broughtBy_43 hv13) ?_
            refine o_icmp_eq k184_60 (fun hc14 => ?_) (fun hc14 => ?_)
            · rw [if_pos hc14] at h
              refine o_iinc (w := s6 + 1) (L' := [some (.ref 43), some (.int a0), some (.int s1.1), some (.int s1.2), some (.int (s6 + 1)), some (.int v11)]) k184_65 rfl rfl rfl ?_
              refine o_goto k184_68 ?_
              have h9 := Option.some.inj h
              subst h9
              exact hK _
            · rw [if_neg hc14] at h
              refine o_iconst (v := 0) k184_63 (by decide) ?_
              have h9 := Option.some.inj h
              subst h9
              have hK2 : 0 = t := hK
              subst hK2
              exact o_iret pj_184 k184_64 rfl (nr_z (by decide))
      · rcases Os15 with u | s15
        · have h9 := Option.some.inj h; subst h9; exact hK
        · show ∀ (d16 : Option Value), oo LN xs 0 0 184 71 [some (.ref 43), some (.int a0), some (.int s1.1), some (.int s1.2), some (.int s15), d16] [] M (some (.int t), M)
          replace h : ((f_X8_nextOf_43 s1.1 M).bind (fun v17 => (some (.inl (v17, (s1.2 + 1)))))) = some ws1 := h
          intro d16
          refine o_aload_n k184_71 rfl ?_
          refine o_iload_n k184_72 rfl ?_
          refine bd_i h (fun v17 hv17 h => ?_)
          refine o_call k184_73 pj_180 (fun _ => rfl) (by decide) rfl (as := [.ref 43, .int s1.1]) (rest := []) rfl (L0 := [some (.ref 43), some (.int s1.1)]) rfl (t_X8_nextOf_43 hv17) ?_
          refine o_istore_n (v := v17) (L' := [some (.ref 43), some (.int a0), some (.int v17), some (.int s1.2), some (.int s15), d16]) k184_76 rfl rfl ?_
          refine o_iinc (w := s1.2 + 1) (L' := [some (.ref 43), some (.int a0), some (.int v17), some (.int (s1.2 + 1)), some (.int s15), d16]) k184_77 rfl rfl rfl ?_
          refine o_goto k184_80 ?_
          have h9 := Option.some.inj h
          subst h9
          exact hK _ _
  · rcases Os18 with u | s18
    · exact Option.some.inj h
    · show ∀ (d19 d20 : Option Value), oo LN xs 0 0 184 83 [some (.ref 43), some (.int a0), some (.int s18.1), some (.int s18.2), d19, d20] [] M (some (.int t), M)
      replace h : (some 1) = some t := h
      intro d19 d20
      refine o_iconst (v := 1) k184_83 (by decide) ?_
      have h9 := Option.some.inj h
      subst h9
      exact o_iret pj_184 k184_84 rfl (nr_z (by decide))
