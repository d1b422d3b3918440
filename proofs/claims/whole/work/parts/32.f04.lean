/-! FUNCTIONS, on -/
def f_X8_hides_43 (a0 : Int32) (M : am_M) : Option Int32 := (if a0 < 0 then (some (-1)) else (if (a0 &&& ((f_X8_chainsIn_43 M) ^^^ (-1))) = 0 then ((lp (σ := Int32) (ρ := (Int32) ⊕ (Int32)) (fun x4 => (if (f_X8_chainsIn_43 M) < x4 then (some (.inr (.inr x4))) else (if (x4 &&& (((f_X8_chainsIn_43 M) &&& (a0 ^^^ (-1))) ^^^ (-1))) = 0 then ((f_X8_isHidden_43 x4 a0 M).bind (fun v7 => (if v7 = 0 then (some (.inl (x4 + 1))) else (some (.inr (.inl x4)))))) else (some (.inl (x4 + 1)))))) lp_F 1).bind (fun os9 => Sum.elim (fun u => (some u)) (fun x10 => (some (-4))) os9)) else (some (-1))))
set_option maxRecDepth 20000 in
theorem t_X8_hides_43 {LN : Nat} {xs : Nat → Int32} {a0 : Int32} {M : am_M} {t : Int32} (h : f_X8_hides_43 a0 M = some t) : oo LN xs 0 0 171 0 [some (.ref 43), some (.int a0), none, none] [] M (some (.int t), M) := by
  unfold f_X8_hides_43 at h
  refine o_aload_n k171_0 rfl ?_
  refine o_call k171_1 pj_164 (fun _ => rfl) (by decide) rfl (as := [.ref 43]) (rest := []) rfl (L0 := [some (.ref 43)]) rfl (t_X8_chainsIn_43 (M := M) rfl) ?_
  refine o_istore_n (v := (f_X8_chainsIn_43 M)) (L' := [some (.ref 43), some (.int a0), some (.int (f_X8_chainsIn_43 M)), none]) k171_4 rfl rfl ?_
  refine o_iload_n k171_5 rfl ?_
  refine o_if_lt k171_6 (fun hc1 => ?_) (fun hc1 => ?_)
  · rw [if_pos hc1] at h
    refine o_iconst (v := (-1)) k171_17 (by decide) ?_
    have h9 := Option.some.inj h
    subst h9
    exact o_iret pj_171 k171_18 rfl nr_i
  · rw [if_neg hc1] at h
    refine o_iload_n k171_9 rfl ?_
    refine o_iload_n k171_10 rfl ?_
    refine o_iconst (v := (-1)) k171_11 (by decide) ?_
    refine o_ixor k171_12 ?_
    refine o_iand k171_13 ?_
    refine o_if_eq k171_14 (fun hc2 => ?_) (fun hc2 => ?_)
    · rw [if_pos hc2] at h
      refine o_iconst (v := 1) k171_19 (by decide) ?_
      refine o_istore_n (v := 1) (L' := [some (.ref 43), some (.int a0), some (.int (f_X8_chainsIn_43 M)), some (.int 1)]) k171_20 rfl rfl ?_
      refine bd_i h (fun Os9 hOs9 h => ?_)
      refine lp_o (fun x4 => oo LN xs 0 0 171 21 [some (.ref 43), some (.int a0), some (.int (f_X8_chainsIn_43 M)), some (.int x4)] [] M (some (.int t), M)) (fun oq => Sum.elim (fun u => u = t) (fun x10 => oo LN xs 0 0 171 55 [some (.ref 43), some (.int a0), some (.int (f_X8_chainsIn_43 M)), some (.int x10)] [] M (some (.int t), M)) oq) ?_ hOs9 ?_
      · rintro x4 ws3 h hK
        show oo LN xs 0 0 171 21 [some (.ref 43), some (.int a0), some (.int (f_X8_chainsIn_43 M)), some (.int x4)] [] M (some (.int t), M)
        refine o_iload_n k171_21 rfl ?_
        refine o_iload_n k171_22 rfl ?_
        refine o_icmp_gt k171_23 (fun hc5 => ?_) (fun hc5 => ?_)
        · rw [if_pos hc5] at h
          have h9 := Option.some.inj h
          subst h9
          exact hK
        · rw [if_neg hc5] at h
          refine o_iload_n k171_26 rfl ?_
          refine o_iload_n k171_27 rfl ?_
          refine o_iload_n k171_28 rfl ?_
          refine o_iconst (v := (-1)) k171_29 (by decide) ?_
          refine o_ixor k171_30 ?_
          refine o_iand k171_31 ?_
          refine o_iconst (v := (-1)) k171_32 (by decide) ?_
          refine o_ixor k171_33 ?_
          refine o_iand k171_34 ?_
          refine o_if_ne k171_35 (fun hc6 => ?_) (fun hc6 => ?_)
          · rw [if_neg hc6] at h
            refine o_iinc (k := 1) (L' := [some (.ref 43), some (.int a0), some (.int (f_X8_chainsIn_43 M)), some (.int (x4 + 1))]) k171_49 rfl (by decide) rfl ?_
            refine o_goto k171_52 ?_
            have h9 := Option.some.inj h
            subst h9
            exact hK
          · rw [if_pos hc6] at h
            refine o_aload_n k171_38 rfl ?_
            refine o_iload_n k171_39 rfl ?_
            refine o_iload_n k171_40 rfl ?_
            refine bd_i h (fun v7 hv7 h => ?_)
            refine o_call k171_41 pj_167 (fun _ => rfl) (by decide) rfl (as := [.ref 43, .int x4, .int a0]) (rest := []) rfl (L0 := [some (.ref 43), some (.int x4), some (.int a0)]) rfl (t_X8_isHidden_43 hv7) ?_
            refine o_if_eq k171_44 (fun hc8 => ?_) (fun hc8 => ?_)
            · rw [if_pos hc8] at h
              refine o_iinc (k := 1) (L' := [some (.ref 43), some (.int a0), some (.int (f_X8_chainsIn_43 M)), some (.int (x4 + 1))]) k171_49 rfl (by decide) rfl ?_
              refine o_goto k171_52 ?_
              have h9 := Option.some.inj h
              subst h9
              exact hK
            · rw [if_neg hc8] at h
              refine o_iload_n k171_47 rfl ?_
              have h9 := Option.some.inj h
              subst h9
              have hK2 : x4 = t := hK
              subst hK2
              exact o_iret pj_171 k171_48 rfl nr_i
      · rcases Os9 with u | x10
        · exact Option.some.inj h
        · show oo LN xs 0 0 171 55 [some (.ref 43), some (.int a0), some (.int (f_X8_chainsIn_43 M)), some (.int x10)] [] M (some (.int t), M)
          rw [el_r] at h
          refine o_bipush (v := (-4)) k171_55 (by decide) ?_
          have h9 := Option.some.inj h
          subst h9
          exact o_iret pj_171 k171_57 rfl nr_i
    · rw [if_neg hc2] at h
      refine o_iconst (v := (-1)) k171_17 (by decide) ?_
      have h9 := Option.some.inj h
      subst h9
      exact o_iret pj_171 k171_18 rfl nr_i
def f_X0_watchedWithout_9 (a0 : Int32) (M : am_M) : Option Int32 := ((lp (σ := Int32 × Int32) (ρ := Int32 × Int32) (fun (s1 : Int32 × Int32) => match s1 with | (x2, x3) => (if (M 9 1) ≤ x3 then (some (.inr (x2, x3))) else ((f_X0_blurred_9 x3 a0 M).bind (fun v7 => ((lp (σ := Int32 × Int32) (ρ := Int32 × Int32) (fun (s8 : Int32 × Int32) => match s8 with | (x9, x10) => (if (M 9 0) ≤ x10 then (some (.inr (x9, x10))) else ((f_X0_isWatched_9 x10 x3 a0 v7 M).bind (fun v12 => (if v12 = 0 then (some (.inl (x9, (x10 + 1)))) else (some (.inl ((x9 + 1), (x10 + 1))))))))) lp_F (x2, 0)).bind (fun (s14 : Int32 × Int32) => match s14 with | (x15, x16) => (some (.inl (x15, (x3 + 1)))))))))) lp_F (0, 0)).bind (fun (s17 : Int32 × Int32) => match s17 with | (x18, x19) => (some x18)))
set_option maxRecDepth 20000 in
theorem t_X0_watchedWithout_9 {LN : Nat} {xs : Nat → Int32} {a0 : Int32} {M : am_M} {t : Int32} (h : f_X0_watchedWithout_9 a0 M = some t) : oo LN xs 0 0 19 0 [some (.ref 9), some (.int a0), none, none, none, none] [] M (some (.int t), M) := by
  unfold f_X0_watchedWithout_9 at h
  refine o_iconst (v := 0) k19_0 (by decide) ?_
  refine o_istore_n (v := 0) (L' := [some (.ref 9), some (.int a0), some (.int 0), none, none, none]) k19_1 rfl rfl ?_
  refine o_iconst (v := 0) k19_2 (by decide) ?_
  refine o_istore_n (v := 0) (L' := [some (.ref 9), some (.int a0), some (.int 0), some (.int 0), none, none]) k19_3 rfl rfl ?_
  refine bd_i h (fun s17 hs17 h => ?_)
  refine lp_o (fun (s1 : Int32 × Int32) => match s1 with | (x2, x3) => ∀ (d4 d5 : Option (Int32 ⊕ Int64)), oo LN xs 0 0 19 4 [some (.ref 9), some (.int a0), some (.int x2), some (.int x3), (d4.map dv), (d5.map dv)] [] M (some (.int t), M)) (fun (s17 : Int32 × Int32) => match s17 with | (x18, x19) => ∀ (d20 d21 : Option (Int32 ⊕ Int64)), oo LN xs 0 0 19 60 [some (.ref 9), some (.int a0), some (.int x18), some (.int x19), (d20.map dv), (d21.map dv)] [] M (some (.int t), M)) ?_ hs17 ?_ none none
  · rintro ⟨x2, x3⟩ ws1 h hK
    dsimp only at h
    show ∀ (d4 d5 : Option (Int32 ⊕ Int64)), oo LN xs 0 0 19 4 [some (.ref 9), some (.int a0), some (.int x2), some (.int x3), (d4.map dv), (d5.map dv)] [] M (some (.int t), M)
    intro d4 d5
    refine o_iload_n k19_4 rfl ?_
    refine o_aload_n k19_5 rfl ?_
    refine o_gf k19_6 (gf_9_1 _) ?_
    refine o_icmp_ge k19_9 (fun hc6 => ?_) (fun hc6 => ?_)
    · rw [if_pos hc6] at h
      have h9 := Option.some.inj h
      subst h9
      exact hK d4 d5
    · rw [if_neg hc6] at h
      refine o_aload_n k19_12 rfl ?_
      refine o_iload_n k19_13 rfl ?_
      refine o_iload_n k19_14 rfl ?_
      refine bd_i h (fun v7 hv7 h => ?_)
      refine o_call k19_15 pj_17 (fun _ => rfl) (by decide) (by rcases d4 with _ | (x | x) <;> rcases d5 with _ | (x | x) <;> rfl) (as := [.ref 9, .int x3, .int a0]) (rest := []) rfl (L0 := [some (.ref 9), some (.int x3), some (.int a0), none, none]) rfl (t_X0_blurred_9 hv7) ?_
      refine o_istore (v := v7) (L' := [some (.ref 9), some (.int a0), some (.int x2), some (.int x3), some (.int v7), (d5.map dv)]) k19_18 rfl rfl ?_
      refine o_iconst (v := 0) k19_20 (by decide) ?_
      refine o_istore (v := 0) (L' := [some (.ref 9), some (.int a0), some (.int x2), some (.int x3), some (.int v7), some (.int 0)]) k19_21 rfl rfl ?_
      refine bd_i h (fun s14 hs14 h => ?_)
      refine lp_o (fun (s8 : Int32 × Int32) => match s8 with | (x9, x10) => oo LN xs 0 0 19 23 [some (.ref 9), some (.int a0), some (.int x9), some (.int x3), some (.int v7), some (.int x10)] [] M (some (.int t), M)) (fun (s14 : Int32 × Int32) => match s14 with | (x15, x16) => oo LN xs 0 0 19 54 [some (.ref 9), some (.int a0), some (.int x15), some (.int x3), some (.int v7), some (.int x16)] [] M (some (.int t), M)) ?_ hs14 ?_
      · rintro ⟨x9, x10⟩ ws8 h hK
        dsimp only at h
        show oo LN xs 0 0 19 23 [some (.ref 9), some (.int a0), some (.int x9), some (.int x3), some (.int v7), some (.int x10)] [] M (some (.int t), M)
        refine o_iload k19_23 rfl ?_
        refine o_aload_n k19_25 rfl ?_
        refine o_gf k19_26 (gf_9_0 _) ?_
        refine o_icmp_ge k19_29 (fun hc11 => ?_) (fun hc11 => ?_)
        · rw [if_pos hc11] at h
          have h9 := Option.some.inj h
          subst h9
          exact hK
        · rw [if_neg hc11] at h
          refine o_aload_n k19_32 rfl ?_
          refine o_iload k19_33 rfl ?_
          refine o_iload_n k19_35 rfl ?_
          refine o_iload_n k19_36 rfl ?_
          refine o_iload k19_37 rfl ?_
          refine bd_i h (fun v12 hv12 h => ?_)
          refine o_call k19_39 pj_18 (fun _ => rfl) (by decide) rfl (as := [.ref 9, .int x10, .int x3, .int a0, .int v7]) (rest := []) rfl (L0 := [some (.ref 9), some (.int x10), some (.int x3), some (.int a0), some (.int v7)]) rfl (t_X0_isWatched_9 hv12) ?_
          refine o_if_eq k19_42 (fun hc13 => ?_) (fun hc13 => ?_)
          · rw [if_pos hc13] at h
            refine o_iinc (k := 1) (L' := [some (.ref 9), some (.int a0), some (.int x9), some (.int x3), some (.int v7), some (.int (x10 + 1))]) k19_48 rfl (by decide) rfl ?_
            refine o_goto k19_51 ?_
            have h9 := Option.some.inj h
            subst h9
            exact hK
          · rw [if_neg hc13] at h
            refine o_iinc (k := 1) (L' := [some (.ref 9), some (.int a0), some (.int (x9 + 1)), some (.int x3), some (.int v7), some (.int x10)]) k19_45 rfl (by decide) rfl ?_
            refine o_iinc (k := 1) (L' := [some (.ref 9), some (.int a0), some (.int (x9 + 1)), some (.int x3), some (.int v7), some (.int (x10 + 1))]) k19_48 rfl (by decide) rfl ?_
            refine o_goto k19_51 ?_
            have h9 := Option.some.inj h
            subst h9
            exact hK
      · obtain ⟨x15, x16⟩ := s14
        show oo LN xs 0 0 19 54 [some (.ref 9), some (.int a0), some (.int x15), some (.int x3), some (.int v7), some (.int x16)] [] M (some (.int t), M)
        dsimp only at h
        refine o_iinc (k := 1) (L' := [some (.ref 9), some (.int a0), some (.int x15), some (.int (x3 + 1)), some (.int v7), some (.int x16)]) k19_54 rfl (by decide) rfl ?_
        refine o_goto k19_57 ?_
        have h9 := Option.some.inj h
        subst h9
        exact hK (some (.inl v7)) (some (.inl x16))
  · obtain ⟨x18, x19⟩ := s17
    show ∀ (d20 d21 : Option (Int32 ⊕ Int64)), oo LN xs 0 0 19 60 [some (.ref 9), some (.int a0), some (.int x18), some (.int x19), (d20.map dv), (d21.map dv)] [] M (some (.int t), M)
    dsimp only at h
    intro d20 d21
    refine o_iload_n k19_60 rfl ?_
    have h9 := Option.some.inj h
    subst h9
    exact o_iret pj_19 k19_61 rfl nr_i
def f_X7_watched_0 (M : am_M) : Option Int32 := ((f_X0_watchedWithout_9 (M 9 3) M).bind (fun v1 => (some v1)))
set_option maxRecDepth 20000 in
theorem t_X7_watched_0 {LN : Nat} {xs : Nat → Int32} {M : am_M} {t : Int32} (h : f_X7_watched_0 M = some t) : oo LN xs 0 0 94 0 [some (.ref 0)] [] M (some (.int t), M) := by
  unfold f_X7_watched_0 at h
  refine o_aload_n k94_0 rfl ?_
  refine o_gf k94_1 (gf_0_2 _) ?_
  refine o_aload_n k94_4 rfl ?_
  refine o_gf k94_5 (gf_0_2 _) ?_
  refine o_gf k94_8 (gf_9_3 _) ?_
  refine bd_i h (fun v1 hv1 h => ?_)
  refine o_call k94_11 pj_19 (fun _ => rfl) (by decide) rfl (as := [.ref 9, .int (M 9 3)]) (rest := []) rfl (L0 := [some (.ref 9), some (.int (M 9 3)), none, none, none, none]) rfl (t_X0_watchedWithout_9 hv1) ?_
  have h9 := Option.some.inj h
  subst h9
  exact o_iret pj_94 k94_14 rfl nr_i
def f_X8_watched_43 (M : am_M) : Option Int32 := ((lp (σ := Int32 × Int32) (ρ := Int32 × Int32) (fun (s1 : Int32 × Int32) => match s1 with | (x2, x3) => (if (M 44 (0 : Int32).toNatClampNeg) ≤ x3 then (some (.inr (x2, x3))) else ((lp (σ := Int32 × Int32) (ρ := Int32 × Int32) (fun (s7 : Int32 × Int32) => match s7 with | (x8, x9) => (if (M 44 (1 : Int32).toNatClampNeg) ≤ x9 then (some (.inr (x8, x9))) else ((f_X8_isWatched_43 x3 x9 M).bind (fun v12 => (some (.inl ((x8 + (f_X8_flag v12)), (x9 + 1)))))))) lp_F (x2, 0)).bind (fun (s13 : Int32 × Int32) => match s13 with | (x14, x15) => (some (.inl (x14, (x3 + 1)))))))) lp_F (0, 0)).bind (fun (s16 : Int32 × Int32) => match s16 with | (x17, x18) => (some x17)))
set_option maxRecDepth 20000 in
theorem t_X8_watched_43 {LN : Nat} {xs : Nat → Int32} {M : am_M} {t : Int32} (h : f_X8_watched_43 M = some t) : oo LN xs 0 0 172 0 [some (.ref 43), none, none, none] [] M (some (.int t), M) := by
  unfold f_X8_watched_43 at h
  refine o_iconst (v := 0) k172_0 (by decide) ?_
  refine o_istore_n (v := 0) (L' := [some (.ref 43), some (.int 0), none, none]) k172_1 rfl rfl ?_
  refine o_iconst (v := 0) k172_2 (by decide) ?_
  refine o_istore_n (v := 0) (L' := [some (.ref 43), some (.int 0), some (.int 0), none]) k172_3 rfl rfl ?_
  refine bd_i h (fun s16 hs16 h => ?_)
  refine lp_o (fun (s1 : Int32 × Int32) => match s1 with | (x2, x3) => ∀ (d4 : Option (Int32 ⊕ Int64)), oo LN xs 0 0 172 4 [some (.ref 43), some (.int x2), some (.int x3), (d4.map dv)] [] M (some (.int t), M)) (fun (s16 : Int32 × Int32) => match s16 with | (x17, x18) => ∀ (d19 : Option (Int32 ⊕ Int64)), oo LN xs 0 0 172 50 [some (.ref 43), some (.int x17), some (.int x18), (d19.map dv)] [] M (some (.int t), M)) ?_ hs16 ?_ none
  · rintro ⟨x2, x3⟩ ws1 h hK
    dsimp only at h
    show ∀ (d4 : Option (Int32 ⊕ Int64)), oo LN xs 0 0 172 4 [some (.ref 43), some (.int x2), some (.int x3), (d4.map dv)] [] M (some (.int t), M)
    intro d4
    refine o_iload_n k172_4 rfl ?_
    refine o_aload_n k172_5 rfl ?_
    refine o_gf k172_6 (gf_43_0 _) ?_
    refine o_iconst (v := 0) k172_9 (by decide) ?_
    refine o_iald k172_10 rfl ia_44 (by decide) ?_
    refine o_icmp_ge k172_11 (fun hc6 => ?_) (fun hc6 => ?_)
    · rw [if_pos hc6] at h
      have h9 := Option.some.inj h
      subst h9
      exact hK d4
    · rw [if_neg hc6] at h
      refine o_iconst (v := 0) k172_14 (by decide) ?_
      refine o_istore_n (v := 0) (L' := [some (.ref 43), some (.int x2), some (.int x3), some (.int 0)]) k172_15 rfl rfl ?_
      refine bd_i h (fun s13 hs13 h => ?_)
      refine lp_o (fun (s7 : Int32 × Int32) => match s7 with | (x8, x9) => oo LN xs 0 0 172 16 [some (.ref 43), some (.int x8), some (.int x3), some (.int x9)] [] M (some (.int t), M)) (fun (s13 : Int32 × Int32) => match s13 with | (x14, x15) => oo LN xs 0 0 172 44 [some (.ref 43), some (.int x14), some (.int x3), some (.int x15)] [] M (some (.int t), M)) ?_ hs13 ?_
      · rintro ⟨x8, x9⟩ ws7 h hK
        dsimp only at h
        show oo LN xs 0 0 172 16 [some (.ref 43), some (.int x8), some (.int x3), some (.int x9)] [] M (some (.int t), M)
        refine o_iload_n k172_16 rfl ?_
        refine o_aload_n k172_17 rfl ?_
        refine o_gf k172_18 (gf_43_0 _) ?_
        refine o_iconst (v := 1) k172_21 (by decide) ?_
        refine o_iald k172_22 rfl ia_44 (by decide) ?_
        refine o_icmp_ge k172_23 (fun hc11 => ?_) (fun hc11 => ?_)
        · rw [if_pos hc11] at h
          have h9 := Option.some.inj h
          subst h9
          exact hK
        · rw [if_neg hc11] at h
          refine o_iload_n k172_26 rfl ?_
          refine o_aload_n k172_27 rfl ?_
          refine o_iload_n k172_28 rfl ?_
          refine o_iload_n k172_29 rfl ?_
          refine bd_i h (fun v12 hv12 h => ?_)
          refine o_call k172_30 pj_156 (fun _ => rfl) (by decide) rfl (as := [.ref 43, .int x3, .int x9]) (rest := [.int x8]) rfl (L0 := [some (.ref 43), some (.int x3), some (.int x9), none, none]) rfl (t_X8_isWatched_43 hv12) ?_
          refine o_call k172_33 pj_126 (fun _ => rfl) (by decide) rfl (as := [.int v12]) (rest := [.int x8]) rfl (L0 := [some (.int v12)]) rfl (t_X8_flag (M := M) (a0 := v12) rfl) ?_
          refine o_iadd k172_36 ?_
          refine o_istore_n (v := (x8 + (f_X8_flag v12))) (L' := [some (.ref 43), some (.int (x8 + (f_X8_flag v12))), some (.int x3), some (.int x9)]) k172_37 rfl rfl ?_
          refine o_iinc (k := 1) (L' := [some (.ref 43), some (.int (x8 + (f_X8_flag v12))), some (.int x3), some (.int (x9 + 1))]) k172_38 rfl (by decide) rfl ?_
          refine o_goto k172_41 ?_
          have h9 := Option.some.inj h
          subst h9
          exact hK
      · obtain ⟨x14, x15⟩ := s13
        show oo LN xs 0 0 172 44 [some (.ref 43), some (.int x14), some (.int x3), some (.int x15)] [] M (some (.int t), M)
        dsimp only at h
        refine o_iinc (k := 1) (L' := [some (.ref 43), some (.int x14), some (.int (x3 + 1)), some (.int x15)]) k172_44 rfl (by decide) rfl ?_
        refine o_goto k172_47 ?_
        have h9 := Option.some.inj h
        subst h9
        exact hK (some (.inl x15))
  · obtain ⟨x17, x18⟩ := s16
    show ∀ (d19 : Option (Int32 ⊕ Int64)), oo LN xs 0 0 172 50 [some (.ref 43), some (.int x17), some (.int x18), (d19.map dv)] [] M (some (.int t), M)
    dsimp only at h
    intro d19
    refine o_iload_n k172_50 rfl ?_
    have h9 := Option.some.inj h
    subst h9
    exact o_iret pj_172 k172_51 rfl nr_i
def f_X7_best_0 (M : am_M) : Option Int32 := ((f_X0_watchedWithout_9 0 M).bind (fun v1 => ((lp (σ := Int32 × Int32 × Int32) (ρ := Int32 × Int32 × Int32) (fun (s2 : Int32 × Int32 × Int32) => match s2 with | (x3, x4, x5) => (if (f_X0_allChains_9 M) < x5 then (some (.inr (x3, x4, x5))) else ((f_X0_watchedWithout_9 x5 M).bind (fun v8 => (if v8 ≤ x4 then (some (.inl (x3, x4, (x5 + 1)))) else (some (.inl (x5, v8, (x5 + 1))))))))) lp_F (0, v1, 1)).bind (fun (s10 : Int32 × Int32 × Int32) => match s10 with | (x11, x12, x13) => (some x11)))))
set_option maxRecDepth 20000 in
theorem t_X7_best_0 {LN : Nat} {xs : Nat → Int32} {M : am_M} {t : Int32} (h : f_X7_best_0 M = some t) : oo LN xs 0 0 95 0 [some (.ref 0), none, none, none, none, none] [] M (some (.int t), M) := by
  unfold f_X7_best_0 at h
  refine o_iconst (v := 0) k95_0 (by decide) ?_
  refine o_istore_n (v := 0) (L' := [some (.ref 0), some (.int 0), none, none, none, none]) k95_1 rfl rfl ?_
  refine o_aload_n k95_2 rfl ?_
  refine o_gf k95_3 (gf_0_2 _) ?_
  refine o_iconst (v := 0) k95_6 (by decide) ?_
  refine bd_i h (fun v1 hv1 h => ?_)
  refine o_call k95_7 pj_19 (fun _ => rfl) (by decide) rfl (as := [.ref 9, .int 0]) (rest := []) rfl (L0 := [some (.ref 9), some (.int 0), none, none, none, none]) rfl (t_X0_watchedWithout_9 hv1) ?_
  refine o_istore_n (v := v1) (L' := [some (.ref 0), some (.int 0), some (.int v1), none, none, none]) k95_10 rfl rfl ?_
  refine o_aload_n k95_11 rfl ?_
  refine o_gf k95_12 (gf_0_2 _) ?_
  refine o_call k95_15 pj_10 (fun _ => rfl) (by decide) rfl (as := [.ref 9]) (rest := []) rfl (L0 := [some (.ref 9)]) rfl (t_X0_allChains_9 (M := M) rfl) ?_
  refine o_istore_n (v := (f_X0_allChains_9 M)) (L' := [some (.ref 0), some (.int 0), some (.int v1), some (.int (f_X0_allChains_9 M)), none, none]) k95_18 rfl rfl ?_
  refine o_iconst (v := 1) k95_19 (by decide) ?_
  refine o_istore (v := 1) (L' := [some (.ref 0), some (.int 0), some (.int v1), some (.int (f_X0_allChains_9 M)), some (.int 1), none]) k95_20 rfl rfl ?_
  refine bd_i h (fun s10 hs10 h => ?_)
  refine lp_o (fun (s2 : Int32 × Int32 × Int32) => match s2 with | (x3, x4, x5) => ∀ (d6 : Option (Int32 ⊕ Int64)), oo LN xs 0 0 95 22 [some (.ref 0), some (.int x3), some (.int x4), some (.int (f_X0_allChains_9 M)), some (.int x5), (d6.map dv)] [] M (some (.int t), M)) (fun (s10 : Int32 × Int32 × Int32) => match s10 with | (x11, x12, x13) => ∀ (d14 : Option (Int32 ⊕ Int64)), oo LN xs 0 0 95 57 [some (.ref 0), some (.int x11), some (.int x12), some (.int (f_X0_allChains_9 M)), some (.int x13), (d14.map dv)] [] M (some (.int t), M)) ?_ hs10 ?_ none
  · rintro ⟨x3, x4, x5⟩ ws2 h hK
    dsimp only at h
    show ∀ (d6 : Option (Int32 ⊕ Int64)), oo LN xs 0 0 95 22 [some (.ref 0), some (.int x3), some (.int x4), some (.int (f_X0_allChains_9 M)), some (.int x5), (d6.map dv)] [] M (some (.int t), M)
    intro d6
    refine o_iload k95_22 rfl ?_
    refine o_iload_n k95_24 rfl ?_
    refine o_icmp_gt k95_25 (fun hc7 => ?_) (fun hc7 => ?_)
    · rw [if_pos hc7] at h
      have h9 := Option.some.inj h
      subst h9
      exact hK d6
    · rw [if_neg hc7] at h
      refine o_aload_n k95_28 rfl ?_
      refine o_gf k95_29 (gf_0_2 _) ?_
      refine o_iload k95_32 rfl ?_
      refine bd_i h (fun v8 hv8 h => ?_)
      refine o_call k95_34 pj_19 (fun _ => rfl) (by decide) (by rcases d6 with _ | (x | x) <;> rfl) (as := [.ref 9, .int x5]) (rest := []) rfl (L0 := [some (.ref 9), some (.int x5), none, none, none, none]) rfl (t_X0_watchedWithout_9 hv8) ?_
      refine o_istore (v := v8) (L' := [some (.ref 0), some (.int x3), some (.int x4), some (.int (f_X0_allChains_9 M)), some (.int x5), some (.int v8)]) k95_37 rfl rfl ?_
      refine o_iload k95_39 rfl ?_
      refine o_iload_n k95_41 rfl ?_
      refine o_icmp_le k95_42 (fun hc9 => ?_) (fun hc9 => ?_)
      · rw [if_pos hc9] at h
        refine o_iinc (k := 1) (L' := [some (.ref 0), some (.int x3), some (.int x4), some (.int (f_X0_allChains_9 M)), some (.int (x5 + 1)), some (.int v8)]) k95_51 rfl (by decide) rfl ?_
        refine o_goto k95_54 ?_
        have h9 := Option.some.inj h
        subst h9
        exact hK (some (.inl v8))
      · rw [if_neg hc9] at h
        refine o_iload k95_45 rfl ?_
        refine o_istore_n (v := v8) (L' := [some (.ref 0), some (.int x3), some (.int v8), some (.int (f_X0_allChains_9 M)), some (.int x5), some (.int v8)]) k95_47 rfl rfl ?_
        refine o_iload k95_48 rfl ?_
        refine o_istore_n (v := x5) (L' := [some (.ref 0), some (.int x5), some (.int v8), some (.int (f_X0_allChains_9 M)), some (.int x5), some (.int v8)]) k95_50 rfl rfl ?_
        refine o_iinc (k := 1) (L' := [some (.ref 0), some (.int x5), some (.int v8), some (.int (f_X0_allChains_9 M)), some (.int (x5 + 1)), some (.int v8)]) k95_51 rfl (by decide) rfl ?_
        refine o_goto k95_54 ?_
        have h9 := Option.some.inj h
        subst h9
        exact hK (some (.inl v8))
  · obtain ⟨x11, x12, x13⟩ := s10
    show ∀ (d14 : Option (Int32 ⊕ Int64)), oo LN xs 0 0 95 57 [some (.ref 0), some (.int x11), some (.int x12), some (.int (f_X0_allChains_9 M)), some (.int x13), (d14.map dv)] [] M (some (.int t), M)
    dsimp only at h
    intro d14
    refine o_iload_n k95_57 rfl ?_
    have h9 := Option.some.inj h
    subst h9
    exact o_iret pj_95 k95_58 rfl nr_i
def f_X8_best_43 (M : am_M) : Option (Int32 × am_M) := ((lp (σ := Int32 × Int32 × Int32 × am_M) (ρ := Int32 × Int32 × Int32 × am_M) (fun (s2 : Int32 × Int32 × Int32 × am_M) => match s2 with | (x3, x4, x5, M6) => (if ((1 : Int32) <<< ((M6 44 (0 : Int32).toNatClampNeg) &&& 31)) ≤ x5 then (some (.inr (x3, x4, x5, M6))) else (bl (am_up M6 44 (3 : Int32).toNatClampNeg x5) (fun (M11 : am_M) => ((f_X8_watched_43 M11).bind (fun v12 => (if v12 ≤ x4 then (some (.inl (x3, x4, (x5 + 1), M11))) else (some (.inl (x5, v12, (x5 + 1), M11)))))))))) lp_F (0, (-1), 0, M)).bind (fun (s14 : Int32 × Int32 × Int32 × am_M) => match s14 with | (x15, x16, x17, M18) => (bl (am_up M18 44 (3 : Int32).toNatClampNeg (M 44 (3 : Int32).toNatClampNeg)) (fun (M21 : am_M) => (some (x15, M21))))))
set_option maxRecDepth 20000 in
theorem t_X8_best_43 {LN : Nat} {xs : Nat → Int32} {M : am_M} {t : Int32 × am_M} (h : f_X8_best_43 M = some t) : oo LN xs 0 0 173 0 [some (.ref 43), none, none, none, none, none] [] M (some (.int t.1), t.2) := by
  unfold f_X8_best_43 at h
  refine o_aload_n k173_0 rfl ?_
  refine o_gf k173_1 (gf_43_0 _) ?_
  refine o_iconst (v := 3) k173_4 (by decide) ?_
  refine o_iald k173_5 rfl ia_44 (by decide) ?_
  refine o_istore_n (v := (M 44 (3 : Int32).toNatClampNeg)) (L' := [some (.ref 43), some (.int (M 44 (3 : Int32).toNatClampNeg)), none, none, none, none]) k173_6 rfl rfl ?_
  refine o_iconst (v := 0) k173_7 (by decide) ?_
  refine o_istore_n (v := 0) (L' := [some (.ref 43), some (.int (M 44 (3 : Int32).toNatClampNeg)), some (.int 0), none, none, none]) k173_8 rfl rfl ?_
  refine o_iconst (v := (-1)) k173_9 (by decide) ?_
  refine o_istore_n (v := (-1)) (L' := [some (.ref 43), some (.int (M 44 (3 : Int32).toNatClampNeg)), some (.int 0), some (.int (-1)), none, none]) k173_10 rfl rfl ?_
  refine o_iconst (v := 0) k173_11 (by decide) ?_
  refine o_istore (v := 0) (L' := [some (.ref 43), some (.int (M 44 (3 : Int32).toNatClampNeg)), some (.int 0), some (.int (-1)), some (.int 0), none]) k173_12 rfl rfl ?_
  refine bd_i h (fun s14 hs14 h => ?_)
  refine lp_o (fun (s2 : Int32 × Int32 × Int32 × am_M) => match s2 with | (x3, x4, x5, M6) => ∀ (d7 : Option (Int32 ⊕ Int64)), oo LN xs 0 0 173 14 [some (.ref 43), some (.int (M 44 (3 : Int32).toNatClampNeg)), some (.int x3), some (.int x4), some (.int x5), (d7.map dv)] [] M6 (some (.int t.1), t.2)) (fun (s14 : Int32 × Int32 × Int32 × am_M) => match s14 with | (x15, x16, x17, M18) => ∀ (d19 : Option (Int32 ⊕ Int64)), oo LN xs 0 0 173 59 [some (.ref 43), some (.int (M 44 (3 : Int32).toNatClampNeg)), some (.int x15), some (.int x16), some (.int x17), (d19.map dv)] [] M18 (some (.int t.1), t.2)) ?_ hs14 ?_ none
  · rintro ⟨x3, x4, x5, M6⟩ ws2 h hK
    dsimp only at h
    show ∀ (d7 : Option (Int32 ⊕ Int64)), oo LN xs 0 0 173 14 [some (.ref 43), some (.int (M 44 (3 : Int32).toNatClampNeg)), some (.int x3), some (.int x4), some (.int x5), (d7.map dv)] [] M6 (some (.int t.1), t.2)
    intro d7
    refine o_iload k173_14 rfl ?_
    refine o_iconst (v := 1) k173_16 (by decide) ?_
    refine o_aload_n k173_17 rfl ?_
    refine o_gf k173_18 (gf_43_0 _) ?_
    refine o_iconst (v := 0) k173_21 (by decide) ?_
    refine o_iald k173_22 rfl ia_44 (by decide) ?_
    refine o_ishl k173_23 ?_
    refine o_icmp_ge k173_24 (fun hc9 => ?_) (fun hc9 => ?_)
    · rw [if_pos hc9] at h
      have h9 := Option.some.inj h
      subst h9
      exact hK d7
    · rw [if_neg hc9] at h
      refine o_aload_n k173_27 rfl ?_
      refine o_gf k173_28 (gf_43_0 _) ?_
      refine o_iconst (v := 3) k173_31 (by decide) ?_
      refine o_iload k173_32 rfl ?_
      refine bl_i h (fun M11 eM11 h => ?_)
      refine o_iast (M' := M11) k173_34 eM11 ia_44 (by decide) ?_
      refine o_aload_n k173_35 rfl ?_
      refine bd_i h (fun v12 hv12 h => ?_)
      refine o_call k173_36 pj_172 (fun _ => rfl) (by decide) (by rcases d7 with _ | (x | x) <;> rfl) (as := [.ref 43]) (rest := []) rfl (L0 := [some (.ref 43), none, none, none]) rfl (t_X8_watched_43 hv12) ?_
      refine o_istore (v := v12) (L' := [some (.ref 43), some (.int (M 44 (3 : Int32).toNatClampNeg)), some (.int x3), some (.int x4), some (.int x5), some (.int v12)]) k173_39 rfl rfl ?_
      refine o_iload k173_41 rfl ?_
      refine o_iload_n k173_43 rfl ?_
      refine o_icmp_le k173_44 (fun hc13 => ?_) (fun hc13 => ?_)
      · rw [if_pos hc13] at h
        refine o_iinc (k := 1) (L' := [some (.ref 43), some (.int (M 44 (3 : Int32).toNatClampNeg)), some (.int x3), some (.int x4), some (.int (x5 + 1)), some (.int v12)]) k173_53 rfl (by decide) rfl ?_
        refine o_goto k173_56 ?_
        have h9 := Option.some.inj h
        subst h9
        exact hK (some (.inl v12))
      · rw [if_neg hc13] at h
        refine o_iload k173_47 rfl ?_
        refine o_istore_n (v := v12) (L' := [some (.ref 43), some (.int (M 44 (3 : Int32).toNatClampNeg)), some (.int x3), some (.int v12), some (.int x5), some (.int v12)]) k173_49 rfl rfl ?_
        refine o_iload k173_50 rfl ?_
        refine o_istore_n (v := x5) (L' := [some (.ref 43), some (.int (M 44 (3 : Int32).toNatClampNeg)), some (.int x5), some (.int v12), some (.int x5), some (.int v12)]) k173_52 rfl rfl ?_
        refine o_iinc (k := 1) (L' := [some (.ref 43), some (.int (M 44 (3 : Int32).toNatClampNeg)), some (.int x5), some (.int v12), some (.int (x5 + 1)), some (.int v12)]) k173_53 rfl (by decide) rfl ?_
        refine o_goto k173_56 ?_
        have h9 := Option.some.inj h
        subst h9
        exact hK (some (.inl v12))
  · obtain ⟨x15, x16, x17, M18⟩ := s14
    show ∀ (d19 : Option (Int32 ⊕ Int64)), oo LN xs 0 0 173 59 [some (.ref 43), some (.int (M 44 (3 : Int32).toNatClampNeg)), some (.int x15), some (.int x16), some (.int x17), (d19.map dv)] [] M18 (some (.int t.1), t.2)
    dsimp only at h
    intro d19
    refine o_aload_n k173_59 rfl ?_
    refine o_gf k173_60 (gf_43_0 _) ?_
    refine o_iconst (v := 3) k173_63 (by decide) ?_
    refine o_iload_n k173_64 rfl ?_
    refine bl_i h (fun M21 eM21 h => ?_)
    refine o_iast (M' := M21) k173_65 eM21 ia_44 (by decide) ?_
    refine o_iload_n k173_66 rfl ?_
    have h9 := Option.some.inj h
    subst h9
    exact o_iret pj_173 k173_67 rfl nr_i
def f_X0_takes_9 (a0 : Int32) (a1 : Int32) (a2 : Int32) (M : am_M) : Int32 := (if (f_X0_hasCell_9 a0 a1 M) = 0 then 0 else (if a2 < 0 then 0 else (if 2 < a2 then 0 else 1)))
set_option maxRecDepth 20000 in
theorem t_X0_takes_9 {LN : Nat} {xs : Nat → Int32} {a0 : Int32} {a1 : Int32} {a2 : Int32} {M : am_M} {t : Int32} (h : f_X0_takes_9 a0 a1 a2 M = t) : oo LN xs 0 0 9 0 [some (.ref 9), some (.int a0), some (.int a1), some (.int a2)] [] M (some (.int t), M) := by
  unfold f_X0_takes_9 at h
  refine o_aload_n k9_0 rfl ?_
  refine o_iload_n k9_1 rfl ?_
  refine o_iload_n k9_2 rfl ?_
  refine o_call k9_3 pj_8 (fun _ => rfl) (by decide) rfl (as := [.ref 9, .int a0, .int a1]) (rest := []) rfl (L0 := [some (.ref 9), some (.int a0), some (.int a1)]) rfl (t_X0_hasCell_9 (M := M) (a0 := a0) (a1 := a1) rfl) ?_
  refine o_if_eq k9_6 (fun hc1 => ?_) (fun hc1 => ?_)
  · rw [if_pos hc1] at h
    refine o_iconst (v := 0) k9_22 (by decide) ?_
    subst h
    exact o_iret pj_9 k9_23 rfl (nr_z (by decide))
  · rw [if_neg hc1] at h
    refine o_iload_n k9_9 rfl ?_
    refine o_if_lt k9_10 (fun hc2 => ?_) (fun hc2 => ?_)
    · rw [if_pos hc2] at h
      refine o_iconst (v := 0) k9_22 (by decide) ?_
      subst h
      exact o_iret pj_9 k9_23 rfl (nr_z (by decide))
    · rw [if_neg hc2] at h
      refine o_iload_n k9_13 rfl ?_
      refine o_iconst (v := 2) k9_14 (by decide) ?_
      refine o_icmp_gt k9_15 (fun hc3 => ?_) (fun hc3 => ?_)
      · rw [if_pos hc3] at h
        refine o_iconst (v := 0) k9_22 (by decide) ?_
        subst h
        exact o_iret pj_9 k9_23 rfl (nr_z (by decide))
      · rw [if_neg hc3] at h
        refine o_iconst (v := 1) k9_18 (by decide) ?_
        refine o_goto k9_19 ?_
        subst h
        exact o_iret pj_9 k9_23 rfl (nr_z (by decide))
def f_X7_exchange_10 (a0 : Int32) (a1 : Int32) (M : am_M) : Option (Int32 × am_M) := (if am_dbin a0 64 = true then (if am_dbin a0 64 = true then (bl (am_up M 10 a0.toNatClampNeg a1) (fun (M3 : am_M) => (some ((M 10 a0.toNatClampNeg), M3)))) else none) else none)
set_option maxRecDepth 20000 in
theorem t_X7_exchange_10 {LN : Nat} {xs : Nat → Int32} {a0 : Int32} {a1 : Int32} {M : am_M} {t : Int32 × am_M} (h : f_X7_exchange_10 a0 a1 M = some t) : oo LN xs 0 0 102 0 [some (.ref 10), some (.int a0), some (.int a1), none] [] M (some (.int t.1), t.2) := by
  unfold f_X7_exchange_10 at h
  refine o_aload_n k102_0 rfl ?_
  refine o_iload_n k102_1 rfl ?_
  obtain ⟨hc1, h⟩ := ck_i h
  refine o_iald k102_2 rfl ia_10 hc1 ?_
  refine o_istore_n (v := (M 10 a0.toNatClampNeg)) (L' := [some (.ref 10), some (.int a0), some (.int a1), some (.int (M 10 a0.toNatClampNeg))]) k102_3 rfl rfl ?_
  refine o_aload_n k102_4 rfl ?_
  refine o_iload_n k102_5 rfl ?_
  refine o_iload_n k102_6 rfl ?_
  obtain ⟨hc2, h⟩ := ck_i h
  refine bl_i h (fun M3 eM3 h => ?_)
  refine o_iast (M' := M3) k102_7 eM3 ia_10 hc2 ?_
  refine o_iload_n k102_8 rfl ?_
  have h9 := Option.some.inj h
  subst h9
  exact o_iret pj_102 k102_9 rfl nr_i
def f_X7_set_0 (a0 : Int32) (a1 : Int32) (a2 : Int32) (M : am_M) : Option (Int32 × am_M) := (if (f_X0_takes_9 a0 a1 a2 M) = 0 then (some ((-1), M)) else ((f_X7_exchange_10 (f_X0_at a0 a1) a2 M).bind (fun q2 => (some (q2.1, q2.2)))))
set_option maxRecDepth 20000 in
theorem t_X7_set_0 {LN : Nat} {xs : Nat → Int32} {a0 : Int32} {a1 : Int32} {a2 : Int32} {M : am_M} {t : Int32 × am_M} (h : f_X7_set_0 a0 a1 a2 M = some t) : oo LN xs 0 0 97 0 [some (.ref 0), some (.int a0), some (.int a1), some (.int a2)] [] M (some (.int t.1), t.2) := by
  unfold f_X7_set_0 at h
  refine o_aload_n k97_0 rfl ?_
  refine o_gf k97_1 (gf_0_2 _) ?_
  refine o_iload_n k97_4 rfl ?_
  refine o_iload_n k97_5 rfl ?_
  refine o_iload_n k97_6 rfl ?_
  refine o_call k97_7 pj_9 (fun _ => rfl) (by decide) rfl (as := [.ref 9, .int a0, .int a1, .int a2]) (rest := []) rfl (L0 := [some (.ref 9), some (.int a0), some (.int a1), some (.int a2)]) rfl (t_X0_takes_9 (M := M) (a0 := a0) (a1 := a1) (a2 := a2) rfl) ?_
  refine o_if_ne k97_10 (fun hc1 => ?_) (fun hc1 => ?_)
  · rw [if_neg hc1] at h
    refine o_aload_n k97_15 rfl ?_
    refine o_gf k97_16 (gf_0_2 _) ?_
    refine o_gf k97_19 (gf_9_7 _) ?_
    refine o_iload_n k97_22 rfl ?_
    refine o_iload_n k97_23 rfl ?_
    refine o_call k97_24 pj_5 (fun _ => rfl) (by decide) rfl (as := [.int a0, .int a1]) (rest := [.ref 10]) rfl (L0 := [some (.int a0), some (.int a1)]) rfl (t_X0_at (M := M) (a0 := a0) (a1 := a1) rfl) ?_
    refine o_iload_n k97_27 rfl ?_
    refine bd_i h (fun q2 hq2 h => ?_)
    refine o_call k97_28 pj_102 (fun _ => rfl) (by decide) rfl (as := [.ref 10, .int (f_X0_at a0 a1), .int a2]) (rest := []) rfl (L0 := [some (.ref 10), some (.int (f_X0_at a0 a1)), some (.int a2), none]) rfl (t_X7_exchange_10 hq2) ?_
    have h9 := Option.some.inj h
    subst h9
    exact o_iret pj_97 k97_31 rfl nr_i
  · rw [if_pos hc1] at h
    refine o_iconst (v := (-1)) k97_13 (by decide) ?_
    have h9 := Option.some.inj h
    subst h9
    exact o_iret pj_97 k97_14 rfl nr_i
def f_X8_becomes_43 (a0 : Int32) (a1 : Int32) (M : am_M) : Option (Int32 × am_M) := (if am_dbin a0 151 = true then (if am_dbin a0 151 = true then (bl (am_up M 44 a0.toNatClampNeg a1) (fun (M3 : am_M) => (some ((M 44 a0.toNatClampNeg), M3)))) else none) else none)
set_option maxRecDepth 20000 in
theorem t_X8_becomes_43 {LN : Nat} {xs : Nat → Int32} {a0 : Int32} {a1 : Int32} {M : am_M} {t : Int32 × am_M} (h : f_X8_becomes_43 a0 a1 M = some t) : oo LN xs 0 0 174 0 [some (.ref 43), some (.int a0), some (.int a1), none] [] M (some (.int t.1), t.2) := by
  unfold f_X8_becomes_43 at h
  refine o_aload_n k174_0 rfl ?_
  refine o_gf k174_1 (gf_43_0 _) ?_
  refine o_iload_n k174_4 rfl ?_
  obtain ⟨hc1, h⟩ := ck_i h
  refine o_iald k174_5 rfl ia_44 hc1 ?_
  refine o_istore_n (v := (M 44 a0.toNatClampNeg)) (L' := [some (.ref 43), some (.int a0), some (.int a1), some (.int (M 44 a0.toNatClampNeg))]) k174_6 rfl rfl ?_
  refine o_aload_n k174_7 rfl ?_
  refine o_gf k174_8 (gf_43_0 _) ?_
  refine o_iload_n k174_11 rfl ?_
  refine o_iload_n k174_12 rfl ?_
  obtain ⟨hc2, h⟩ := ck_i h
  refine bl_i h (fun M3 eM3 h => ?_)
  refine o_iast (M' := M3) k174_13 eM3 ia_44 hc2 ?_
  refine o_iload_n k174_14 rfl ?_
  have h9 := Option.some.inj h
  subst h9
  exact o_iret pj_174 k174_15 rfl nr_i
def f_X8_set_43 (a0 : Int32) (a1 : Int32) (a2 : Int32) (M : am_M) : Option (Int32 × am_M) := ((f_X8_isCell_43 a0 a1 M).bind (fun v1 => (if v1 = 0 then (some ((-1), M)) else (if (f_X8_in a2.toInt64 0 2) = 0 then (some ((-1), M)) else ((f_X8_becomes_43 (((7 : Int32) + ((8 : Int32) * a0)) + a1) a2 M).bind (fun q4 => (some (q4.1, q4.2))))))))
set_option maxRecDepth 20000 in
theorem t_X8_set_43 {LN : Nat} {xs : Nat → Int32} {a0 : Int32} {a1 : Int32} {a2 : Int32} {M : am_M} {t : Int32 × am_M} (h : f_X8_set_43 a0 a1 a2 M = some t) : oo LN xs 0 0 175 0 [some (.ref 43), some (.int a0), some (.int a1), some (.int a2)] [] M (some (.int t.1), t.2) := by
  unfold f_X8_set_43 at h
  refine o_aload_n k175_0 rfl ?_
  refine o_iload_n k175_1 rfl ?_
  refine o_iload_n k175_2 rfl ?_
  refine bd_i h (fun v1 hv1 h => ?_)
  refine o_call k175_3 pj_152 (fun _ => rfl) (by decide) rfl (as := [.ref 43, .int a0, .int a1]) (rest := []) rfl (L0 := [some (.ref 43), some (.int a0), some (.int a1)]) rfl (t_X8_isCell_43 hv1) ?_
  refine o_if_eq k175_6 (fun hc2 => ?_) (fun hc2 => ?_)
  · rw [if_pos hc2] at h
    refine o_iconst (v := (-1)) k175_38 (by decide) ?_
    have h9 := Option.some.inj h
    subst h9
    exact o_iret pj_175 k175_39 rfl nr_i
  · rw [if_neg hc2] at h
    refine o_iload_n k175_9 rfl ?_
    refine o_i2l k175_10 ?_
    refine o_lconst (v := 0) k175_11 (by decide) ?_
    refine o_ldc2_w k175_12 ?_
    refine o_call k175_15 pj_125 (fun _ => rfl) (by decide) rfl (as := [.long a2.toInt64, .long 0, .long 2]) (rest := []) rfl (L0 := [some (.long a2.toInt64), none, some (.long 0), none, some (.long 2), none]) rfl (t_X8_in (M := M) (a0 := a2.toInt64) (a1 := 0) (a2 := 2) rfl) ?_
    refine o_if_eq k175_18 (fun hc3 => ?_) (fun hc3 => ?_)
    · rw [if_pos hc3] at h
      refine o_iconst (v := (-1)) k175_38 (by decide) ?_
      have h9 := Option.some.inj h
      subst h9
      exact o_iret pj_175 k175_39 rfl nr_i
    · rw [if_neg hc3] at h
      refine o_aload_n k175_21 rfl ?_
      refine o_bipush (v := 7) k175_22 (by decide) ?_
      refine o_bipush (v := 8) k175_24 (by decide) ?_
      refine o_iload_n k175_26 rfl ?_
      refine o_imul k175_27 ?_
      refine o_iadd k175_28 ?_
      refine o_iload_n k175_29 rfl ?_
      refine o_iadd k175_30 ?_
      refine o_iload_n k175_31 rfl ?_
      refine bd_i h (fun q4 hq4 h => ?_)
      refine o_call k175_32 pj_174 (fun _ => rfl) (by decide) rfl (as := [.ref 43, .int (((7 : Int32) + ((8 : Int32) * a0)) + a1), .int a2]) (rest := []) rfl (L0 := [some (.ref 43), some (.int (((7 : Int32) + ((8 : Int32) * a0)) + a1)), some (.int a2), none]) rfl (t_X8_becomes_43 hq4) ?_
      refine o_goto k175_35 ?_
      have h9 := Option.some.inj h
      subst h9
      exact o_iret pj_175 k175_39 rfl nr_i
def f_X0_allOutputs_9 (M : am_M) : Int32 := (((1 : Int32) <<< ((M 9 2) &&& 31)) - 1)
set_option maxRecDepth 20000 in
theorem t_X0_allOutputs_9 {LN : Nat} {xs : Nat → Int32} {M : am_M} {t : Int32} (h : f_X0_allOutputs_9 M = t) : oo LN xs 0 0 11 0 [some (.ref 9)] [] M (some (.int t), M) := by
  unfold f_X0_allOutputs_9 at h
  refine o_iconst (v := 1) k11_0 (by decide) ?_
  refine o_aload_n k11_1 rfl ?_
  refine o_gf k11_2 (gf_9_2 _) ?_
  refine o_ishl k11_5 ?_
  refine o_iconst (v := 1) k11_6 (by decide) ?_
  refine o_isub k11_7 ?_
  subst h
  exact o_iret pj_11 k11_8 rfl nr_i
def f_X7_exchange_12 (a0 : Int32) (a1 : Int32) (M : am_M) : Option (Int32 × am_M) := (if am_dbin a0 8 = true then (if am_dbin a0 8 = true then (bl (am_up M 12 a0.toNatClampNeg a1) (fun (M3 : am_M) => (some ((M 12 a0.toNatClampNeg), M3)))) else none) else none)
set_option maxRecDepth 20000 in
theorem t_X7_exchange_12 {LN : Nat} {xs : Nat → Int32} {a0 : Int32} {a1 : Int32} {M : am_M} {t : Int32 × am_M} (h : f_X7_exchange_12 a0 a1 M = some t) : oo LN xs 0 0 102 0 [some (.ref 12), some (.int a0), some (.int a1), none] [] M (some (.int t.1), t.2) := by
  unfold f_X7_exchange_12 at h
  refine o_aload_n k102_0 rfl ?_
  refine o_iload_n k102_1 rfl ?_
  obtain ⟨hc1, h⟩ := ck_i h
  refine o_iald k102_2 rfl ia_12 hc1 ?_
  refine o_istore_n (v := (M 12 a0.toNatClampNeg)) (L' := [some (.ref 12), some (.int a0), some (.int a1), some (.int (M 12 a0.toNatClampNeg))]) k102_3 rfl rfl ?_
  refine o_aload_n k102_4 rfl ?_
  refine o_iload_n k102_5 rfl ?_
  refine o_iload_n k102_6 rfl ?_
  obtain ⟨hc2, h⟩ := ck_i h
  refine bl_i h (fun M3 eM3 h => ?_)
  refine o_iast (M' := M3) k102_7 eM3 ia_12 hc2 ?_
  refine o_iload_n k102_8 rfl ?_
  have h9 := Option.some.inj h
  subst h9
  exact o_iret pj_102 k102_9 rfl nr_i
def f_X7_put_0 (a0 : Int32) (a1 : Int32) (M : am_M) : Option (Int32 × am_M) := (if (f_X0_hasChain_9 a0 M) = 0 then (some ((-1), M)) else (if (a1 &&& ((f_X0_allOutputs_9 M) ^^^ (-1))) = 0 then ((f_X7_exchange_12 a0 a1 M).bind (fun q3 => (some (q3.1, q3.2)))) else (some ((-1), M))))
set_option maxRecDepth 20000 in
theorem t_X7_put_0 {LN : Nat} {xs : Nat → Int32} {a0 : Int32} {a1 : Int32} {M : am_M} {t : Int32 × am_M} (h : f_X7_put_0 a0 a1 M = some t) : oo LN xs 0 0 98 0 [some (.ref 0), some (.int a0), some (.int a1)] [] M (some (.int t.1), t.2) := by
  unfold f_X7_put_0 at h
  refine o_aload_n k98_0 rfl ?_
  refine o_gf k98_1 (gf_0_2 _) ?_
  refine o_iload_n k98_4 rfl ?_
  refine o_call k98_5 pj_7 (fun _ => rfl) (by decide) rfl (as := [.ref 9, .int a0]) (rest := []) rfl (L0 := [some (.ref 9), some (.int a0)]) rfl (t_X0_hasChain_9 (M := M) (a0 := a0) rfl) ?_
  refine o_if_eq k98_8 (fun hc1 => ?_) (fun hc1 => ?_)
  · rw [if_pos hc1] at h
    refine o_iconst (v := (-1)) k98_25 (by decide) ?_
    have h9 := Option.some.inj h
    subst h9
    exact o_iret pj_98 k98_26 rfl nr_i
  · rw [if_neg hc1] at h
    refine o_iload_n k98_11 rfl ?_
    refine o_aload_n k98_12 rfl ?_
    refine o_gf k98_13 (gf_0_2 _) ?_
    refine o_call k98_16 pj_11 (fun _ => rfl) (by decide) rfl (as := [.ref 9]) (rest := [.int a1]) rfl (L0 := [some (.ref 9)]) rfl (t_X0_allOutputs_9 (M := M) rfl) ?_
    refine o_iconst (v := (-1)) k98_19 (by decide) ?_
    refine o_ixor k98_20 ?_
    refine o_iand k98_21 ?_
    refine o_if_eq k98_22 (fun hc2 => ?_) (fun hc2 => ?_)
    · rw [if_pos hc2] at h
      refine o_aload_n k98_27 rfl ?_
      refine o_gf k98_28 (gf_0_2 _) ?_
      refine o_gf k98_31 (gf_9_9 _) ?_
      refine o_iload_n k98_34 rfl ?_
      refine o_iload_n k98_35 rfl ?_
      refine bd_i h (fun q3 hq3 h => ?_)
      refine o_call k98_36 pj_102 (fun _ => rfl) (by decide) rfl (as := [.ref 12, .int a0, .int a1]) (rest := []) rfl (L0 := [some (.ref 12), some (.int a0), some (.int a1), none]) rfl (t_X7_exchange_12 hq3) ?_
      have h9 := Option.some.inj h
      subst h9
      exact o_iret pj_98 k98_39 rfl nr_i
    · rw [if_neg hc2] at h
      refine o_iconst (v := (-1)) k98_25 (by decide) ?_
      have h9 := Option.some.inj h
      subst h9
      exact o_iret pj_98 k98_26 rfl nr_i
def f_X8_put_43 (a0 : Int32) (a1 : Int32) (M : am_M) : Option (Int32 × am_M) := ((f_X8_isChain_43 a0 M).bind (fun v1 => (if v1 = 0 then (some ((-1), M)) else (if (f_X8_in a1.toInt64 0 ((((1 : Int32) <<< ((M 44 (2 : Int32).toNatClampNeg) &&& 31)) - 1).toInt64)) = 0 then (some ((-1), M)) else ((f_X8_becomes_43 ((135 : Int32) + a0) a1 M).bind (fun q5 => (some (q5.1, q5.2))))))))
set_option maxRecDepth 20000 in
theorem t_X8_put_43 {LN : Nat} {xs : Nat → Int32} {a0 : Int32} {a1 : Int32} {M : am_M} {t : Int32 × am_M} (h : f_X8_put_43 a0 a1 M = some t) : oo LN xs 0 0 176 0 [some (.ref 43), some (.int a0), some (.int a1)] [] M (some (.int t.1), t.2) := by
  unfold f_X8_put_43 at h
  refine o_aload_n k176_0 rfl ?_
  refine o_iload_n k176_1 rfl ?_
  refine bd_i h (fun v1 hv1 h => ?_)
  refine o_call k176_2 pj_151 (fun _ => rfl) (by decide) rfl (as := [.ref 43, .int a0]) (rest := []) rfl (L0 := [some (.ref 43), some (.int a0)]) rfl (t_X8_isChain_43 hv1) ?_
  refine o_if_eq k176_5 (fun hc2 => ?_) (fun hc2 => ?_)
  · rw [if_pos hc2] at h
    refine o_iconst (v := (-1)) k176_41 (by decide) ?_
    have h9 := Option.some.inj h
    subst h9
    exact o_iret pj_176 k176_42 rfl nr_i
  · rw [if_neg hc2] at h
    refine o_iload_n k176_8 rfl ?_
    refine o_i2l k176_9 ?_
    refine o_lconst (v := 0) k176_10 (by decide) ?_
    refine o_iconst (v := 1) k176_11 (by decide) ?_
    refine o_aload_n k176_12 rfl ?_
    refine o_gf k176_13 (gf_43_0 _) ?_
    refine o_iconst (v := 2) k176_16 (by decide) ?_
    refine o_iald k176_17 rfl ia_44 (by decide) ?_
    refine o_ishl k176_18 ?_
    refine o_iconst (v := 1) k176_19 (by decide) ?_
    refine o_isub k176_20 ?_
    refine o_i2l k176_21 ?_
    refine o_call k176_22 pj_125 (fun _ => rfl) (by decide) rfl (as := [.long a1.toInt64, .long 0, .long ((((1 : Int32) <<< ((M 44 (2 : Int32).toNatClampNeg) &&& 31)) - 1).toInt64)]) (rest := []) rfl (L0 := [some (.long a1.toInt64), none, some (.long 0), none, some (.long ((((1 : Int32) <<< ((M 44 (2 : Int32).toNatClampNeg) &&& 31)) - 1).toInt64)), none]) rfl (t_X8_in (M := M) (a0 := a1.toInt64) (a1 := 0) (a2 := ((((1 : Int32) <<< ((M 44 (2 : Int32).toNatClampNeg) &&& 31)) - 1).toInt64)) rfl) ?_
    refine o_if_eq k176_25 (fun hc4 => ?_) (fun hc4 => ?_)
    · rw [if_pos hc4] at h
      refine o_iconst (v := (-1)) k176_41 (by decide) ?_
      have h9 := Option.some.inj h
      subst h9
      exact o_iret pj_176 k176_42 rfl nr_i
    · rw [if_neg hc4] at h
      refine o_aload_n k176_28 rfl ?_
      refine o_sipush (v := 135) k176_29 (by decide) ?_
      refine o_iload_n k176_32 rfl ?_
      refine o_iadd k176_33 ?_
      refine o_iload_n k176_34 rfl ?_
      refine bd_i h (fun q5 hq5 h => ?_)
      refine o_call k176_35 pj_174 (fun _ => rfl) (by decide) rfl (as := [.ref 43, .int ((135 : Int32) + a0), .int a1]) (rest := []) rfl (L0 := [some (.ref 43), some (.int ((135 : Int32) + a0)), some (.int a1), none]) rfl (t_X8_becomes_43 hq5) ?_
      refine o_goto k176_38 ?_
      have h9 := Option.some.inj h
      subst h9
      exact o_iret pj_176 k176_42 rfl nr_i
def f_X7_out_0 (a0 : Int32) (M : am_M) : Option (Int32 × am_M) := (if (a0 &&& ((f_X0_allChains_9 M) ^^^ (-1))) = 0 then (bl (am_up M 9 3 a0) (fun (M2 : am_M) => (some ((M 9 3), M2)))) else (some ((-1), M)))
set_option maxRecDepth 20000 in
theorem t_X7_out_0 {LN : Nat} {xs : Nat → Int32} {a0 : Int32} {M : am_M} {t : Int32 × am_M} (h : f_X7_out_0 a0 M = some t) : oo LN xs 0 0 99 0 [some (.ref 0), some (.int a0), none] [] M (some (.int t.1), t.2) := by
  unfold f_X7_out_0 at h
  refine o_iload_n k99_0 rfl ?_
  refine o_aload_n k99_1 rfl ?_
  refine o_gf k99_2 (gf_0_2 _) ?_
  refine o_call k99_5 pj_10 (fun _ => rfl) (by decide) rfl (as := [.ref 9]) (rest := [.int a0]) rfl (L0 := [some (.ref 9)]) rfl (t_X0_allChains_9 (M := M) rfl) ?_
  refine o_iconst (v := (-1)) k99_8 (by decide) ?_
  refine o_ixor k99_9 ?_
  refine o_iand k99_10 ?_
  refine o_if_eq k99_11 (fun hc1 => ?_) (fun hc1 => ?_)
  · rw [if_pos hc1] at h
    refine o_aload_n k99_16 rfl ?_
    refine o_gf k99_17 (gf_0_2 _) ?_
    refine o_gf k99_20 (gf_9_3 _) ?_
    refine o_istore_n (v := (M 9 3)) (L' := [some (.ref 0), some (.int a0), some (.int (M 9 3))]) k99_23 rfl rfl ?_
    refine o_aload_n k99_24 rfl ?_
    refine o_gf k99_25 (gf_0_2 _) ?_
    refine o_iload_n k99_28 rfl ?_
    refine bl_i h (fun M2 eM2 h => ?_)
    refine o_pf (M' := M2) k99_29 (pf_9_3 eM2) ?_
    refine o_iload_n k99_32 rfl ?_
    have h9 := Option.some.inj h
    subst h9
    exact o_iret pj_99 k99_33 rfl nr_i
  · rw [if_neg hc1] at h
    refine o_iconst (v := (-1)) k99_14 (by decide) ?_
    have h9 := Option.some.inj h
    subst h9
    exact o_iret pj_99 k99_15 rfl nr_i
def f_X8_out_43 (a0 : Int32) (M : am_M) : Option (Int32 × am_M) := (if (f_X8_in a0.toInt64 0 ((((1 : Int32) <<< ((M 44 (0 : Int32).toNatClampNeg) &&& 31)) - 1).toInt64)) = 0 then (some ((-1), M)) else ((f_X8_becomes_43 3 a0 M).bind (fun q3 => (some (q3.1, q3.2)))))
set_option maxRecDepth 20000 in
theorem t_X8_out_43 {LN : Nat} {xs : Nat → Int32} {a0 : Int32} {M : am_M} {t : Int32 × am_M} (h : f_X8_out_43 a0 M = some t) : oo LN xs 0 0 177 0 [some (.ref 43), some (.int a0)] [] M (some (.int t.1), t.2) := by
  unfold f_X8_out_43 at h
  refine o_iload_n k177_0 rfl ?_
  refine o_i2l k177_1 ?_
  refine o_lconst (v := 0) k177_2 (by decide) ?_
  refine o_iconst (v := 1) k177_3 (by decide) ?_
  refine o_aload_n k177_4 rfl ?_
  refine o_gf k177_5 (gf_43_0 _) ?_
  refine o_iconst (v := 0) k177_8 (by decide) ?_
  refine o_iald k177_9 rfl ia_44 (by decide) ?_
  refine o_ishl k177_10 ?_
  refine o_iconst (v := 1) k177_11 (by decide) ?_
  refine o_isub k177_12 ?_
  refine o_i2l k177_13 ?_
  refine o_call k177_14 pj_125 (fun _ => rfl) (by decide) rfl (as := [.long a0.toInt64, .long 0, .long ((((1 : Int32) <<< ((M 44 (0 : Int32).toNatClampNeg) &&& 31)) - 1).toInt64)]) (rest := []) rfl (L0 := [some (.long a0.toInt64), none, some (.long 0), none, some (.long ((((1 : Int32) <<< ((M 44 (0 : Int32).toNatClampNeg) &&& 31)) - 1).toInt64)), none]) rfl (t_X8_in (M := M) (a0 := a0.toInt64) (a1 := 0) (a2 := ((((1 : Int32) <<< ((M 44 (0 : Int32).toNatClampNeg) &&& 31)) - 1).toInt64)) rfl) ?_
  refine o_if_eq k177_17 (fun hc2 => ?_) (fun hc2 => ?_)
  · rw [if_pos hc2] at h
    refine o_iconst (v := (-1)) k177_29 (by decide) ?_
    have h9 := Option.some.inj h
    subst h9
    exact o_iret pj_177 k177_30 rfl nr_i
  · rw [if_neg hc2] at h
    refine o_aload_n k177_20 rfl ?_
    refine o_iconst (v := 3) k177_21 (by decide) ?_
    refine o_iload_n k177_22 rfl ?_
    refine bd_i h (fun q3 hq3 h => ?_)
    refine o_call k177_23 pj_174 (fun _ => rfl) (by decide) rfl (as := [.ref 43, .int 3, .int a0]) (rest := []) rfl (L0 := [some (.ref 43), some (.int 3), some (.int a0), none]) rfl (t_X8_becomes_43 hq3) ?_
    refine o_goto k177_26 ?_
    have h9 := Option.some.inj h
    subst h9
    exact o_iret pj_177 k177_30 rfl nr_i
def f_X7_drawnCell (a0 : Int32) : Int32 := (if (a0 - a0 / 5 * 5) = 2 then 2 else (if (a0 - a0 / 5 * 5) = 4 then 2 else (if (a0 - a0 / 5 * 5) = 1 then 1 else 0)))
set_option maxRecDepth 20000 in
theorem t_X7_drawnCell {LN : Nat} {xs : Nat → Int32} {a0 : Int32} {M : am_M} {t : Int32} (h : f_X7_drawnCell a0 = t) : oo LN xs 0 0 101 0 [some (.int a0), none] [] M (some (.int t), M) := by
  unfold f_X7_drawnCell at h
  refine o_iload_n k101_0 rfl ?_
  refine o_iconst (v := 5) k101_1 (by decide) ?_
  refine o_irem k101_2 (by decide) ?_
  refine o_istore_n (v := (a0 - a0 / 5 * 5)) (L' := [some (.int a0), some (.int (a0 - a0 / 5 * 5))]) k101_3 rfl rfl ?_
  refine o_iload_n k101_4 rfl ?_
  refine o_iconst (v := 2) k101_5 (by decide) ?_
  refine o_icmp_eq k101_6 (fun hc1 => ?_) (fun hc1 => ?_)
  · rw [if_pos hc1] at h
    refine o_iconst (v := 2) k101_14 (by decide) ?_
    subst h
    exact o_iret pj_101 k101_15 rfl nr_i
  · rw [if_neg hc1] at h
    refine o_iload_n k101_9 rfl ?_
    refine o_iconst (v := 4) k101_10 (by decide) ?_
    refine o_icmp_ne k101_11 (fun hc2 => ?_) (fun hc2 => ?_)
    · rw [if_neg hc2] at h
      refine o_iload_n k101_16 rfl ?_
      refine o_iconst (v := 1) k101_17 (by decide) ?_
      refine o_icmp_ne k101_18 (fun hc3 => ?_) (fun hc3 => ?_)
      · rw [if_neg hc3] at h
        refine o_iconst (v := 0) k101_25 (by decide) ?_
        subst h
        exact o_iret pj_101 k101_26 rfl nr_i
      · rw [if_pos hc3] at h
        refine o_iconst (v := 1) k101_21 (by decide) ?_
        refine o_goto k101_22 ?_
        subst h
        exact o_iret pj_101 k101_26 rfl nr_i
    · rw [if_pos hc2] at h
      refine o_iconst (v := 2) k101_14 (by decide) ?_
      subst h
      exact o_iret pj_101 k101_15 rfl nr_i
def f_X7_draw_0 (a0 : Int32) (M : am_M) : Option (Int32 × am_M) := ((lp (σ := Int32 × Int32 × am_M) (ρ := Int32 × Int32 × am_M) (fun (s1 : Int32 × Int32 × am_M) => match s1 with | (x2, x3, M4) => (if (M4 9 0) ≤ x3 then (some (.inr (x2, x3, M4))) else ((lp (σ := Int32 × Int32 × am_M) (ρ := Int32 × Int32 × am_M) (fun (s7 : Int32 × Int32 × am_M) => match s7 with | (x8, x9, M10) => (if (M10 9 1) ≤ x9 then (some (.inr (x8, x9, M10))) else (if am_dbin (f_X0_at x3 x9) 64 = true then (bl (am_up M10 10 (f_X0_at x3 x9).toNatClampNeg (f_X7_drawnCell ((ushr ((x8 * 1103515245) + 12345) 16) &&& 32767))) (fun (M13 : am_M) => (some (.inl (((x8 * 1103515245) + 12345), (x9 + 1), M13))))) else none))) lp_F (x2, 0, M4)).bind (fun (s14 : Int32 × Int32 × am_M) => match s14 with | (x15, x16, M17) => (some (.inl (x15, (x3 + 1), M17))))))) lp_F (a0, 0, M)).bind (fun (s18 : Int32 × Int32 × am_M) => match s18 with | (x19, x20, M21) => ((f_X0_cellsWith_9 2 M21).bind (fun v23 => (some (v23, M21))))))
set_option maxRecDepth 20000 in
theorem t_X7_draw_0 {LN : Nat} {xs : Nat → Int32} {a0 : Int32} {M : am_M} {t : Int32 × am_M} (h : f_X7_draw_0 a0 M = some t) : oo LN xs 0 0 100 0 [some (.ref 0), some (.int a0), none, none, none] [] M (some (.int t.1), t.2) := by
  unfold f_X7_draw_0 at h
  refine o_iload_n k100_0 rfl ?_
  refine o_istore_n (v := a0) (L' := [some (.ref 0), some (.int a0), some (.int a0), none, none]) k100_1 rfl rfl ?_
  refine o_iconst (v := 0) k100_2 (by decide) ?_
  refine o_istore_n (v := 0) (L' := [some (.ref 0), some (.int a0), some (.int a0), some (.int 0), none]) k100_3 rfl rfl ?_
  refine bd_i h (fun s18 hs18 h => ?_)
  refine lp_o (fun (s1 : Int32 × Int32 × am_M) => match s1 with | (x2, x3, M4) => ∀ (d5 : Option (Int32 ⊕ Int64)), oo LN xs 0 0 100 4 [some (.ref 0), some (.int a0), some (.int x2), some (.int x3), (d5.map dv)] [] M4 (some (.int t.1), t.2)) (fun (s18 : Int32 × Int32 × am_M) => match s18 with | (x19, x20, M21) => ∀ (d22 : Option (Int32 ⊕ Int64)), oo LN xs 0 0 100 76 [some (.ref 0), some (.int a0), some (.int x19), some (.int x20), (d22.map dv)] [] M21 (some (.int t.1), t.2)) ?_ hs18 ?_ none
  · rintro ⟨x2, x3, M4⟩ ws1 h hK
    dsimp only at h
    show ∀ (d5 : Option (Int32 ⊕ Int64)), oo LN xs 0 0 100 4 [some (.ref 0), some (.int a0), some (.int x2), some (.int x3), (d5.map dv)] [] M4 (some (.int t.1), t.2)
    intro d5
    refine o_iload_n k100_4 rfl ?_
    refine o_aload_n k100_5 rfl ?_
    refine o_gf k100_6 (gf_0_2 _) ?_
    refine o_gf k100_9 (gf_9_0 _) ?_
    refine o_icmp_ge k100_12 (fun hc6 => ?_) (fun hc6 => ?_)
    · rw [if_pos hc6] at h
      have h9 := Option.some.inj h
      subst h9
      exact hK d5
    · rw [if_neg hc6] at h
      refine o_iconst (v := 0) k100_15 (by decide) ?_
      refine o_istore (v := 0) (L' := [some (.ref 0), some (.int a0), some (.int x2), some (.int x3), some (.int 0)]) k100_16 rfl rfl ?_
      refine bd_i h (fun s14 hs14 h => ?_)
      refine lp_o (fun (s7 : Int32 × Int32 × am_M) => match s7 with | (x8, x9, M10) => oo LN xs 0 0 100 18 [some (.ref 0), some (.int a0), some (.int x8), some (.int x3), some (.int x9)] [] M10 (some (.int t.1), t.2)) (fun (s14 : Int32 × Int32 × am_M) => match s14 with | (x15, x16, M17) => oo LN xs 0 0 100 70 [some (.ref 0), some (.int a0), some (.int x15), some (.int x3), some (.int x16)] [] M17 (some (.int t.1), t.2)) ?_ hs14 ?_
      · rintro ⟨x8, x9, M10⟩ ws7 h hK
        dsimp only at h
        show oo LN xs 0 0 100 18 [some (.ref 0), some (.int a0), some (.int x8), some (.int x3), some (.int x9)] [] M10 (some (.int t.1), t.2)
        refine o_iload k100_18 rfl ?_
        refine o_aload_n k100_20 rfl ?_
        refine o_gf k100_21 (gf_0_2 _) ?_
        refine o_gf k100_24 (gf_9_1 _) ?_
        refine o_icmp_ge k100_27 (fun hc11 => ?_) (fun hc11 => ?_)
        · rw [if_pos hc11] at h
          have h9 := Option.some.inj h
          subst h9
          exact hK
        · rw [if_neg hc11] at h
          refine o_iload_n k100_30 rfl ?_
          refine o_ldc k100_31 ?_
          refine o_imul k100_33 ?_
          refine o_sipush (v := 12345) k100_34 (by decide) ?_
          refine o_iadd k100_37 ?_
          refine o_istore_n (v := ((x8 * 1103515245) + 12345)) (L' := [some (.ref 0), some (.int a0), some (.int ((x8 * 1103515245) + 12345)), some (.int x3), some (.int x9)]) k100_38 rfl rfl ?_
          refine o_aload_n k100_39 rfl ?_
          refine o_gf k100_40 (gf_0_2 _) ?_
          refine o_gf k100_43 (gf_9_7 _) ?_
          refine o_iload_n k100_46 rfl ?_
          refine o_iload k100_47 rfl ?_
          refine o_call k100_49 pj_5 (fun _ => rfl) (by decide) rfl (as := [.int x3, .int x9]) (rest := [.ref 10]) rfl (L0 := [some (.int x3), some (.int x9)]) rfl (t_X0_at (M := M10) (a0 := x3) (a1 := x9) rfl) ?_
          refine o_iload_n k100_52 rfl ?_
          refine o_bipush (v := 16) k100_53 (by decide) ?_
          refine o_iushr k100_55 ?_
          refine o_sipush (v := 32767) k100_56 (by decide) ?_
          refine o_iand k100_59 ?_
          refine o_call k100_60 pj_101 (fun _ => rfl) (by decide) rfl (as := [.int ((ushr ((x8 * 1103515245) + 12345) 16) &&& 32767)]) (rest := [.int (f_X0_at x3 x9), .ref 10]) rfl (L0 := [some (.int ((ushr ((x8 * 1103515245) + 12345) 16) &&& 32767)), none]) rfl (t_X7_drawnCell (M := M10) (a0 := ((ushr ((x8 * 1103515245) + 12345) 16) &&& 32767)) rfl) ?_
          obtain ⟨hc12, h⟩ := ck_i h
          refine bl_i h (fun M13 eM13 h => ?_)
          refine o_iast (M' := M13) k100_63 eM13 ia_10 hc12 ?_
          refine o_iinc (k := 1) (L' := [some (.ref 0), some (.int a0), some (.int ((x8 * 1103515245) + 12345)), some (.int x3), some (.int (x9 + 1))]) k100_64 rfl (by decide) rfl ?_
          refine o_goto k100_67 ?_
          have h9 := Option.some.inj h
          subst h9
          exact hK
      · obtain ⟨x15, x16, M17⟩ := s14
        show oo LN xs 0 0 100 70 [some (.ref 0), some (.int a0), some (.int x15), some (.int x3), some (.int x16)] [] M17 (some (.int t.1), t.2)
        dsimp only at h
        refine o_iinc (k := 1) (L' := [some (.ref 0), some (.int a0), some (.int x15), some (.int (x3 + 1)), some (.int x16)]) k100_70 rfl (by decide) rfl ?_
        refine o_goto k100_73 ?_
        have h9 := Option.some.inj h
        subst h9
        exact hK (some (.inl x16))
  · obtain ⟨x19, x20, M21⟩ := s18
    show ∀ (d22 : Option (Int32 ⊕ Int64)), oo LN xs 0 0 100 76 [some (.ref 0), some (.int a0), some (.int x19), some (.int x20), (d22.map dv)] [] M21 (some (.int t.1), t.2)
    dsimp only at h
    intro d22
    refine o_aload_n k100_76 rfl ?_
    refine o_gf k100_77 (gf_0_2 _) ?_
    refine o_iconst (v := 2) k100_80 (by decide) ?_
    refine bd_i h (fun v23 hv23 h => ?_)
    refine o_call k100_81 pj_13 (fun _ => rfl) (by decide) (by rcases d22 with _ | (x | x) <;> rfl) (as := [.ref 9, .int 2]) (rest := []) rfl (L0 := [some (.ref 9), some (.int 2), none, none, none]) rfl (t_X0_cellsWith_9 hv23) ?_
    have h9 := Option.some.inj h
    subst h9
    exact o_iret pj_100 k100_84 rfl nr_i
def f_X8_draw_43 (a0 : Int32) (M : am_M) : Option (Int32 × am_M) := ((lp (σ := Int32 × Int32 × am_M) (ρ := Int32 × Int32 × am_M) (fun (s1 : Int32 × Int32 × am_M) => match s1 with | (x2, x3, M4) => (if (M4 44 (0 : Int32).toNatClampNeg) ≤ x3 then (some (.inr (x2, x3, M4))) else ((lp (σ := Int32 × Int32 × am_M) (ρ := Int32 × Int32 × am_M) (fun (s9 : Int32 × Int32 × am_M) => match s9 with | (x10, x11, M12) => (if (M12 44 (1 : Int32).toNatClampNeg) ≤ x11 then (some (.inr (x10, x11, M12))) else (bl ((((((x10 * 1103515245) + 12345) >>> ((16 : Int32) &&& 31)) &&& 32767) - ((((x10 * 1103515245) + 12345) >>> ((16 : Int32) &&& 31)) &&& 32767) / 5 * 5)) (fun (v16 : Int32) => (if v16 = 4 then (if am_dbin (((7 : Int32) + ((8 : Int32) * x3)) + x11) 151 = true then (bl (am_up M12 44 (((7 : Int32) + ((8 : Int32) * x3)) + x11).toNatClampNeg 2) (fun (M24 : am_M) => (some (.inl (((x10 * 1103515245) + 12345), (x11 + 1), M24))))) else none) else (if v16 = 3 then (if am_dbin (((7 : Int32) + ((8 : Int32) * x3)) + x11) 151 = true then (bl (am_up M12 44 (((7 : Int32) + ((8 : Int32) * x3)) + x11).toNatClampNeg 0) (fun (M22 : am_M) => (some (.inl (((x10 * 1103515245) + 12345), (x11 + 1), M22))))) else none) else (if am_dbin (((7 : Int32) + ((8 : Int32) * x3)) + x11) 151 = true then (bl (am_up M12 44 (((7 : Int32) + ((8 : Int32) * x3)) + x11).toNatClampNeg v16) (fun (M20 : am_M) => (some (.inl (((x10 * 1103515245) + 12345), (x11 + 1), M20))))) else none))))))) lp_F (x2, 0, M4)).bind (fun (s25 : Int32 × Int32 × am_M) => match s25 with | (x26, x27, M28) => (some (.inl (x26, (x3 + 1), M28))))))) lp_F (a0, 0, M)).bind (fun (s30 : Int32 × Int32 × am_M) => match s30 with | (x31, x32, M33) => ((f_X8_cellsOf_43 2 M33).bind (fun v36 => (some (v36, M33))))))
set_option maxRecDepth 20000 in
theorem t_X8_draw_43 {LN : Nat} {xs : Nat → Int32} {a0 : Int32} {M : am_M} {t : Int32 × am_M} (h : f_X8_draw_43 a0 M = some t) : oo LN xs 0 0 178 0 [some (.ref 43), some (.int a0), none, none, none, none] [] M (some (.int t.1), t.2) := by
  unfold f_X8_draw_43 at h
  refine o_iload_n k178_0 rfl ?_
  refine o_istore_n (v := a0) (L' := [some (.ref 43), some (.int a0), some (.int a0), none, none, none]) k178_1 rfl rfl ?_
  refine o_iconst (v := 0) k178_2 (by decide) ?_
  refine o_istore_n (v := 0) (L' := [some (.ref 43), some (.int a0), some (.int a0), some (.int 0), none, none]) k178_3 rfl rfl ?_
  refine bd_i h (fun s30 hs30 h => ?_)
  refine lp_o (fun (s1 : Int32 × Int32 × am_M) => match s1 with | (x2, x3, M4) => ∀ (d5 d6 : Option (Int32 ⊕ Int64)), oo LN xs 0 0 178 4 [some (.ref 43), some (.int a0), some (.int x2), some (.int x3), (d5.map dv), (d6.map dv)] [] M4 (some (.int t.1), t.2)) (fun (s30 : Int32 × Int32 × am_M) => match s30 with | (x31, x32, M33) => ∀ (d34 d35 : Option (Int32 ⊕ Int64)), oo LN xs 0 0 178 98 [some (.ref 43), some (.int a0), some (.int x31), some (.int x32), (d34.map dv), (d35.map dv)] [] M33 (some (.int t.1), t.2)) ?_ hs30 ?_ none none
  · rintro ⟨x2, x3, M4⟩ ws1 h hK
    dsimp only at h
    show ∀ (d5 d6 : Option (Int32 ⊕ Int64)), oo LN xs 0 0 178 4 [some (.ref 43), some (.int a0), some (.int x2), some (.int x3), (d5.map dv), (d6.map dv)] [] M4 (some (.int t.1), t.2)
    intro d5 d6
    refine o_iload_n k178_4 rfl ?_
    refine o_aload_n k178_5 rfl ?_
    refine o_gf k178_6 (gf_43_0 _) ?_
    refine o_iconst (v := 0) k178_9 (by decide) ?_
    refine o_iald k178_10 rfl ia_44 (by decide) ?_
    refine o_icmp_ge k178_11 (fun hc8 => ?_) (fun hc8 => ?_)
    · rw [if_pos hc8] at h
      have h9 := Option.some.inj h
      subst h9
      exact hK d5 d6
    · rw [if_neg hc8] at h
      refine o_iconst (v := 0) k178_14 (by decide) ?_
      refine o_istore (v := 0) (L' := [some (.ref 43), some (.int a0), some (.int x2), some (.int x3), some (.int 0), (d6.map dv)]) k178_15 rfl rfl ?_
      refine bd_i h (fun s25 hs25 h => ?_)
      refine lp_o (fun (s9 : Int32 × Int32 × am_M) => match s9 with | (x10, x11, M12) => ∀ (d13 : Option (Int32 ⊕ Int64)), oo LN xs 0 0 178 17 [some (.ref 43), some (.int a0), some (.int x10), some (.int x3), some (.int x11), (d13.map dv)] [] M12 (some (.int t.1), t.2)) (fun (s25 : Int32 × Int32 × am_M) => match s25 with | (x26, x27, M28) => ∀ (d29 : Option (Int32 ⊕ Int64)), oo LN xs 0 0 178 92 [some (.ref 43), some (.int a0), some (.int x26), some (.int x3), some (.int x27), (d29.map dv)] [] M28 (some (.int t.1), t.2)) ?_ hs25 ?_ d6
      · rintro ⟨x10, x11, M12⟩ ws9 h hK
        dsimp only at h
        show ∀ (d13 : Option (Int32 ⊕ Int64)), oo LN xs 0 0 178 17 [some (.ref 43), some (.int a0), some (.int x10), some (.int x3), some (.int x11), (d13.map dv)] [] M12 (some (.int t.1), t.2)
        intro d13
        refine o_iload k178_17 rfl ?_
        refine o_aload_n k178_19 rfl ?_
        refine o_gf k178_20 (gf_43_0 _) ?_
        refine o_iconst (v := 1) k178_23 (by decide) ?_
        refine o_iald k178_24 rfl ia_44 (by decide) ?_
        refine o_icmp_ge k178_25 (fun hc15 => ?_) (fun hc15 => ?_)
        · rw [if_pos hc15] at h
          have h9 := Option.some.inj h
          subst h9
          exact hK d13
        · rw [if_neg hc15] at h
          refine o_iload_n k178_28 rfl ?_
          refine o_ldc k178_29 ?_
          refine o_imul k178_31 ?_
          refine o_sipush (v := 12345) k178_32 (by decide) ?_
          refine o_iadd k178_35 ?_
          refine o_istore_n (v := ((x10 * 1103515245) + 12345)) (L' := [some (.ref 43), some (.int a0), some (.int ((x10 * 1103515245) + 12345)), some (.int x3), some (.int x11), (d13.map dv)]) k178_36 rfl rfl ?_
          refine o_iload_n k178_37 rfl ?_
          refine o_bipush (v := 16) k178_38 (by decide) ?_
          refine o_ishr k178_40 ?_
          refine o_sipush (v := 32767) k178_41 (by decide) ?_
          refine o_iand k178_44 ?_
          refine o_iconst (v := 5) k178_45 (by decide) ?_
          refine o_irem k178_46 (by decide) ?_
          refine bl_i h (fun v16 ev16 h => ?_)
          refine o_istore (v := v16) k178_47 ev16 (L' := [some (.ref 43), some (.int a0), some (.int ((x10 * 1103515245) + 12345)), some (.int x3), some (.int x11), some (.int v16)]) rfl ?_
          refine o_aload_n k178_49 rfl ?_
          refine o_gf k178_50 (gf_43_0 _) ?_
          refine o_bipush (v := 7) k178_53 (by decide) ?_
          refine o_bipush (v := 8) k178_55 (by decide) ?_
          refine o_iload_n k178_57 rfl ?_
          refine o_imul k178_58 ?_
          refine o_iadd k178_59 ?_
          refine o_iload k178_60 rfl ?_
          refine o_iadd k178_62 ?_
          refine o_iload k178_63 rfl ?_
          refine o_iconst (v := 4) k178_65 (by decide) ?_
          refine o_icmp_ne k178_66 (fun hc17 => ?_) (fun hc17 => ?_)
          · rw [if_neg hc17] at h
            refine o_iload k178_73 rfl ?_
            refine o_iconst (v := 3) k178_75 (by decide) ?_
            refine o_icmp_ne k178_76 (fun hc18 => ?_) (fun hc18 => ?_)
            · rw [if_neg hc18] at h
              refine o_iload k178_83 rfl ?_
              obtain ⟨hc19, h⟩ := ck_i h
              refine bl_i h (fun M20 eM20 h => ?_)
              refine o_iast (M' := M20) k178_85 eM20 ia_44 hc19 ?_
              refine o_iinc (k := 1) (L' := [some (.ref 43), some (.int a0), some (.int ((x10 * 1103515245) + 12345)), some (.int x3), some (.int (x11 + 1)), some (.int v16)]) k178_86 rfl (by decide) rfl ?_
              refine o_goto k178_89 ?_
              have h9 := Option.some.inj h
              subst h9
              exact hK (some (.inl v16))
            · rw [if_pos hc18] at h
              refine o_iconst (v := 0) k178_79 (by decide) ?_
              refine o_goto k178_80 ?_
              obtain ⟨hc21, h⟩ := ck_i h
              refine bl_i h (fun M22 eM22 h => ?_)
              refine o_iast (M' := M22) k178_85 eM22 ia_44 hc21 ?_
              refine o_iinc (k := 1) (L' := [some (.ref 43), some (.int a0), some (.int ((x10 * 1103515245) + 12345)), some (.int x3), some (.int (x11 + 1)), some (.int v16)]) k178_86 rfl (by decide) rfl ?_
              refine o_goto k178_89 ?_
              have h9 := Option.some.inj h
              subst h9
              exact hK (some (.inl v16))
          · rw [if_pos hc17] at h
            refine o_iconst (v := 2) k178_69 (by decide) ?_
            refine o_goto k178_70 ?_
            obtain ⟨hc23, h⟩ := ck_i h
            refine bl_i h (fun M24 eM24 h => ?_)
            refine o_iast (M' := M24) k178_85 eM24 ia_44 hc23 ?_
            refine o_iinc (k := 1) (L' := [some (.ref 43), some (.int a0), some (.int ((x10 * 1103515245) + 12345)), some (.int x3), some (.int (x11 + 1)), some (.int v16)]) k178_86 rfl (by decide) rfl ?_
            refine o_goto k178_89 ?_
            have h9 := Option.some.inj h
            subst h9
            exact hK (some (.inl v16))
      · obtain ⟨x26, x27, M28⟩ := s25
        show ∀ (d29 : Option (Int32 ⊕ Int64)), oo LN xs 0 0 178 92 [some (.ref 43), some (.int a0), some (.int x26), some (.int x3), some (.int x27), (d29.map dv)] [] M28 (some (.int t.1), t.2)
        dsimp only at h
        intro d29
        refine o_iinc (k := 1) (L' := [some (.ref 43), some (.int a0), some (.int x26), some (.int (x3 + 1)), some (.int x27), (d29.map dv)]) k178_92 rfl (by decide) rfl ?_
        refine o_goto k178_95 ?_
        have h9 := Option.some.inj h
        subst h9
        exact hK (some (.inl x27)) d29
  · obtain ⟨x31, x32, M33⟩ := s30
    show ∀ (d34 d35 : Option (Int32 ⊕ Int64)), oo LN xs 0 0 178 98 [some (.ref 43), some (.int a0), some (.int x31), some (.int x32), (d34.map dv), (d35.map dv)] [] M33 (some (.int t.1), t.2)
    dsimp only at h
    intro d34 d35
    refine o_aload_n k178_98 rfl ?_
    refine o_iconst (v := 2) k178_99 (by decide) ?_
    refine bd_i h (fun v36 hv36 h => ?_)
    refine o_call k178_100 pj_157 (fun _ => rfl) (by decide) (by rcases d34 with _ | (x | x) <;> rcases d35 with _ | (x | x) <;> rfl) (as := [.ref 43, .int 2]) (rest := []) rfl (L0 := [some (.ref 43), some (.int 2), none, none, none]) rfl (t_X8_cellsOf_43 hv36) ?_
    have h9 := Option.some.inj h
    subst h9
    exact o_iret pj_178 k178_103 rfl nr_i
def f_X7_exchange_11 (a0 : Int32) (a1 : Int32) (M : am_M) : Option (Int32 × am_M) := (if am_dbin a0 64 = true then (if am_dbin a0 64 = true then (bl (am_up M 11 a0.toNatClampNeg a1) (fun (M3 : am_M) => (some ((M 11 a0.toNatClampNeg), M3)))) else none) else none)
set_option maxRecDepth 20000 in
theorem t_X7_exchange_11 {LN : Nat} {xs : Nat → Int32} {a0 : Int32} {a1 : Int32} {M : am_M} {t : Int32 × am_M} (h : f_X7_exchange_11 a0 a1 M = some t) : oo LN xs 0 0 102 0 [some (.ref 11), some (.int a0), some (.int a1), none] [] M (some (.int t.1), t.2) := by
  unfold f_X7_exchange_11 at h
  refine o_aload_n k102_0 rfl ?_
  refine o_iload_n k102_1 rfl ?_
  obtain ⟨hc1, h⟩ := ck_i h
  refine o_iald k102_2 rfl ia_11 hc1 ?_
  refine o_istore_n (v := (M 11 a0.toNatClampNeg)) (L' := [some (.ref 11), some (.int a0), some (.int a1), some (.int (M 11 a0.toNatClampNeg))]) k102_3 rfl rfl ?_
  refine o_aload_n k102_4 rfl ?_
  refine o_iload_n k102_5 rfl ?_
  refine o_iload_n k102_6 rfl ?_
  obtain ⟨hc2, h⟩ := ck_i h
  refine bl_i h (fun M3 eM3 h => ?_)
  refine o_iast (M' := M3) k102_7 eM3 ia_11 hc2 ?_
  refine o_iload_n k102_8 rfl ?_
  have h9 := Option.some.inj h
  subst h9
  exact o_iret pj_102 k102_9 rfl nr_i
def f_X7_want_0 (a0 : Int32) (a1 : Int32) (a2 : Int32) (M : am_M) : Option (Int32 × am_M) := (if (f_X0_takes_9 a0 a1 a2 M) = 0 then (some ((-1), M)) else ((f_X7_exchange_11 (f_X0_at a0 a1) a2 M).bind (fun q2 => (some (q2.1, q2.2)))))
set_option maxRecDepth 20000 in
theorem t_X7_want_0 {LN : Nat} {xs : Nat → Int32} {a0 : Int32} {a1 : Int32} {a2 : Int32} {M : am_M} {t : Int32 × am_M} (h : f_X7_want_0 a0 a1 a2 M = some t) : oo LN xs 0 0 103 0 [some (.ref 0), some (.int a0), some (.int a1), some (.int a2)] [] M (some (.int t.1), t.2) := by
  unfold f_X7_want_0 at h
  refine o_aload_n k103_0 rfl ?_
  refine o_gf k103_1 (gf_0_2 _) ?_
  refine o_iload_n k103_4 rfl ?_
  refine o_iload_n k103_5 rfl ?_
  refine o_iload_n k103_6 rfl ?_
  refine o_call k103_7 pj_9 (fun _ => rfl) (by decide) rfl (as := [.ref 9, .int a0, .int a1, .int a2]) (rest := []) rfl (L0 := [some (.ref 9), some (.int a0), some (.int a1), some (.int a2)]) rfl (t_X0_takes_9 (M := M) (a0 := a0) (a1 := a1) (a2 := a2) rfl) ?_
  refine o_if_ne k103_10 (fun hc1 => ?_) (fun hc1 => ?_)
  · rw [if_neg hc1] at h
    refine o_aload_n k103_15 rfl ?_
    refine o_gf k103_16 (gf_0_2 _) ?_
    refine o_gf k103_19 (gf_9_8 _) ?_
    refine o_iload_n k103_22 rfl ?_
    refine o_iload_n k103_23 rfl ?_
    refine o_call k103_24 pj_5 (fun _ => rfl) (by decide) rfl (as := [.int a0, .int a1]) (rest := [.ref 11]) rfl (L0 := [some (.int a0), some (.int a1)]) rfl (t_X0_at (M := M) (a0 := a0) (a1 := a1) rfl) ?_
    refine o_iload_n k103_27 rfl ?_
    refine bd_i h (fun q2 hq2 h => ?_)
    refine o_call k103_28 pj_102 (fun _ => rfl) (by decide) rfl (as := [.ref 11, .int (f_X0_at a0 a1), .int a2]) (rest := []) rfl (L0 := [some (.ref 11), some (.int (f_X0_at a0 a1)), some (.int a2), none]) rfl (t_X7_exchange_11 hq2) ?_
    have h9 := Option.some.inj h
    subst h9
    exact o_iret pj_103 k103_31 rfl nr_i
  · rw [if_pos hc1] at h
    refine o_iconst (v := (-1)) k103_13 (by decide) ?_
    have h9 := Option.some.inj h
    subst h9
    exact o_iret pj_103 k103_14 rfl nr_i
def f_X8_want_43 (a0 : Int32) (a1 : Int32) (a2 : Int32) (M : am_M) : Option (Int32 × am_M) := ((f_X8_isCell_43 a0 a1 M).bind (fun v1 => (if v1 = 0 then (some ((-1), M)) else (if (f_X8_in a2.toInt64 0 2) = 0 then (some ((-1), M)) else ((f_X8_becomes_43 (((71 : Int32) + ((8 : Int32) * a0)) + a1) a2 M).bind (fun q4 => (some (q4.1, q4.2))))))))
set_option maxRecDepth 20000 in
theorem t_X8_want_43 {LN : Nat} {xs : Nat → Int32} {a0 : Int32} {a1 : Int32} {a2 : Int32} {M : am_M} {t : Int32 × am_M} (h : f_X8_want_43 a0 a1 a2 M = some t) : oo LN xs 0 0 179 0 [some (.ref 43), some (.int a0), some (.int a1), some (.int a2)] [] M (some (.int t.1), t.2) := by
  unfold f_X8_want_43 at h
  refine o_aload_n k179_0 rfl ?_
  refine o_iload_n k179_1 rfl ?_
  refine o_iload_n k179_2 rfl ?_
  refine bd_i h (fun v1 hv1 h => ?_)
  refine o_call k179_3 pj_152 (fun _ => rfl) (by decide) rfl (as := [.ref 43, .int a0, .int a1]) (rest := []) rfl (L0 := [some (.ref 43), some (.int a0), some (.int a1)]) rfl (t_X8_isCell_43 hv1) ?_
  refine o_if_eq k179_6 (fun hc2 => ?_) (fun hc2 => ?_)
  · rw [if_pos hc2] at h
    refine o_iconst (v := (-1)) k179_38 (by decide) ?_
    have h9 := Option.some.inj h
    subst h9
    exact o_iret pj_179 k179_39 rfl nr_i
  · rw [if_neg hc2] at h
    refine o_iload_n k179_9 rfl ?_
    refine o_i2l k179_10 ?_
    refine o_lconst (v := 0) k179_11 (by decide) ?_
    refine o_ldc2_w k179_12 ?_
    refine o_call k179_15 pj_125 (fun _ => rfl) (by decide) rfl (as := [.long a2.toInt64, .long 0, .long 2]) (rest := []) rfl (L0 := [some (.long a2.toInt64), none, some (.long 0), none, some (.long 2), none]) rfl (t_X8_in (M := M) (a0 := a2.toInt64) (a1 := 0) (a2 := 2) rfl) ?_
    refine o_if_eq k179_18 (fun hc3 => ?_) (fun hc3 => ?_)
    · rw [if_pos hc3] at h
      refine o_iconst (v := (-1)) k179_38 (by decide) ?_
      have h9 := Option.some.inj h
      subst h9
      exact o_iret pj_179 k179_39 rfl nr_i
    · rw [if_neg hc3] at h
      refine o_aload_n k179_21 rfl ?_
      refine o_bipush (v := 71) k179_22 (by decide) ?_
      refine o_bipush (v := 8) k179_24 (by decide) ?_
      refine o_iload_n k179_26 rfl ?_
      refine o_imul k179_27 ?_
      refine o_iadd k179_28 ?_
      refine o_iload_n k179_29 rfl ?_
      refine o_iadd k179_30 ?_
      refine o_iload_n k179_31 rfl ?_
      refine bd_i h (fun q4 hq4 h => ?_)
      refine o_call k179_32 pj_174 (fun _ => rfl) (by decide) rfl (as := [.ref 43, .int (((71 : Int32) + ((8 : Int32) * a0)) + a1), .int a2]) (rest := []) rfl (L0 := [some (.ref 43), some (.int (((71 : Int32) + ((8 : Int32) * a0)) + a1)), some (.int a2), none]) rfl (t_X8_becomes_43 hq4) ?_
      refine o_goto k179_35 ?_
      have h9 := Option.some.inj h
      subst h9
      exact o_iret pj_179 k179_39 rfl nr_i
def f_X2_begin_26_9 (M : am_M) : Option am_M := (bl (am_up M 26 2 (imax 1 (imin (M 9 4) 12))) (fun (M1 : am_M) => (bl (am_up M1 26 3 (M1 9 5)) (fun (M2 : am_M) => ((lp (σ := Int32 × am_M) (ρ := Int32 × am_M) (fun (s3 : Int32 × am_M) => match s3 with | (x4, M5) => (if 12 ≤ x4 then (some (.inr (x4, M5))) else (if (M5 26 2) ≤ x4 then (if am_dbin x4 12 = true then (bl (am_up M5 27 x4.toNatClampNeg 0) (fun (M9 : am_M) => (some (.inl ((x4 + 1), M9))))) else none) else (if am_dbin x4 12 = true then (bl (am_up M5 27 x4.toNatClampNeg ((1 : Int32) <<< (x4 &&& 31))) (fun (M11 : am_M) => (some (.inl ((x4 + 1), M11))))) else none)))) lp_F (0, M2)).bind (fun (s12 : Int32 × am_M) => match s12 with | (x13, M14) => (some M14)))))))
set_option maxRecDepth 20000 in
theorem t_X2_begin_26_9 {LN : Nat} {xs : Nat → Int32} {M : am_M} {t : am_M} (h : f_X2_begin_26_9 M = some t) : oo LN xs 0 0 40 0 [some (.ref 26), some (.ref 9), none] [] M (none, t) := by
  unfold f_X2_begin_26_9 at h
  refine o_aload_n k40_0 rfl ?_
  refine o_iconst (v := 1) k40_1 (by decide) ?_
  refine o_aload_n k40_2 rfl ?_
  refine o_gf k40_3 (gf_9_4 _) ?_
  refine o_bipush (v := 12) k40_6 (by decide) ?_
  refine o_min k40_8 (by decide) ?_
  refine o_max k40_11 (by decide) ?_
  refine bl_i h (fun M1 eM1 h => ?_)
  refine o_pf (M' := M1) k40_14 (pf_26_2 eM1) ?_
  refine o_aload_n k40_17 rfl ?_
  refine o_aload_n k40_18 rfl ?_
  refine o_gf k40_19 (gf_9_5 _) ?_
  refine bl_i h (fun M2 eM2 h => ?_)
  refine o_pf (M' := M2) k40_22 (pf_26_3 eM2) ?_
  refine o_iconst (v := 0) k40_25 (by decide) ?_
  refine o_istore_n (v := 0) (L' := [some (.ref 26), some (.ref 9), some (.int 0)]) k40_26 rfl rfl ?_
  refine bd_i h (fun s12 hs12 h => ?_)
  refine lp_o (fun (s3 : Int32 × am_M) => match s3 with | (x4, M5) => oo LN xs 0 0 40 27 [some (.ref 26), some (.ref 9), some (.int x4)] [] M5 (none, t)) (fun (s12 : Int32 × am_M) => match s12 with | (x13, M14) => oo LN xs 0 0 40 60 [some (.ref 26), some (.ref 9), some (.int x13)] [] M14 (none, t)) ?_ hs12 ?_
  · rintro ⟨x4, M5⟩ ws3 h hK
    dsimp only at h
    show oo LN xs 0 0 40 27 [some (.ref 26), some (.ref 9), some (.int x4)] [] M5 (none, t)
    refine o_iload_n k40_27 rfl ?_
    refine o_bipush (v := 12) k40_28 (by decide) ?_
    refine o_icmp_ge k40_30 (fun hc6 => ?_) (fun hc6 => ?_)
    · rw [if_pos hc6] at h
      have h9 := Option.some.inj h
      subst h9
      exact hK
    · rw [if_neg hc6] at h
      refine o_aload_n k40_33 rfl ?_
      refine o_gf k40_34 (gf_26_0 _) ?_
      refine o_iload_n k40_37 rfl ?_
      refine o_iload_n k40_38 rfl ?_
      refine o_aload_n k40_39 rfl ?_
      refine o_gf k40_40 (gf_26_2 _) ?_
      refine o_icmp_ge k40_43 (fun hc7 => ?_) (fun hc7 => ?_)
      · rw [if_pos hc7] at h
        refine o_iconst (v := 0) k40_52 (by decide) ?_
        obtain ⟨hc8, h⟩ := ck_i h
        refine bl_i h (fun M9 eM9 h => ?_)
        refine o_iast (M' := M9) k40_53 eM9 ia_27 hc8 ?_
        refine o_iinc (k := 1) (L' := [some (.ref 26), some (.ref 9), some (.int (x4 + 1))]) k40_54 rfl (by decide) rfl ?_
        refine o_goto k40_57 ?_
        have h9 := Option.some.inj h
        subst h9
        exact hK
      · rw [if_neg hc7] at h
        refine o_iconst (v := 1) k40_46 (by decide) ?_
        refine o_iload_n k40_47 rfl ?_
        refine o_ishl k40_48 ?_
        refine o_goto k40_49 ?_
        obtain ⟨hc10, h⟩ := ck_i h
        refine bl_i h (fun M11 eM11 h => ?_)
        refine o_iast (M' := M11) k40_53 eM11 ia_27 hc10 ?_
        refine o_iinc (k := 1) (L' := [some (.ref 26), some (.ref 9), some (.int (x4 + 1))]) k40_54 rfl (by decide) rfl ?_
        refine o_goto k40_57 ?_
        have h9 := Option.some.inj h
        subst h9
        exact hK
  · obtain ⟨x13, M14⟩ := s12
    show oo LN xs 0 0 40 60 [some (.ref 26), some (.ref 9), some (.int x13)] [] M14 (none, t)
    dsimp only at h
    have h9 := Option.some.inj h
    subst h9
    exact o_vret pj_40 k40_60 rfl
def f_X2_move_26 (M : am_M) : Option am_M := ((lp (σ := Int32 × Int32) (ρ := Int32 × Int32) (fun (s1 : Int32 × Int32) => match s1 with | (x2, x3) => (if (M 26 2) ≤ x3 then (some (.inr (x2, x3))) else (if (((M 26 3) >>> (x3 &&& 31)) &&& 1) = 1 then (if am_dbin x3 12 = true then (some (.inl ((x2 ^^^ (M 27 x3.toNatClampNeg)), (x3 + 1)))) else none) else (some (.inl (x2, (x3 + 1))))))) lp_F (0, 0)).bind (fun (s7 : Int32 × Int32) => match s7 with | (x8, x9) => ((lp (σ := Int32 × am_M) (ρ := Int32 × am_M) (fun (s10 : Int32 × am_M) => match s10 with | (x11, M12) => (if (M12 26 2) ≤ x11 then (some (.inr (x11, M12))) else (if am_dbin x11 12 = true then (if am_dbin (x11 - 1) 12 = true then (bl (am_up M12 27 (x11 - 1).toNatClampNeg (M12 27 x11.toNatClampNeg)) (fun (M16 : am_M) => (some (.inl ((x11 + 1), M16))))) else none) else none))) lp_F (1, M)).bind (fun (s17 : Int32 × am_M) => match s17 with | (x18, M19) => (if am_dbin ((M19 26 2) - 1) 12 = true then (bl (am_up M19 27 ((M19 26 2) - 1).toNatClampNeg x8) (fun (M21 : am_M) => (some M21))) else none)))))
set_option maxRecDepth 20000 in
theorem t_X2_move_26 {LN : Nat} {xs : Nat → Int32} {M : am_M} {t : am_M} (h : f_X2_move_26 M = some t) : oo LN xs 0 0 41 0 [some (.ref 26), none, none] [] M (none, t) := by
  unfold f_X2_move_26 at h
  refine o_iconst (v := 0) k41_0 (by decide) ?_
  refine o_istore_n (v := 0) (L' := [some (.ref 26), some (.int 0), none]) k41_1 rfl rfl ?_
  refine o_iconst (v := 0) k41_2 (by decide) ?_
  refine o_istore_n (v := 0) (L' := [some (.ref 26), some (.int 0), some (.int 0)]) k41_3 rfl rfl ?_
  refine bd_i h (fun s7 hs7 h => ?_)
  refine lp_o (fun (s1 : Int32 × Int32) => match s1 with | (x2, x3) => oo LN xs 0 0 41 4 [some (.ref 26), some (.int x2), some (.int x3)] [] M (none, t)) (fun (s7 : Int32 × Int32) => match s7 with | (x8, x9) => oo LN xs 0 0 41 39 [some (.ref 26), some (.int x8), some (.int x9)] [] M (none, t)) ?_ hs7 ?_
  · rintro ⟨x2, x3⟩ ws1 h hK
    dsimp only at h
    show oo LN xs 0 0 41 4 [some (.ref 26), some (.int x2), some (.int x3)] [] M (none, t)
    refine o_iload_n k41_4 rfl ?_
    refine o_aload_n k41_5 rfl ?_
    refine o_gf k41_6 (gf_26_2 _) ?_
    refine o_icmp_ge k41_9 (fun hc4 => ?_) (fun hc4 => ?_)
    · rw [if_pos hc4] at h
      have h9 := Option.some.inj h
      subst h9
      exact hK
    · rw [if_neg hc4] at h
      refine o_aload_n k41_12 rfl ?_
      refine o_gf k41_13 (gf_26_3 _) ?_
      refine o_iload_n k41_16 rfl ?_
      refine o_ishr k41_17 ?_
      refine o_iconst (v := 1) k41_18 (by decide) ?_
      refine o_iand k41_19 ?_
      refine o_iconst (v := 1) k41_20 (by decide) ?_
      refine o_icmp_ne k41_21 (fun hc5 => ?_) (fun hc5 => ?_)
      · rw [if_neg hc5] at h
        refine o_iinc (k := 1) (L' := [some (.ref 26), some (.int x2), some (.int (x3 + 1))]) k41_33 rfl (by decide) rfl ?_
        refine o_goto k41_36 ?_
        have h9 := Option.some.inj h
        subst h9
        exact hK
      · rw [if_pos hc5] at h
        refine o_iload_n k41_24 rfl ?_
        refine o_aload_n k41_25 rfl ?_
        refine o_gf k41_26 (gf_26_0 _) ?_
        refine o_iload_n k41_29 rfl ?_
        obtain ⟨hc6, h⟩ := ck_i h
        refine o_iald k41_30 rfl ia_27 hc6 ?_
        refine o_ixor k41_31 ?_
        refine o_istore_n (v := (x2 ^^^ (M 27 x3.toNatClampNeg))) (L' := [some (.ref 26), some (.int (x2 ^^^ (M 27 x3.toNatClampNeg))), some (.int x3)]) k41_32 rfl rfl ?_
        refine o_iinc (k := 1) (L' := [some (.ref 26), some (.int (x2 ^^^ (M 27 x3.toNatClampNeg))), some (.int (x3 + 1))]) k41_33 rfl (by decide) rfl ?_
        refine o_goto k41_36 ?_
        have h9 := Option.some.inj h
        subst h9
        exact hK
  · obtain ⟨x8, x9⟩ := s7
    show oo LN xs 0 0 41 39 [some (.ref 26), some (.int x8), some (.int x9)] [] M (none, t)
    dsimp only at h
    refine o_iconst (v := 1) k41_39 (by decide) ?_
    refine o_istore_n (v := 1) (L' := [some (.ref 26), some (.int x8), some (.int 1)]) k41_40 rfl rfl ?_
    refine bd_i h (fun s17 hs17 h => ?_)
    refine lp_o (fun (s10 : Int32 × am_M) => match s10 with | (x11, M12) => oo LN xs 0 0 41 41 [some (.ref 26), some (.int x8), some (.int x11)] [] M12 (none, t)) (fun (s17 : Int32 × am_M) => match s17 with | (x18, M19) => oo LN xs 0 0 41 69 [some (.ref 26), some (.int x8), some (.int x18)] [] M19 (none, t)) ?_ hs17 ?_
    · rintro ⟨x11, M12⟩ ws10 h hK
      dsimp only at h
      show oo LN xs 0 0 41 41 [some (.ref 26), some (.int x8), some (.int x11)] [] M12 (none, t)
      refine o_iload_n k41_41 rfl ?_
      refine o_aload_n k41_42 rfl ?_
      refine o_gf k41_43 (gf_26_2 _) ?_
      refine o_icmp_ge k41_46 (fun hc13 => ?_) (fun hc13 => ?_)
      · rw [if_pos hc13] at h
        have h9 := Option.some.inj h
        subst h9
        exact hK
      · rw [if_neg hc13] at h
        refine o_aload_n k41_49 rfl ?_
        refine o_gf k41_50 (gf_26_0 _) ?_
        refine o_iload_n k41_53 rfl ?_
        refine o_iconst (v := 1) k41_54 (by decide) ?_
        refine o_isub k41_55 ?_
        refine o_aload_n k41_56 rfl ?_
        refine o_gf k41_57 (gf_26_0 _) ?_
        refine o_iload_n k41_60 rfl ?_
        obtain ⟨hc14, h⟩ := ck_i h
        refine o_iald k41_61 rfl ia_27 hc14 ?_
        obtain ⟨hc15, h⟩ := ck_i h
        refine bl_i h (fun M16 eM16 h => ?_)
        refine o_iast (M' := M16) k41_62 eM16 ia_27 hc15 ?_
        refine o_iinc (k := 1) (L' := [some (.ref 26), some (.int x8), some (.int (x11 + 1))]) k41_63 rfl (by decide) rfl ?_
        refine o_goto k41_66 ?_
        have h9 := Option.some.inj h
        subst h9
        exact hK
    · obtain ⟨x18, M19⟩ := s17
      show oo LN xs 0 0 41 69 [some (.ref 26), some (.int x8), some (.int x18)] [] M19 (none, t)
      dsimp only at h
      refine o_aload_n k41_69 rfl ?_
      refine o_gf k41_70 (gf_26_0 _) ?_
      refine o_aload_n k41_73 rfl ?_
      refine o_gf k41_74 (gf_26_2 _) ?_
      refine o_iconst (v := 1) k41_77 (by decide) ?_
      refine o_isub k41_78 ?_
      refine o_iload_n k41_79 rfl ?_
      obtain ⟨hc20, h⟩ := ck_i h
      refine bl_i h (fun M21 eM21 h => ?_)
      refine o_iast (M' := M21) k41_80 eM21 ia_27 hc20 ?_
      have h9 := Option.some.inj h
      subst h9
      exact o_vret pj_41 k41_81 rfl
def f_X2_formOf_26 (a0 : Int32) (M : am_M) : Option Int32 := (if (M 26 2) = 0 then none else (if am_dbin (((3 : Int32) * a0) - ((3 : Int32) * a0) / (M 26 2) * (M 26 2)) 12 = true then (some (M 27 (((3 : Int32) * a0) - ((3 : Int32) * a0) / (M 26 2) * (M 26 2)).toNatClampNeg)) else none))
set_option maxRecDepth 20000 in
theorem t_X2_formOf_26 {LN : Nat} {xs : Nat → Int32} {a0 : Int32} {M : am_M} {t : Int32} (h : f_X2_formOf_26 a0 M = some t) : oo LN xs 0 0 42 0 [some (.ref 26), some (.int a0)] [] M (some (.int t), M) := by
  unfold f_X2_formOf_26 at h
  refine o_aload_n k42_0 rfl ?_
  refine o_gf k42_1 (gf_26_0 _) ?_
  refine o_iconst (v := 3) k42_4 (by decide) ?_
  refine o_iload_n k42_5 rfl ?_
  refine o_imul k42_6 ?_
  refine o_aload_n k42_7 rfl ?_
  refine o_gf k42_8 (gf_26_2 _) ?_
  obtain ⟨hc1, h⟩ := ck_n h
  refine o_irem k42_11 hc1 ?_
  obtain ⟨hc2, h⟩ := ck_i h
  refine o_iald k42_12 rfl ia_27 hc2 ?_
  have h9 := Option.some.inj h
  subst h9
  exact o_iret pj_42 k42_13 rfl nr_i
def f_X2_parity (a0 : Int32) : Int32 := ((f_J6_bitCount_0f7a4 a0) &&& 1)
set_option maxRecDepth 20000 in
theorem t_X2_parity {LN : Nat} {xs : Nat → Int32} {a0 : Int32} {M : am_M} {t : Int32} (h : f_X2_parity a0 = t) : oo LN xs 0 0 39 0 [some (.int a0)] [] M (some (.int t), M) := by
  unfold f_X2_parity at h
  refine o_iload_n k39_0 rfl ?_
  refine o_call k39_1 pj_212 (fun _ => rfl) (by decide) rfl (as := [.int a0]) (rest := []) rfl (L0 := [some (.int a0)]) rfl (t_J6_bitCount_0f7a4 (M := M) (a0 := a0) rfl) ?_
  refine o_iconst (v := 1) k39_4 (by decide) ?_
  refine o_iand k39_5 ?_
  subst h
  exact o_iret pj_39 k39_6 rfl nr_i
def f_X7_brought_0 (a0 : Int32) (a1 : Int32) (a2 : Int32) (M : am_M) : Option (Int32 × am_M) := (if a0 < 0 then (some ((-1), M)) else (if ((1 : Int32) <<< ((M 9 4) &&& 31)) ≤ a0 then (some ((-1), M)) else (if (f_X0_hasCell_9 a1 a2 M) = 0 then (some ((-1), M)) else ((f_X2_begin_26_9 M).bind (fun q4 => ((lp (σ := Int32 × am_M) (ρ := Int32 × am_M) (fun (s5 : Int32 × am_M) => match s5 with | (x6, M7) => (if a2 ≤ x6 then (some (.inr (x6, M7))) else ((f_X2_move_26 M7).bind (fun q9 => (some (.inl ((x6 + 1), q9))))))) lp_F (0, q4)).bind (fun (s10 : Int32 × am_M) => match s10 with | (x11, M12) => ((f_X2_formOf_26 a1 M12).bind (fun v13 => (some ((f_X2_parity (v13 &&& a0)), M12)))))))))))
set_option maxRecDepth 20000 in
theorem t_X7_brought_0 {LN : Nat} {xs : Nat → Int32} {a0 : Int32} {a1 : Int32} {a2 : Int32} {M : am_M} {t : Int32 × am_M} (h : f_X7_brought_0 a0 a1 a2 M = some t) : oo LN xs 0 0 104 0 [some (.ref 0), some (.int a0), some (.int a1), some (.int a2), none] [] M (some (.int t.1), t.2) := by
  unfold f_X7_brought_0 at h
  refine o_iload_n k104_0 rfl ?_
  refine o_if_lt k104_1 (fun hc1 => ?_) (fun hc1 => ?_)
  · rw [if_pos hc1] at h
    refine o_iconst (v := (-1)) k104_29 (by decide) ?_
    have h9 := Option.some.inj h
    subst h9
    exact o_iret pj_104 k104_30 rfl nr_i
  · rw [if_neg hc1] at h
    refine o_iload_n k104_4 rfl ?_
    refine o_iconst (v := 1) k104_5 (by decide) ?_
    refine o_aload_n k104_6 rfl ?_
    refine o_gf k104_7 (gf_0_2 _) ?_
    refine o_gf k104_10 (gf_9_4 _) ?_
    refine o_ishl k104_13 ?_
    refine o_icmp_ge k104_14 (fun hc2 => ?_) (fun hc2 => ?_)
    · rw [if_pos hc2] at h
      refine o_iconst (v := (-1)) k104_29 (by decide) ?_
      have h9 := Option.some.inj h
      subst h9
      exact o_iret pj_104 k104_30 rfl nr_i
    · rw [if_neg hc2] at h
      refine o_aload_n k104_17 rfl ?_
      refine o_gf k104_18 (gf_0_2 _) ?_
      refine o_iload_n k104_21 rfl ?_
      refine o_iload_n k104_22 rfl ?_
      refine o_call k104_23 pj_8 (fun _ => rfl) (by decide) rfl (as := [.ref 9, .int a1, .int a2]) (rest := []) rfl (L0 := [some (.ref 9), some (.int a1), some (.int a2)]) rfl (t_X0_hasCell_9 (M := M) (a0 := a1) (a1 := a2) rfl) ?_
      refine o_if_ne k104_26 (fun hc3 => ?_) (fun hc3 => ?_)
      · rw [if_neg hc3] at h
        refine o_aload_n k104_31 rfl ?_
        refine o_gf k104_32 (gf_0_5 _) ?_
        refine o_aload_n k104_35 rfl ?_
        refine o_gf k104_36 (gf_0_2 _) ?_
        refine bd_i h (fun q4 hq4 h => ?_)
        refine o_call k104_39 pj_40 (fun _ => rfl) (by decide) rfl (as := [.ref 26, .ref 9]) (rest := []) rfl (L0 := [some (.ref 26), some (.ref 9), none]) rfl (t_X2_begin_26_9 hq4) ?_
        refine o_iconst (v := 0) k104_42 (by decide) ?_
        refine o_istore (v := 0) (L' := [some (.ref 0), some (.int a0), some (.int a1), some (.int a2), some (.int 0)]) k104_43 rfl rfl ?_
        refine bd_i h (fun s10 hs10 h => ?_)
        refine lp_o (fun (s5 : Int32 × am_M) => match s5 with | (x6, M7) => oo LN xs 0 0 104 45 [some (.ref 0), some (.int a0), some (.int a1), some (.int a2), some (.int x6)] [] M7 (some (.int t.1), t.2)) (fun (s10 : Int32 × am_M) => match s10 with | (x11, M12) => oo LN xs 0 0 104 64 [some (.ref 0), some (.int a0), some (.int a1), some (.int a2), some (.int x11)] [] M12 (some (.int t.1), t.2)) ?_ hs10 ?_
        · rintro ⟨x6, M7⟩ ws5 h hK
          dsimp only at h
          show oo LN xs 0 0 104 45 [some (.ref 0), some (.int a0), some (.int a1), some (.int a2), some (.int x6)] [] M7 (some (.int t.1), t.2)
          refine o_iload k104_45 rfl ?_
          refine o_iload_n k104_47 rfl ?_
          refine o_icmp_ge k104_48 (fun hc8 => ?_) (fun hc8 => ?_)
          · rw [if_pos hc8] at h
            have h9 := Option.some.inj h
            subst h9
            exact hK
          · rw [if_neg hc8] at h
            refine o_aload_n k104_51 rfl ?_
            refine o_gf k104_52 (gf_0_5 _) ?_
            refine bd_i h (fun q9 hq9 h => ?_)
            refine o_call k104_55 pj_41 (fun _ => rfl) (by decide) rfl (as := [.ref 26]) (rest := []) rfl (L0 := [some (.ref 26), none, none]) rfl (t_X2_move_26 hq9) ?_
            refine o_iinc (k := 1) (L' := [some (.ref 0), some (.int a0), some (.int a1), some (.int a2), some (.int (x6 + 1))]) k104_58 rfl (by decide) rfl ?_
            refine o_goto k104_61 ?_
            have h9 := Option.some.inj h
            subst h9
            exact hK
        · obtain ⟨x11, M12⟩ := s10
          show oo LN xs 0 0 104 64 [some (.ref 0), some (.int a0), some (.int a1), some (.int a2), some (.int x11)] [] M12 (some (.int t.1), t.2)
          dsimp only at h
          refine o_aload_n k104_64 rfl ?_
          refine o_gf k104_65 (gf_0_5 _) ?_
          refine o_iload_n k104_68 rfl ?_
          refine bd_i h (fun v13 hv13 h => ?_)
          refine o_call k104_69 pj_42 (fun _ => rfl) (by decide) rfl (as := [.ref 26, .int a1]) (rest := []) rfl (L0 := [some (.ref 26), some (.int a1)]) rfl (t_X2_formOf_26 hv13) ?_
          refine o_iload_n k104_72 rfl ?_
          refine o_iand k104_73 ?_
          refine o_call k104_74 pj_39 (fun _ => rfl) (by decide) rfl (as := [.int (v13 &&& a0)]) (rest := []) rfl (L0 := [some (.int (v13 &&& a0))]) rfl (t_X2_parity (M := M12) (a0 := (v13 &&& a0)) rfl) ?_
          have h9 := Option.some.inj h
          subst h9
          exact o_iret pj_104 k104_77 rfl nr_i
      · rw [if_pos hc3] at h
        refine o_iconst (v := (-1)) k104_29 (by decide) ?_
        have h9 := Option.some.inj h
        subst h9
        exact o_iret pj_104 k104_30 rfl nr_i
def f_X8_isSeed_43 (a0 : Int32) (M : am_M) : Option Int32 := (if (f_X8_in a0.toInt64 0 ((((1 : Int32) <<< ((M 44 (4 : Int32).toNatClampNeg) &&& 31)) - 1).toInt64)) = 0 ∨ (f_X8_in a0.toInt64 0 ((((1 : Int32) <<< ((M 44 (4 : Int32).toNatClampNeg) &&& 31)) - 1).toInt64)) = 1 then (some (f_X8_in a0.toInt64 0 ((((1 : Int32) <<< ((M 44 (4 : Int32).toNatClampNeg) &&& 31)) - 1).toInt64))) else none)
set_option maxRecDepth 20000 in
theorem t_X8_isSeed_43 {LN : Nat} {xs : Nat → Int32} {a0 : Int32} {M : am_M} {t : Int32} (h : f_X8_isSeed_43 a0 M = some t) : oo LN xs 0 0 182 0 [some (.ref 43), some (.int a0)] [] M (some (.int t), M) := by
  unfold f_X8_isSeed_43 at h
  refine o_iload_n k182_0 rfl ?_
  refine o_i2l k182_1 ?_
  refine o_lconst (v := 0) k182_2 (by decide) ?_
  refine o_iconst (v := 1) k182_3 (by decide) ?_
  refine o_aload_n k182_4 rfl ?_
  refine o_gf k182_5 (gf_43_0 _) ?_
  refine o_iconst (v := 4) k182_8 (by decide) ?_
  refine o_iald k182_9 rfl ia_44 (by decide) ?_
  refine o_ishl k182_10 ?_
  refine o_iconst (v := 1) k182_11 (by decide) ?_
  refine o_isub k182_12 ?_
  refine o_i2l k182_13 ?_
  refine o_call k182_14 pj_125 (fun _ => rfl) (by decide) rfl (as := [.long a0.toInt64, .long 0, .long ((((1 : Int32) <<< ((M 44 (4 : Int32).toNatClampNeg) &&& 31)) - 1).toInt64)]) (rest := []) rfl (L0 := [some (.long a0.toInt64), none, some (.long 0), none, some (.long ((((1 : Int32) <<< ((M 44 (4 : Int32).toNatClampNeg) &&& 31)) - 1).toInt64)), none]) rfl (t_X8_in (M := M) (a0 := a0.toInt64) (a1 := 0) (a2 := ((((1 : Int32) <<< ((M 44 (4 : Int32).toNatClampNeg) &&& 31)) - 1).toInt64)) rfl) ?_
  obtain ⟨hc2, h⟩ := ck_i h
  have h9 := Option.some.inj h
  subst h9
  exact o_iret pj_182 k182_17 rfl (nr_z hc2)
def f_X8_nextOf_43 (a0 : Int32) (M : am_M) : Option Int32 := ((f_X8_bitsOf (a0 &&& (M 44 (5 : Int32).toNatClampNeg))).bind (fun v2 => (some ((a0 >>> ((1 : Int32) &&& 31)) ||| ((v2 - v2 / 2 * 2) <<< (((M 44 (4 : Int32).toNatClampNeg) - 1) &&& 31))))))
set_option maxRecDepth 20000 in
theorem t_X8_nextOf_43 {LN : Nat} {xs : Nat → Int32} {a0 : Int32} {M : am_M} {t : Int32} (h : f_X8_nextOf_43 a0 M = some t) : oo LN xs 0 0 180 0 [some (.ref 43), some (.int a0)] [] M (some (.int t), M) := by
  unfold f_X8_nextOf_43 at h
  refine o_iload_n k180_0 rfl ?_
  refine o_iconst (v := 1) k180_1 (by decide) ?_
  refine o_ishr k180_2 ?_
  refine o_iload_n k180_3 rfl ?_
  refine o_aload_n k180_4 rfl ?_
  refine o_gf k180_5 (gf_43_0 _) ?_
  refine o_iconst (v := 5) k180_8 (by decide) ?_
  refine o_iald k180_9 rfl ia_44 (by decide) ?_
  refine o_iand k180_10 ?_
  refine bd_i h (fun v2 hv2 h => ?_)
  refine o_call k180_11 pj_128 (fun _ => rfl) (by decide) rfl (as := [.int (a0 &&& (M 44 (5 : Int32).toNatClampNeg))]) (rest := [.int (a0 >>> ((1 : Int32) &&& 31))]) rfl (L0 := [some (.int (a0 &&& (M 44 (5 : Int32).toNatClampNeg))), none, none]) rfl (t_X8_bitsOf hv2) ?_
  refine o_iconst (v := 2) k180_14 (by decide) ?_
  refine o_irem k180_15 (by decide) ?_
  refine o_aload_n k180_16 rfl ?_
  refine o_gf k180_17 (gf_43_0 _) ?_
  refine o_iconst (v := 4) k180_20 (by decide) ?_
  refine o_iald k180_21 rfl ia_44 (by decide) ?_
  refine o_iconst (v := 1) k180_22 (by decide) ?_
  refine o_isub k180_23 ?_
  refine o_ishl k180_24 ?_
  refine o_ior k180_25 ?_
  have h9 := Option.some.inj h
  subst h9
  exact o_iret pj_180 k180_26 rfl nr_i
def f_X8_broughtBy_43 (a0 : Int32) (a1 : Int32) (M : am_M) : Option Int32 := (if (M 44 (4 : Int32).toNatClampNeg) = 0 then none else (some ((a0 >>> ((((3 : Int32) * a1) - ((3 : Int32) * a1) / (M 44 (4 : Int32).toNatClampNeg) * (M 44 (4 : Int32).toNatClampNeg)) &&& 31)) &&& 1)))
set_option maxRecDepth 20000 in
theorem t_X8_broughtBy_43 {LN : Nat} {xs : Nat → Int32} {a0 : Int32} {a1 : Int32} {M : am_M} {t : Int32} (h : f_X8_broughtBy_43 a0 a1 M = some t) : oo LN xs 0 0 181 0 [some (.ref 43), some (.int a0), some (.int a1)] [] M (some (.int t), M) := by
  unfold f_X8_broughtBy_43 at h
  refine o_iload_n k181_0 rfl ?_
  refine o_iconst (v := 3) k181_1 (by decide) ?_
  refine o_iload_n k181_2 rfl ?_
  refine o_imul k181_3 ?_
  refine o_aload_n k181_4 rfl ?_
  refine o_gf k181_5 (gf_43_0 _) ?_
  refine o_iconst (v := 4) k181_8 (by decide) ?_
  refine o_iald k181_9 rfl ia_44 (by decide) ?_
  obtain ⟨hc2, h⟩ := ck_n h
  refine o_irem k181_10 hc2 ?_
  refine o_ishr k181_11 ?_
  refine o_iconst (v := 1) k181_12 (by decide) ?_
  refine o_iand k181_13 ?_
  have h9 := Option.some.inj h
  subst h9
  exact o_iret pj_181 k181_14 rfl nr_i
def f_X8_brought_43 (a0 : Int32) (a1 : Int32) (a2 : Int32) (M : am_M) : Option Int32 := ((f_X8_isSeed_43 a0 M).bind (fun v1 => (if v1 = 0 then (some (-1)) else ((f_X8_isCell_43 a1 a2 M).bind (fun v3 => (if v3 = 0 then (some (-1)) else ((lp (σ := Int32 × Int32) (ρ := Int32 × Int32) (fun (s5 : Int32 × Int32) => match s5 with | (x6, x7) => (if a2 ≤ x7 then (some (.inr (x6, x7))) else ((f_X8_nextOf_43 x6 M).bind (fun v9 => (some (.inl (v9, (x7 + 1)))))))) lp_F (a0, 0)).bind (fun (s10 : Int32 × Int32) => match s10 with | (x11, x12) => ((f_X8_broughtBy_43 x11 a1 M).bind (fun v13 => (some v13)))))))))))
set_option maxRecDepth 20000 in
theorem t_X8_brought_43 {LN : Nat} {xs : Nat → Int32} {a0 : Int32} {a1 : Int32} {a2 : Int32} {M : am_M} {t : Int32} (h : f_X8_brought_43 a0 a1 a2 M = some t) : oo LN xs 0 0 183 0 [some (.ref 43), some (.int a0), some (.int a1), some (.int a2), none, none] [] M (some (.int t), M) := by
  unfold f_X8_brought_43 at h
  refine o_aload_n k183_0 rfl ?_
  refine o_iload_n k183_1 rfl ?_
  refine bd_i h (fun v1 hv1 h => ?_)
  refine o_call k183_2 pj_182 (fun _ => rfl) (by decide) rfl (as := [.ref 43, .int a0]) (rest := []) rfl (L0 := [some (.ref 43), some (.int a0)]) rfl (t_X8_isSeed_43 hv1) ?_
  refine o_if_eq k183_5 (fun hc2 => ?_) (fun hc2 => ?_)
  · rw [if_pos hc2] at h
    refine o_iconst (v := (-1)) k183_17 (by decide) ?_
    have h9 := Option.some.inj h
    subst h9
    exact o_iret pj_183 k183_18 rfl nr_i
  · rw [if_neg hc2] at h
    refine o_aload_n k183_8 rfl ?_
    refine o_iload_n k183_9 rfl ?_
    refine o_iload_n k183_10 rfl ?_
    refine bd_i h (fun v3 hv3 h => ?_)
    refine o_call k183_11 pj_152 (fun _ => rfl) (by decide) rfl (as := [.ref 43, .int a1, .int a2]) (rest := []) rfl (L0 := [some (.ref 43), some (.int a1), some (.int a2)]) rfl (t_X8_isCell_43 hv3) ?_
    refine o_if_ne k183_14 (fun hc4 => ?_) (fun hc4 => ?_)
    · rw [if_neg hc4] at h
      refine o_iload_n k183_19 rfl ?_
      refine o_istore (v := a0) (L' := [some (.ref 43), some (.int a0), some (.int a1), some (.int a2), some (.int a0), none]) k183_20 rfl rfl ?_
      refine o_iconst (v := 0) k183_22 (by decide) ?_
      refine o_istore (v := 0) (L' := [some (.ref 43), some (.int a0), some (.int a1), some (.int a2), some (.int a0), some (.int 0)]) k183_23 rfl rfl ?_
      refine bd_i h (fun s10 hs10 h => ?_)
      refine lp_o (fun (s5 : Int32 × Int32) => match s5 with | (x6, x7) => oo LN xs 0 0 183 25 [some (.ref 43), some (.int a0), some (.int a1), some (.int a2), some (.int x6), some (.int x7)] [] M (some (.int t), M)) (fun (s10 : Int32 × Int32) => match s10 with | (x11, x12) => oo LN xs 0 0 183 45 [some (.ref 43), some (.int a0), some (.int a1), some (.int a2), some (.int x11), some (.int x12)] [] M (some (.int t), M)) ?_ hs10 ?_
      · rintro ⟨x6, x7⟩ ws5 h hK
        dsimp only at h
        show oo LN xs 0 0 183 25 [some (.ref 43), some (.int a0), some (.int a1), some (.int a2), some (.int x6), some (.int x7)] [] M (some (.int t), M)
        refine o_iload k183_25 rfl ?_
        refine o_iload_n k183_27 rfl ?_
        refine o_icmp_ge k183_28 (fun hc8 => ?_) (fun hc8 => ?_)
        · rw [if_pos hc8] at h
          have h9 := Option.some.inj h
          subst h9
          exact hK
        · rw [if_neg hc8] at h
          refine o_aload_n k183_31 rfl ?_
          refine o_iload k183_32 rfl ?_
          refine bd_i h (fun v9 hv9 h => ?_)
          refine o_call k183_34 pj_180 (fun _ => rfl) (by decide) rfl (as := [.ref 43, .int x6]) (rest := []) rfl (L0 := [some (.ref 43), some (.int x6)]) rfl (t_X8_nextOf_43 hv9) ?_
          refine o_istore (v := v9) (L' := [some (.ref 43), some (.int a0), some (.int a1), some (.int a2), some (.int v9), some (.int x7)]) k183_37 rfl rfl ?_
          refine o_iinc (k := 1) (L' := [some (.ref 43), some (.int a0), some (.int a1), some (.int a2), some (.int v9), some (.int (x7 + 1))]) k183_39 rfl (by decide) rfl ?_
          refine o_goto k183_42 ?_
          have h9 := Option.some.inj h
          subst h9
          exact hK
      · obtain ⟨x11, x12⟩ := s10
        show oo LN xs 0 0 183 45 [some (.ref 43), some (.int a0), some (.int a1), some (.int a2), some (.int x11), some (.int x12)] [] M (some (.int t), M)
        dsimp only at h
        refine o_aload_n k183_45 rfl ?_
        refine o_iload k183_46 rfl ?_
        refine o_iload_n k183_48 rfl ?_
        refine bd_i h (fun v13 hv13 h => ?_)
        refine o_call k183_49 pj_181 (fun _ => rfl) (by decide) rfl (as := [.ref 43, .int x11, .int a1]) (rest := []) rfl (L0 := [some (.ref 43), some (.int x11), some (.int a1)]) rfl (t_X8_broughtBy_43 hv13) ?_
        have h9 := Option.some.inj h
        subst h9
        exact o_iret pj_183 k183_52 rfl nr_i
    · rw [if_pos hc4] at h
      refine o_iconst (v := (-1)) k183_17 (by decide) ?_
      have h9 := Option.some.inj h
      subst h9
      exact o_iret pj_183 k183_18 rfl nr_i
def f_J7_fill_53178_29 (a0 : Int32) (M : am_M) : Option am_M := ((lp (σ := Int32 × am_M) (ρ := Int32 × am_M) (fun (s1 : Int32 × am_M) => match s1 with | (x2, M3) => (if 12 ≤ x2 then (some (.inr (x2, M3))) else (if am_dbin x2 12 = true then (bl (am_up M3 29 x2.toNatClampNeg a0) (fun (M6 : am_M) => (some (.inl ((x2 + 1), M6))))) else none))) lp_F (0, M)).bind (fun (s7 : Int32 × am_M) => match s7 with | (x8, M9) => (some M9)))
set_option maxRecDepth 20000 in
theorem t_J7_fill_53178_29 {LN : Nat} {xs : Nat → Int32} {a0 : Int32} {M : am_M} {t : am_M} (h : f_J7_fill_53178_29 a0 M = some t) : oo LN xs 0 0 219 0 [some (.ref 29), some (.int a0), none, none] [] M (none, t) := by
  unfold f_J7_fill_53178_29 at h
  refine o_iconst (v := 0) k219_0 (by decide) ?_
  refine o_istore_n (v := 0) (L' := [some (.ref 29), some (.int a0), some (.int 0), none]) k219_1 rfl rfl ?_
  refine o_aload_n k219_2 rfl ?_
  refine o_alen (v := 12) k219_3 rfl (by decide) ?_
  refine o_istore_n (v := 12) (L' := [some (.ref 29), some (.int a0), some (.int 0), some (.int 12)]) k219_4 rfl rfl ?_
  refine bd_i h (fun s7 hs7 h => ?_)
  refine lp_o (fun (s1 : Int32 × am_M) => match s1 with | (x2, M3) => oo LN xs 0 0 219 5 [some (.ref 29), some (.int a0), some (.int x2), some (.int 12)] [] M3 (none, t)) (fun (s7 : Int32 × am_M) => match s7 with | (x8, M9) => oo LN xs 0 0 219 20 [some (.ref 29), some (.int a0), some (.int x8), some (.int 12)] [] M9 (none, t)) ?_ hs7 ?_
  · rintro ⟨x2, M3⟩ ws1 h hK
    dsimp only at h
    show oo LN xs 0 0 219 5 [some (.ref 29), some (.int a0), some (.int x2), some (.int 12)] [] M3 (none, t)
    refine o_iload_n k219_5 rfl ?_
    refine o_iload_n k219_6 rfl ?_
    refine o_icmp_ge k219_7 (fun hc4 => ?_) (fun hc4 => ?_)
    · rw [if_pos hc4] at h
      have h9 := Option.some.inj h
      subst h9
      exact hK
    · rw [if_neg hc4] at h
      refine o_aload_n k219_10 rfl ?_
      refine o_iload_n k219_11 rfl ?_
      refine o_iload_n k219_12 rfl ?_
      obtain ⟨hc5, h⟩ := ck_i h
      refine bl_i h (fun M6 eM6 h => ?_)
      refine o_iast (M' := M6) k219_13 eM6 ia_29 hc5 ?_
      refine o_iinc (k := 1) (L' := [some (.ref 29), some (.int a0), some (.int (x2 + 1)), some (.int 12)]) k219_14 rfl (by decide) rfl ?_
      refine o_goto k219_17 ?_
      have h9 := Option.some.inj h
      subst h9
      exact hK
  · obtain ⟨x8, M9⟩ := s7
    show oo LN xs 0 0 219 20 [some (.ref 29), some (.int a0), some (.int x8), some (.int 12)] [] M9 (none, t)
    dsimp only at h
    have h9 := Option.some.inj h
    subst h9
    exact o_vret pj_219 k219_20 rfl
def f_X1_begin_28 (M : am_M) : Option am_M := ((f_J7_fill_53178_29 0 M).bind (fun q1 => (bl (am_up q1 28 1 0) (fun (M2 : am_M) => (bl (am_up M2 28 2 0) (fun (M3 : am_M) => (some M3)))))))
set_option maxRecDepth 20000 in
theorem t_X1_begin_28 {LN : Nat} {xs : Nat → Int32} {M : am_M} {t : am_M} (h : f_X1_begin_28 M = some t) : oo LN xs 0 0 35 0 [some (.ref 28)] [] M (none, t) := by
  unfold f_X1_begin_28 at h
  refine o_aload_n k35_0 rfl ?_
  refine o_gf k35_1 (gf_28_0 _) ?_
  refine o_iconst (v := 0) k35_4 (by decide) ?_
  refine bd_i h (fun q1 hq1 h => ?_)
  refine o_call k35_5 pj_219 (fun _ => rfl) (by decide) rfl (as := [.ref 29, .int 0]) (rest := []) rfl (L0 := [some (.ref 29), some (.int 0), none, none]) rfl (t_J7_fill_53178_29 hq1) ?_
  refine o_aload_n k35_8 rfl ?_
  refine o_iconst (v := 0) k35_9 (by decide) ?_
  refine bl_i h (fun M2 eM2 h => ?_)
  refine o_pf (M' := M2) k35_10 (pf_28_1 eM2) ?_
  refine o_aload_n k35_13 rfl ?_
  refine o_iconst (v := 0) k35_14 (by decide) ?_
  refine bl_i h (fun M3 eM3 h => ?_)
  refine o_pf (M' := M3) k35_15 (pf_28_2 (by decide) eM3) ?_
  have h9 := Option.some.inj h
  subst h9
  exact o_vret pj_35 k35_18 rfl
def f_X1_add_28 (a0 : Int32) (M : am_M) : Option am_M := ((lp (σ := Int32 × Int32) (ρ := (am_M) ⊕ (Int32 × Int32)) (fun (s1 : Int32 × Int32) => match s1 with | (x2, x3) => (if 12 ≤ x3 then (some (.inr (.inr (x2, x3)))) else (if ((x2 >>> (x3 &&& 31)) &&& 1) = 1 then (if am_dbin x3 12 = true then (if (M 29 x3.toNatClampNeg) = 0 then (if am_dbin x3 12 = true then (bl (am_up M 29 x3.toNatClampNeg x2) (fun (M10 : am_M) => (bl (am_up M10 28 1 ((M10 28 1) + 1)) (fun (M11 : am_M) => (some (.inr (.inl M11))))))) else none) else (if am_dbin x3 12 = true then (some (.inl ((x2 ^^^ (M 29 x3.toNatClampNeg)), (x3 + 1)))) else none)) else none) else (some (.inl (x2, (x3 + 1))))))) lp_F (a0, 0)).bind (fun os12 => Sum.elim (fun u => (some u)) (fun (s12 : Int32 × Int32) => match s12 with | (x13, x14) => (if x13 = 0 then (some M) else (bl (am_up M 28 2 1) (fun (M16 : am_M) => (some M16))))) os12))
set_option maxRecDepth 20000 in
theorem t_X1_add_28 {LN : Nat} {xs : Nat → Int32} {a0 : Int32} {M : am_M} {t : am_M} (h : f_X1_add_28 a0 M = some t) : oo LN xs 0 0 36 0 [some (.ref 28), some (.int a0), none, none] [] M (none, t) := by
  unfold f_X1_add_28 at h
  refine o_iload_n k36_0 rfl ?_
  refine o_istore_n (v := a0) (L' := [some (.ref 28), some (.int a0), some (.int a0), none]) k36_1 rfl rfl ?_
  refine o_iconst (v := 0) k36_2 (by decide) ?_
  refine o_istore_n (v := 0) (L' := [some (.ref 28), some (.int a0), some (.int a0), some (.int 0)]) k36_3 rfl rfl ?_
  refine bd_i h (fun Os12 hOs12 h => ?_)
  refine lp_o (fun (s1 : Int32 × Int32) => match s1 with | (x2, x3) => oo LN xs 0 0 36 4 [some (.ref 28), some (.int a0), some (.int x2), some (.int x3)] [] M (none, t)) (fun oq => Sum.elim (fun u => u = t) (fun (s12 : Int32 × Int32) => match s12 with | (x13, x14) => oo LN xs 0 0 36 61 [some (.ref 28), some (.int a0), some (.int x13), some (.int x14)] [] M (none, t)) oq) ?_ hOs12 ?_
  · rintro ⟨x2, x3⟩ ws1 h hK
    dsimp only at h
    show oo LN xs 0 0 36 4 [some (.ref 28), some (.int a0), some (.int x2), some (.int x3)] [] M (none, t)
    refine o_iload_n k36_4 rfl ?_
    refine o_bipush (v := 12) k36_5 (by decide) ?_
    refine o_icmp_ge k36_7 (fun hc4 => ?_) (fun hc4 => ?_)
    · rw [if_pos hc4] at h
      have h9 := Option.some.inj h
      subst h9
      exact hK
    · rw [if_neg hc4] at h
      refine o_iload_n k36_10 rfl ?_
      refine o_iload_n k36_11 rfl ?_
      refine o_ishr k36_12 ?_
      refine o_iconst (v := 1) k36_13 (by decide) ?_
      refine o_iand k36_14 ?_
      refine o_iconst (v := 1) k36_15 (by decide) ?_
      refine o_icmp_ne k36_16 (fun hc5 => ?_) (fun hc5 => ?_)
      · rw [if_neg hc5] at h
        refine o_iinc (k := 1) (L' := [some (.ref 28), some (.int a0), some (.int x2), some (.int (x3 + 1))]) k36_55 rfl (by decide) rfl ?_
        refine o_goto k36_58 ?_
        have h9 := Option.some.inj h
        subst h9
        exact hK
      · rw [if_pos hc5] at h
        refine o_aload_n k36_19 rfl ?_
        refine o_gf k36_20 (gf_28_0 _) ?_
        refine o_iload_n k36_23 rfl ?_
        obtain ⟨hc6, h⟩ := ck_i h
        refine o_iald k36_24 rfl ia_29 hc6 ?_
        refine o_if_ne k36_25 (fun hc7 => ?_) (fun hc7 => ?_)
        · rw [if_neg hc7] at h
          refine o_iload_n k36_46 rfl ?_
          refine o_aload_n k36_47 rfl ?_
          refine o_gf k36_48 (gf_28_0 _) ?_
          refine o_iload_n k36_51 rfl ?_
          obtain ⟨hc8, h⟩ := ck_i h
          refine o_iald k36_52 rfl ia_29 hc8 ?_
          refine o_ixor k36_53 ?_
          refine o_istore_n (v := (x2 ^^^ (M 29 x3.toNatClampNeg))) (L' := [some (.ref 28), some (.int a0), some (.int (x2 ^^^ (M 29 x3.toNatClampNeg))), some (.int x3)]) k36_54 rfl rfl ?_
          refine o_iinc (k := 1) (L' := [some (.ref 28), some (.int a0), some (.int (x2 ^^^ (M 29 x3.toNatClampNeg))), some (.int (x3 + 1))]) k36_55 rfl (by decide) rfl ?_
          refine o_goto k36_58 ?_
          have h9 := Option.some.inj h
          subst h9
          exact hK
        · rw [if_pos hc7] at h
          refine o_aload_n k36_28 rfl ?_
          refine o_gf k36_29 (gf_28_0 _) ?_
          refine o_iload_n k36_32 rfl ?_
          refine o_iload_n k36_33 rfl ?_
          obtain ⟨hc9, h⟩ := ck_i h
          refine bl_i h (fun M10 eM10 h => ?_)
          refine o_iast (M' := M10) k36_34 eM10 ia_29 hc9 ?_
          refine o_aload_n k36_35 rfl ?_
          refine o_dupr k36_36 ?_
          refine o_gf k36_37 (gf_28_1 _) ?_
          refine o_iconst (v := 1) k36_40 (by decide) ?_
          refine o_iadd k36_41 ?_
          refine bl_i h (fun M11 eM11 h => ?_)
          refine o_pf (M' := M11) k36_42 (pf_28_1 eM11) ?_
          have h9 := Option.some.inj h
          subst h9
          have hK2 : M11 = t := hK
          subst hK2
          exact o_vret pj_36 k36_45 rfl
  · rcases Os12 with u | ⟨x13, x14⟩
    · exact Option.some.inj h
    · show oo LN xs 0 0 36 61 [some (.ref 28), some (.int a0), some (.int x13), some (.int x14)] [] M (none, t)
      rw [el_r] at h
      dsimp only at h
      refine o_iload_n k36_61 rfl ?_
      refine o_if_eq k36_62 (fun hc15 => ?_) (fun hc15 => ?_)
      · rw [if_pos hc15] at h
        have h9 := Option.some.inj h
        subst h9
        exact o_vret pj_36 k36_70 rfl
      · rw [if_neg hc15] at h
        refine o_aload_n k36_65 rfl ?_
        refine o_iconst (v := 1) k36_66 (by decide) ?_
        refine bl_i h (fun M16 eM16 h => ?_)
        refine o_pf (M' := M16) k36_67 (pf_28_2 (by decide) eM16) ?_
        have h9 := Option.some.inj h
        subst h9
        exact o_vret pj_36 k36_70 rfl
def f_X2_wantedOf_26_9 (M : am_M) : Option am_M := ((f_X1_begin_28 M).bind (fun q1 => ((f_X2_begin_26_9 q1).bind (fun q2 => ((lp (σ := Int32 × am_M) (ρ := Int32 × am_M) (fun (s3 : Int32 × am_M) => match s3 with | (x4, M5) => (if (M5 9 1) ≤ x4 then (some (.inr (x4, M5))) else ((lp (σ := Int32 × am_M) (ρ := Int32 × am_M) (fun (s9 : Int32 × am_M) => match s9 with | (x10, M11) => (if (M11 9 0) ≤ x10 then (some (.inr (x10, M11))) else (if am_dbin (f_X0_at x10 x4) 64 = true then (if (M11 11 (f_X0_at x10 x4).toNatClampNeg) = 2 then (some (.inl ((x10 + 1), M11))) else (bl (fun (v19 : Int32) => (((f_X1_add_28 v19 M11).bind (fun q20 => (some (.inl ((x10 + 1), q20))))) : Option ((Int32 × am_M) ⊕ (Int32 × am_M)))) (fun (j21 : Int32 → Option ((Int32 × am_M) ⊕ (Int32 × am_M))) => (if (M11 11 (f_X0_at x10 x4).toNatClampNeg) = 1 then ((f_X2_formOf_26 x10 M11).bind (fun v18 => (j21 (v18 ||| 4096)))) else ((f_X2_formOf_26 x10 M11).bind (fun v17 => (j21 v17))))))) else none))) lp_F (0, M5)).bind (fun (s22 : Int32 × am_M) => match s22 with | (x23, M24) => ((f_X2_move_26 M24).bind (fun q26 => (some (.inl ((x4 + 1), q26))))))))) lp_F (0, q2)).bind (fun (s27 : Int32 × am_M) => match s27 with | (x28, M29) => (some M29)))))))
set_option maxRecDepth 20000 in
theorem t_X2_wantedOf_26_9 {LN : Nat} {xs : Nat → Int32} {M : am_M} {t : am_M} (h : f_X2_wantedOf_26_9 M = some t) : oo LN xs 0 0 43 0 [some (.ref 26), some (.ref 9), none, none, none] [] M (some (.ref 28), t) := by
  unfold f_X2_wantedOf_26_9 at h
  refine o_aload_n k43_0 rfl ?_
  refine o_gf k43_1 (gf_26_1 _) ?_
  refine bd_i h (fun q1 hq1 h => ?_)
  refine o_call k43_4 pj_35 (fun _ => rfl) (by decide) rfl (as := [.ref 28]) (rest := []) rfl (L0 := [some (.ref 28)]) rfl (t_X1_begin_28 hq1) ?_
  refine o_aload_n k43_7 rfl ?_
  refine o_aload_n k43_8 rfl ?_
  refine bd_i h (fun q2 hq2 h => ?_)
  refine o_call k43_9 pj_40 (fun _ => rfl) (by decide) rfl (as := [.ref 26, .ref 9]) (rest := []) rfl (L0 := [some (.ref 26), some (.ref 9), none]) rfl (t_X2_begin_26_9 hq2) ?_
  refine o_iconst (v := 0) k43_12 (by decide) ?_
  refine o_istore_n (v := 0) (L' := [some (.ref 26), some (.ref 9), some (.int 0), none, none]) k43_13 rfl rfl ?_
  refine bd_i h (fun s27 hs27 h => ?_)
  refine lp_o (fun (s3 : Int32 × am_M) => match s3 with | (x4, M5) => ∀ (d6 d7 : Option (Int32 ⊕ Int64)), oo LN xs 0 0 43 14 [some (.ref 26), some (.ref 9), some (.int x4), (d6.map dv), (d7.map dv)] [] M5 (some (.ref 28), t)) (fun (s27 : Int32 × am_M) => match s27 with | (x28, M29) => ∀ (d30 d31 : Option (Int32 ⊕ Int64)), oo LN xs 0 0 43 96 [some (.ref 26), some (.ref 9), some (.int x28), (d30.map dv), (d31.map dv)] [] M29 (some (.ref 28), t)) ?_ hs27 ?_ none none
  · rintro ⟨x4, M5⟩ ws3 h hK
    dsimp only at h
    show ∀ (d6 d7 : Option (Int32 ⊕ Int64)), oo LN xs 0 0 43 14 [some (.ref 26), some (.ref 9), some (.int x4), (d6.map dv), (d7.map dv)] [] M5 (some (.ref 28), t)
    intro d6 d7
    refine o_iload_n k43_14 rfl ?_
    refine o_aload_n k43_15 rfl ?_
    refine o_gf k43_16 (gf_9_1 _) ?_
    refine o_icmp_ge k43_19 (fun hc8 => ?_) (fun hc8 => ?_)
    · rw [if_pos hc8] at h
      have h9 := Option.some.inj h
      subst h9
      exact hK d6 d7
    · rw [if_neg hc8] at h
      refine o_iconst (v := 0) k43_22 (by decide) ?_
      refine o_istore_n (v := 0) (L' := [some (.ref 26), some (.ref 9), some (.int x4), some (.int 0), (d7.map dv)]) k43_23 rfl rfl ?_
      refine bd_i h (fun s22 hs22 h => ?_)
      refine lp_o (fun (s9 : Int32 × am_M) => match s9 with | (x10, M11) => ∀ (d12 : Option (Int32 ⊕ Int64)), oo LN xs 0 0 43 24 [some (.ref 26), some (.ref 9), some (.int x4), some (.int x10), (d12.map dv)] [] M11 (some (.ref 28), t)) (fun (s22 : Int32 × am_M) => match s22 with | (x23, M24) => ∀ (d25 : Option (Int32 ⊕ Int64)), oo LN xs 0 0 43 86 [some (.ref 26), some (.ref 9), some (.int x4), some (.int x23), (d25.map dv)] [] M24 (some (.ref 28), t)) ?_ hs22 ?_ d7
      · rintro ⟨x10, M11⟩ ws9 h hK
        dsimp only at h
        show ∀ (d12 : Option (Int32 ⊕ Int64)), oo LN xs 0 0 43 24 [some (.ref 26), some (.ref 9), some (.int x4), some (.int x10), (d12.map dv)] [] M11 (some (.ref 28), t)
        intro d12
        refine o_iload_n k43_24 rfl ?_
        refine o_aload_n k43_25 rfl ?_
        refine o_gf k43_26 (gf_9_0 _) ?_
        refine o_icmp_ge k43_29 (fun hc13 => ?_) (fun hc13 => ?_)
        · rw [if_pos hc13] at h
          have h9 := Option.some.inj h
          subst h9
          exact hK d12
        · rw [if_neg hc13] at h
          refine o_aload_n k43_32 rfl ?_
          refine o_gf k43_33 (gf_9_8 _) ?_
          refine o_iload_n k43_36 rfl ?_
          refine o_iload_n k43_37 rfl ?_
          refine o_call k43_38 pj_5 (fun _ => rfl) (by decide) (by rcases d12 with _ | (x | x) <;> rfl) (as := [.int x10, .int x4]) (rest := [.ref 11]) rfl (L0 := [some (.int x10), some (.int x4)]) rfl (t_X0_at (M := M11) (a0 := x10) (a1 := x4) rfl) ?_
          obtain ⟨hc14, h⟩ := ck_i h
          refine o_iald k43_41 rfl ia_11 hc14 ?_
          refine o_istore (v := (M11 11 (f_X0_at x10 x4).toNatClampNeg)) (L' := [some (.ref 26), some (.ref 9), some (.int x4), some (.int x10), some (.int (M11 11 (f_X0_at x10 x4).toNatClampNeg))]) k43_42 rfl rfl ?_
          refine o_iload k43_44 rfl ?_
          refine o_iconst (v := 2) k43_46 (by decide) ?_
          refine o_icmp_eq k43_47 (fun hc15 => ?_) (fun hc15 => ?_)
          · rw [if_pos hc15] at h
            refine o_iinc (k := 1) (L' := [some (.ref 26), some (.ref 9), some (.int x4), some (.int (x10 + 1)), some (.int (M11 11 (f_X0_at x10 x4).toNatClampNeg))]) k43_80 rfl (by decide) rfl ?_
            refine o_goto k43_83 ?_
            have h9 := Option.some.inj h
            subst h9
            exact hK (some (.inl (M11 11 (f_X0_at x10 x4).toNatClampNeg)))
          · rw [if_neg hc15] at h
            refine o_aload_n k43_50 rfl ?_
            refine o_gf k43_51 (gf_26_1 _) ?_
            refine o_iload k43_54 rfl ?_
            refine o_iconst (v := 1) k43_56 (by decide) ?_
            refine bl_i h (fun j21 ej21 h => ?_)
            have hJ77 : ∀ (v19 : Int32), j21 v19 = some ws9 → oo LN xs 0 0 43 77 [some (.ref 26), some (.ref 9), some (.int x4), some (.int x10), some (.int (M11 11 (f_X0_at x10 x4).toNatClampNeg))] [.int v19, .ref 28] M11 (some (.ref 28), t) := by
              intro v19 h
              rw [ej21] at h
              dsimp only at h
              refine bd_i h (fun q20 hq20 h => ?_)
              refine o_call k43_77 pj_36 (fun _ => rfl) (by decide) rfl (as := [.ref 28, .int v19]) (rest := []) rfl (L0 := [some (.ref 28), some (.int v19), none, none]) rfl (t_X1_add_28 hq20) ?_
              refine o_iinc (k := 1) (L' := [some (.ref 26), some (.ref 9), some (.int x4), some (.int (x10 + 1)), some (.int (M11 11 (f_X0_at x10 x4).toNatClampNeg))]) k43_80 rfl (by decide) rfl ?_
              refine o_goto k43_83 ?_
              have h9 := Option.some.inj h
              subst h9
              exact hK (some (.inl (M11 11 (f_X0_at x10 x4).toNatClampNeg)))
            refine o_icmp_ne k43_57 (fun hc16 => ?_) (fun hc16 => ?_)
            · rw [if_neg hc16] at h
              refine o_aload_n k43_72 rfl ?_
              refine o_iload_n k43_73 rfl ?_
              refine bd_i h (fun v17 hv17 h => ?_)
              refine o_call k43_74 pj_42 (fun _ => rfl) (by decide) rfl (as := [.ref 26, .int x10]) (rest := [.ref 28]) rfl (L0 := [some (.ref 26), some (.int x10)]) rfl (t_X2_formOf_26 hv17) ?_
              exact hJ77 _ h
            · rw [if_pos hc16] at h
              refine o_aload_n k43_60 rfl ?_
              refine o_iload_n k43_61 rfl ?_
              refine bd_i h (fun v18 hv18 h => ?_)
              refine o_call k43_62 pj_42 (fun _ => rfl) (by decide) rfl (as := [.ref 26, .int x10]) (rest := [.ref 28]) rfl (L0 := [some (.ref 26), some (.int x10)]) rfl (t_X2_formOf_26 hv18) ?_
              refine o_sipush (v := 4096) k43_65 (by decide) ?_
              refine o_ior k43_68 ?_
              refine o_goto k43_69 ?_
              exact hJ77 _ h
      · obtain ⟨x23, M24⟩ := s22
        show ∀ (d25 : Option (Int32 ⊕ Int64)), oo LN xs 0 0 43 86 [some (.ref 26), some (.ref 9), some (.int x4), some (.int x23), (d25.map dv)] [] M24 (some (.ref 28), t)
        dsimp only at h
        intro d25
        refine o_aload_n k43_86 rfl ?_
        refine bd_i h (fun q26 hq26 h => ?_)
        refine o_call k43_87 pj_41 (fun _ => rfl) (by decide) (by rcases d25 with _ | (x | x) <;> rfl) (as := [.ref 26]) (rest := []) rfl (L0 := [some (.ref 26), none, none]) rfl (t_X2_move_26 hq26) ?_
        refine o_iinc (k := 1) (L' := [some (.ref 26), some (.ref 9), some (.int (x4 + 1)), some (.int x23), (d25.map dv)]) k43_90 rfl (by decide) rfl ?_
        refine o_goto k43_93 ?_
        have h9 := Option.some.inj h
        subst h9
        exact hK (some (.inl x23)) d25
  · obtain ⟨x28, M29⟩ := s27
    show ∀ (d30 d31 : Option (Int32 ⊕ Int64)), oo LN xs 0 0 43 96 [some (.ref 26), some (.ref 9), some (.int x28), (d30.map dv), (d31.map dv)] [] M29 (some (.ref 28), t)
    dsimp only at h
    intro d30 d31
    refine o_aload_n k43_96 rfl ?_
    refine o_gf k43_97 (gf_26_1 _) ?_
    have h9 := Option.some.inj h
    subst h9
    exact o_aret pj_43 k43_100 rfl
