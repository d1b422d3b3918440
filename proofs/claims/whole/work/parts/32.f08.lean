/-! FUNCTIONS, on -/
def f_X7_takeTriples_0_39 (a0 : Int32) (a1 : Int32) (M : am_M) : Option am_M := ((lp (σ := Int32 × am_M) (ρ := Int32 × am_M) (fun (s1 : Int32 × am_M) => match s1 with | (x2, M3) => (if a1 ≤ x2 then (some (.inr (x2, M3))) else (if am_dbin (a0 + ((3 : Int32) * x2)) 40 = true then (if am_dbin ((a0 + ((3 : Int32) * x2)) + 1) 40 = true then (if am_dbin ((a0 + ((3 : Int32) * x2)) + 2) 40 = true then (if am_dbin (f_X0_at (M3 40 (a0 + ((3 : Int32) * x2)).toNatClampNeg) (M3 40 ((a0 + ((3 : Int32) * x2)) + 1).toNatClampNeg)) 64 = true then (bl (am_up M3 10 (f_X0_at (M3 40 (a0 + ((3 : Int32) * x2)).toNatClampNeg) (M3 40 ((a0 + ((3 : Int32) * x2)) + 1).toNatClampNeg)).toNatClampNeg (M3 40 ((a0 + ((3 : Int32) * x2)) + 2).toNatClampNeg)) (fun (M10 : am_M) => (some (.inl ((x2 + 1), M10))))) else none) else none) else none) else none))) lp_F (0, M)).bind (fun (s11 : Int32 × am_M) => match s11 with | (x12, M13) => (some M13)))
set_option maxRecDepth 20000 in
theorem t_X7_takeTriples_0_39 {LN : Nat} {xs : Nat → Int32} {a0 : Int32} {a1 : Int32} {M : am_M} {t : am_M} (h : f_X7_takeTriples_0_39 a0 a1 M = some t) : oo LN xs 0 0 119 0 [some (.ref 0), some (.ref 39), some (.int a0), some (.int a1), none, none] [] M (none, t) := by
  unfold f_X7_takeTriples_0_39 at h
  refine o_iconst (v := 0) k119_0 (by decide) ?_
  refine o_istore (v := 0) (L' := [some (.ref 0), some (.ref 39), some (.int a0), some (.int a1), some (.int 0), none]) k119_1 rfl rfl ?_
  refine bd_i h (fun s11 hs11 h => ?_)
  refine lp_o (fun (s1 : Int32 × am_M) => match s1 with | (x2, M3) => ∀ (d4 : Option (Int32 ⊕ Int64)), oo LN xs 0 0 119 3 [some (.ref 0), some (.ref 39), some (.int a0), some (.int a1), some (.int x2), (d4.map dv)] [] M3 (none, t)) (fun (s11 : Int32 × am_M) => match s11 with | (x12, M13) => ∀ (d14 : Option (Int32 ⊕ Int64)), oo LN xs 0 0 119 59 [some (.ref 0), some (.ref 39), some (.int a0), some (.int a1), some (.int x12), (d14.map dv)] [] M13 (none, t)) ?_ hs11 ?_ none
  · rintro ⟨x2, M3⟩ ws1 h hK
    dsimp only at h
    show ∀ (d4 : Option (Int32 ⊕ Int64)), oo LN xs 0 0 119 3 [some (.ref 0), some (.ref 39), some (.int a0), some (.int a1), some (.int x2), (d4.map dv)] [] M3 (none, t)
    intro d4
    refine o_iload k119_3 rfl ?_
    refine o_iload_n k119_5 rfl ?_
    refine o_icmp_ge k119_6 (fun hc5 => ?_) (fun hc5 => ?_)
    · rw [if_pos hc5] at h
      have h9 := Option.some.inj h
      subst h9
      exact hK d4
    · rw [if_neg hc5] at h
      refine o_iload_n k119_9 rfl ?_
      refine o_iconst (v := 3) k119_10 (by decide) ?_
      refine o_iload k119_11 rfl ?_
      refine o_imul k119_13 ?_
      refine o_iadd k119_14 ?_
      refine o_istore (v := (a0 + ((3 : Int32) * x2))) (L' := [some (.ref 0), some (.ref 39), some (.int a0), some (.int a1), some (.int x2), some (.int (a0 + ((3 : Int32) * x2)))]) k119_15 rfl rfl ?_
      refine o_aload_n k119_17 rfl ?_
      refine o_gf k119_18 (gf_0_2 _) ?_
      refine o_gf k119_21 (gf_9_7 _) ?_
      refine o_aload_n k119_24 rfl ?_
      refine o_gf k119_25 (gf_39_2 _) ?_
      refine o_iload k119_28 rfl ?_
      obtain ⟨hc6, h⟩ := ck_i h
      refine o_iald k119_30 rfl ia_40 hc6 ?_
      refine o_aload_n k119_31 rfl ?_
      refine o_gf k119_32 (gf_39_2 _) ?_
      refine o_iload k119_35 rfl ?_
      refine o_iconst (v := 1) k119_37 (by decide) ?_
      refine o_iadd k119_38 ?_
      obtain ⟨hc7, h⟩ := ck_i h
      refine o_iald k119_39 rfl ia_40 hc7 ?_
      refine o_call k119_40 pj_5 (fun _ => rfl) (by decide) rfl (as := [.int (M3 40 (a0 + ((3 : Int32) * x2)).toNatClampNeg), .int (M3 40 ((a0 + ((3 : Int32) * x2)) + 1).toNatClampNeg)]) (rest := [.ref 10]) rfl (L0 := [some (.int (M3 40 (a0 + ((3 : Int32) * x2)).toNatClampNeg)), some (.int (M3 40 ((a0 + ((3 : Int32) * x2)) + 1).toNatClampNeg))]) rfl (t_X0_at (M := M3) (a0 := (M3 40 (a0 + ((3 : Int32) * x2)).toNatClampNeg)) (a1 := (M3 40 ((a0 + ((3 : Int32) * x2)) + 1).toNatClampNeg)) rfl) ?_
      refine o_aload_n k119_43 rfl ?_
      refine o_gf k119_44 (gf_39_2 _) ?_
      refine o_iload k119_47 rfl ?_
      refine o_iconst (v := 2) k119_49 (by decide) ?_
      refine o_iadd k119_50 ?_
      obtain ⟨hc8, h⟩ := ck_i h
      refine o_iald k119_51 rfl ia_40 hc8 ?_
      obtain ⟨hc9, h⟩ := ck_i h
      refine bl_i h (fun M10 eM10 h => ?_)
      refine o_iast (M' := M10) k119_52 eM10 ia_10 hc9 ?_
      refine o_iinc (k := 1) (L' := [some (.ref 0), some (.ref 39), some (.int a0), some (.int a1), some (.int (x2 + 1)), some (.int (a0 + ((3 : Int32) * x2)))]) k119_53 rfl (by decide) rfl ?_
      refine o_goto k119_56 ?_
      have h9 := Option.some.inj h
      subst h9
      exact hK (some (.inl (a0 + ((3 : Int32) * x2))))
  · obtain ⟨x12, M13⟩ := s11
    show ∀ (d14 : Option (Int32 ⊕ Int64)), oo LN xs 0 0 119 59 [some (.ref 0), some (.ref 39), some (.int a0), some (.int a1), some (.int x12), (d14.map dv)] [] M13 (none, t)
    dsimp only at h
    intro d14
    have h9 := Option.some.inj h
    subst h9
    exact o_vret pj_119 k119_59 rfl
def f_X7_takeTriples_0_41 (a0 : Int32) (a1 : Int32) (M : am_M) : Option am_M := ((lp (σ := Int32 × am_M) (ρ := Int32 × am_M) (fun (s1 : Int32 × am_M) => match s1 with | (x2, M3) => (if a1 ≤ x2 then (some (.inr (x2, M3))) else (if am_dbin (a0 + ((3 : Int32) * x2)) 40 = true then (if am_dbin ((a0 + ((3 : Int32) * x2)) + 1) 40 = true then (if am_dbin ((a0 + ((3 : Int32) * x2)) + 2) 40 = true then (if am_dbin (f_X0_at (M3 42 (a0 + ((3 : Int32) * x2)).toNatClampNeg) (M3 42 ((a0 + ((3 : Int32) * x2)) + 1).toNatClampNeg)) 64 = true then (bl (am_up M3 10 (f_X0_at (M3 42 (a0 + ((3 : Int32) * x2)).toNatClampNeg) (M3 42 ((a0 + ((3 : Int32) * x2)) + 1).toNatClampNeg)).toNatClampNeg (M3 42 ((a0 + ((3 : Int32) * x2)) + 2).toNatClampNeg)) (fun (M10 : am_M) => (some (.inl ((x2 + 1), M10))))) else none) else none) else none) else none))) lp_F (0, M)).bind (fun (s11 : Int32 × am_M) => match s11 with | (x12, M13) => (some M13)))
set_option maxRecDepth 20000 in
theorem t_X7_takeTriples_0_41 {LN : Nat} {xs : Nat → Int32} {a0 : Int32} {a1 : Int32} {M : am_M} {t : am_M} (h : f_X7_takeTriples_0_41 a0 a1 M = some t) : oo LN xs 0 0 119 0 [some (.ref 0), some (.ref 41), some (.int a0), some (.int a1), none, none] [] M (none, t) := by
  unfold f_X7_takeTriples_0_41 at h
  refine o_iconst (v := 0) k119_0 (by decide) ?_
  refine o_istore (v := 0) (L' := [some (.ref 0), some (.ref 41), some (.int a0), some (.int a1), some (.int 0), none]) k119_1 rfl rfl ?_
  refine bd_i h (fun s11 hs11 h => ?_)
  refine lp_o (fun (s1 : Int32 × am_M) => match s1 with | (x2, M3) => ∀ (d4 : Option (Int32 ⊕ Int64)), oo LN xs 0 0 119 3 [some (.ref 0), some (.ref 41), some (.int a0), some (.int a1), some (.int x2), (d4.map dv)] [] M3 (none, t)) (fun (s11 : Int32 × am_M) => match s11 with | (x12, M13) => ∀ (d14 : Option (Int32 ⊕ Int64)), oo LN xs 0 0 119 59 [some (.ref 0), some (.ref 41), some (.int a0), some (.int a1), some (.int x12), (d14.map dv)] [] M13 (none, t)) ?_ hs11 ?_ none
  · rintro ⟨x2, M3⟩ ws1 h hK
    dsimp only at h
    show ∀ (d4 : Option (Int32 ⊕ Int64)), oo LN xs 0 0 119 3 [some (.ref 0), some (.ref 41), some (.int a0), some (.int a1), some (.int x2), (d4.map dv)] [] M3 (none, t)
    intro d4
    refine o_iload k119_3 rfl ?_
    refine o_iload_n k119_5 rfl ?_
    refine o_icmp_ge k119_6 (fun hc5 => ?_) (fun hc5 => ?_)
    · rw [if_pos hc5] at h
      have h9 := Option.some.inj h
      subst h9
      exact hK d4
    · rw [if_neg hc5] at h
      refine o_iload_n k119_9 rfl ?_
      refine o_iconst (v := 3) k119_10 (by decide) ?_
      refine o_iload k119_11 rfl ?_
      refine o_imul k119_13 ?_
      refine o_iadd k119_14 ?_
      refine o_istore (v := (a0 + ((3 : Int32) * x2))) (L' := [some (.ref 0), some (.ref 41), some (.int a0), some (.int a1), some (.int x2), some (.int (a0 + ((3 : Int32) * x2)))]) k119_15 rfl rfl ?_
      refine o_aload_n k119_17 rfl ?_
      refine o_gf k119_18 (gf_0_2 _) ?_
      refine o_gf k119_21 (gf_9_7 _) ?_
      refine o_aload_n k119_24 rfl ?_
      refine o_gf k119_25 (gf_41_2 _) ?_
      refine o_iload k119_28 rfl ?_
      obtain ⟨hc6, h⟩ := ck_i h
      refine o_iald k119_30 rfl ia_42 hc6 ?_
      refine o_aload_n k119_31 rfl ?_
      refine o_gf k119_32 (gf_41_2 _) ?_
      refine o_iload k119_35 rfl ?_
      refine o_iconst (v := 1) k119_37 (by decide) ?_
      refine o_iadd k119_38 ?_
      obtain ⟨hc7, h⟩ := ck_i h
      refine o_iald k119_39 rfl ia_42 hc7 ?_
      refine o_call k119_40 pj_5 (fun _ => rfl) (by decide) rfl (as := [.int (M3 42 (a0 + ((3 : Int32) * x2)).toNatClampNeg), .int (M3 42 ((a0 + ((3 : Int32) * x2)) + 1).toNatClampNeg)]) (rest := [.ref 10]) rfl (L0 := [some (.int (M3 42 (a0 + ((3 : Int32) * x2)).toNatClampNeg)), some (.int (M3 42 ((a0 + ((3 : Int32) * x2)) + 1).toNatClampNeg))]) rfl (t_X0_at (M := M3) (a0 := (M3 42 (a0 + ((3 : Int32) * x2)).toNatClampNeg)) (a1 := (M3 42 ((a0 + ((3 : Int32) * x2)) + 1).toNatClampNeg)) rfl) ?_
      refine o_aload_n k119_43 rfl ?_
      refine o_gf k119_44 (gf_41_2 _) ?_
      refine o_iload k119_47 rfl ?_
      refine o_iconst (v := 2) k119_49 (by decide) ?_
      refine o_iadd k119_50 ?_
      obtain ⟨hc8, h⟩ := ck_i h
      refine o_iald k119_51 rfl ia_42 hc8 ?_
      obtain ⟨hc9, h⟩ := ck_i h
      refine bl_i h (fun M10 eM10 h => ?_)
      refine o_iast (M' := M10) k119_52 eM10 ia_10 hc9 ?_
      refine o_iinc (k := 1) (L' := [some (.ref 0), some (.ref 41), some (.int a0), some (.int a1), some (.int (x2 + 1)), some (.int (a0 + ((3 : Int32) * x2)))]) k119_53 rfl (by decide) rfl ?_
      refine o_goto k119_56 ?_
      have h9 := Option.some.inj h
      subst h9
      exact hK (some (.inl (a0 + ((3 : Int32) * x2))))
  · obtain ⟨x12, M13⟩ := s11
    show ∀ (d14 : Option (Int32 ⊕ Int64)), oo LN xs 0 0 119 59 [some (.ref 0), some (.ref 41), some (.int a0), some (.int a1), some (.int x12), (d14.map dv)] [] M13 (none, t)
    dsimp only at h
    intro d14
    have h9 := Option.some.inj h
    subst h9
    exact o_vret pj_119 k119_59 rfl
def f_X7_read_0 (a0 : Int32) (a1 : Int32) (a2 : Int32) (a3 : Int32) (M : am_M) : Option (Int32 × am_M) := (if (f_X7_isSheet a0) = 0 then (some ((-1), M)) else (if (f_X7_isLane a1) = 0 then (some ((-1), M)) else (if a3 < 0 then (some ((-1), M)) else (if a3 ≤ 13 then (if a0 = 0 then ((lp (σ := Int32 × Int32 × Int32) (ρ := (Int32 × am_M) ⊕ (Int32 × Int32 × Int32)) (fun (s5 : Int32 × Int32 × Int32) => match s5 with | (x6, x7, x8) => (if a3 ≤ x8 then (some (.inr (.inr (x6, x7, x8)))) else (if x7 = 0 then (if (f_X3_faultAt_35 a1 (a2 + ((3 : Int32) * x8)) 3 M) = 0 then (if am_dbin (a2 + ((3 : Int32) * x8)) 40 = true then (if am_dbin ((a2 + ((3 : Int32) * x8)) + 1) 40 = true then (if am_dbin ((a2 + ((3 : Int32) * x8)) + 2) 40 = true then (if (f_X0_takes_9 (M 36 (a2 + ((3 : Int32) * x8)).toNatClampNeg) (M 36 ((a2 + ((3 : Int32) * x8)) + 1).toNatClampNeg) (M 36 ((a2 + ((3 : Int32) * x8)) + 2).toNatClampNeg) M) = 0 then (some (.inr (.inl ((((-20) : Int32) - x8), M)))) else (some (.inl ((x6 + 1), (f_X3_faultAt_35 a1 (a2 + ((3 : Int32) * x8)) 3 M), (x8 + 1))))) else none) else none) else none) else (some (.inl (x6, (f_X3_faultAt_35 a1 (a2 + ((3 : Int32) * x8)) 3 M), (x8 + 1))))) else (some (.inr (.inr (x6, x7, x8))))))) lp_F (0, 0, 0)).bind (fun os17 => Sum.elim (fun u => (some u)) (fun (s17 : Int32 × Int32 × Int32) => match s17 with | (x18, x19, x20) => ((f_X7_takeTriples_0_35 a2 x18 M).bind (fun q22 => (bl (am_up q22 0 8 x19) (fun (M23 : am_M) => (some (x18, M23))))))) os17)) else (if a0 = 1 then ((lp (σ := Int32 × Int32 × Int32) (ρ := (Int32 × am_M) ⊕ (Int32 × Int32 × Int32)) (fun (s24 : Int32 × Int32 × Int32) => match s24 with | (x25, x26, x27) => (if a3 ≤ x27 then (some (.inr (.inr (x25, x26, x27)))) else (if x26 = 0 then (if (f_X3_faultAt_37 a1 (a2 + ((3 : Int32) * x27)) 3 M) = 0 then (if am_dbin (a2 + ((3 : Int32) * x27)) 40 = true then (if am_dbin ((a2 + ((3 : Int32) * x27)) + 1) 40 = true then (if am_dbin ((a2 + ((3 : Int32) * x27)) + 2) 40 = true then (if (f_X0_takes_9 (M 38 (a2 + ((3 : Int32) * x27)).toNatClampNeg) (M 38 ((a2 + ((3 : Int32) * x27)) + 1).toNatClampNeg) (M 38 ((a2 + ((3 : Int32) * x27)) + 2).toNatClampNeg) M) = 0 then (some (.inr (.inl ((((-20) : Int32) - x27), M)))) else (some (.inl ((x25 + 1), (f_X3_faultAt_37 a1 (a2 + ((3 : Int32) * x27)) 3 M), (x27 + 1))))) else none) else none) else none) else (some (.inl (x25, (f_X3_faultAt_37 a1 (a2 + ((3 : Int32) * x27)) 3 M), (x27 + 1))))) else (some (.inr (.inr (x25, x26, x27))))))) lp_F (0, 0, 0)).bind (fun os36 => Sum.elim (fun u => (some u)) (fun (s36 : Int32 × Int32 × Int32) => match s36 with | (x37, x38, x39) => ((f_X7_takeTriples_0_37 a2 x37 M).bind (fun q41 => (bl (am_up q41 0 8 x38) (fun (M42 : am_M) => (some (x37, M42))))))) os36)) else (if a0 = 2 then ((lp (σ := Int32 × Int32 × Int32) (ρ := (Int32 × am_M) ⊕ (Int32 × Int32 × Int32)) (fun (s43 : Int32 × Int32 × Int32) => match s43 with | (x44, x45, x46) => (if a3 ≤ x46 then (some (.inr (.inr (x44, x45, x46)))) else (if x45 = 0 then (if (f_X3_faultAt_39 a1 (a2 + ((3 : Int32) * x46)) 3 M) = 0 then (if am_dbin (a2 + ((3 : Int32) * x46)) 40 = true then (if am_dbin ((a2 + ((3 : Int32) * x46)) + 1) 40 = true then (if am_dbin ((a2 + ((3 : Int32) * x46)) + 2) 40 = true then (if (f_X0_takes_9 (M 40 (a2 + ((3 : Int32) * x46)).toNatClampNeg) (M 40 ((a2 + ((3 : Int32) * x46)) + 1).toNatClampNeg) (M 40 ((a2 + ((3 : Int32) * x46)) + 2).toNatClampNeg) M) = 0 then (some (.inr (.inl ((((-20) : Int32) - x46), M)))) else (some (.inl ((x44 + 1), (f_X3_faultAt_39 a1 (a2 + ((3 : Int32) * x46)) 3 M), (x46 + 1))))) else none) else none) else none) else (some (.inl (x44, (f_X3_faultAt_39 a1 (a2 + ((3 : Int32) * x46)) 3 M), (x46 + 1))))) else (some (.inr (.inr (x44, x45, x46))))))) lp_F (0, 0, 0)).bind (fun os55 => Sum.elim (fun u => (some u)) (fun (s55 : Int32 × Int32 × Int32) => match s55 with | (x56, x57, x58) => ((f_X7_takeTriples_0_39 a2 x56 M).bind (fun q60 => (bl (am_up q60 0 8 x57) (fun (M61 : am_M) => (some (x56, M61))))))) os55)) else (if a0 = 3 then ((lp (σ := Int32 × Int32 × Int32) (ρ := (Int32 × am_M) ⊕ (Int32 × Int32 × Int32)) (fun (s62 : Int32 × Int32 × Int32) => match s62 with | (x63, x64, x65) => (if a3 ≤ x65 then (some (.inr (.inr (x63, x64, x65)))) else (if x64 = 0 then (if (f_X3_faultAt_41 a1 (a2 + ((3 : Int32) * x65)) 3 M) = 0 then (if am_dbin (a2 + ((3 : Int32) * x65)) 40 = true then (if am_dbin ((a2 + ((3 : Int32) * x65)) + 1) 40 = true then (if am_dbin ((a2 + ((3 : Int32) * x65)) + 2) 40 = true then (if (f_X0_takes_9 (M 42 (a2 + ((3 : Int32) * x65)).toNatClampNeg) (M 42 ((a2 + ((3 : Int32) * x65)) + 1).toNatClampNeg) (M 42 ((a2 + ((3 : Int32) * x65)) + 2).toNatClampNeg) M) = 0 then (some (.inr (.inl ((((-20) : Int32) - x65), M)))) else (some (.inl ((x63 + 1), (f_X3_faultAt_41 a1 (a2 + ((3 : Int32) * x65)) 3 M), (x65 + 1))))) else none) else none) else none) else (some (.inl (x63, (f_X3_faultAt_41 a1 (a2 + ((3 : Int32) * x65)) 3 M), (x65 + 1))))) else (some (.inr (.inr (x63, x64, x65))))))) lp_F (0, 0, 0)).bind (fun os74 => Sum.elim (fun u => (some u)) (fun (s74 : Int32 × Int32 × Int32) => match s74 with | (x75, x76, x77) => ((f_X7_takeTriples_0_41 a2 x75 M).bind (fun q79 => (bl (am_up q79 0 8 x76) (fun (M80 : am_M) => (some (x75, M80))))))) os74)) else none)))) else (some ((-1), M))))))
set_option maxRecDepth 20000 in
theorem t_X7_read_0 {LN : Nat} {xs : Nat → Int32} {a0 : Int32} {a1 : Int32} {a2 : Int32} {a3 : Int32} {M : am_M} {t : Int32 × am_M} (h : f_X7_read_0 a0 a1 a2 a3 M = some t) : oo LN xs 0 0 116 0 [some (.ref 0), some (.int a0), some (.int a1), some (.int a2), some (.int a3), none, none, none, none, none] [] M (some (.int t.1), t.2) := by
  unfold f_X7_read_0 at h
  refine o_iload_n k116_0 rfl ?_
  refine o_call k116_1 pj_122 (fun _ => rfl) (by decide) rfl (as := [.int a0]) (rest := []) rfl (L0 := [some (.int a0)]) rfl (t_X7_isSheet (M := M) (a0 := a0) rfl) ?_
  refine o_if_eq k116_4 (fun hc1 => ?_) (fun hc1 => ?_)
  · rw [if_pos hc1] at h
    refine o_iconst (v := (-1)) k116_26 (by decide) ?_
    have h9 := Option.some.inj h
    subst h9
    exact o_iret pj_116 k116_27 rfl nr_i
  · rw [if_neg hc1] at h
    refine o_iload_n k116_7 rfl ?_
    refine o_call k116_8 pj_123 (fun _ => rfl) (by decide) rfl (as := [.int a1]) (rest := []) rfl (L0 := [some (.int a1)]) rfl (t_X7_isLane (M := M) (a0 := a1) rfl) ?_
    refine o_if_eq k116_11 (fun hc2 => ?_) (fun hc2 => ?_)
    · rw [if_pos hc2] at h
      refine o_iconst (v := (-1)) k116_26 (by decide) ?_
      have h9 := Option.some.inj h
      subst h9
      exact o_iret pj_116 k116_27 rfl nr_i
    · rw [if_neg hc2] at h
      refine o_iload k116_14 rfl ?_
      refine o_if_lt k116_16 (fun hc3 => ?_) (fun hc3 => ?_)
      · rw [if_pos hc3] at h
        refine o_iconst (v := (-1)) k116_26 (by decide) ?_
        have h9 := Option.some.inj h
        subst h9
        exact o_iret pj_116 k116_27 rfl nr_i
      · rw [if_neg hc3] at h
        refine o_iload k116_19 rfl ?_
        refine o_bipush (v := 13) k116_21 (by decide) ?_
        refine o_icmp_le k116_23 (fun hc4 => ?_) (fun hc4 => ?_)
        · rw [if_pos hc4] at h
          refine o_aload_n k116_28 rfl ?_
          refine o_gf k116_29 (gf_0_7 _) ?_
          refine o_iload_n k116_32 rfl ?_
          by_cases hX1 : a0 = 0
          · rw [if_pos hX1] at h
            refine o_aald (v := .ref 35) k116_33 (by rw [hX1]; exact aal_34_0) ?_
            refine o_astore (L' := [some (.ref 0), some (.int a0), some (.int a1), some (.int a2), some (.int a3), some (.ref 35), none, none, none, none]) k116_34 rfl rfl ?_
            refine o_iconst (v := 0) k116_36 (by decide) ?_
            refine o_istore (v := 0) (L' := [some (.ref 0), some (.int a0), some (.int a1), some (.int a2), some (.int a3), some (.ref 35), some (.int 0), none, none, none]) k116_37 rfl rfl ?_
            refine o_iconst (v := 0) k116_39 (by decide) ?_
            refine o_istore (v := 0) (L' := [some (.ref 0), some (.int a0), some (.int a1), some (.int a2), some (.int a3), some (.ref 35), some (.int 0), some (.int 0), none, none]) k116_40 rfl rfl ?_
            refine o_iconst (v := 0) k116_42 (by decide) ?_
            refine o_istore (v := 0) (L' := [some (.ref 0), some (.int a0), some (.int a1), some (.int a2), some (.int a3), some (.ref 35), some (.int 0), some (.int 0), some (.int 0), none]) k116_43 rfl rfl ?_
            refine bd_i h (fun Os17 hOs17 h => ?_)
            refine lp_o (fun (s5 : Int32 × Int32 × Int32) => match s5 with | (x6, x7, x8) => ∀ (d9 : Option (Int32 ⊕ Int64)), oo LN xs 0 0 116 45 [some (.ref 0), some (.int a0), some (.int a1), some (.int a2), some (.int a3), some (.ref 35), some (.int x6), some (.int x7), some (.int x8), (d9.map dv)] [] M (some (.int t.1), t.2)) (fun oq => Sum.elim (fun u => u = t) (fun (s17 : Int32 × Int32 × Int32) => match s17 with | (x18, x19, x20) => ∀ (d21 : Option (Int32 ⊕ Int64)), oo LN xs 0 0 116 134 [some (.ref 0), some (.int a0), some (.int a1), some (.int a2), some (.int a3), some (.ref 35), some (.int x18), some (.int x19), some (.int x20), (d21.map dv)] [] M (some (.int t.1), t.2)) oq) ?_ hOs17 ?_ none
            · rintro ⟨x6, x7, x8⟩ ws5 h hK
              dsimp only at h
              show ∀ (d9 : Option (Int32 ⊕ Int64)), oo LN xs 0 0 116 45 [some (.ref 0), some (.int a0), some (.int a1), some (.int a2), some (.int a3), some (.ref 35), some (.int x6), some (.int x7), some (.int x8), (d9.map dv)] [] M (some (.int t.1), t.2)
              intro d9
              refine o_iload k116_45 rfl ?_
              refine o_iload k116_47 rfl ?_
              refine o_icmp_ge k116_49 (fun hc10 => ?_) (fun hc10 => ?_)
              · rw [if_pos hc10] at h
                have h9 := Option.some.inj h
                subst h9
                exact hK d9
              · rw [if_neg hc10] at h
                refine o_iload k116_52 rfl ?_
                refine o_if_ne k116_54 (fun hc11 => ?_) (fun hc11 => ?_)
                · rw [if_neg hc11] at h
                  have h9 := Option.some.inj h
                  subst h9
                  exact hK d9
                · rw [if_pos hc11] at h
                  refine o_iload_n k116_57 rfl ?_
                  refine o_iconst (v := 3) k116_58 (by decide) ?_
                  refine o_iload k116_59 rfl ?_
                  refine o_imul k116_61 ?_
                  refine o_iadd k116_62 ?_
                  refine o_istore (v := (a2 + ((3 : Int32) * x8))) (L' := [some (.ref 0), some (.int a0), some (.int a1), some (.int a2), some (.int a3), some (.ref 35), some (.int x6), some (.int x7), some (.int x8), some (.int (a2 + ((3 : Int32) * x8)))]) k116_63 rfl rfl ?_
                  refine o_aload k116_65 rfl ?_
                  refine o_iload_n k116_67 rfl ?_
                  refine o_iload k116_68 rfl ?_
                  refine o_iconst (v := 3) k116_70 (by decide) ?_
                  refine o_call k116_71 pj_47 (fun _ => rfl) (by decide) rfl (as := [.ref 35, .int a1, .int (a2 + ((3 : Int32) * x8)), .int 3]) (rest := []) rfl (L0 := [some (.ref 35), some (.int a1), some (.int (a2 + ((3 : Int32) * x8))), some (.int 3)]) rfl (t_X3_faultAt_35 (M := M) (a0 := a1) (a1 := (a2 + ((3 : Int32) * x8))) (a2 := 3) rfl) ?_
                  refine o_istore (v := (f_X3_faultAt_35 a1 (a2 + ((3 : Int32) * x8)) 3 M)) (L' := [some (.ref 0), some (.int a0), some (.int a1), some (.int a2), some (.int a3), some (.ref 35), some (.int x6), some (.int (f_X3_faultAt_35 a1 (a2 + ((3 : Int32) * x8)) 3 M)), some (.int x8), some (.int (a2 + ((3 : Int32) * x8)))]) k116_74 rfl rfl ?_
                  refine o_iload k116_76 rfl ?_
                  refine o_if_ne k116_78 (fun hc12 => ?_) (fun hc12 => ?_)
                  · rw [if_neg hc12] at h
                    refine o_iinc (k := 1) (L' := [some (.ref 0), some (.int a0), some (.int a1), some (.int a2), some (.int a3), some (.ref 35), some (.int x6), some (.int (f_X3_faultAt_35 a1 (a2 + ((3 : Int32) * x8)) 3 M)), some (.int (x8 + 1)), some (.int (a2 + ((3 : Int32) * x8)))]) k116_128 rfl (by decide) rfl ?_
                    refine o_goto k116_131 ?_
                    have h9 := Option.some.inj h
                    subst h9
                    exact hK (some (.inl (a2 + ((3 : Int32) * x8))))
                  · rw [if_pos hc12] at h
                    refine o_aload_n k116_81 rfl ?_
                    refine o_gf k116_82 (gf_0_2 _) ?_
                    refine o_aload k116_85 rfl ?_
                    refine o_gf k116_87 (gf_35_2 _) ?_
                    refine o_iload k116_90 rfl ?_
                    obtain ⟨hc13, h⟩ := ck_i h
                    refine o_iald k116_92 rfl ia_36 hc13 ?_
                    refine o_aload k116_93 rfl ?_
                    refine o_gf k116_95 (gf_35_2 _) ?_
                    refine o_iload k116_98 rfl ?_
                    refine o_iconst (v := 1) k116_100 (by decide) ?_
                    refine o_iadd k116_101 ?_
                    obtain ⟨hc14, h⟩ := ck_i h
                    refine o_iald k116_102 rfl ia_36 hc14 ?_
                    refine o_aload k116_103 rfl ?_
                    refine o_gf k116_105 (gf_35_2 _) ?_
                    refine o_iload k116_108 rfl ?_
                    refine o_iconst (v := 2) k116_110 (by decide) ?_
                    refine o_iadd k116_111 ?_
                    obtain ⟨hc15, h⟩ := ck_i h
                    refine o_iald k116_112 rfl ia_36 hc15 ?_
                    refine o_call k116_113 pj_9 (fun _ => rfl) (by decide) rfl (as := [.ref 9, .int (M 36 (a2 + ((3 : Int32) * x8)).toNatClampNeg), .int (M 36 ((a2 + ((3 : Int32) * x8)) + 1).toNatClampNeg), .int (M 36 ((a2 + ((3 : Int32) * x8)) + 2).toNatClampNeg)]) (rest := []) rfl (L0 := [some (.ref 9), some (.int (M 36 (a2 + ((3 : Int32) * x8)).toNatClampNeg)), some (.int (M 36 ((a2 + ((3 : Int32) * x8)) + 1).toNatClampNeg)), some (.int (M 36 ((a2 + ((3 : Int32) * x8)) + 2).toNatClampNeg))]) rfl (t_X0_takes_9 (M := M) (a0 := (M 36 (a2 + ((3 : Int32) * x8)).toNatClampNeg)) (a1 := (M 36 ((a2 + ((3 : Int32) * x8)) + 1).toNatClampNeg)) (a2 := (M 36 ((a2 + ((3 : Int32) * x8)) + 2).toNatClampNeg)) rfl) ?_
                    refine o_if_ne k116_116 (fun hc16 => ?_) (fun hc16 => ?_)
                    · rw [if_neg hc16] at h
                      refine o_iinc (k := 1) (L' := [some (.ref 0), some (.int a0), some (.int a1), some (.int a2), some (.int a3), some (.ref 35), some (.int (x6 + 1)), some (.int (f_X3_faultAt_35 a1 (a2 + ((3 : Int32) * x8)) 3 M)), some (.int x8), some (.int (a2 + ((3 : Int32) * x8)))]) k116_125 rfl (by decide) rfl ?_
                      refine o_iinc (k := 1) (L' := [some (.ref 0), some (.int a0), some (.int a1), some (.int a2), some (.int a3), some (.ref 35), some (.int (x6 + 1)), some (.int (f_X3_faultAt_35 a1 (a2 + ((3 : Int32) * x8)) 3 M)), some (.int (x8 + 1)), some (.int (a2 + ((3 : Int32) * x8)))]) k116_128 rfl (by decide) rfl ?_
                      refine o_goto k116_131 ?_
                      have h9 := Option.some.inj h
                      subst h9
                      exact hK (some (.inl (a2 + ((3 : Int32) * x8))))
                    · rw [if_pos hc16] at h
                      refine o_bipush (v := (-20)) k116_119 (by decide) ?_
                      refine o_iload k116_121 rfl ?_
                      refine o_isub k116_123 ?_
                      have h9 := Option.some.inj h
                      subst h9
                      have hK2 : ((((-20) : Int32) - x8), M) = t := hK
                      subst hK2
                      exact o_iret pj_116 k116_124 rfl nr_i
            · rcases Os17 with u | ⟨x18, x19, x20⟩
              · exact Option.some.inj h
              · show ∀ (d21 : Option (Int32 ⊕ Int64)), oo LN xs 0 0 116 134 [some (.ref 0), some (.int a0), some (.int a1), some (.int a2), some (.int a3), some (.ref 35), some (.int x18), some (.int x19), some (.int x20), (d21.map dv)] [] M (some (.int t.1), t.2)
                rw [el_r] at h
                dsimp only at h
                intro d21
                refine o_aload_n k116_134 rfl ?_
                refine o_aload k116_135 rfl ?_
                refine o_iload_n k116_137 rfl ?_
                refine o_iload k116_138 rfl ?_
                refine bd_i h (fun q22 hq22 h => ?_)
                refine o_call k116_140 pj_119 (fun _ => rfl) (by decide) (by rcases d21 with _ | (x | x) <;> rfl) (as := [.ref 0, .ref 35, .int a2, .int x18]) (rest := []) rfl (L0 := [some (.ref 0), some (.ref 35), some (.int a2), some (.int x18), none, none]) rfl (t_X7_takeTriples_0_35 hq22) ?_
                refine o_aload_n k116_143 rfl ?_
                refine o_iload k116_144 rfl ?_
                refine bl_i h (fun M23 eM23 h => ?_)
                refine o_pf (M' := M23) k116_146 (pf_0_8 eM23) ?_
                refine o_iload k116_149 rfl ?_
                have h9 := Option.some.inj h
                subst h9
                exact o_iret pj_116 k116_151 rfl nr_i
          rw [if_neg hX1] at h
          by_cases hX2 : a0 = 1
          · rw [if_pos hX2] at h
            refine o_aald (v := .ref 37) k116_33 (by rw [hX2]; exact aal_34_1) ?_
            refine o_astore (L' := [some (.ref 0), some (.int a0), some (.int a1), some (.int a2), some (.int a3), some (.ref 37), none, none, none, none]) k116_34 rfl rfl ?_
            refine o_iconst (v := 0) k116_36 (by decide) ?_
            refine o_istore (v := 0) (L' := [some (.ref 0), some (.int a0), some (.int a1), some (.int a2), some (.int a3), some (.ref 37), some (.int 0), none, none, none]) k116_37 rfl rfl ?_
            refine o_iconst (v := 0) k116_39 (by decide) ?_
            refine o_istore (v := 0) (L' := [some (.ref 0), some (.int a0), some (.int a1), some (.int a2), some (.int a3), some (.ref 37), some (.int 0), some (.int 0), none, none]) k116_40 rfl rfl ?_
            refine o_iconst (v := 0) k116_42 (by decide) ?_
            refine o_istore (v := 0) (L' := [some (.ref 0), some (.int a0), some (.int a1), some (.int a2), some (.int a3), some (.ref 37), some (.int 0), some (.int 0), some (.int 0), none]) k116_43 rfl rfl ?_
            refine bd_i h (fun Os36 hOs36 h => ?_)
            refine lp_o (fun (s24 : Int32 × Int32 × Int32) => match s24 with | (x25, x26, x27) => ∀ (d28 : Option (Int32 ⊕ Int64)), oo LN xs 0 0 116 45 [some (.ref 0), some (.int a0), some (.int a1), some (.int a2), some (.int a3), some (.ref 37), some (.int x25), some (.int x26), some (.int x27), (d28.map dv)] [] M (some (.int t.1), t.2)) (fun oq => Sum.elim (fun u => u = t) (fun (s36 : Int32 × Int32 × Int32) => match s36 with | (x37, x38, x39) => ∀ (d40 : Option (Int32 ⊕ Int64)), oo LN xs 0 0 116 134 [some (.ref 0), some (.int a0), some (.int a1), some (.int a2), some (.int a3), some (.ref 37), some (.int x37), some (.int x38), some (.int x39), (d40.map dv)] [] M (some (.int t.1), t.2)) oq) ?_ hOs36 ?_ none
            · rintro ⟨x25, x26, x27⟩ ws24 h hK
              dsimp only at h
              show ∀ (d28 : Option (Int32 ⊕ Int64)), oo LN xs 0 0 116 45 [some (.ref 0), some (.int a0), some (.int a1), some (.int a2), some (.int a3), some (.ref 37), some (.int x25), some (.int x26), some (.int x27), (d28.map dv)] [] M (some (.int t.1), t.2)
              intro d28
              refine o_iload k116_45 rfl ?_
              refine o_iload k116_47 rfl ?_
              refine o_icmp_ge k116_49 (fun hc29 => ?_) (fun hc29 => ?_)
              · rw [if_pos hc29] at h
                have h9 := Option.some.inj h
                subst h9
                exact hK d28
              · rw [if_neg hc29] at h
                refine o_iload k116_52 rfl ?_
                refine o_if_ne k116_54 (fun hc30 => ?_) (fun hc30 => ?_)
                · rw [if_neg hc30] at h
                  have h9 := Option.some.inj h
                  subst h9
                  exact hK d28
                · rw [if_pos hc30] at h
                  refine o_iload_n k116_57 rfl ?_
                  refine o_iconst (v := 3) k116_58 (by decide) ?_
                  refine o_iload k116_59 rfl ?_
                  refine o_imul k116_61 ?_
                  refine o_iadd k116_62 ?_
                  refine o_istore (v := (a2 + ((3 : Int32) * x27))) (L' := [some (.ref 0), some (.int a0), some (.int a1), some (.int a2), some (.int a3), some (.ref 37), some (.int x25), some (.int x26), some (.int x27), some (.int (a2 + ((3 : Int32) * x27)))]) k116_63 rfl rfl ?_
                  refine o_aload k116_65 rfl ?_
                  refine o_iload_n k116_67 rfl ?_
                  refine o_iload k116_68 rfl ?_
                  refine o_iconst (v := 3) k116_70 (by decide) ?_
                  refine o_call k116_71 pj_47 (fun _ => rfl) (by decide) rfl (as := [.ref 37, .int a1, .int (a2 + ((3 : Int32) * x27)), .int 3]) (rest := []) rfl (L0 := [some (.ref 37), some (.int a1), some (.int (a2 + ((3 : Int32) * x27))), some (.int 3)]) rfl (t_X3_faultAt_37 (M := M) (a0 := a1) (a1 := (a2 + ((3 : Int32) * x27))) (a2 := 3) rfl) ?_
                  refine o_istore (v := (f_X3_faultAt_37 a1 (a2 + ((3 : Int32) * x27)) 3 M)) (L' := [some (.ref 0), some (.int a0), some (.int a1), some (.int a2), some (.int a3), some (.ref 37), some (.int x25), some (.int (f_X3_faultAt_37 a1 (a2 + ((3 : Int32) * x27)) 3 M)), some (.int x27), some (.int (a2 + ((3 : Int32) * x27)))]) k116_74 rfl rfl ?_
                  refine o_iload k116_76 rfl ?_
                  refine o_if_ne k116_78 (fun hc31 => ?_) (fun hc31 => ?_)
                  · rw [if_neg hc31] at h
                    refine o_iinc (k := 1) (L' := [some (.ref 0), some (.int a0), some (.int a1), some (.int a2), some (.int a3), some (.ref 37), some (.int x25), some (.int (f_X3_faultAt_37 a1 (a2 + ((3 : Int32) * x27)) 3 M)), some (.int (x27 + 1)), some (.int (a2 + ((3 : Int32) * x27)))]) k116_128 rfl (by decide) rfl ?_
                    refine o_goto k116_131 ?_
                    have h9 := Option.some.inj h
                    subst h9
                    exact hK (some (.inl (a2 + ((3 : Int32) * x27))))
                  · rw [if_pos hc31] at h
                    refine o_aload_n k116_81 rfl ?_
                    refine o_gf k116_82 (gf_0_2 _) ?_
                    refine o_aload k116_85 rfl ?_
                    refine o_gf k116_87 (gf_37_2 _) ?_
                    refine o_iload k116_90 rfl ?_
                    obtain ⟨hc32, h⟩ := ck_i h
                    refine o_iald k116_92 rfl ia_38 hc32 ?_
                    refine o_aload k116_93 rfl ?_
                    refine o_gf k116_95 (gf_37_2 _) ?_
                    refine o_iload k116_98 rfl ?_
                    refine o_iconst (v := 1) k116_100 (by decide) ?_
                    refine o_iadd k116_101 ?_
                    obtain ⟨hc33, h⟩ := ck_i h
                    refine o_iald k116_102 rfl ia_38 hc33 ?_
                    refine o_aload k116_103 rfl ?_
                    refine o_gf k116_105 (gf_37_2 _) ?_
                    refine o_iload k116_108 rfl ?_
                    refine o_iconst (v := 2) k116_110 (by decide) ?_
                    refine o_iadd k116_111 ?_
                    obtain ⟨hc34, h⟩ := ck_i h
                    refine o_iald k116_112 rfl ia_38 hc34 ?_
                    refine o_call k116_113 pj_9 (fun _ => rfl) (by decide) rfl (as := [.ref 9, .int (M 38 (a2 + ((3 : Int32) * x27)).toNatClampNeg), .int (M 38 ((a2 + ((3 : Int32) * x27)) + 1).toNatClampNeg), .int (M 38 ((a2 + ((3 : Int32) * x27)) + 2).toNatClampNeg)]) (rest := []) rfl (L0 := [some (.ref 9), some (.int (M 38 (a2 + ((3 : Int32) * x27)).toNatClampNeg)), some (.int (M 38 ((a2 + ((3 : Int32) * x27)) + 1).toNatClampNeg)), some (.int (M 38 ((a2 + ((3 : Int32) * x27)) + 2).toNatClampNeg))]) rfl (t_X0_takes_9 (M := M) (a0 := (M 38 (a2 + ((3 : Int32) * x27)).toNatClampNeg)) (a1 := (M 38 ((a2 + ((3 : Int32) * x27)) + 1).toNatClampNeg)) (a2 := (M 38 ((a2 + ((3 : Int32) * x27)) + 2).toNatClampNeg)) rfl) ?_
                    refine o_if_ne k116_116 (fun hc35 => ?_) (fun hc35 => ?_)
                    · rw [if_neg hc35] at h
                      refine o_iinc (k := 1) (L' := [some (.ref 0), some (.int a0), some (.int a1), some (.int a2), some (.int a3), some (.ref 37), some (.int (x25 + 1)), some (.int (f_X3_faultAt_37 a1 (a2 + ((3 : Int32) * x27)) 3 M)), some (.int x27), some (.int (a2 + ((3 : Int32) * x27)))]) k116_125 rfl (by decide) rfl ?_
                      refine o_iinc (k := 1) (L' := [some (.ref 0), some (.int a0), some (.int a1), some (.int a2), some (.int a3), some (.ref 37), some (.int (x25 + 1)), some (.int (f_X3_faultAt_37 a1 (a2 + ((3 : Int32) * x27)) 3 M)), some (.int (x27 + 1)), some (.int (a2 + ((3 : Int32) * x27)))]) k116_128 rfl (by decide) rfl ?_
                      refine o_goto k116_131 ?_
                      have h9 := Option.some.inj h
                      subst h9
                      exact hK (some (.inl (a2 + ((3 : Int32) * x27))))
                    · rw [if_pos hc35] at h
                      refine o_bipush (v := (-20)) k116_119 (by decide) ?_
                      refine o_iload k116_121 rfl ?_
                      refine o_isub k116_123 ?_
                      have h9 := Option.some.inj h
                      subst h9
                      have hK2 : ((((-20) : Int32) - x27), M) = t := hK
                      subst hK2
                      exact o_iret pj_116 k116_124 rfl nr_i
            · rcases Os36 with u | ⟨x37, x38, x39⟩
              · exact Option.some.inj h
              · show ∀ (d40 : Option (Int32 ⊕ Int64)), oo LN xs 0 0 116 134 [some (.ref 0), some (.int a0), some (.int a1), some (.int a2), some (.int a3), some (.ref 37), some (.int x37), some (.int x38), some (.int x39), (d40.map dv)] [] M (some (.int t.1), t.2)
                rw [el_r] at h
                dsimp only at h
                intro d40
                refine o_aload_n k116_134 rfl ?_
                refine o_aload k116_135 rfl ?_
                refine o_iload_n k116_137 rfl ?_
                refine o_iload k116_138 rfl ?_
                refine bd_i h (fun q41 hq41 h => ?_)
                refine o_call k116_140 pj_119 (fun _ => rfl) (by decide) (by rcases d40 with _ | (x | x) <;> rfl) (as := [.ref 0, .ref 37, .int a2, .int x37]) (rest := []) rfl (L0 := [some (.ref 0), some (.ref 37), some (.int a2), some (.int x37), none, none]) rfl (t_X7_takeTriples_0_37 hq41) ?_
                refine o_aload_n k116_143 rfl ?_
                refine o_iload k116_144 rfl ?_
                refine bl_i h (fun M42 eM42 h => ?_)
                refine o_pf (M' := M42) k116_146 (pf_0_8 eM42) ?_
                refine o_iload k116_149 rfl ?_
                have h9 := Option.some.inj h
                subst h9
                exact o_iret pj_116 k116_151 rfl nr_i
          rw [if_neg hX2] at h
          by_cases hX3 : a0 = 2
          · rw [if_pos hX3] at h
            refine o_aald (v := .ref 39) k116_33 (by rw [hX3]; exact aal_34_2) ?_
            refine o_astore (L' := [some (.ref 0), some (.int a0), some (.int a1), some (.int a2), some (.int a3), some (.ref 39), none, none, none, none]) k116_34 rfl rfl ?_
            refine o_iconst (v := 0) k116_36 (by decide) ?_
            refine o_istore (v := 0) (L' := [some (.ref 0), some (.int a0), some (.int a1), some (.int a2), some (.int a3), some (.ref 39), some (.int 0), none, none, none]) k116_37 rfl rfl ?_
            refine o_iconst (v := 0) k116_39 (by decide) ?_
            refine o_istore (v := 0) (L' := [some (.ref 0), some (.int a0), some (.int a1), some (.int a2), some (.int a3), some (.ref 39), some (.int 0), some (.int 0), none, none]) k116_40 rfl rfl ?_
            refine o_iconst (v := 0) k116_42 (by decide) ?_
            refine o_istore (v := 0) (L' := [some (.ref 0), some (.int a0), some (.int a1), some (.int a2), some (.int a3), some (.ref 39), some (.int 0), some (.int 0), some (.int 0), none]) k116_43 rfl rfl ?_
            refine bd_i h (fun Os55 hOs55 h => ?_)
            refine lp_o (fun (s43 : Int32 × Int32 × Int32) => match s43 with | (x44, x45, x46) => ∀ (d47 : Option (Int32 ⊕ Int64)), oo LN xs 0 0 116 45 [some (.ref 0), some (.int a0), some (.int a1), some (.int a2), some (.int a3), some (.ref 39), some (.int x44), some (.int x45), some (.int x46), (d47.map dv)] [] M (some (.int t.1), t.2)) (fun oq => Sum.elim (fun u => u = t) (fun (s55 : Int32 × Int32 × Int32) => match s55 with | (x56, x57, x58) => ∀ (d59 : Option (Int32 ⊕ Int64)), oo LN xs 0 0 116 134 [some (.ref 0), some (.int a0), some (.int a1), some (.int a2), some (.int a3), some (.ref 39), some (.int x56), some (.int x57), some (.int x58), (d59.map dv)] [] M (some (.int t.1), t.2)) oq) ?_ hOs55 ?_ none
            · rintro ⟨x44, x45, x46⟩ ws43 h hK
              dsimp only at h
              show ∀ (d47 : Option (Int32 ⊕ Int64)), oo LN xs 0 0 116 45 [some (.ref 0), some (.int a0), some (.int a1), some (.int a2), some (.int a3), some (.ref 39), some (.int x44), some (.int x45), some (.int x46), (d47.map dv)] [] M (some (.int t.1), t.2)
              intro d47
              refine o_iload k116_45 rfl ?_
              refine o_iload k116_47 rfl ?_
              refine o_icmp_ge k116_49 (fun hc48 => ?_) (fun hc48 => ?_)
              · rw [if_pos hc48] at h
                have h9 := Option.some.inj h
                subst h9
                exact hK d47
              · rw [if_neg hc48] at h
                refine o_iload k116_52 rfl ?_
                refine o_if_ne k116_54 (fun hc49 => ?_) (fun hc49 => ?_)
                · rw [if_neg hc49] at h
                  have h9 := Option.some.inj h
                  subst h9
                  exact hK d47
                · rw [if_pos hc49] at h
                  refine o_iload_n k116_57 rfl ?_
                  refine o_iconst (v := 3) k116_58 (by decide) ?_
                  refine o_iload k116_59 rfl ?_
                  refine o_imul k116_61 ?_
                  refine o_iadd k116_62 ?_
                  refine o_istore (v := (a2 + ((3 : Int32) * x46))) (L' := [some (.ref 0), some (.int a0), some (.int a1), some (.int a2), some (.int a3), some (.ref 39), some (.int x44), some (.int x45), some (.int x46), some (.int (a2 + ((3 : Int32) * x46)))]) k116_63 rfl rfl ?_
                  refine o_aload k116_65 rfl ?_
                  refine o_iload_n k116_67 rfl ?_
                  refine o_iload k116_68 rfl ?_
                  refine o_iconst (v := 3) k116_70 (by decide) ?_
                  refine o_call k116_71 pj_47 (fun _ => rfl) (by decide) rfl (as := [.ref 39, .int a1, .int (a2 + ((3 : Int32) * x46)), .int 3]) (rest := []) rfl (L0 := [some (.ref 39), some (.int a1), some (.int (a2 + ((3 : Int32) * x46))), some (.int 3)]) rfl (t_X3_faultAt_39 (M := M) (a0 := a1) (a1 := (a2 + ((3 : Int32) * x46))) (a2 := 3) rfl) ?_
                  refine o_istore (v := (f_X3_faultAt_39 a1 (a2 + ((3 : Int32) * x46)) 3 M)) (L' := [some (.ref 0), some (.int a0), some (.int a1), some (.int a2), some (.int a3), some (.ref 39), some (.int x44), some (.int (f_X3_faultAt_39 a1 (a2 + ((3 : Int32) * x46)) 3 M)), some (.int x46), some (.int (a2 + ((3 : Int32) * x46)))]) k116_74 rfl rfl ?_
                  refine o_iload k116_76 rfl ?_
                  refine o_if_ne k116_78 (fun hc50 => ?_) (fun hc50 => ?_)
                  · rw [if_neg hc50] at h
                    refine o_iinc (k := 1) (L' := [some (.ref 0), some (.int a0), some (.int a1), some (.int a2), some (.int a3), some (.ref 39), some (.int x44), some (.int (f_X3_faultAt_39 a1 (a2 + ((3 : Int32) * x46)) 3 M)), some (.int (x46 + 1)), some (.int (a2 + ((3 : Int32) * x46)))]) k116_128 rfl (by decide) rfl ?_
                    refine o_goto k116_131 ?_
                    have h9 := Option.some.inj h
                    subst h9
                    exact hK (some (.inl (a2 + ((3 : Int32) * x46))))
                  · rw [if_pos hc50] at h
                    refine o_aload_n k116_81 rfl ?_
                    refine o_gf k116_82 (gf_0_2 _) ?_
                    refine o_aload k116_85 rfl ?_
                    refine o_gf k116_87 (gf_39_2 _) ?_
                    refine o_iload k116_90 rfl ?_
                    obtain ⟨hc51, h⟩ := ck_i h
                    refine o_iald k116_92 rfl ia_40 hc51 ?_
                    refine o_aload k116_93 rfl ?_
                    refine o_gf k116_95 (gf_39_2 _) ?_
                    refine o_iload k116_98 rfl ?_
                    refine o_iconst (v := 1) k116_100 (by decide) ?_
                    refine o_iadd k116_101 ?_
                    obtain ⟨hc52, h⟩ := ck_i h
                    refine o_iald k116_102 rfl ia_40 hc52 ?_
                    refine o_aload k116_103 rfl ?_
                    refine o_gf k116_105 (gf_39_2 _) ?_
                    refine o_iload k116_108 rfl ?_
                    refine o_iconst (v := 2) k116_110 (by decide) ?_
                    refine o_iadd k116_111 ?_
                    obtain ⟨hc53, h⟩ := ck_i h
                    refine o_iald k116_112 rfl ia_40 hc53 ?_
                    refine o_call k116_113 pj_9 (fun _ => rfl) (by decide) rfl (as := [.ref 9, .int (M 40 (a2 + ((3 : Int32) * x46)).toNatClampNeg), .int (M 40 ((a2 + ((3 : Int32) * x46)) + 1).toNatClampNeg), .int (M 40 ((a2 + ((3 : Int32) * x46)) + 2).toNatClampNeg)]) (rest := []) rfl (L0 := [some (.ref 9), some (.int (M 40 (a2 + ((3 : Int32) * x46)).toNatClampNeg)), some (.int (M 40 ((a2 + ((3 : Int32) * x46)) + 1).toNatClampNeg)), some (.int (M 40 ((a2 + ((3 : Int32) * x46)) + 2).toNatClampNeg))]) rfl (t_X0_takes_9 (M := M) (a0 := (M 40 (a2 + ((3 : Int32) * x46)).toNatClampNeg)) (a1 := (M 40 ((a2 + ((3 : Int32) * x46)) + 1).toNatClampNeg)) (a2 := (M 40 ((a2 + ((3 : Int32) * x46)) + 2).toNatClampNeg)) rfl) ?_
                    refine o_if_ne k116_116 (fun hc54 => ?_) (fun hc54 => ?_)
                    · rw [if_neg hc54] at h
                      refine o_iinc (k := 1) (L' := [some (.ref 0), some (.int a0), some (.int a1), some (.int a2), some (.int a3), some (.ref 39), some (.int (x44 + 1)), some (.int (f_X3_faultAt_39 a1 (a2 + ((3 : Int32) * x46)) 3 M)), some (.int x46), some (.int (a2 + ((3 : Int32) * x46)))]) k116_125 rfl (by decide) rfl ?_
                      refine o_iinc (k := 1) (L' := [some (.ref 0), some (.int a0), some (.int a1), some (.int a2), some (.int a3), some (.ref 39), some (.int (x44 + 1)), some (.int (f_X3_faultAt_39 a1 (a2 + ((3 : Int32) * x46)) 3 M)), some (.int (x46 + 1)), some (.int (a2 + ((3 : Int32) * x46)))]) k116_128 rfl (by decide) rfl ?_
                      refine o_goto k116_131 ?_
                      have h9 := Option.some.inj h
                      subst h9
                      exact hK (some (.inl (a2 + ((3 : Int32) * x46))))
                    · rw [if_pos hc54] at h
                      refine o_bipush (v := (-20)) k116_119 (by decide) ?_
                      refine o_iload k116_121 rfl ?_
                      refine o_isub k116_123 ?_
                      have h9 := Option.some.inj h
                      subst h9
                      have hK2 : ((((-20) : Int32) - x46), M) = t := hK
                      subst hK2
                      exact o_iret pj_116 k116_124 rfl nr_i
            · rcases Os55 with u | ⟨x56, x57, x58⟩
              · exact Option.some.inj h
              · show ∀ (d59 : Option (Int32 ⊕ Int64)), oo LN xs 0 0 116 134 [some (.ref 0), some (.int a0), some (.int a1), some (.int a2), some (.int a3), some (.ref 39), some (.int x56), some (.int x57), some (.int x58), (d59.map dv)] [] M (some (.int t.1), t.2)
                rw [el_r] at h
                dsimp only at h
                intro d59
                refine o_aload_n k116_134 rfl ?_
                refine o_aload k116_135 rfl ?_
                refine o_iload_n k116_137 rfl ?_
                refine o_iload k116_138 rfl ?_
                refine bd_i h (fun q60 hq60 h => ?_)
                refine o_call k116_140 pj_119 (fun _ => rfl) (by decide) (by rcases d59 with _ | (x | x) <;> rfl) (as := [.ref 0, .ref 39, .int a2, .int x56]) (rest := []) rfl (L0 := [some (.ref 0), some (.ref 39), some (.int a2), some (.int x56), none, none]) rfl (t_X7_takeTriples_0_39 hq60) ?_
                refine o_aload_n k116_143 rfl ?_
                refine o_iload k116_144 rfl ?_
                refine bl_i h (fun M61 eM61 h => ?_)
                refine o_pf (M' := M61) k116_146 (pf_0_8 eM61) ?_
                refine o_iload k116_149 rfl ?_
                have h9 := Option.some.inj h
                subst h9
                exact o_iret pj_116 k116_151 rfl nr_i
          rw [if_neg hX3] at h
          by_cases hX4 : a0 = 3
          · rw [if_pos hX4] at h
            refine o_aald (v := .ref 41) k116_33 (by rw [hX4]; exact aal_34_3) ?_
            refine o_astore (L' := [some (.ref 0), some (.int a0), some (.int a1), some (.int a2), some (.int a3), some (.ref 41), none, none, none, none]) k116_34 rfl rfl ?_
            refine o_iconst (v := 0) k116_36 (by decide) ?_
            refine o_istore (v := 0) (L' := [some (.ref 0), some (.int a0), some (.int a1), some (.int a2), some (.int a3), some (.ref 41), some (.int 0), none, none, none]) k116_37 rfl rfl ?_
            refine o_iconst (v := 0) k116_39 (by decide) ?_
            refine o_istore (v := 0) (L' := [some (.ref 0), some (.int a0), some (.int a1), some (.int a2), some (.int a3), some (.ref 41), some (.int 0), some (.int 0), none, none]) k116_40 rfl rfl ?_
            refine o_iconst (v := 0) k116_42 (by decide) ?_
            refine o_istore (v := 0) (L' := [some (.ref 0), some (.int a0), some (.int a1), some (.int a2), some (.int a3), some (.ref 41), some (.int 0), some (.int 0), some (.int 0), none]) k116_43 rfl rfl ?_
            refine bd_i h (fun Os74 hOs74 h => ?_)
            refine lp_o (fun (s62 : Int32 × Int32 × Int32) => match s62 with | (x63, x64, x65) => ∀ (d66 : Option (Int32 ⊕ Int64)), oo LN xs 0 0 116 45 [some (.ref 0), some (.int a0), some (.int a1), some (.int a2), some (.int a3), some (.ref 41), some (.int x63), some (.int x64), some (.int x65), (d66.map dv)] [] M (some (.int t.1), t.2)) (fun oq => Sum.elim (fun u => u = t) (fun (s74 : Int32 × Int32 × Int32) => match s74 with | (x75, x76, x77) => ∀ (d78 : Option (Int32 ⊕ Int64)), oo LN xs 0 0 116 134 [some (.ref 0), some (.int a0), some (.int a1), some (.int a2), some (.int a3), some (.ref 41), some (.int x75), some (.int x76), some (.int x77), (d78.map dv)] [] M (some (.int t.1), t.2)) oq) ?_ hOs74 ?_ none
            · rintro ⟨x63, x64, x65⟩ ws62 h hK
              dsimp only at h
              show ∀ (d66 : Option (Int32 ⊕ Int64)), oo LN xs 0 0 116 45 [some (.ref 0), some (.int a0), some (.int a1), some (.int a2), some (.int a3), some (.ref 41), some (.int x63), some (.int x64), some (.int x65), (d66.map dv)] [] M (some (.int t.1), t.2)
              intro d66
              refine o_iload k116_45 rfl ?_
              refine o_iload k116_47 rfl ?_
              refine o_icmp_ge k116_49 (fun hc67 => ?_) (fun hc67 => ?_)
              · rw [if_pos hc67] at h
                have h9 := Option.some.inj h
                subst h9
                exact hK d66
              · rw [if_neg hc67] at h
                refine o_iload k116_52 rfl ?_
                refine o_if_ne k116_54 (fun hc68 => ?_) (fun hc68 => ?_)
                · rw [if_neg hc68] at h
                  have h9 := Option.some.inj h
                  subst h9
                  exact hK d66
                · rw [if_pos hc68] at h
                  refine o_iload_n k116_57 rfl ?_
                  refine o_iconst (v := 3) k116_58 (by decide) ?_
                  refine o_iload k116_59 rfl ?_
                  refine o_imul k116_61 ?_
                  refine o_iadd k116_62 ?_
                  refine o_istore (v := (a2 + ((3 : Int32) * x65))) (L' := [some (.ref 0), some (.int a0), some (.int a1), some (.int a2), some (.int a3), some (.ref 41), some (.int x63), some (.int x64), some (.int x65), some (.int (a2 + ((3 : Int32) * x65)))]) k116_63 rfl rfl ?_
                  refine o_aload k116_65 rfl ?_
                  refine o_iload_n k116_67 rfl ?_
                  refine o_iload k116_68 rfl ?_
                  refine o_iconst (v := 3) k116_70 (by decide) ?_
                  refine o_call k116_71 pj_47 (fun _ => rfl) (by decide) rfl (as := [.ref 41, .int a1, .int (a2 + ((3 : Int32) * x65)), .int 3]) (rest := []) rfl (L0 := [some (.ref 41), some (.int a1), some (.int (a2 + ((3 : Int32) * x65))), some (.int 3)]) rfl (t_X3_faultAt_41 (M := M) (a0 := a1) (a1 := (a2 + ((3 : Int32) * x65))) (a2 := 3) rfl) ?_
                  refine o_istore (v := (f_X3_faultAt_41 a1 (a2 + ((3 : Int32) * x65)) 3 M)) (L' := [some (.ref 0), some (.int a0), some (.int a1), some (.int a2), some (.int a3), some (.ref 41), some (.int x63), some (.int (f_X3_faultAt_41 a1 (a2 + ((3 : Int32) * x65)) 3 M)), some (.int x65), some (.int (a2 + ((3 : Int32) * x65)))]) k116_74 rfl rfl ?_
                  refine o_iload k116_76 rfl ?_
                  refine o_if_ne k116_78 (fun hc69 => ?_) (fun hc69 => ?_)
                  · rw [if_neg hc69] at h
                    refine o_iinc (k := 1) (L' := [some (.ref 0), some (.int a0), some (.int a1), some (.int a2), some (.int a3), some (.ref 41), some (.int x63), some (.int (f_X3_faultAt_41 a1 (a2 + ((3 : Int32) * x65)) 3 M)), some (.int (x65 + 1)), some (.int (a2 + ((3 : Int32) * x65)))]) k116_128 rfl (by decide) rfl ?_
                    refine o_goto k116_131 ?_
                    have h9 := Option.some.inj h
                    subst h9
                    exact hK (some (.inl (a2 + ((3 : Int32) * x65))))
                  · rw [if_pos hc69] at h
                    refine o_aload_n k116_81 rfl ?_
                    refine o_gf k116_82 (gf_0_2 _) ?_
                    refine o_aload k116_85 rfl ?_
                    refine o_gf k116_87 (gf_41_2 _) ?_
                    refine o_iload k116_90 rfl ?_
                    obtain ⟨hc70, h⟩ := ck_i h
                    refine o_iald k116_92 rfl ia_42 hc70 ?_
                    refine o_aload k116_93 rfl ?_
                    refine o_gf k116_95 (gf_41_2 _) ?_
                    refine o_iload k116_98 rfl ?_
                    refine o_iconst (v := 1) k116_100 (by decide) ?_
                    refine o_iadd k116_101 ?_
                    obtain ⟨hc71, h⟩ := ck_i h
                    refine o_iald k116_102 rfl ia_42 hc71 ?_
                    refine o_aload k116_103 rfl ?_
                    refine o_gf k116_105 (gf_41_2 _) ?_
                    refine o_iload k116_108 rfl ?_
                    refine o_iconst (v := 2) k116_110 (by decide) ?_
                    refine o_iadd k116_111 ?_
                    obtain ⟨hc72, h⟩ := ck_i h
                    refine o_iald k116_112 rfl ia_42 hc72 ?_
                    refine o_call k116_113 pj_9 (fun _ => rfl) (by decide) rfl (as := [.ref 9, .int (M 42 (a2 + ((3 : Int32) * x65)).toNatClampNeg), .int (M 42 ((a2 + ((3 : Int32) * x65)) + 1).toNatClampNeg), .int (M 42 ((a2 + ((3 : Int32) * x65)) + 2).toNatClampNeg)]) (rest := []) rfl (L0 := [some (.ref 9), some (.int (M 42 (a2 + ((3 : Int32) * x65)).toNatClampNeg)), some (.int (M 42 ((a2 + ((3 : Int32) * x65)) + 1).toNatClampNeg)), some (.int (M 42 ((a2 + ((3 : Int32) * x65)) + 2).toNatClampNeg))]) rfl (t_X0_takes_9 (M := M) (a0 := (M 42 (a2 + ((3 : Int32) * x65)).toNatClampNeg)) (a1 := (M 42 ((a2 + ((3 : Int32) * x65)) + 1).toNatClampNeg)) (a2 := (M 42 ((a2 + ((3 : Int32) * x65)) + 2).toNatClampNeg)) rfl) ?_
                    refine o_if_ne k116_116 (fun hc73 => ?_) (fun hc73 => ?_)
                    · rw [if_neg hc73] at h
                      refine o_iinc (k := 1) (L' := [some (.ref 0), some (.int a0), some (.int a1), some (.int a2), some (.int a3), some (.ref 41), some (.int (x63 + 1)), some (.int (f_X3_faultAt_41 a1 (a2 + ((3 : Int32) * x65)) 3 M)), some (.int x65), some (.int (a2 + ((3 : Int32) * x65)))]) k116_125 rfl (by decide) rfl ?_
                      refine o_iinc (k := 1) (L' := [some (.ref 0), some (.int a0), some (.int a1), some (.int a2), some (.int a3), some (.ref 41), some (.int (x63 + 1)), some (.int (f_X3_faultAt_41 a1 (a2 + ((3 : Int32) * x65)) 3 M)), some (.int (x65 + 1)), some (.int (a2 + ((3 : Int32) * x65)))]) k116_128 rfl (by decide) rfl ?_
                      refine o_goto k116_131 ?_
                      have h9 := Option.some.inj h
                      subst h9
                      exact hK (some (.inl (a2 + ((3 : Int32) * x65))))
                    · rw [if_pos hc73] at h
                      refine o_bipush (v := (-20)) k116_119 (by decide) ?_
                      refine o_iload k116_121 rfl ?_
                      refine o_isub k116_123 ?_
                      have h9 := Option.some.inj h
                      subst h9
                      have hK2 : ((((-20) : Int32) - x65), M) = t := hK
                      subst hK2
                      exact o_iret pj_116 k116_124 rfl nr_i
            · rcases Os74 with u | ⟨x75, x76, x77⟩
              · exact Option.some.inj h
              · show ∀ (d78 : Option (Int32 ⊕ Int64)), oo LN xs 0 0 116 134 [some (.ref 0), some (.int a0), some (.int a1), some (.int a2), some (.int a3), some (.ref 41), some (.int x75), some (.int x76), some (.int x77), (d78.map dv)] [] M (some (.int t.1), t.2)
                rw [el_r] at h
                dsimp only at h
                intro d78
                refine o_aload_n k116_134 rfl ?_
                refine o_aload k116_135 rfl ?_
                refine o_iload_n k116_137 rfl ?_
                refine o_iload k116_138 rfl ?_
                refine bd_i h (fun q79 hq79 h => ?_)
                refine o_call k116_140 pj_119 (fun _ => rfl) (by decide) (by rcases d78 with _ | (x | x) <;> rfl) (as := [.ref 0, .ref 41, .int a2, .int x75]) (rest := []) rfl (L0 := [some (.ref 0), some (.ref 41), some (.int a2), some (.int x75), none, none]) rfl (t_X7_takeTriples_0_41 hq79) ?_
                refine o_aload_n k116_143 rfl ?_
                refine o_iload k116_144 rfl ?_
                refine bl_i h (fun M80 eM80 h => ?_)
                refine o_pf (M' := M80) k116_146 (pf_0_8 eM80) ?_
                refine o_iload k116_149 rfl ?_
                have h9 := Option.some.inj h
                subst h9
                exact o_iret pj_116 k116_151 rfl nr_i
          rw [if_neg hX4] at h
          cases h
        · rw [if_neg hc4] at h
          refine o_iconst (v := (-1)) k116_26 (by decide) ?_
          have h9 := Option.some.inj h
          subst h9
          exact o_iret pj_116 k116_27 rfl nr_i
def f_X8_read_43 (a0 : Int32) (a1 : Int32) (a2 : Int32) (a3 : Int32) (M : am_M) : Option (Int32 × am_M) := (if (f_X8_isSheet a0 a1) = 0 then (some ((-1), M)) else (if (f_X8_in a3.toInt64 0 13) = 0 then (some ((-1), M)) else ((lp (σ := Int32 × am_M) (ρ := Int32 × am_M) (fun (s3 : Int32 × am_M) => match s3 with | (x4, M5) => (if 151 ≤ x4 then (some (.inr (x4, M5))) else (if am_dbin x4 151 = true then (if am_dbin x4 151 = true then (bl (am_up M5 51 x4.toNatClampNeg (M5 44 x4.toNatClampNeg)) (fun (M9 : am_M) => (some (.inl ((x4 + 1), M9))))) else none) else none))) lp_F (0, M)).bind (fun (s10 : Int32 × am_M) => match s10 with | (x11, M12) => ((lp (σ := Int32 × Int32 × Int32 × am_M) (ρ := (Int32 × am_M) ⊕ (Int32 × Int32 × Int32 × am_M)) (fun (s13 : Int32 × Int32 × Int32 × am_M) => match s13 with | (x14, x15, x16, M17) => (if a3 ≤ x16 then (some (.inr (.inr (x14, x15, x16, M17)))) else (if x14 = 0 then ((lp (σ := Int32 × Int32) (ρ := Int32 × Int32) (fun (s23 : Int32 × Int32) => match s23 with | (x24, x25) => (if 3 ≤ x25 then (some (.inr (x24, x25))) else (if x24 = 0 then (if am_dbin a0 4 = true then (if (M17 54 a0.toNatClampNeg) = (-4) then (some (.inl (1, (x25 + 1)))) else (if am_dbin a0 4 = true then (if (M17 54 a0.toNatClampNeg) = a1 then (if (lg_cmp ((a2.toInt64 + (((3 : Int32) * x16).toInt64)) + x25.toInt64) 0) < 0 then (some (.inl (2, (x25 + 1)))) else (if am_dbin a0 4 = true then (if (lg_cmp ((a2.toInt64 + (((3 : Int32) * x16).toInt64)) + x25.toInt64) ((M17 55 a0.toNatClampNeg).toInt64)) < 0 then (some (.inl (0, (x25 + 1)))) else (some (.inl (2, (x25 + 1))))) else none)) else (some (.inl (3, (x25 + 1))))) else none)) else none) else (some (.inr (x24, x25)))))) lp_F (x14, 0)).bind (fun (s37 : Int32 × Int32) => match s37 with | (x38, x39) => (if x38 = 0 then (if am_dbin ((((40 : Int32) * a0) + a2) + ((3 : Int32) * x16)) 160 = true then (if am_dbin (((((40 : Int32) * a0) + a2) + ((3 : Int32) * x16)) + 1) 160 = true then (if am_dbin (((((40 : Int32) * a0) + a2) + ((3 : Int32) * x16)) + 2) 160 = true then ((f_X8_set_43 (M17 56 ((((40 : Int32) * a0) + a2) + ((3 : Int32) * x16)).toNatClampNeg) (M17 56 (((((40 : Int32) * a0) + a2) + ((3 : Int32) * x16)) + 1).toNatClampNeg) (M17 56 (((((40 : Int32) * a0) + a2) + ((3 : Int32) * x16)) + 2).toNatClampNeg) M17).bind (fun q46 => (if 0 ≤ q46.1 then (some (.inl (x38, (x15 + 1), (x16 + 1), q46.2))) else ((lp (σ := Int32 × am_M) (ρ := Int32 × am_M) (fun (s48 : Int32 × am_M) => match s48 with | (x49, M50) => (if 151 ≤ x49 then (some (.inr (x49, M50))) else (if am_dbin x49 151 = true then (if am_dbin x49 151 = true then (bl (am_up M50 44 x49.toNatClampNeg (M50 51 x49.toNatClampNeg)) (fun (M54 : am_M) => (some (.inl ((x49 + 1), M54))))) else none) else none))) lp_F (0, q46.2)).bind (fun (s55 : Int32 × am_M) => match s55 with | (x56, M57) => (some (.inr (.inl ((((-20) : Int32) - x16), M57))))))))) else none) else none) else none) else (some (.inl (x38, x15, (x16 + 1), M17)))))) else (some (.inr (.inr (x14, x15, x16, M17))))))) lp_F (0, 0, 0, M12)).bind (fun os58 => Sum.elim (fun u => (some u)) (fun (s58 : Int32 × Int32 × Int32 × am_M) => match s58 with | (x59, x60, x61, M62) => (bl (am_up M62 43 30 x59) (fun (M66 : am_M) => (some (x60, M66))))) os58))))))
set_option maxRecDepth 20000 in
theorem t_X8_read_43 {LN : Nat} {xs : Nat → Int32} {a0 : Int32} {a1 : Int32} {a2 : Int32} {a3 : Int32} {M : am_M} {t : Int32 × am_M} (h : f_X8_read_43 a0 a1 a2 a3 M = some t) : oo LN xs 0 0 207 0 [some (.ref 43), some (.int a0), some (.int a1), some (.int a2), some (.int a3), none, none, none, none, none, none] [] M (some (.int t.1), t.2) := by
  unfold f_X8_read_43 at h
  refine o_iload_n k207_0 rfl ?_
  refine o_iload_n k207_1 rfl ?_
  refine o_call k207_2 pj_204 (fun _ => rfl) (by decide) rfl (as := [.int a0, .int a1]) (rest := []) rfl (L0 := [some (.int a0), some (.int a1)]) rfl (t_X8_isSheet (M := M) (a0 := a0) (a1 := a1) rfl) ?_
  refine o_if_eq k207_5 (fun hc1 => ?_) (fun hc1 => ?_)
  · rw [if_pos hc1] at h
    refine o_iconst (v := (-1)) k207_21 (by decide) ?_
    have h9 := Option.some.inj h
    subst h9
    exact o_iret pj_207 k207_22 rfl nr_i
  · rw [if_neg hc1] at h
    refine o_iload k207_8 rfl ?_
    refine o_i2l k207_10 ?_
    refine o_lconst (v := 0) k207_11 (by decide) ?_
    refine o_ldc2_w k207_12 ?_
    refine o_call k207_15 pj_125 (fun _ => rfl) (by decide) rfl (as := [.long a3.toInt64, .long 0, .long 13]) (rest := []) rfl (L0 := [some (.long a3.toInt64), none, some (.long 0), none, some (.long 13), none]) rfl (t_X8_in (M := M) (a0 := a3.toInt64) (a1 := 0) (a2 := 13) rfl) ?_
    refine o_if_ne k207_18 (fun hc2 => ?_) (fun hc2 => ?_)
    · rw [if_neg hc2] at h
      refine o_iconst (v := 0) k207_23 (by decide) ?_
      refine o_istore (v := 0) (L' := [some (.ref 43), some (.int a0), some (.int a1), some (.int a2), some (.int a3), some (.int 0), none, none, none, none, none]) k207_24 rfl rfl ?_
      refine bd_i h (fun s10 hs10 h => ?_)
      refine lp_o (fun (s3 : Int32 × am_M) => match s3 with | (x4, M5) => oo LN xs 0 0 207 26 [some (.ref 43), some (.int a0), some (.int a1), some (.int a2), some (.int a3), some (.int x4), none, none, none, none, none] [] M5 (some (.int t.1), t.2)) (fun (s10 : Int32 × am_M) => match s10 with | (x11, M12) => oo LN xs 0 0 207 54 [some (.ref 43), some (.int a0), some (.int a1), some (.int a2), some (.int a3), some (.int x11), none, none, none, none, none] [] M12 (some (.int t.1), t.2)) ?_ hs10 ?_
      · rintro ⟨x4, M5⟩ ws3 h hK
        dsimp only at h
        show oo LN xs 0 0 207 26 [some (.ref 43), some (.int a0), some (.int a1), some (.int a2), some (.int a3), some (.int x4), none, none, none, none, none] [] M5 (some (.int t.1), t.2)
        refine o_iload k207_26 rfl ?_
        refine o_sipush (v := 151) k207_28 (by decide) ?_
        refine o_icmp_ge k207_31 (fun hc6 => ?_) (fun hc6 => ?_)
        · rw [if_pos hc6] at h
          have h9 := Option.some.inj h
          subst h9
          exact hK
        · rw [if_neg hc6] at h
          refine o_aload_n k207_34 rfl ?_
          refine o_gf k207_35 (gf_43_24 _) ?_
          refine o_iload k207_38 rfl ?_
          refine o_aload_n k207_40 rfl ?_
          refine o_gf k207_41 (gf_43_0 _) ?_
          refine o_iload k207_44 rfl ?_
          obtain ⟨hc7, h⟩ := ck_i h
          refine o_iald k207_46 rfl ia_44 hc7 ?_
          obtain ⟨hc8, h⟩ := ck_i h
          refine bl_i h (fun M9 eM9 h => ?_)
          refine o_iast (M' := M9) k207_47 eM9 ia_51 hc8 ?_
          refine o_iinc (k := 1) (L' := [some (.ref 43), some (.int a0), some (.int a1), some (.int a2), some (.int a3), some (.int (x4 + 1)), none, none, none, none, none]) k207_48 rfl (by decide) rfl ?_
          refine o_goto k207_51 ?_
          have h9 := Option.some.inj h
          subst h9
          exact hK
      · obtain ⟨x11, M12⟩ := s10
        show oo LN xs 0 0 207 54 [some (.ref 43), some (.int a0), some (.int a1), some (.int a2), some (.int a3), some (.int x11), none, none, none, none, none] [] M12 (some (.int t.1), t.2)
        dsimp only at h
        refine o_iconst (v := 0) k207_54 (by decide) ?_
        refine o_istore (v := 0) (L' := [some (.ref 43), some (.int a0), some (.int a1), some (.int a2), some (.int a3), some (.int 0), none, none, none, none, none]) k207_55 rfl rfl ?_
        refine o_iconst (v := 0) k207_57 (by decide) ?_
        refine o_istore (v := 0) (L' := [some (.ref 43), some (.int a0), some (.int a1), some (.int a2), some (.int a3), some (.int 0), some (.int 0), none, none, none, none]) k207_58 rfl rfl ?_
        refine o_iconst (v := 0) k207_60 (by decide) ?_
        refine o_istore (v := 0) (L' := [some (.ref 43), some (.int a0), some (.int a1), some (.int a2), some (.int a3), some (.int 0), some (.int 0), some (.int 0), none, none, none]) k207_61 rfl rfl ?_
        refine bd_i h (fun Os58 hOs58 h => ?_)
        refine lp_o (fun (s13 : Int32 × Int32 × Int32 × am_M) => match s13 with | (x14, x15, x16, M17) => ∀ (d18 d19 d20 : Option (Int32 ⊕ Int64)), oo LN xs 0 0 207 63 [some (.ref 43), some (.int a0), some (.int a1), some (.int a2), some (.int a3), some (.int x14), some (.int x15), some (.int x16), (d18.map dv), (d19.map dv), (d20.map dv)] [] M17 (some (.int t.1), t.2)) (fun oq => Sum.elim (fun u => u = t) (fun (s58 : Int32 × Int32 × Int32 × am_M) => match s58 with | (x59, x60, x61, M62) => ∀ (d63 d64 d65 : Option (Int32 ⊕ Int64)), oo LN xs 0 0 207 261 [some (.ref 43), some (.int a0), some (.int a1), some (.int a2), some (.int a3), some (.int x59), some (.int x60), some (.int x61), (d63.map dv), (d64.map dv), (d65.map dv)] [] M62 (some (.int t.1), t.2)) oq) ?_ hOs58 ?_ none none none
        · rintro ⟨x14, x15, x16, M17⟩ ws13 h hK
          dsimp only at h
          show ∀ (d18 d19 d20 : Option (Int32 ⊕ Int64)), oo LN xs 0 0 207 63 [some (.ref 43), some (.int a0), some (.int a1), some (.int a2), some (.int a3), some (.int x14), some (.int x15), some (.int x16), (d18.map dv), (d19.map dv), (d20.map dv)] [] M17 (some (.int t.1), t.2)
          intro d18 d19 d20
          refine o_iload k207_63 rfl ?_
          refine o_iload k207_65 rfl ?_
          refine o_icmp_ge k207_67 (fun hc21 => ?_) (fun hc21 => ?_)
          · rw [if_pos hc21] at h
            have h9 := Option.some.inj h
            subst h9
            exact hK d18 d19 d20
          · rw [if_neg hc21] at h
            refine o_iload k207_70 rfl ?_
            refine o_if_ne k207_72 (fun hc22 => ?_) (fun hc22 => ?_)
            · rw [if_neg hc22] at h
              have h9 := Option.some.inj h
              subst h9
              exact hK d18 d19 d20
            · rw [if_pos hc22] at h
              refine o_iconst (v := 0) k207_75 (by decide) ?_
              refine o_istore (v := 0) (L' := [some (.ref 43), some (.int a0), some (.int a1), some (.int a2), some (.int a3), some (.int x14), some (.int x15), some (.int x16), some (.int 0), (d19.map dv), (d20.map dv)]) k207_76 rfl rfl ?_
              refine bd_i h (fun s37 hs37 h => ?_)
              refine lp_o (fun (s23 : Int32 × Int32) => match s23 with | (x24, x25) => ∀ (d26 d27 : Option (Int32 ⊕ Int64)), oo LN xs 0 0 207 78 [some (.ref 43), some (.int a0), some (.int a1), some (.int a2), some (.int a3), some (.int x24), some (.int x15), some (.int x16), some (.int x25), (d26.map dv), (d27.map dv)] [] M17 (some (.int t.1), t.2)) (fun (s37 : Int32 × Int32) => match s37 with | (x38, x39) => ∀ (d40 d41 : Option (Int32 ⊕ Int64)), oo LN xs 0 0 207 165 [some (.ref 43), some (.int a0), some (.int a1), some (.int a2), some (.int a3), some (.int x38), some (.int x15), some (.int x16), some (.int x39), (d40.map dv), (d41.map dv)] [] M17 (some (.int t.1), t.2)) ?_ hs37 ?_ d19 d20
              · rintro ⟨x24, x25⟩ ws23 h hK
                dsimp only at h
                show ∀ (d26 d27 : Option (Int32 ⊕ Int64)), oo LN xs 0 0 207 78 [some (.ref 43), some (.int a0), some (.int a1), some (.int a2), some (.int a3), some (.int x24), some (.int x15), some (.int x16), some (.int x25), (d26.map dv), (d27.map dv)] [] M17 (some (.int t.1), t.2)
                intro d26 d27
                refine o_iload k207_78 rfl ?_
                refine o_iconst (v := 3) k207_80 (by decide) ?_
                refine o_icmp_ge k207_81 (fun hc28 => ?_) (fun hc28 => ?_)
                · rw [if_pos hc28] at h
                  have h9 := Option.some.inj h
                  subst h9
                  exact hK d26 d27
                · rw [if_neg hc28] at h
                  refine o_iload k207_84 rfl ?_
                  refine o_if_ne k207_86 (fun hc29 => ?_) (fun hc29 => ?_)
                  · rw [if_neg hc29] at h
                    have h9 := Option.some.inj h
                    subst h9
                    exact hK d26 d27
                  · rw [if_pos hc29] at h
                    refine o_iload_n k207_89 rfl ?_
                    refine o_i2l k207_90 ?_
                    refine o_iconst (v := 3) k207_91 (by decide) ?_
                    refine o_iload k207_92 rfl ?_
                    refine o_imul k207_94 ?_
                    refine o_i2l k207_95 ?_
                    refine o_ladd k207_96 ?_
                    refine o_iload k207_97 rfl ?_
                    refine o_i2l k207_99 ?_
                    refine o_ladd k207_100 ?_
                    refine o_lstore (L' := [some (.ref 43), some (.int a0), some (.int a1), some (.int a2), some (.int a3), some (.int x24), some (.int x15), some (.int x16), some (.int x25), some (.long ((a2.toInt64 + (((3 : Int32) * x16).toInt64)) + x25.toInt64)), none]) k207_101 rfl rfl ?_
                    refine o_aload_n k207_103 rfl ?_
                    refine o_gf k207_104 (gf_43_27 _) ?_
                    refine o_iload_n k207_107 rfl ?_
                    obtain ⟨hc30, h⟩ := ck_i h
                    refine o_iald k207_108 rfl ia_54 hc30 ?_
                    refine o_bipush (v := (-4)) k207_109 (by decide) ?_
                    refine o_icmp_ne k207_111 (fun hc31 => ?_) (fun hc31 => ?_)
                    · rw [if_neg hc31] at h
                      refine o_aload_n k207_118 rfl ?_
                      refine o_gf k207_119 (gf_43_27 _) ?_
                      refine o_iload_n k207_122 rfl ?_
                      obtain ⟨hc32, h⟩ := ck_i h
                      refine o_iald k207_123 rfl ia_54 hc32 ?_
                      refine o_iload_n k207_124 rfl ?_
                      refine o_icmp_eq k207_125 (fun hc33 => ?_) (fun hc33 => ?_)
                      · rw [if_pos hc33] at h
                        refine o_lload k207_132 rfl ?_
                        refine o_lconst (v := 0) k207_134 (by decide) ?_
                        refine o_lcmp k207_135 ?_
                        refine o_if_lt k207_136 (fun hc34 => ?_) (fun hc34 => ?_)
                        · rw [if_pos hc34] at h
                          refine o_iconst (v := 2) k207_152 (by decide) ?_
                          refine o_goto k207_153 ?_
                          refine o_istore (v := 2) (L' := [some (.ref 43), some (.int a0), some (.int a1), some (.int a2), some (.int a3), some (.int 2), some (.int x15), some (.int x16), some (.int x25), some (.long ((a2.toInt64 + (((3 : Int32) * x16).toInt64)) + x25.toInt64)), none]) k207_157 rfl rfl ?_
                          refine o_iinc (k := 1) (L' := [some (.ref 43), some (.int a0), some (.int a1), some (.int a2), some (.int a3), some (.int 2), some (.int x15), some (.int x16), some (.int (x25 + 1)), some (.long ((a2.toInt64 + (((3 : Int32) * x16).toInt64)) + x25.toInt64)), none]) k207_159 rfl (by decide) rfl ?_
                          refine o_goto k207_162 ?_
                          have h9 := Option.some.inj h
                          subst h9
                          exact hK (some (.inr ((a2.toInt64 + (((3 : Int32) * x16).toInt64)) + x25.toInt64))) none
                        · rw [if_neg hc34] at h
                          refine o_lload k207_139 rfl ?_
                          refine o_aload_n k207_141 rfl ?_
                          refine o_gf k207_142 (gf_43_28 _) ?_
                          refine o_iload_n k207_145 rfl ?_
                          obtain ⟨hc35, h⟩ := ck_i h
                          refine o_iald k207_146 rfl ia_55 hc35 ?_
                          refine o_i2l k207_147 ?_
                          refine o_lcmp k207_148 ?_
                          refine o_if_lt k207_149 (fun hc36 => ?_) (fun hc36 => ?_)
                          · rw [if_pos hc36] at h
                            refine o_iconst (v := 0) k207_156 (by decide) ?_
                            refine o_istore (v := 0) (L' := [some (.ref 43), some (.int a0), some (.int a1), some (.int a2), some (.int a3), some (.int 0), some (.int x15), some (.int x16), some (.int x25), some (.long ((a2.toInt64 + (((3 : Int32) * x16).toInt64)) + x25.toInt64)), none]) k207_157 rfl rfl ?_
                            refine o_iinc (k := 1) (L' := [some (.ref 43), some (.int a0), some (.int a1), some (.int a2), some (.int a3), some (.int 0), some (.int x15), some (.int x16), some (.int (x25 + 1)), some (.long ((a2.toInt64 + (((3 : Int32) * x16).toInt64)) + x25.toInt64)), none]) k207_159 rfl (by decide) rfl ?_
                            refine o_goto k207_162 ?_
                            have h9 := Option.some.inj h
                            subst h9
                            exact hK (some (.inr ((a2.toInt64 + (((3 : Int32) * x16).toInt64)) + x25.toInt64))) none
                          · rw [if_neg hc36] at h
                            refine o_iconst (v := 2) k207_152 (by decide) ?_
                            refine o_goto k207_153 ?_
                            refine o_istore (v := 2) (L' := [some (.ref 43), some (.int a0), some (.int a1), some (.int a2), some (.int a3), some (.int 2), some (.int x15), some (.int x16), some (.int x25), some (.long ((a2.toInt64 + (((3 : Int32) * x16).toInt64)) + x25.toInt64)), none]) k207_157 rfl rfl ?_
                            refine o_iinc (k := 1) (L' := [some (.ref 43), some (.int a0), some (.int a1), some (.int a2), some (.int a3), some (.int 2), some (.int x15), some (.int x16), some (.int (x25 + 1)), some (.long ((a2.toInt64 + (((3 : Int32) * x16).toInt64)) + x25.toInt64)), none]) k207_159 rfl (by decide) rfl ?_
                            refine o_goto k207_162 ?_
                            have h9 := Option.some.inj h
                            subst h9
                            exact hK (some (.inr ((a2.toInt64 + (((3 : Int32) * x16).toInt64)) + x25.toInt64))) none
                      · rw [if_neg hc33] at h
                        refine o_iconst (v := 3) k207_128 (by decide) ?_
                        refine o_goto k207_129 ?_
                        refine o_istore (v := 3) (L' := [some (.ref 43), some (.int a0), some (.int a1), some (.int a2), some (.int a3), some (.int 3), some (.int x15), some (.int x16), some (.int x25), some (.long ((a2.toInt64 + (((3 : Int32) * x16).toInt64)) + x25.toInt64)), none]) k207_157 rfl rfl ?_
                        refine o_iinc (k := 1) (L' := [some (.ref 43), some (.int a0), some (.int a1), some (.int a2), some (.int a3), some (.int 3), some (.int x15), some (.int x16), some (.int (x25 + 1)), some (.long ((a2.toInt64 + (((3 : Int32) * x16).toInt64)) + x25.toInt64)), none]) k207_159 rfl (by decide) rfl ?_
                        refine o_goto k207_162 ?_
                        have h9 := Option.some.inj h
                        subst h9
                        exact hK (some (.inr ((a2.toInt64 + (((3 : Int32) * x16).toInt64)) + x25.toInt64))) none
                    · rw [if_pos hc31] at h
                      refine o_iconst (v := 1) k207_114 (by decide) ?_
                      refine o_goto k207_115 ?_
                      refine o_istore (v := 1) (L' := [some (.ref 43), some (.int a0), some (.int a1), some (.int a2), some (.int a3), some (.int 1), some (.int x15), some (.int x16), some (.int x25), some (.long ((a2.toInt64 + (((3 : Int32) * x16).toInt64)) + x25.toInt64)), none]) k207_157 rfl rfl ?_
                      refine o_iinc (k := 1) (L' := [some (.ref 43), some (.int a0), some (.int a1), some (.int a2), some (.int a3), some (.int 1), some (.int x15), some (.int x16), some (.int (x25 + 1)), some (.long ((a2.toInt64 + (((3 : Int32) * x16).toInt64)) + x25.toInt64)), none]) k207_159 rfl (by decide) rfl ?_
                      refine o_goto k207_162 ?_
                      have h9 := Option.some.inj h
                      subst h9
                      exact hK (some (.inr ((a2.toInt64 + (((3 : Int32) * x16).toInt64)) + x25.toInt64))) none
              · obtain ⟨x38, x39⟩ := s37
                show ∀ (d40 d41 : Option (Int32 ⊕ Int64)), oo LN xs 0 0 207 165 [some (.ref 43), some (.int a0), some (.int a1), some (.int a2), some (.int a3), some (.int x38), some (.int x15), some (.int x16), some (.int x39), (d40.map dv), (d41.map dv)] [] M17 (some (.int t.1), t.2)
                dsimp only at h
                intro d40 d41
                refine o_iload k207_165 rfl ?_
                refine o_if_ne k207_167 (fun hc42 => ?_) (fun hc42 => ?_)
                · rw [if_neg hc42] at h
                  refine o_iinc (k := 1) (L' := [some (.ref 43), some (.int a0), some (.int a1), some (.int a2), some (.int a3), some (.int x38), some (.int x15), some (.int (x16 + 1)), some (.int x39), (d40.map dv), (d41.map dv)]) k207_255 rfl (by decide) rfl ?_
                  refine o_goto k207_258 ?_
                  have h9 := Option.some.inj h
                  subst h9
                  exact hK (some (.inl x39)) d40 d41
                · rw [if_pos hc42] at h
                  refine o_bipush (v := 40) k207_170 (by decide) ?_
                  refine o_iload_n k207_172 rfl ?_
                  refine o_imul k207_173 ?_
                  refine o_iload_n k207_174 rfl ?_
                  refine o_iadd k207_175 ?_
                  refine o_iconst (v := 3) k207_176 (by decide) ?_
                  refine o_iload k207_177 rfl ?_
                  refine o_imul k207_179 ?_
                  refine o_iadd k207_180 ?_
                  refine o_istore (v := ((((40 : Int32) * a0) + a2) + ((3 : Int32) * x16))) (L' := [some (.ref 43), some (.int a0), some (.int a1), some (.int a2), some (.int a3), some (.int x38), some (.int x15), some (.int x16), some (.int ((((40 : Int32) * a0) + a2) + ((3 : Int32) * x16))), (d40.map dv), (d41.map dv)]) k207_181 rfl rfl ?_
                  refine o_aload_n k207_183 rfl ?_
                  refine o_aload_n k207_184 rfl ?_
                  refine o_gf k207_185 (gf_43_29 _) ?_
                  refine o_iload k207_188 rfl ?_
                  obtain ⟨hc43, h⟩ := ck_i h
                  refine o_iald k207_190 rfl ia_56 hc43 ?_
                  refine o_aload_n k207_191 rfl ?_
                  refine o_gf k207_192 (gf_43_29 _) ?_
                  refine o_iload k207_195 rfl ?_
                  refine o_iconst (v := 1) k207_197 (by decide) ?_
                  refine o_iadd k207_198 ?_
                  obtain ⟨hc44, h⟩ := ck_i h
                  refine o_iald k207_199 rfl ia_56 hc44 ?_
                  refine o_aload_n k207_200 rfl ?_
                  refine o_gf k207_201 (gf_43_29 _) ?_
                  refine o_iload k207_204 rfl ?_
                  refine o_iconst (v := 2) k207_206 (by decide) ?_
                  refine o_iadd k207_207 ?_
                  obtain ⟨hc45, h⟩ := ck_i h
                  refine o_iald k207_208 rfl ia_56 hc45 ?_
                  refine bd_i h (fun q46 hq46 h => ?_)
                  refine o_call k207_209 pj_175 (fun _ => rfl) (by decide) (by rcases d40 with _ | (x | x) <;> rcases d41 with _ | (x | x) <;> rfl) (as := [.ref 43, .int (M17 56 ((((40 : Int32) * a0) + a2) + ((3 : Int32) * x16)).toNatClampNeg), .int (M17 56 (((((40 : Int32) * a0) + a2) + ((3 : Int32) * x16)) + 1).toNatClampNeg), .int (M17 56 (((((40 : Int32) * a0) + a2) + ((3 : Int32) * x16)) + 2).toNatClampNeg)]) (rest := []) rfl (L0 := [some (.ref 43), some (.int (M17 56 ((((40 : Int32) * a0) + a2) + ((3 : Int32) * x16)).toNatClampNeg)), some (.int (M17 56 (((((40 : Int32) * a0) + a2) + ((3 : Int32) * x16)) + 1).toNatClampNeg)), some (.int (M17 56 (((((40 : Int32) * a0) + a2) + ((3 : Int32) * x16)) + 2).toNatClampNeg))]) rfl (t_X8_set_43 hq46) ?_
                  refine o_if_ge k207_212 (fun hc47 => ?_) (fun hc47 => ?_)
                  · rw [if_pos hc47] at h
                    refine o_iinc (k := 1) (L' := [some (.ref 43), some (.int a0), some (.int a1), some (.int a2), some (.int a3), some (.int x38), some (.int (x15 + 1)), some (.int x16), some (.int ((((40 : Int32) * a0) + a2) + ((3 : Int32) * x16))), (d40.map dv), (d41.map dv)]) k207_252 rfl (by decide) rfl ?_
                    refine o_iinc (k := 1) (L' := [some (.ref 43), some (.int a0), some (.int a1), some (.int a2), some (.int a3), some (.int x38), some (.int (x15 + 1)), some (.int (x16 + 1)), some (.int ((((40 : Int32) * a0) + a2) + ((3 : Int32) * x16))), (d40.map dv), (d41.map dv)]) k207_255 rfl (by decide) rfl ?_
                    refine o_goto k207_258 ?_
                    have h9 := Option.some.inj h
                    subst h9
                    exact hK (some (.inl ((((40 : Int32) * a0) + a2) + ((3 : Int32) * x16)))) d40 d41
                  · rw [if_neg hc47] at h
                    refine o_iconst (v := 0) k207_215 (by decide) ?_
                    refine o_istore (v := 0) (L' := [some (.ref 43), some (.int a0), some (.int a1), some (.int a2), some (.int a3), some (.int x38), some (.int x15), some (.int x16), some (.int ((((40 : Int32) * a0) + a2) + ((3 : Int32) * x16))), some (.int 0), (d41.map dv)]) k207_216 rfl rfl ?_
                    refine bd_i h (fun s55 hs55 h => ?_)
                    refine lp_o (fun (s48 : Int32 × am_M) => match s48 with | (x49, M50) => oo LN xs 0 0 207 218 [some (.ref 43), some (.int a0), some (.int a1), some (.int a2), some (.int a3), some (.int x38), some (.int x15), some (.int x16), some (.int ((((40 : Int32) * a0) + a2) + ((3 : Int32) * x16))), some (.int x49), (d41.map dv)] [] M50 (some (.int t.1), t.2)) (fun (s55 : Int32 × am_M) => match s55 with | (x56, M57) => oo LN xs 0 0 207 246 [some (.ref 43), some (.int a0), some (.int a1), some (.int a2), some (.int a3), some (.int x38), some (.int x15), some (.int x16), some (.int ((((40 : Int32) * a0) + a2) + ((3 : Int32) * x16))), some (.int x56), (d41.map dv)] [] M57 (some (.int t.1), t.2)) ?_ hs55 ?_
                    · rintro ⟨x49, M50⟩ ws48 h hK
                      dsimp only at h
                      show oo LN xs 0 0 207 218 [some (.ref 43), some (.int a0), some (.int a1), some (.int a2), some (.int a3), some (.int x38), some (.int x15), some (.int x16), some (.int ((((40 : Int32) * a0) + a2) + ((3 : Int32) * x16))), some (.int x49), (d41.map dv)] [] M50 (some (.int t.1), t.2)
                      refine o_iload k207_218 rfl ?_
                      refine o_sipush (v := 151) k207_220 (by decide) ?_
                      refine o_icmp_ge k207_223 (fun hc51 => ?_) (fun hc51 => ?_)
                      · rw [if_pos hc51] at h
                        have h9 := Option.some.inj h
                        subst h9
                        exact hK
                      · rw [if_neg hc51] at h
                        refine o_aload_n k207_226 rfl ?_
                        refine o_gf k207_227 (gf_43_0 _) ?_
                        refine o_iload k207_230 rfl ?_
                        refine o_aload_n k207_232 rfl ?_
                        refine o_gf k207_233 (gf_43_24 _) ?_
                        refine o_iload k207_236 rfl ?_
                        obtain ⟨hc52, h⟩ := ck_i h
                        refine o_iald k207_238 rfl ia_51 hc52 ?_
                        obtain ⟨hc53, h⟩ := ck_i h
                        refine bl_i h (fun M54 eM54 h => ?_)
                        refine o_iast (M' := M54) k207_239 eM54 ia_44 hc53 ?_
                        refine o_iinc (k := 1) (L' := [some (.ref 43), some (.int a0), some (.int a1), some (.int a2), some (.int a3), some (.int x38), some (.int x15), some (.int x16), some (.int ((((40 : Int32) * a0) + a2) + ((3 : Int32) * x16))), some (.int (x49 + 1)), (d41.map dv)]) k207_240 rfl (by decide) rfl ?_
                        refine o_goto k207_243 ?_
                        have h9 := Option.some.inj h
                        subst h9
                        exact hK
                    · obtain ⟨x56, M57⟩ := s55
                      show oo LN xs 0 0 207 246 [some (.ref 43), some (.int a0), some (.int a1), some (.int a2), some (.int a3), some (.int x38), some (.int x15), some (.int x16), some (.int ((((40 : Int32) * a0) + a2) + ((3 : Int32) * x16))), some (.int x56), (d41.map dv)] [] M57 (some (.int t.1), t.2)
                      dsimp only at h
                      refine o_bipush (v := (-20)) k207_246 (by decide) ?_
                      refine o_iload k207_248 rfl ?_
                      refine o_isub k207_250 ?_
                      have h9 := Option.some.inj h
                      subst h9
                      have hK2 : ((((-20) : Int32) - x16), M57) = t := hK
                      subst hK2
                      exact o_iret pj_207 k207_251 rfl nr_i
        · rcases Os58 with u | ⟨x59, x60, x61, M62⟩
          · exact Option.some.inj h
          · show ∀ (d63 d64 d65 : Option (Int32 ⊕ Int64)), oo LN xs 0 0 207 261 [some (.ref 43), some (.int a0), some (.int a1), some (.int a2), some (.int a3), some (.int x59), some (.int x60), some (.int x61), (d63.map dv), (d64.map dv), (d65.map dv)] [] M62 (some (.int t.1), t.2)
            rw [el_r] at h
            dsimp only at h
            intro d63 d64 d65
            refine o_aload_n k207_261 rfl ?_
            refine o_iload k207_262 rfl ?_
            refine bl_i h (fun M66 eM66 h => ?_)
            refine o_pf (M' := M66) k207_264 (pf_43_30 eM66) ?_
            refine o_iload k207_267 rfl ?_
            have h9 := Option.some.inj h
            subst h9
            exact o_iret pj_207 k207_269 rfl nr_i
    · rw [if_pos hc2] at h
      refine o_iconst (v := (-1)) k207_21 (by decide) ?_
      have h9 := Option.some.inj h
      subst h9
      exact o_iret pj_207 k207_22 rfl nr_i
def f_X7_torn_0 (M : am_M) : Int32 := (M 0 8)
set_option maxRecDepth 20000 in
theorem t_X7_torn_0 {LN : Nat} {xs : Nat → Int32} {M : am_M} {t : Int32} (h : f_X7_torn_0 M = t) : oo LN xs 0 0 117 0 [some (.ref 0)] [] M (some (.int t), M) := by
  unfold f_X7_torn_0 at h
  refine o_aload_n k117_0 rfl ?_
  refine o_gf k117_1 (gf_0_8 _) ?_
  subst h
  exact o_iret pj_117 k117_4 rfl nr_i
def f_X8_torn_43 (M : am_M) : Int32 := (M 43 30)
set_option maxRecDepth 20000 in
theorem t_X8_torn_43 {LN : Nat} {xs : Nat → Int32} {M : am_M} {t : Int32} (h : f_X8_torn_43 M = t) : oo LN xs 0 0 208 0 [some (.ref 43)] [] M (some (.int t), M) := by
  unfold f_X8_torn_43 at h
  refine o_aload_n k208_0 rfl ?_
  refine o_gf k208_1 (gf_43_30 _) ?_
  subst h
  exact o_iret pj_208 k208_4 rfl nr_i
def f_X7_imagesKept_0 (M : am_M) : Option Int32 := ((lp (σ := Int32 × Int32) (ρ := Int32 × Int32) (fun (s1 : Int32 × Int32) => match s1 with | (x2, x3) => (if 2 ≤ x3 then (some (.inr (x2, x3))) else (if am_dbin x3 2 = true then (if (M 25 x3.toNatClampNeg) = 0 then (some (.inl (x2, (x3 + 1)))) else (some (.inl ((x2 + 1), (x3 + 1))))) else none))) lp_F (0, 0)).bind (fun (s7 : Int32 × Int32) => match s7 with | (x8, x9) => (some x8)))
set_option maxRecDepth 20000 in
theorem t_X7_imagesKept_0 {LN : Nat} {xs : Nat → Int32} {M : am_M} {t : Int32} (h : f_X7_imagesKept_0 M = some t) : oo LN xs 0 0 120 0 [some (.ref 0), none, none] [] M (some (.int t), M) := by
  unfold f_X7_imagesKept_0 at h
  refine o_iconst (v := 0) k120_0 (by decide) ?_
  refine o_istore_n (v := 0) (L' := [some (.ref 0), some (.int 0), none]) k120_1 rfl rfl ?_
  refine o_iconst (v := 0) k120_2 (by decide) ?_
  refine o_istore_n (v := 0) (L' := [some (.ref 0), some (.int 0), some (.int 0)]) k120_3 rfl rfl ?_
  refine bd_i h (fun s7 hs7 h => ?_)
  refine lp_o (fun (s1 : Int32 × Int32) => match s1 with | (x2, x3) => oo LN xs 0 0 120 4 [some (.ref 0), some (.int x2), some (.int x3)] [] M (some (.int t), M)) (fun (s7 : Int32 × Int32) => match s7 with | (x8, x9) => oo LN xs 0 0 120 27 [some (.ref 0), some (.int x8), some (.int x9)] [] M (some (.int t), M)) ?_ hs7 ?_
  · rintro ⟨x2, x3⟩ ws1 h hK
    dsimp only at h
    show oo LN xs 0 0 120 4 [some (.ref 0), some (.int x2), some (.int x3)] [] M (some (.int t), M)
    refine o_iload_n k120_4 rfl ?_
    refine o_iconst (v := 2) k120_5 (by decide) ?_
    refine o_icmp_ge k120_6 (fun hc4 => ?_) (fun hc4 => ?_)
    · rw [if_pos hc4] at h
      have h9 := Option.some.inj h
      subst h9
      exact hK
    · rw [if_neg hc4] at h
      refine o_aload_n k120_9 rfl ?_
      refine o_gf k120_10 (gf_0_4 _) ?_
      refine o_iload_n k120_13 rfl ?_
      obtain ⟨hc5, h⟩ := ck_i h
      refine o_bald k120_14 ba_25 hc5 ?_
      refine o_if_eq k120_15 (fun hc6 => ?_) (fun hc6 => ?_)
      · rw [if_pos hc6] at h
        refine o_iinc (k := 1) (L' := [some (.ref 0), some (.int x2), some (.int (x3 + 1))]) k120_21 rfl (by decide) rfl ?_
        refine o_goto k120_24 ?_
        have h9 := Option.some.inj h
        subst h9
        exact hK
      · rw [if_neg hc6] at h
        refine o_iinc (k := 1) (L' := [some (.ref 0), some (.int (x2 + 1)), some (.int x3)]) k120_18 rfl (by decide) rfl ?_
        refine o_iinc (k := 1) (L' := [some (.ref 0), some (.int (x2 + 1)), some (.int (x3 + 1))]) k120_21 rfl (by decide) rfl ?_
        refine o_goto k120_24 ?_
        have h9 := Option.some.inj h
        subst h9
        exact hK
  · obtain ⟨x8, x9⟩ := s7
    show oo LN xs 0 0 120 27 [some (.ref 0), some (.int x8), some (.int x9)] [] M (some (.int t), M)
    dsimp only at h
    refine o_iload_n k120_27 rfl ?_
    have h9 := Option.some.inj h
    subst h9
    exact o_iret pj_120 k120_28 rfl nr_i
def f_X0_wantsTold_9 (M : am_M) : Option Int32 := ((lp (σ := Int32 × Int32) (ρ := Int32 × Int32) (fun (s1 : Int32 × Int32) => match s1 with | (x2, x3) => (if (M 9 0) ≤ x3 then (some (.inr (x2, x3))) else ((lp (σ := Int32 × Int32) (ρ := Int32 × Int32) (fun (s6 : Int32 × Int32) => match s6 with | (x7, x8) => (if (M 9 1) ≤ x8 then (some (.inr (x7, x8))) else (if am_dbin (f_X0_at x3 x8) 64 = true then (if (M 11 (f_X0_at x3 x8).toNatClampNeg) = 2 then (some (.inl (x7, (x8 + 1)))) else (some (.inl ((x7 + 1), (x8 + 1))))) else none))) lp_F (x2, 0)).bind (fun (s12 : Int32 × Int32) => match s12 with | (x13, x14) => (some (.inl (x13, (x3 + 1)))))))) lp_F (0, 0)).bind (fun (s15 : Int32 × Int32) => match s15 with | (x16, x17) => (some x16)))
set_option maxRecDepth 20000 in
theorem t_X0_wantsTold_9 {LN : Nat} {xs : Nat → Int32} {M : am_M} {t : Int32} (h : f_X0_wantsTold_9 M = some t) : oo LN xs 0 0 14 0 [some (.ref 9), none, none, none] [] M (some (.int t), M) := by
  unfold f_X0_wantsTold_9 at h
  refine o_iconst (v := 0) k14_0 (by decide) ?_
  refine o_istore_n (v := 0) (L' := [some (.ref 9), some (.int 0), none, none]) k14_1 rfl rfl ?_
  refine o_iconst (v := 0) k14_2 (by decide) ?_
  refine o_istore_n (v := 0) (L' := [some (.ref 9), some (.int 0), some (.int 0), none]) k14_3 rfl rfl ?_
  refine bd_i h (fun s15 hs15 h => ?_)
  refine lp_o (fun (s1 : Int32 × Int32) => match s1 with | (x2, x3) => ∀ (d4 : Option (Int32 ⊕ Int64)), oo LN xs 0 0 14 4 [some (.ref 9), some (.int x2), some (.int x3), (d4.map dv)] [] M (some (.int t), M)) (fun (s15 : Int32 × Int32) => match s15 with | (x16, x17) => ∀ (d18 : Option (Int32 ⊕ Int64)), oo LN xs 0 0 14 51 [some (.ref 9), some (.int x16), some (.int x17), (d18.map dv)] [] M (some (.int t), M)) ?_ hs15 ?_ none
  · rintro ⟨x2, x3⟩ ws1 h hK
    dsimp only at h
    show ∀ (d4 : Option (Int32 ⊕ Int64)), oo LN xs 0 0 14 4 [some (.ref 9), some (.int x2), some (.int x3), (d4.map dv)] [] M (some (.int t), M)
    intro d4
    refine o_iload_n k14_4 rfl ?_
    refine o_aload_n k14_5 rfl ?_
    refine o_gf k14_6 (gf_9_0 _) ?_
    refine o_icmp_ge k14_9 (fun hc5 => ?_) (fun hc5 => ?_)
    · rw [if_pos hc5] at h
      have h9 := Option.some.inj h
      subst h9
      exact hK d4
    · rw [if_neg hc5] at h
      refine o_iconst (v := 0) k14_12 (by decide) ?_
      refine o_istore_n (v := 0) (L' := [some (.ref 9), some (.int x2), some (.int x3), some (.int 0)]) k14_13 rfl rfl ?_
      refine bd_i h (fun s12 hs12 h => ?_)
      refine lp_o (fun (s6 : Int32 × Int32) => match s6 with | (x7, x8) => oo LN xs 0 0 14 14 [some (.ref 9), some (.int x7), some (.int x3), some (.int x8)] [] M (some (.int t), M)) (fun (s12 : Int32 × Int32) => match s12 with | (x13, x14) => oo LN xs 0 0 14 45 [some (.ref 9), some (.int x13), some (.int x3), some (.int x14)] [] M (some (.int t), M)) ?_ hs12 ?_
      · rintro ⟨x7, x8⟩ ws6 h hK
        dsimp only at h
        show oo LN xs 0 0 14 14 [some (.ref 9), some (.int x7), some (.int x3), some (.int x8)] [] M (some (.int t), M)
        refine o_iload_n k14_14 rfl ?_
        refine o_aload_n k14_15 rfl ?_
        refine o_gf k14_16 (gf_9_1 _) ?_
        refine o_icmp_ge k14_19 (fun hc9 => ?_) (fun hc9 => ?_)
        · rw [if_pos hc9] at h
          have h9 := Option.some.inj h
          subst h9
          exact hK
        · rw [if_neg hc9] at h
          refine o_aload_n k14_22 rfl ?_
          refine o_gf k14_23 (gf_9_8 _) ?_
          refine o_iload_n k14_26 rfl ?_
          refine o_iload_n k14_27 rfl ?_
          refine o_call k14_28 pj_5 (fun _ => rfl) (by decide) rfl (as := [.int x3, .int x8]) (rest := [.ref 11]) rfl (L0 := [some (.int x3), some (.int x8)]) rfl (t_X0_at (M := M) (a0 := x3) (a1 := x8) rfl) ?_
          obtain ⟨hc10, h⟩ := ck_i h
          refine o_iald k14_31 rfl ia_11 hc10 ?_
          refine o_iconst (v := 2) k14_32 (by decide) ?_
          refine o_icmp_eq k14_33 (fun hc11 => ?_) (fun hc11 => ?_)
          · rw [if_pos hc11] at h
            refine o_iinc (k := 1) (L' := [some (.ref 9), some (.int x7), some (.int x3), some (.int (x8 + 1))]) k14_39 rfl (by decide) rfl ?_
            refine o_goto k14_42 ?_
            have h9 := Option.some.inj h
            subst h9
            exact hK
          · rw [if_neg hc11] at h
            refine o_iinc (k := 1) (L' := [some (.ref 9), some (.int (x7 + 1)), some (.int x3), some (.int x8)]) k14_36 rfl (by decide) rfl ?_
            refine o_iinc (k := 1) (L' := [some (.ref 9), some (.int (x7 + 1)), some (.int x3), some (.int (x8 + 1))]) k14_39 rfl (by decide) rfl ?_
            refine o_goto k14_42 ?_
            have h9 := Option.some.inj h
            subst h9
            exact hK
      · obtain ⟨x13, x14⟩ := s12
        show oo LN xs 0 0 14 45 [some (.ref 9), some (.int x13), some (.int x3), some (.int x14)] [] M (some (.int t), M)
        dsimp only at h
        refine o_iinc (k := 1) (L' := [some (.ref 9), some (.int x13), some (.int (x3 + 1)), some (.int x14)]) k14_45 rfl (by decide) rfl ?_
        refine o_goto k14_48 ?_
        have h9 := Option.some.inj h
        subst h9
        exact hK (some (.inl x14))
  · obtain ⟨x16, x17⟩ := s15
    show ∀ (d18 : Option (Int32 ⊕ Int64)), oo LN xs 0 0 14 51 [some (.ref 9), some (.int x16), some (.int x17), (d18.map dv)] [] M (some (.int t), M)
    dsimp only at h
    intro d18
    refine o_iload_n k14_51 rfl ?_
    have h9 := Option.some.inj h
    subst h9
    exact o_iret pj_14 k14_52 rfl nr_i
def f_X0_columnBits_9 (M : am_M) : Option Int32 := ((lp (σ := Int32 × Int32) (ρ := Int32 × Int32) (fun (s1 : Int32 × Int32) => match s1 with | (x2, x3) => (if (M 9 0) ≤ x3 then (some (.inr (x2, x3))) else (if am_dbin x3 8 = true then (some (.inl ((x2 + (f_J6_bitCount_0f7a4 (M 12 x3.toNatClampNeg))), (x3 + 1)))) else none))) lp_F (0, 0)).bind (fun (s6 : Int32 × Int32) => match s6 with | (x7, x8) => (some x7)))
set_option maxRecDepth 20000 in
theorem t_X0_columnBits_9 {LN : Nat} {xs : Nat → Int32} {M : am_M} {t : Int32} (h : f_X0_columnBits_9 M = some t) : oo LN xs 0 0 15 0 [some (.ref 9), none, none] [] M (some (.int t), M) := by
  unfold f_X0_columnBits_9 at h
  refine o_iconst (v := 0) k15_0 (by decide) ?_
  refine o_istore_n (v := 0) (L' := [some (.ref 9), some (.int 0), none]) k15_1 rfl rfl ?_
  refine o_iconst (v := 0) k15_2 (by decide) ?_
  refine o_istore_n (v := 0) (L' := [some (.ref 9), some (.int 0), some (.int 0)]) k15_3 rfl rfl ?_
  refine bd_i h (fun s6 hs6 h => ?_)
  refine lp_o (fun (s1 : Int32 × Int32) => match s1 with | (x2, x3) => oo LN xs 0 0 15 4 [some (.ref 9), some (.int x2), some (.int x3)] [] M (some (.int t), M)) (fun (s6 : Int32 × Int32) => match s6 with | (x7, x8) => oo LN xs 0 0 15 30 [some (.ref 9), some (.int x7), some (.int x8)] [] M (some (.int t), M)) ?_ hs6 ?_
  · rintro ⟨x2, x3⟩ ws1 h hK
    dsimp only at h
    show oo LN xs 0 0 15 4 [some (.ref 9), some (.int x2), some (.int x3)] [] M (some (.int t), M)
    refine o_iload_n k15_4 rfl ?_
    refine o_aload_n k15_5 rfl ?_
    refine o_gf k15_6 (gf_9_0 _) ?_
    refine o_icmp_ge k15_9 (fun hc4 => ?_) (fun hc4 => ?_)
    · rw [if_pos hc4] at h
      have h9 := Option.some.inj h
      subst h9
      exact hK
    · rw [if_neg hc4] at h
      refine o_iload_n k15_12 rfl ?_
      refine o_aload_n k15_13 rfl ?_
      refine o_gf k15_14 (gf_9_9 _) ?_
      refine o_iload_n k15_17 rfl ?_
      obtain ⟨hc5, h⟩ := ck_i h
      refine o_iald k15_18 rfl ia_12 hc5 ?_
      refine o_call k15_19 pj_212 (fun _ => rfl) (by decide) rfl (as := [.int (M 12 x3.toNatClampNeg)]) (rest := [.int x2]) rfl (L0 := [some (.int (M 12 x3.toNatClampNeg))]) rfl (t_J6_bitCount_0f7a4 (M := M) (a0 := (M 12 x3.toNatClampNeg)) rfl) ?_
      refine o_iadd k15_22 ?_
      refine o_istore_n (v := (x2 + (f_J6_bitCount_0f7a4 (M 12 x3.toNatClampNeg)))) (L' := [some (.ref 9), some (.int (x2 + (f_J6_bitCount_0f7a4 (M 12 x3.toNatClampNeg)))), some (.int x3)]) k15_23 rfl rfl ?_
      refine o_iinc (k := 1) (L' := [some (.ref 9), some (.int (x2 + (f_J6_bitCount_0f7a4 (M 12 x3.toNatClampNeg)))), some (.int (x3 + 1))]) k15_24 rfl (by decide) rfl ?_
      refine o_goto k15_27 ?_
      have h9 := Option.some.inj h
      subst h9
      exact hK
  · obtain ⟨x7, x8⟩ := s6
    show oo LN xs 0 0 15 30 [some (.ref 9), some (.int x7), some (.int x8)] [] M (some (.int t), M)
    dsimp only at h
    refine o_iload_n k15_30 rfl ?_
    have h9 := Option.some.inj h
    subst h9
    exact o_iret pj_15 k15_31 rfl nr_i
def f_X7_count_0 (a0 : Int32) (M : am_M) : Option Int32 := (if a0 = 0 then ((f_X7_imagesKept_0 M).bind (fun v1 => (some v1))) else (if a0 = 1 then ((f_X0_cellsWith_9 1 M).bind (fun v2 => (some v2))) else (if a0 = 2 then (some (M 2 1)) else (if a0 = 3 then (if (f_X3_isNothing_35 M) = 0 then (some (M 35 1)) else (some (-4))) else (if a0 = 4 then ((f_X0_wantsTold_9 M).bind (fun v4 => (some v4))) else (if a0 = 5 then ((f_X0_columnBits_9 M).bind (fun v5 => (some v5))) else (some (-1))))))))
set_option maxRecDepth 20000 in
theorem t_X7_count_0 {LN : Nat} {xs : Nat → Int32} {a0 : Int32} {M : am_M} {t : Int32} (h : f_X7_count_0 a0 M = some t) : oo LN xs 0 0 118 0 [some (.ref 0), some (.int a0)] [] M (some (.int t), M) := by
  unfold f_X7_count_0 at h
  refine o_iload_n k118_0 rfl ?_
  by_cases hx1_0 : a0 = 0
  · rw [if_pos hx1_0] at h
    refine o_tswI (tgt := 40) (off := 39) k118_1 (by rw [hx1_0]; decide) (by rw [hx1_0]; decide) (by rw [hx1_0]; decide) (by decide) ?_
    refine o_aload_n k118_40 rfl ?_
    refine bd_i h (fun v1 hv1 h => ?_)
    refine o_call k118_41 pj_120 (fun _ => rfl) (by decide) rfl (as := [.ref 0]) (rest := []) rfl (L0 := [some (.ref 0), none, none]) rfl (t_X7_imagesKept_0 hv1) ?_
    have h9 := Option.some.inj h
    subst h9
    exact o_iret pj_118 k118_44 rfl nr_i
  rw [if_neg hx1_0] at h
  by_cases hx1_1 : a0 = 1
  · rw [if_pos hx1_1] at h
    refine o_tswI (tgt := 45) (off := 44) k118_1 (by rw [hx1_1]; decide) (by rw [hx1_1]; decide) (by rw [hx1_1]; decide) (by decide) ?_
    refine o_aload_n k118_45 rfl ?_
    refine o_gf k118_46 (gf_0_2 _) ?_
    refine o_iconst (v := 1) k118_49 (by decide) ?_
    refine bd_i h (fun v2 hv2 h => ?_)
    refine o_call k118_50 pj_13 (fun _ => rfl) (by decide) rfl (as := [.ref 9, .int 1]) (rest := []) rfl (L0 := [some (.ref 9), some (.int 1), none, none, none]) rfl (t_X0_cellsWith_9 hv2) ?_
    have h9 := Option.some.inj h
    subst h9
    exact o_iret pj_118 k118_53 rfl nr_i
  rw [if_neg hx1_1] at h
  by_cases hx1_2 : a0 = 2
  · rw [if_pos hx1_2] at h
    refine o_tswI (tgt := 54) (off := 53) k118_1 (by rw [hx1_2]; decide) (by rw [hx1_2]; decide) (by rw [hx1_2]; decide) (by decide) ?_
    refine o_aload_n k118_54 rfl ?_
    refine o_gf k118_55 (gf_0_0 _) ?_
    refine o_gf k118_58 (gf_1_0 _) ?_
    refine o_gf k118_61 (gf_2_1 _) ?_
    have h9 := Option.some.inj h
    subst h9
    exact o_iret pj_118 k118_64 rfl nr_i
  rw [if_neg hx1_2] at h
  by_cases hx1_3 : a0 = 3
  · rw [if_pos hx1_3] at h
    refine o_tswI (tgt := 65) (off := 64) k118_1 (by rw [hx1_3]; decide) (by rw [hx1_3]; decide) (by rw [hx1_3]; decide) (by decide) ?_
    refine o_aload_n k118_65 rfl ?_
    refine o_gf k118_66 (gf_0_7 _) ?_
    refine o_iconst (v := 0) k118_69 (by decide) ?_
    refine o_aald (v := .ref 35) k118_70 rfl ?_
    refine o_call k118_71 pj_45 (fun _ => rfl) (by decide) rfl (as := [.ref 35]) (rest := []) rfl (L0 := [some (.ref 35)]) rfl (t_X3_isNothing_35 (M := M) rfl) ?_
    refine o_if_eq k118_74 (fun hc3 => ?_) (fun hc3 => ?_)
    · rw [if_pos hc3] at h
      refine o_aload_n k118_82 rfl ?_
      refine o_gf k118_83 (gf_0_7 _) ?_
      refine o_iconst (v := 0) k118_86 (by decide) ?_
      refine o_aald (v := .ref 35) k118_87 rfl ?_
      refine o_gf k118_88 (gf_35_1 _) ?_
      have h9 := Option.some.inj h
      subst h9
      exact o_iret pj_118 k118_91 rfl nr_i
    · rw [if_neg hc3] at h
      refine o_bipush (v := (-4)) k118_77 (by decide) ?_
      refine o_goto k118_79 ?_
      have h9 := Option.some.inj h
      subst h9
      exact o_iret pj_118 k118_91 rfl nr_i
  rw [if_neg hx1_3] at h
  by_cases hx1_4 : a0 = 4
  · rw [if_pos hx1_4] at h
    refine o_tswI (tgt := 92) (off := 91) k118_1 (by rw [hx1_4]; decide) (by rw [hx1_4]; decide) (by rw [hx1_4]; decide) (by decide) ?_
    refine o_aload_n k118_92 rfl ?_
    refine o_gf k118_93 (gf_0_2 _) ?_
    refine bd_i h (fun v4 hv4 h => ?_)
    refine o_call k118_96 pj_14 (fun _ => rfl) (by decide) rfl (as := [.ref 9]) (rest := []) rfl (L0 := [some (.ref 9), none, none, none]) rfl (t_X0_wantsTold_9 hv4) ?_
    have h9 := Option.some.inj h
    subst h9
    exact o_iret pj_118 k118_99 rfl nr_i
  rw [if_neg hx1_4] at h
  by_cases hx1_5 : a0 = 5
  · rw [if_pos hx1_5] at h
    refine o_tswI (tgt := 100) (off := 99) k118_1 (by rw [hx1_5]; decide) (by rw [hx1_5]; decide) (by rw [hx1_5]; decide) (by decide) ?_
    refine o_aload_n k118_100 rfl ?_
    refine o_gf k118_101 (gf_0_2 _) ?_
    refine bd_i h (fun v5 hv5 h => ?_)
    refine o_call k118_104 pj_15 (fun _ => rfl) (by decide) rfl (as := [.ref 9]) (rest := []) rfl (L0 := [some (.ref 9), none, none]) rfl (t_X0_columnBits_9 hv5) ?_
    have h9 := Option.some.inj h
    subst h9
    exact o_iret pj_118 k118_107 rfl nr_i
  rw [if_neg hx1_5] at h
  refine o_tswD (tgt := 108) k118_1 (by have n0 := ne_lit (k := 0) 0 (by decide) hx1_0; have n1 := ne_lit (k := 1) 1 (by decide) hx1_1; have n2 := ne_lit (k := 2) 2 (by decide) hx1_2; have n3 := ne_lit (k := 3) 3 (by decide) hx1_3; have n4 := ne_lit (k := 4) 4 (by decide) hx1_4; have n5 := ne_lit (k := 5) 5 (by decide) hx1_5; omega) (by decide) ?_
  refine o_iconst (v := (-1)) k118_108 (by decide) ?_
  have h9 := Option.some.inj h
  subst h9
  exact o_iret pj_118 k118_109 rfl nr_i
def f_X8_wantsOfAll_43 (M : am_M) : Option Int32 := ((lp (σ := Int32 × Int32) (ρ := Int32 × Int32) (fun (s1 : Int32 × Int32) => match s1 with | (x2, x3) => (if (M 44 (0 : Int32).toNatClampNeg) ≤ x3 then (some (.inr (x2, x3))) else ((lp (σ := Int32 × Int32) (ρ := Int32 × Int32) (fun (s7 : Int32 × Int32) => match s7 with | (x8, x9) => (if (M 44 (1 : Int32).toNatClampNeg) ≤ x9 then (some (.inr (x8, x9))) else (if am_dbin (((71 : Int32) + ((8 : Int32) * x3)) + x9) 151 = true then (bl (if (M 44 (((71 : Int32) + ((8 : Int32) * x3)) + x9).toNatClampNeg) = 2 then 0 else 1) (fun (v14 : Int32) => (some (.inl ((x8 + (f_X8_flag v14)), (x9 + 1)))))) else none))) lp_F (x2, 0)).bind (fun (s15 : Int32 × Int32) => match s15 with | (x16, x17) => (some (.inl (x16, (x3 + 1)))))))) lp_F (0, 0)).bind (fun (s18 : Int32 × Int32) => match s18 with | (x19, x20) => (some x19)))
set_option maxRecDepth 20000 in
theorem t_X8_wantsOfAll_43 {LN : Nat} {xs : Nat → Int32} {M : am_M} {t : Int32} (h : f_X8_wantsOfAll_43 M = some t) : oo LN xs 0 0 209 0 [some (.ref 43), none, none, none] [] M (some (.int t), M) := by
  unfold f_X8_wantsOfAll_43 at h
  refine o_iconst (v := 0) k209_0 (by decide) ?_
  refine o_istore_n (v := 0) (L' := [some (.ref 43), some (.int 0), none, none]) k209_1 rfl rfl ?_
  refine o_iconst (v := 0) k209_2 (by decide) ?_
  refine o_istore_n (v := 0) (L' := [some (.ref 43), some (.int 0), some (.int 0), none]) k209_3 rfl rfl ?_
  refine bd_i h (fun s18 hs18 h => ?_)
  refine lp_o (fun (s1 : Int32 × Int32) => match s1 with | (x2, x3) => ∀ (d4 : Option (Int32 ⊕ Int64)), oo LN xs 0 0 209 4 [some (.ref 43), some (.int x2), some (.int x3), (d4.map dv)] [] M (some (.int t), M)) (fun (s18 : Int32 × Int32) => match s18 with | (x19, x20) => ∀ (d21 : Option (Int32 ⊕ Int64)), oo LN xs 0 0 209 67 [some (.ref 43), some (.int x19), some (.int x20), (d21.map dv)] [] M (some (.int t), M)) ?_ hs18 ?_ none
  · rintro ⟨x2, x3⟩ ws1 h hK
    dsimp only at h
    show ∀ (d4 : Option (Int32 ⊕ Int64)), oo LN xs 0 0 209 4 [some (.ref 43), some (.int x2), some (.int x3), (d4.map dv)] [] M (some (.int t), M)
    intro d4
    refine o_iload_n k209_4 rfl ?_
    refine o_aload_n k209_5 rfl ?_
    refine o_gf k209_6 (gf_43_0 _) ?_
    refine o_iconst (v := 0) k209_9 (by decide) ?_
    refine o_iald k209_10 rfl ia_44 (by decide) ?_
    refine o_icmp_ge k209_11 (fun hc6 => ?_) (fun hc6 => ?_)
    · rw [if_pos hc6] at h
      have h9 := Option.some.inj h
      subst h9
      exact hK d4
    · rw [if_neg hc6] at h
      refine o_iconst (v := 0) k209_14 (by decide) ?_
      refine o_istore_n (v := 0) (L' := [some (.ref 43), some (.int x2), some (.int x3), some (.int 0)]) k209_15 rfl rfl ?_
      refine bd_i h (fun s15 hs15 h => ?_)
      refine lp_o (fun (s7 : Int32 × Int32) => match s7 with | (x8, x9) => oo LN xs 0 0 209 16 [some (.ref 43), some (.int x8), some (.int x3), some (.int x9)] [] M (some (.int t), M)) (fun (s15 : Int32 × Int32) => match s15 with | (x16, x17) => oo LN xs 0 0 209 61 [some (.ref 43), some (.int x16), some (.int x3), some (.int x17)] [] M (some (.int t), M)) ?_ hs15 ?_
      · rintro ⟨x8, x9⟩ ws7 h hK
        dsimp only at h
        show oo LN xs 0 0 209 16 [some (.ref 43), some (.int x8), some (.int x3), some (.int x9)] [] M (some (.int t), M)
        refine o_iload_n k209_16 rfl ?_
        refine o_aload_n k209_17 rfl ?_
        refine o_gf k209_18 (gf_43_0 _) ?_
        refine o_iconst (v := 1) k209_21 (by decide) ?_
        refine o_iald k209_22 rfl ia_44 (by decide) ?_
        refine o_icmp_ge k209_23 (fun hc11 => ?_) (fun hc11 => ?_)
        · rw [if_pos hc11] at h
          have h9 := Option.some.inj h
          subst h9
          exact hK
        · rw [if_neg hc11] at h
          refine o_iload_n k209_26 rfl ?_
          refine o_aload_n k209_27 rfl ?_
          refine o_gf k209_28 (gf_43_0 _) ?_
          refine o_bipush (v := 71) k209_31 (by decide) ?_
          refine o_bipush (v := 8) k209_33 (by decide) ?_
          refine o_iload_n k209_35 rfl ?_
          refine o_imul k209_36 ?_
          refine o_iadd k209_37 ?_
          refine o_iload_n k209_38 rfl ?_
          refine o_iadd k209_39 ?_
          obtain ⟨hc12, h⟩ := ck_i h
          refine o_iald k209_40 rfl ia_44 hc12 ?_
          refine o_iconst (v := 2) k209_41 (by decide) ?_
          refine bl_i h (fun v14 ev14 h => ?_)
          have hJ50 : ∀ (yv14 : Int32), yv14 = v14 → oo LN xs 0 0 209 50 [some (.ref 43), some (.int x8), some (.int x3), some (.int x9)] [.int yv14, .int x8] M (some (.int t), M) := by
            intro yv14 hyv14
            rw [hyv14]
            refine o_call k209_50 pj_126 (fun _ => rfl) (by decide) rfl (as := [.int v14]) (rest := [.int x8]) rfl (L0 := [some (.int v14)]) rfl (t_X8_flag (M := M) (a0 := v14) rfl) ?_
            refine o_iadd k209_53 ?_
            refine o_istore_n (v := (x8 + (f_X8_flag v14))) (L' := [some (.ref 43), some (.int (x8 + (f_X8_flag v14))), some (.int x3), some (.int x9)]) k209_54 rfl rfl ?_
            refine o_iinc (k := 1) (L' := [some (.ref 43), some (.int (x8 + (f_X8_flag v14))), some (.int x3), some (.int (x9 + 1))]) k209_55 rfl (by decide) rfl ?_
            refine o_goto k209_58 ?_
            have h9 := Option.some.inj h
            subst h9
            exact hK
          refine o_icmp_eq k209_42 (fun hc13 => ?_) (fun hc13 => ?_)
          · skip
            refine o_iconst (v := 0) k209_49 (by decide) ?_
            exact hJ50 _ (by simp only [ev14, if_pos hc13])
          · skip
            refine o_iconst (v := 1) k209_45 (by decide) ?_
            refine o_goto k209_46 ?_
            exact hJ50 _ (by simp only [ev14, if_neg hc13])
      · obtain ⟨x16, x17⟩ := s15
        show oo LN xs 0 0 209 61 [some (.ref 43), some (.int x16), some (.int x3), some (.int x17)] [] M (some (.int t), M)
        dsimp only at h
        refine o_iinc (k := 1) (L' := [some (.ref 43), some (.int x16), some (.int (x3 + 1)), some (.int x17)]) k209_61 rfl (by decide) rfl ?_
        refine o_goto k209_64 ?_
        have h9 := Option.some.inj h
        subst h9
        exact hK (some (.inl x17))
  · obtain ⟨x19, x20⟩ := s18
    show ∀ (d21 : Option (Int32 ⊕ Int64)), oo LN xs 0 0 209 67 [some (.ref 43), some (.int x19), some (.int x20), (d21.map dv)] [] M (some (.int t), M)
    dsimp only at h
    intro d21
    refine o_iload_n k209_67 rfl ?_
    have h9 := Option.some.inj h
    subst h9
    exact o_iret pj_209 k209_68 rfl nr_i
def f_X8_columnBits_43 (M : am_M) : Option Int32 := ((lp (σ := Int32 × Int32) (ρ := Int32 × Int32) (fun (s1 : Int32 × Int32) => match s1 with | (x2, x3) => (if (M 44 (0 : Int32).toNatClampNeg) ≤ x3 then (some (.inr (x2, x3))) else (if am_dbin ((135 : Int32) + x3) 151 = true then ((f_X8_bitsOf (M 44 ((135 : Int32) + x3).toNatClampNeg)).bind (fun v7 => (some (.inl ((x2 + v7), (x3 + 1)))))) else none))) lp_F (0, 0)).bind (fun (s8 : Int32 × Int32) => match s8 with | (x9, x10) => (some x9)))
set_option maxRecDepth 20000 in
theorem t_X8_columnBits_43 {LN : Nat} {xs : Nat → Int32} {M : am_M} {t : Int32} (h : f_X8_columnBits_43 M = some t) : oo LN xs 0 0 210 0 [some (.ref 43), none, none] [] M (some (.int t), M) := by
  unfold f_X8_columnBits_43 at h
  refine o_iconst (v := 0) k210_0 (by decide) ?_
  refine o_istore_n (v := 0) (L' := [some (.ref 43), some (.int 0), none]) k210_1 rfl rfl ?_
  refine o_iconst (v := 0) k210_2 (by decide) ?_
  refine o_istore_n (v := 0) (L' := [some (.ref 43), some (.int 0), some (.int 0)]) k210_3 rfl rfl ?_
  refine bd_i h (fun s8 hs8 h => ?_)
  refine lp_o (fun (s1 : Int32 × Int32) => match s1 with | (x2, x3) => oo LN xs 0 0 210 4 [some (.ref 43), some (.int x2), some (.int x3)] [] M (some (.int t), M)) (fun (s8 : Int32 × Int32) => match s8 with | (x9, x10) => oo LN xs 0 0 210 36 [some (.ref 43), some (.int x9), some (.int x10)] [] M (some (.int t), M)) ?_ hs8 ?_
  · rintro ⟨x2, x3⟩ ws1 h hK
    dsimp only at h
    show oo LN xs 0 0 210 4 [some (.ref 43), some (.int x2), some (.int x3)] [] M (some (.int t), M)
    refine o_iload_n k210_4 rfl ?_
    refine o_aload_n k210_5 rfl ?_
    refine o_gf k210_6 (gf_43_0 _) ?_
    refine o_iconst (v := 0) k210_9 (by decide) ?_
    refine o_iald k210_10 rfl ia_44 (by decide) ?_
    refine o_icmp_ge k210_11 (fun hc5 => ?_) (fun hc5 => ?_)
    · rw [if_pos hc5] at h
      have h9 := Option.some.inj h
      subst h9
      exact hK
    · rw [if_neg hc5] at h
      refine o_iload_n k210_14 rfl ?_
      refine o_aload_n k210_15 rfl ?_
      refine o_gf k210_16 (gf_43_0 _) ?_
      refine o_sipush (v := 135) k210_19 (by decide) ?_
      refine o_iload_n k210_22 rfl ?_
      refine o_iadd k210_23 ?_
      obtain ⟨hc6, h⟩ := ck_i h
      refine o_iald k210_24 rfl ia_44 hc6 ?_
      refine bd_i h (fun v7 hv7 h => ?_)
      refine o_call k210_25 pj_128 (fun _ => rfl) (by decide) rfl (as := [.int (M 44 ((135 : Int32) + x3).toNatClampNeg)]) (rest := [.int x2]) rfl (L0 := [some (.int (M 44 ((135 : Int32) + x3).toNatClampNeg)), none, none]) rfl (t_X8_bitsOf hv7) ?_
      refine o_iadd k210_28 ?_
      refine o_istore_n (v := (x2 + v7)) (L' := [some (.ref 43), some (.int (x2 + v7)), some (.int x3)]) k210_29 rfl rfl ?_
      refine o_iinc (k := 1) (L' := [some (.ref 43), some (.int (x2 + v7)), some (.int (x3 + 1))]) k210_30 rfl (by decide) rfl ?_
      refine o_goto k210_33 ?_
      have h9 := Option.some.inj h
      subst h9
      exact hK
  · obtain ⟨x9, x10⟩ := s8
    show oo LN xs 0 0 210 36 [some (.ref 43), some (.int x9), some (.int x10)] [] M (some (.int t), M)
    dsimp only at h
    refine o_iload_n k210_36 rfl ?_
    have h9 := Option.some.inj h
    subst h9
    exact o_iret pj_210 k210_37 rfl nr_i
def f_X8_count_43 (a0 : Int32) (M : am_M) : Option Int32 := (if a0 = 0 then (some ((f_X8_flag (M 46 (0 : Int32).toNatClampNeg)) + (f_X8_flag (M 46 (1 : Int32).toNatClampNeg)))) else (if a0 = 1 then ((f_X8_cellsOf_43 1 M).bind (fun v3 => (some v3))) else (if a0 = 2 then (some (M 43 12)) else (if a0 = 3 then (if (M 54 (0 : Int32).toNatClampNeg) = (-4) then (some (-4)) else (some (M 55 (0 : Int32).toNatClampNeg))) else (if a0 = 4 then ((f_X8_wantsOfAll_43 M).bind (fun v7 => (some v7))) else (if a0 = 5 then ((f_X8_columnBits_43 M).bind (fun v8 => (some v8))) else (some (-1))))))))
set_option maxRecDepth 20000 in
theorem t_X8_count_43 {LN : Nat} {xs : Nat → Int32} {a0 : Int32} {M : am_M} {t : Int32} (h : f_X8_count_43 a0 M = some t) : oo LN xs 0 0 211 0 [some (.ref 43), some (.int a0)] [] M (some (.int t), M) := by
  unfold f_X8_count_43 at h
  refine o_iload_n k211_0 rfl ?_
  by_cases hx1_0 : a0 = 0
  · rw [if_pos hx1_0] at h
    refine o_tswI (tgt := 40) (off := 39) k211_1 (by rw [hx1_0]; decide) (by rw [hx1_0]; decide) (by rw [hx1_0]; decide) (by decide) ?_
    refine o_aload_n k211_40 rfl ?_
    refine o_gf k211_41 (gf_43_2 _) ?_
    refine o_iconst (v := 0) k211_44 (by decide) ?_
    refine o_bald k211_45 ba_46 (by decide) ?_
    refine o_call k211_46 pj_126 (fun _ => rfl) (by decide) rfl (as := [.int (M 46 (0 : Int32).toNatClampNeg)]) (rest := []) rfl (L0 := [some (.int (M 46 (0 : Int32).toNatClampNeg))]) rfl (t_X8_flag (M := M) (a0 := (M 46 (0 : Int32).toNatClampNeg)) rfl) ?_
    refine o_aload_n k211_49 rfl ?_
    refine o_gf k211_50 (gf_43_2 _) ?_
    refine o_iconst (v := 1) k211_53 (by decide) ?_
    refine o_bald k211_54 ba_46 (by decide) ?_
    refine o_call k211_55 pj_126 (fun _ => rfl) (by decide) rfl (as := [.int (M 46 (1 : Int32).toNatClampNeg)]) (rest := [.int (f_X8_flag (M 46 (0 : Int32).toNatClampNeg))]) rfl (L0 := [some (.int (M 46 (1 : Int32).toNatClampNeg))]) rfl (t_X8_flag (M := M) (a0 := (M 46 (1 : Int32).toNatClampNeg)) rfl) ?_
    refine o_iadd k211_58 ?_
    have h9 := Option.some.inj h
    subst h9
    exact o_iret pj_211 k211_59 rfl nr_i
  rw [if_neg hx1_0] at h
  by_cases hx1_1 : a0 = 1
  · rw [if_pos hx1_1] at h
    refine o_tswI (tgt := 60) (off := 59) k211_1 (by rw [hx1_1]; decide) (by rw [hx1_1]; decide) (by rw [hx1_1]; decide) (by decide) ?_
    refine o_aload_n k211_60 rfl ?_
    refine o_iconst (v := 1) k211_61 (by decide) ?_
    refine bd_i h (fun v3 hv3 h => ?_)
    refine o_call k211_62 pj_157 (fun _ => rfl) (by decide) rfl (as := [.ref 43, .int 1]) (rest := []) rfl (L0 := [some (.ref 43), some (.int 1), none, none, none]) rfl (t_X8_cellsOf_43 hv3) ?_
    have h9 := Option.some.inj h
    subst h9
    exact o_iret pj_211 k211_65 rfl nr_i
  rw [if_neg hx1_1] at h
  by_cases hx1_2 : a0 = 2
  · rw [if_pos hx1_2] at h
    refine o_tswI (tgt := 66) (off := 65) k211_1 (by rw [hx1_2]; decide) (by rw [hx1_2]; decide) (by rw [hx1_2]; decide) (by decide) ?_
    refine o_aload_n k211_66 rfl ?_
    refine o_gf k211_67 (gf_43_12 _) ?_
    have h9 := Option.some.inj h
    subst h9
    exact o_iret pj_211 k211_70 rfl nr_i
  rw [if_neg hx1_2] at h
  by_cases hx1_3 : a0 = 3
  · rw [if_pos hx1_3] at h
    refine o_tswI (tgt := 71) (off := 70) k211_1 (by rw [hx1_3]; decide) (by rw [hx1_3]; decide) (by rw [hx1_3]; decide) (by decide) ?_
    refine o_aload_n k211_71 rfl ?_
    refine o_gf k211_72 (gf_43_27 _) ?_
    refine o_iconst (v := 0) k211_75 (by decide) ?_
    refine o_iald k211_76 rfl ia_54 (by decide) ?_
    refine o_bipush (v := (-4)) k211_77 (by decide) ?_
    refine o_icmp_ne k211_79 (fun hc5 => ?_) (fun hc5 => ?_)
    · rw [if_neg hc5] at h
      refine o_aload_n k211_87 rfl ?_
      refine o_gf k211_88 (gf_43_28 _) ?_
      refine o_iconst (v := 0) k211_91 (by decide) ?_
      refine o_iald k211_92 rfl ia_55 (by decide) ?_
      have h9 := Option.some.inj h
      subst h9
      exact o_iret pj_211 k211_93 rfl nr_i
    · rw [if_pos hc5] at h
      refine o_bipush (v := (-4)) k211_82 (by decide) ?_
      refine o_goto k211_84 ?_
      have h9 := Option.some.inj h
      subst h9
      exact o_iret pj_211 k211_93 rfl nr_i
  rw [if_neg hx1_3] at h
  by_cases hx1_4 : a0 = 4
  · rw [if_pos hx1_4] at h
    refine o_tswI (tgt := 94) (off := 93) k211_1 (by rw [hx1_4]; decide) (by rw [hx1_4]; decide) (by rw [hx1_4]; decide) (by decide) ?_
    refine o_aload_n k211_94 rfl ?_
    refine bd_i h (fun v7 hv7 h => ?_)
    refine o_call k211_95 pj_209 (fun _ => rfl) (by decide) rfl (as := [.ref 43]) (rest := []) rfl (L0 := [some (.ref 43), none, none, none]) rfl (t_X8_wantsOfAll_43 hv7) ?_
    have h9 := Option.some.inj h
    subst h9
    exact o_iret pj_211 k211_98 rfl nr_i
  rw [if_neg hx1_4] at h
  by_cases hx1_5 : a0 = 5
  · rw [if_pos hx1_5] at h
    refine o_tswI (tgt := 99) (off := 98) k211_1 (by rw [hx1_5]; decide) (by rw [hx1_5]; decide) (by rw [hx1_5]; decide) (by decide) ?_
    refine o_aload_n k211_99 rfl ?_
    refine bd_i h (fun v8 hv8 h => ?_)
    refine o_call k211_100 pj_210 (fun _ => rfl) (by decide) rfl (as := [.ref 43]) (rest := []) rfl (L0 := [some (.ref 43), none, none]) rfl (t_X8_columnBits_43 hv8) ?_
    have h9 := Option.some.inj h
    subst h9
    exact o_iret pj_211 k211_103 rfl nr_i
  rw [if_neg hx1_5] at h
  refine o_tswD (tgt := 104) k211_1 (by have n0 := ne_lit (k := 0) 0 (by decide) hx1_0; have n1 := ne_lit (k := 1) 1 (by decide) hx1_1; have n2 := ne_lit (k := 2) 2 (by decide) hx1_2; have n3 := ne_lit (k := 3) 3 (by decide) hx1_3; have n4 := ne_lit (k := 4) 4 (by decide) hx1_4; have n5 := ne_lit (k := 5) 5 (by decide) hx1_5; omega) (by decide) ?_
  refine o_iconst (v := (-1)) k211_104 (by decide) ?_
  have h9 := Option.some.inj h
  subst h9
  exact o_iret pj_211 k211_105 rfl nr_i
