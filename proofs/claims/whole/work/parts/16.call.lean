/-! CALLS, AND THE WHOLE -/
section AMW
variable {p : Program} {l : Launch} {e : Env} {R : Room} {s : State} {m : MethodId} {args : Array Value} {below : List Frame} {meth : Method} {c : Code} {H : Heap} {locs : List Loc} {kc ks : Nat} {Q : State → Prop}
variable {X : am_X} {D : va_G} {z : Nat} {fo : Nat → Value} {LN : Nat} {xs : Nat → Int32} {b : Nat} {adK adV : Nat → Nat} {d : am_D}
variable {pc : Nat} {ls : Array Slot} {ad : Nat → Nat} {cA : Nat → ClassId} {tys : List (ClassId × FieldType)} {L : am_L} {st : List Value} {sh : List am_S} {M : am_M}
set_option maxHeartbeats 4000000 in
theorem am_step (hSL : X.2.2.2.2.1.length ≤ 90) (hB : am_B X z fo LN xs b adK adV d p R s m args c meth) (hZ : am_Z X D z s H locs ad cA tys sh M) (hl : am_lh ad fo ls L) (hL : L.length = d.1.2.2.1) {x : Instr} {len r1 r2 : Nat} {rv : Value} (hd : decode d.1.2.1 pc = .ok (x, len)) (hlen : len = am_le x len) (hw : am_wx X d pc x r1 r2 rv)
    {pc' : Nat} {L' : am_L} {st' : List Value} {sh' : List am_S} {M' : am_M} {ka kb : Nat}
    (h : am_nx X LN xs x len r1 r2 rv pc L st sh M = some (pc', L', st', sh', M', ka, kb)) (hkc : kc + ka ≤ R.cells) (hks : ks + kb ≤ R.slots)
    (kk : ∀ (H' : Heap) (locs' : List Loc) (ad' : Nat → Nat) (cA' : Nat → ClassId) (tys' : List (ClassId × FieldType)) (ls' : Array Slot), am_ag sh.length ad ad' cA cA' → sh.length ≤ sh'.length → am_Z X D z s H' locs' ad' cA' tys' sh' M' → am_lh ad' fo ls' L' → L'.length = d.1.2.2.1 → W p l e R s m args below meth c H' locs' (kc + ka) (ks + kb) Q (F0 m pc' ls' (st'.map (am_tr ad' fo)))) : W p l e R s m args below meth c H locs kc ks Q (F0 m pc ls (st.map (am_tr ad fo))) := by
  have hS := hZ.2.2.2.1
  by_cases g1 : ∃ f, x = .getfield f
  · obtain ⟨f, rfl⟩ := g1
    unfold am_nx at h
    dsimp only at h
    split at h
    · split at h
      · next v hv => cases h; exact am_getf (len := len) hB hZ hSL (am_hd hd hlen) hw hv (kk _ _ _ _ _ _ am_ag_r (Nat.le_refl _) hZ hl hL)
      · cases h
    · cases h
  by_cases g2 : ∃ f, x = .putfield f
  · obtain ⟨f, rfl⟩ := g2
    unfold am_nx at h
    dsimp only at h
    split at h
    · split at h
      · next v hv => cases h; exact am_putf (len := len) hB hZ (am_hd hd hlen) hw hv (fun H1 locs1 hZ1 e1 => kk _ _ _ _ _ _ am_ag_r (Nat.le_of_eq e1.symm) hZ1 hl hL)
      · cases h
    · cases h
  by_cases g3 : x = .iaload
  · subst g3
    unfold am_nx at h
    dsimp only at h
    split at h
    · split at h
      · next v hv => cases h; exact am_iald hB hZ (am_hd hd hlen) hv (kk _ _ _ _ _ _ am_ag_r (Nat.le_refl _) hZ hl hL)
      · cases h
    · cases h
  by_cases g4 : x = .baload
  · subst g4
    unfold am_nx at h
    dsimp only at h
    split at h
    · split at h
      · next v hv => cases h; exact am_bald hB hZ hSL (am_hd hd hlen) hv (kk _ _ _ _ _ _ am_ag_r (Nat.le_refl _) hZ hl hL)
      · cases h
    · cases h
  by_cases g5 : x = .aaload
  · subst g5
    unfold am_nx at h
    dsimp only at h
    split at h
    · split at h
      · next v hv => cases h; exact am_aald hB hZ (am_hd hd hlen) hv (kk _ _ _ _ _ _ am_ag_r (Nat.le_refl _) hZ hl hL)
      · cases h
    · cases h
  by_cases g6 : x = .iastore
  · subst g6
    unfold am_nx at h
    dsimp only at h
    split at h
    · split at h
      · next n hn =>
        split at h
        · next hi => cases h; exact am_iast hB hZ (am_hd hd hlen) hn hi (fun H1 locs1 hZ1 => kk _ _ _ _ _ _ am_ag_r (Nat.le_refl _) hZ1 hl hL)
        · cases h
      · cases h
    · cases h
  by_cases g7 : x = .bastore
  · subst g7
    unfold am_nx at h
    dsimp only at h
    split at h
    · split at h
      · next ty n hn =>
        split at h
        · next hi => cases h; exact am_bast hB hZ (am_hd hd hlen) hn hi (fun H1 locs1 hZ1 => kk _ _ _ _ _ _ am_ag_r (Nat.le_refl _) hZ1 hl hL)
        · cases h
      · cases h
    · cases h
  by_cases g8 : x = .aastore
  · subst g8
    unfold am_nx at h
    dsimp only at h
    split at h
    · split at h
      · next v hv => cases h; exact am_aast hB hZ (am_hd hd hlen) hv (fun H1 locs1 hZ1 e1 => kk _ _ _ _ _ _ am_ag_r (Nat.le_of_eq e1.symm) hZ1 hl hL)
      · cases h
    · cases h
  by_cases g9 : x = .arraylength
  · subst g9
    unfold am_nx at h
    dsimp only at h
    split at h
    · split at h
      · next v hv => cases h; exact am_alen hB hZ hSL (am_hd hd hlen) hv (kk _ _ _ _ _ _ am_ag_r (Nat.le_refl _) hZ hl hL)
      · cases h
    · cases h
  by_cases g10 : ∃ f, x = .new f
  · obtain ⟨f, rfl⟩ := g10
    unfold am_nx at h
    dsimp only at h
    split at h
    · next r ty h1 h2 =>
      split at h
      · next hm => cases h; exact am_newo hB hZ hl (am_hd hd hlen) hw h1 h2 hm hkc hks (fun H1 ad' cA' tys' e1 hZ1 hl1 => kk _ _ _ _ _ _ e1 (by rw [List.length_append]; omega) hZ1 hl1 hL)
      · cases h
    · cases h
  by_cases g11 : ∃ f, x = .newarray f
  · obtain ⟨f, rfl⟩ := g11
    unfold am_nx at h
    dsimp only at h
    split at h
    · split at h
      · next hm => cases h; exact am_newi hB hZ hl (am_hd hd hlen) hw hm.1 hm.2.1 hm.2.2.1 hm.2.2.2 hkc hks (fun H1 ad' cA' tys' e1 hZ1 hl1 => kk _ _ _ _ _ _ e1 (by rw [List.length_append]; omega) hZ1 hl1 hL)
      · cases h
    · cases h
  by_cases g12 : ∃ f, x = .anewarray f
  · obtain ⟨f, rfl⟩ := g12
    unfold am_nx at h
    dsimp only at h
    split at h
    · next h1 =>
      split at h
      · next hm => cases h; exact am_newr hB hZ hl (am_hd hd hlen) hw h1 hm.1 hm.2.1 hm.2.2 hkc hks (fun H1 ad' cA' tys' e1 hZ1 hl1 => kk _ _ _ _ _ _ e1 (by rw [List.length_append]; omega) hZ1 hl1 hL)
      · cases h
    · cases h
  by_cases g13 : ∃ f, x = .invokestatic f
  · obtain ⟨f, rfl⟩ := g13
    unfold am_nx at h
    dsimp only at h
    split at h
    · next h92 =>
      unfold am_mm at h
      split at h
      · split at h
        · next hr => cases h; exact (am_mmw hB hl hL (am_hd hd hlen) hw hr hkc hks).1 h92 (kk _ _ _ _ _ _ am_ag_r (Nat.le_refl _) hZ hl hL)
        · cases h
      · cases h
    split at h
    · next h93 =>
      unfold am_mm at h
      split at h
      · split at h
        · next hr => cases h; exact (am_mmw hB hl hL (am_hd hd hlen) hw hr hkc hks).2 h93 (kk _ _ _ _ _ _ am_ag_r (Nat.le_refl _) hZ hl hL)
        · cases h
      · cases h
    split at h
    · split at h
      · next h9 =>
        split at h
        · next v hv => cases h; exact am_copy hB hZ hl hL (am_hd hd hlen) hw h9.1 h9.2 hv (fun H1 locs1 hZ1 => kk _ _ _ _ _ _ am_ag_r (Nat.le_refl _) hZ1 hl hL)
        · cases h
      · cases h
    · cases h
  by_cases g14 : ∃ f, x = .invokespecial f
  · obtain ⟨f, rfl⟩ := g14
    unfold am_nx at h
    dsimp only at h
    split at h
    · split at h
      · next h9 => cases h; exact am_oinit hB hl hL (am_hd hd hlen) hw h9.1 h9.2.2.1 h9.2.2.2 (kk _ _ _ _ _ _ am_ag_r (Nat.le_refl _) hZ hl hL)
      · cases h
    · cases h
  exact am_step1 hB hl hL hd hlen hw hS (fun f e => g1 ⟨f, e⟩) (fun f e => g2 ⟨f, e⟩) g3 g4 g5 g6 g7 g8 g9 (fun f e => g10 ⟨f, e⟩) (fun f e => g11 ⟨f, e⟩) (fun f e => g12 ⟨f, e⟩) (fun f e => g13 ⟨f, e⟩) (fun f e => g14 ⟨f, e⟩) h (fun ls' e1 e2 e3 e4 hl1 hL1 => by
    subst e1; subst e2; subst e3; subst e4
    exact kk _ _ _ _ _ _ am_ag_r (Nat.le_refl _) hZ hl1 hL1)
theorem am_en_i (as : List Value) (hfo : ∀ p, fo p = .null ∨ ∃ a, fo p = .ref a) : (as.flatMap (fun v => if v.category = 2 then [some v, none] else [some v])).length = (lg_sl (as.map (am_tr ad fo))).length ∧ ∀ (i : Nat) (v : Value), (as.flatMap (fun v => if v.category = 2 then [some v, none] else [some v]))[i]? = some (some v) → (lg_sl (as.map (am_tr ad fo)))[i]? = some (.val (am_tr ad fo v)) := by
  induction as with
  | nil => exact ⟨rfl, fun i v h => by simp at h⟩
  | cons a t ih =>
    have e1 : lg_sl ((a :: t).map (am_tr ad fo)) = (if (am_tr ad fo a).category = 2 then [Slot.val (am_tr ad fo a), .second] else [.val (am_tr ad fo a)]) ++ lg_sl (t.map (am_tr ad fo)) := rfl
    rw [e1, am_tr_cat hfo, List.flatMap_cons]
    by_cases hc : a.category = 2
    · rw [if_pos hc, if_pos hc]
      refine ⟨by simp only [List.length_append, ih.1]; rfl, fun i v h => ?_⟩
      match i with
      | 0 => cases h; rfl
      | 1 => cases h
      | i + 2 => exact ih.2 i v h
    · rw [if_neg hc, if_neg hc]
      refine ⟨by simp only [List.length_append, ih.1]; rfl, fun i v h => ?_⟩
      match i with
      | 0 => cases h; rfl
      | i + 1 => exact ih.2 i v h
theorem am_lg_len (as : List Value) (hfo : ∀ p, fo p = .null ∨ ∃ a, fo p = .ref a) : (lg_sl (as.map (am_tr ad fo))).length = (lg_sl as).length := by
  induction as with
  | nil => rfl
  | cons a t ih =>
    have e1 : lg_sl ((a :: t).map (am_tr ad fo)) = (if (am_tr ad fo a).category = 2 then [Slot.val (am_tr ad fo a), .second] else [.val (am_tr ad fo a)]) ++ lg_sl (t.map (am_tr ad fo)) := rfl
    have e2 : lg_sl (a :: t) = (if a.category = 2 then [Slot.val a, .second] else [.val a]) ++ lg_sl t := rfl
    rw [e1, e2, am_tr_cat hfo, List.length_append, List.length_append, ih]
    by_cases hc : a.category = 2
    · rw [if_pos hc, if_pos hc]; rfl
    · rw [if_neg hc, if_neg hc]; rfl
theorem am_en_lh (as : List Value) {n : Nat} (hfo : ∀ p, fo p = .null ∨ ∃ a, fo p = .ref a) (hn : (lg_sl as).length ≤ n) : am_lh ad fo ((lg_sl (as.map (am_tr ad fo)) ++ List.replicate (n - (lg_sl (as.map (am_tr ad fo))).length) Slot.unset).toArray) (am_en n as) ∧ (am_en n as).length = n := by
  have hlen : (am_en n as).length = n := by
    unfold am_en
    rw [List.length_append, List.length_replicate, (am_en_i (ad := ad) as hfo).1, am_lg_len as hfo]
    omega
  have hv := lv_entry (as.map (am_tr ad fo)) (n := n) (by rw [am_lg_len as hfo]; exact hn)
  refine ⟨⟨⟨by rw [hlen]; exact hv.1, hv.2.1, fun q hq => by cases hq⟩, fun i v h => ?_⟩, hlen⟩
  have h1 := am_ld_iff.mp h
  unfold am_en at h1
  have hi := am_en_i (ad := ad) as hfo
  rw [List.getElem?_toArray]
  by_cases hlt : i < (lg_sl (as.map (am_tr ad fo))).length
  · rw [List.getElem?_append_left hlt]
    rw [List.getElem?_append_left (by rw [hi.1]; exact hlt)] at h1
    exact hi.2 i v h1
  · rw [List.getElem?_append_right (by rw [hi.1]; exact Nat.not_lt.mp hlt), List.getElem?_replicate] at h1
    split at h1 <;> cases h1
end AMW
