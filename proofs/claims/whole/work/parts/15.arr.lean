/-! ARRAYS, NEW CELLS, COPIES -/
section AMV
variable {p : Program} {l : Launch} {e : Env} {R : Room} {s : State} {m : MethodId} {args : Array Value} {below : List Frame} {meth : Method} {c : Code} {H : Heap} {locs : List Loc} {kc ks : Nat} {Q : State → Prop}
variable {X : am_X} {D : va_G} {z : Nat} {fo : Nat → Value} {LN : Nat} {xs : Nat → Int32} {b : Nat} {adK adV : Nat → Nat} {d : am_D}
variable {pc : Nat} {ls : Array Slot} {ad : Nat → Nat} {cA : Nat → ClassId} {tys : List (ClassId × FieldType)} {L : am_L} {st : List Value} {sh : List am_S} {M : am_M}
theorem am_iald (hB : am_B X z fo LN xs b adK adV d p R s m args c meth) (hZ : am_Z X D z s H locs ad cA tys sh M) (hd : decode d.1.2.1 pc = .ok (.iaload, 1)) {q : Nat} {i v : Int32} (h : am_ial LN xs sh M q i = some v)
    (kk : W p l e R s m args below meth c H locs kc ks Q (F0 m (pc + 1) ls (.int v :: st))) : W p l e R s m args below meth c H locs kc ks Q (F0 m pc ls (.int i :: am_tr ad fo (.ref q) :: st)) := by
  obtain ⟨hx, hb, hml, hown, hts, hR, hz, hfo, hF, hin⟩ := hB
  obtain ⟨hK, hP, hD, hS, hT, hn, hok⟩ := hZ
  unfold am_ial at h
  split at h
  · next hq =>
    subst hq
    split at h
    · next hi =>
      cases h
      rw [am_tr_f (by omega), hfo.1]
      exact va_sld hx hb hF.2.2.2.2.1 (Nat.lt_of_lt_of_le hF.2.2.2.2.2 hz) (Nat.not_le.mpr hF.2.2.2.2.2) hS (am_dbin_in hi) hd kk
    · cases h
  · split at h
    · next n hia =>
      split at h
      · next hi =>
        cases h
        obtain ⟨hq, hs⟩ := am_ia_i hia
        obtain ⟨t0, ht⟩ := hT _ _ _ _ hs
        rw [am_tr_w hq]
        exact va_iald hx hb hK hP q t0 (am_W_at hs) ht (am_dbin_in hi) hd kk
      · cases h
    · cases h
theorem am_bald (hB : am_B X z fo LN xs b adK adV d p R s m args c meth) (hZ : am_Z X D z s H locs ad cA tys sh M) (hSL : X.2.2.2.2.1.length ≤ 90) (hd : decode d.1.2.1 pc = .ok (.baload, 1)) {q : Nat} {i v : Int32} (h : am_bal X sh M q i = some v)
    (kk : W p l e R s m args below meth c H locs kc ks Q (F0 m (pc + 1) ls (.int v :: st))) : W p l e R s m args below meth c H locs kc ks Q (F0 m pc ls (.int i :: am_tr ad fo (.ref q) :: st)) := by
  obtain ⟨hx, hb, hml, hown, hts, hR, hz, hfo, hF, hin⟩ := hB
  obtain ⟨hK, hP, hD, hS, hT, hn, hok⟩ := hZ
  unfold am_bal at h
  split at h
  · next ty n hba =>
    split at h
    · next hi =>
      cases h
      obtain ⟨hty, hq, hs⟩ := am_ba_i hba
      obtain ⟨t0, ht⟩ := hT _ _ _ _ hs
      rw [am_tr_w hq]
      rcases hty with rfl | rfl
      · exact va_bald hx hb hK hP q t0 (am_W_at hs) ht (am_dbin_in hi) hd kk
      · exact va_zald hx hb hK hP q t0 (am_W_at hs) ht (am_dbin_in hi) hd kk
    · cases h
  · split at h
    · next hq2 =>
      split at h
      · next bs hbs =>
        split at h
        · next hi =>
          cases h
          have hj : q - 1101 < X.2.2.2.2.1.length := (List.getElem?_eq_some_iff.mp hbs).1
          have hfq := (hfo.2.1 (q - 1101) (by omega)).2
          rw [show 1101 + (q - 1101) = q by omega] at hfq
          rw [am_tr_f (by omega), hfq]
          have hT2 := (hF.1.1 _ hj).2.2.2
          have e1 : (X.2.2.2.2.1.map List.length).getD (q - 1101) 0 = bs.length := by
            rw [List.getD_eq_getElem?_getD, List.getElem?_map, hbs]
            rfl
          have e2 : X.2.2.2.2.1.getD (q - 1101) [] = bs := by
            rw [List.getD_eq_getElem?_getD, hbs]
            rfl
          rw [e1, e2] at hT2
          exact va_tb hx hb hT2 hS (am_dbin_in hi) rfl hd kk
        · cases h
      · cases h
    · cases h
theorem am_aald (hB : am_B X z fo LN xs b adK adV d p R s m args c meth) (hZ : am_Z X D z s H locs ad cA tys sh M) (hd : decode d.1.2.1 pc = .ok (.aaload, 1)) {q : Nat} {i : Int32} {v : Value} (h : am_aal sh q i = some v)
    (kk : W p l e R s m args below meth c H locs kc ks Q (F0 m (pc + 1) ls (am_tr ad fo v :: st))) : W p l e R s m args below meth c H locs kc ks Q (F0 m pc ls (.int i :: am_tr ad fo (.ref q) :: st)) := by
  obtain ⟨hx, hb, hml, hown, hts, hR, hz, hfo, hF, hin⟩ := hB
  obtain ⟨hK, hP, hD, hS, hT, hn, hok⟩ := hZ
  unfold am_aal at h
  split at h
  · next hq =>
    split at h
    · next C n rs hs =>
      split at h
      · next hi =>
        cases h
        obtain ⟨t0, ht⟩ := hT _ _ _ _ hs
        rw [am_tr_w hq]
        rw [am_tr_rv (am_okS_r _ hok hs)] at kk
        exact va_aldq hx hb hK hP q t0 (am_W_at hs) ht (am_dbin_in hi) hd kk
      · cases h
    · cases h
  · cases h
theorem am_iast (hB : am_B X z fo LN xs b adK adV d p R s m args c meth) (hZ : am_Z X D z s H locs ad cA tys sh M) (hd : decode d.1.2.1 pc = .ok (.iastore, 1)) {q n : Nat} {i v : Int32} (h : am_ia .int sh q = some n) (hi : am_dbin i n = true)
    (kk : ∀ (H1 : Heap) (locs1 : List Loc), am_Z X D z s H1 locs1 ad cA tys sh (am_up M q i.toNatClampNeg v) → W p l e R s m args below meth c H1 locs1 kc ks Q (F0 m (pc + 1) ls st)) : W p l e R s m args below meth c H locs kc ks Q (F0 m pc ls (.int v :: .int i :: am_tr ad fo (.ref q) :: st)) := by
  obtain ⟨hx, hb, hml, hown, hts, hR, hz, hfo, hF, hin⟩ := hB
  obtain ⟨hK, hP, hD, hS, hT, hn, hok⟩ := hZ
  obtain ⟨hq, hs⟩ := am_ia_i h
  obtain ⟨t0, ht⟩ := hT _ _ _ _ hs
  rw [am_tr_w hq]
  refine va_iast hx hb hK hP hD hS q t0 (am_W_at hs) ht (am_dbin_in hi) hd (fun H1 locs1 hP1 hD1 hS1 => ?_)
  have e1 : (Sum.inl (cA q, n, .inl (upd (M q) i.toNatClampNeg v)) : va_E) = am_E ad cA (am_up M q i.toNatClampNeg v) q (.inl (.int, n, none)) := by
    simp only [am_E, am_up_eq]
  rw [e1, am_W_mem hs (fun _ hne => am_up_ne hne)] at hP1 hD1
  exact kk H1 locs1 ⟨hK, hP1, hD1, hS1, hT, hn, hok⟩
theorem am_bast (hB : am_B X z fo LN xs b adK adV d p R s m args c meth) (hZ : am_Z X D z s H locs ad cA tys sh M) (hd : decode d.1.2.1 pc = .ok (.bastore, 1)) {q n : Nat} {ty : FieldType} {i v : Int32} (h : am_ba sh q = some (ty, n)) (hi : am_dbin i n = true)
    (kk : ∀ (H1 : Heap) (locs1 : List Loc), am_Z X D z s H1 locs1 ad cA tys sh (am_up M q i.toNatClampNeg (vp_nar ty v)) → W p l e R s m args below meth c H1 locs1 kc ks Q (F0 m (pc + 1) ls st)) : W p l e R s m args below meth c H locs kc ks Q (F0 m pc ls (.int v :: .int i :: am_tr ad fo (.ref q) :: st)) := by
  obtain ⟨hx, hb, hml, hown, hts, hR, hz, hfo, hF, hin⟩ := hB
  obtain ⟨hK, hP, hD, hS, hT, hn, hok⟩ := hZ
  obtain ⟨hty, hq, hs⟩ := am_ba_i h
  obtain ⟨t0, ht⟩ := hT _ _ _ _ hs
  rw [am_tr_w hq]
  have e1 : ∀ w, (Sum.inl (cA q, n, .inl (upd (M q) i.toNatClampNeg w)) : va_E) = am_E ad cA (am_up M q i.toNatClampNeg w) q (.inl (ty, n, none)) := by
    intro w
    simp only [am_E, am_up_eq]
  have fin : ∀ (H1 : Heap) (locs1 : List Loc), va_P D X.2.1 ((am_W ad cA M sh).set q (ad q, .inl (cA q, n, .inl (upd (M q) i.toNatClampNeg (vp_nar ty v))))) H1 → va_D (am_A z) ((am_W ad cA M sh).set q (ad q, .inl (cA q, n, .inl (upd (M q) i.toNatClampNeg (vp_nar ty v))))) → va_S (am_A z) s.heap H1 locs1 → W p l e R s m args below meth c H1 locs1 kc ks Q (F0 m (pc + 1) ls st) := by
    intro H1 locs1 hP1 hD1 hS1
    rw [e1, am_W_mem hs (fun _ hne => am_up_ne hne)] at hP1 hD1
    exact kk H1 locs1 ⟨hK, hP1, hD1, hS1, hT, hn, hok⟩
  rcases hty with rfl | rfl
  · exact va_bast hx hb hK hP hD hS q t0 (am_W_at hs) ht (am_dbin_in hi) hd fin
  · exact va_zast hx hb hK hP hD hS q t0 (am_W_at hs) ht (am_dbin_in hi) hd fin
theorem am_aast (hB : am_B X z fo LN xs b adK adV d p R s m args c meth) (hZ : am_Z X D z s H locs ad cA tys sh M) (hd : decode d.1.2.1 pc = .ok (.aastore, 1)) {q r : Nat} {i : Int32} {sh' : List am_S} (h : am_aas X sh q i r = some sh')
    (kk : ∀ (H1 : Heap) (locs1 : List Loc), am_Z X D z s H1 locs1 ad cA tys sh' M → sh'.length = sh.length → W p l e R s m args below meth c H1 locs1 kc ks Q (F0 m (pc + 1) ls st)) : W p l e R s m args below meth c H locs kc ks Q (F0 m pc ls (am_tr ad fo (.ref r) :: .int i :: am_tr ad fo (.ref q) :: st)) := by
  obtain ⟨hx, hb, hml, hown, hts, hR, hz, hfo, hF, hin⟩ := hB
  obtain ⟨hK, hP, hD, hS, hT, hn, hok⟩ := hZ
  unfold am_aas at h
  split at h
  · next hq =>
    split at h
    · next ty n rs ci fs hs hs2 =>
      split at h
      · next qc hc =>
        split at h
        · next hcond =>
          cases h
          obtain ⟨rfl, hi, hlt⟩ := hcond
          obtain ⟨t0, ht⟩ := hT _ _ _ _ hs
          rw [am_tr_w hq.1, am_tr_w hq.2]
          refine va_astq hx hb hK hP hD hS q t0 r ci (am_W_at hs) ht (am_W_at hs2) hc (am_dbin_in hi) hd (fun H1 locs1 hP1 hD1 hS1 => ?_)
          have e1 : (Sum.inl (cA q, n, .inr (.inr (.inr (.inr (va_up (fun j => (rs.getD j none).map ad) i.toNatClampNeg (some (ad r))))))) : va_E) = am_E ad cA M q (.inl (.object qc.1, n, some (rs.set i.toNatClampNeg (some r)))) := by
            simp only [am_E]
            have hfun : va_up (fun j => (rs.getD j none).map ad) i.toNatClampNeg (some (ad r)) = (fun j => ((rs.set i.toNatClampNeg (some r)).getD j none).map ad) := by
              funext j
              show (if j = i.toNatClampNeg then some (ad r) else Option.map ad (rs.getD j none)) = _
              rw [List.getD_eq_getElem?_getD, List.getD_eq_getElem?_getD, List.getElem?_set]
              by_cases hj : j = i.toNatClampNeg
              · subst hj
                rw [if_pos rfl, if_pos rfl, if_pos hlt]
                rfl
              · rw [if_neg hj, if_neg (fun e => hj e.symm)]
            rw [hfun]
          rw [e1, am_W_set hs (fun _ _ => rfl)] at hP1 hD1
          refine kk H1 locs1 ⟨hK, hP1, hD1, hS1, am_ty_set hT hs (fun ty n o h => by cases h; exact ⟨_, _, rfl⟩), by rw [List.length_set]; exact hn, am_okS_set hok ?_⟩ List.length_set
          apply List.all_eq_true.mpr
          intro y hy
          rw [List.mem_singleton] at hy
          subst hy
          apply List.all_eq_true.mpr
          intro f hf2
          rcases List.mem_or_eq_of_mem_set hf2 with h9 | h9
          · have h1 := List.all_eq_true.mp hok _ (List.mem_of_getElem? hs)
            exact List.all_eq_true.mp h1 _ h9
          · subst h9
            simpa [am_oko] using hq.2
        · cases h
      · cases h
    · cases h
  · cases h
theorem am_alen (hB : am_B X z fo LN xs b adK adV d p R s m args c meth) (hZ : am_Z X D z s H locs ad cA tys sh M) (hSL : X.2.2.2.2.1.length ≤ 90) (hd : decode d.1.2.1 pc = .ok (.arraylength, 1)) {q n : Nat} (h : am_len X LN sh q = some n)
    (kk : W p l e R s m args below meth c H locs kc ks Q (F0 m (pc + 1) ls (.int (Int32.ofNat n) :: st))) : W p l e R s m args below meth c H locs kc ks Q (F0 m pc ls (am_tr ad fo (.ref q) :: st)) := by
  obtain ⟨hx, hb, hml, hown, hts, hR, hz, hfo, hF, hin⟩ := hB
  obtain ⟨hK, hP, hD, hS, hT, hn, hok⟩ := hZ
  unfold am_len at h
  split at h
  · next hq =>
    subst hq
    cases h
    rw [am_tr_f (by omega), hfo.1]
    exact va_slen hx hb hF.2.2.2.2.1 (Nat.lt_of_lt_of_le hF.2.2.2.2.2 hz) (Nat.not_le.mpr hF.2.2.2.2.2) hS hd kk
  · next hq1 =>
    split at h
    · next hq =>
      split at h
      · next ty n' o hs =>
        cases h
        obtain ⟨t0, ht⟩ := hT _ _ _ _ hs
        rw [am_tr_w hq]
        cases o with
        | none => exact va_alen hx hb hK hP q t0 (am_W_at hs) ht rfl hd kk
        | some rs => exact va_alen hx hb hK hP q t0 (am_W_at hs) ht rfl hd kk
      · cases h
    · next hq =>
      split at h
      · next hq2 =>
        split at h
        · next bs hbs =>
          cases h
          have hj : q - 1101 < X.2.2.2.2.1.length := (List.getElem?_eq_some_iff.mp hbs).1
          have hfq := (hfo.2.1 (q - 1101) (by omega)).2
          rw [show 1101 + (q - 1101) = q by omega] at hfq
          rw [am_tr_f (by omega), hfq]
          have hT2 := (hF.1.1 _ hj).2.2.2
          have e1 : (X.2.2.2.2.1.map List.length).getD (q - 1101) 0 = bs.length := by
            rw [List.getD_eq_getElem?_getD, List.getElem?_map, hbs]
            rfl
          rw [e1] at hT2
          exact va_tlen hx hb hT2 hS rfl hd kk
        · cases h
      · cases h
/-- what a new cell leaves as it was -/
theorem am_newZ {q : Nat} {k : ClassId} {x : am_S} {H1 : Heap} {tys' : List (ClassId × FieldType)} (hn : sh.length < 999) (hok : am_okS sh.length sh = true) (hok2 : am_okS 1000 sh = true) (hx : am_okS 1000 [x] = true)
    (hc : ∀ ad' : Nat → Nat, ∀ cA' : Nat → ClassId, cA' sh.length = k → am_E ad' cA' (am_wr M sh.length (fun _ => 0)) sh.length x = am_E ad (fun p => if p = sh.length then k else cA p) (am_wr M sh.length (fun _ => 0)) sh.length x)
    (hT : am_ty sh cA tys) (hT2 : ∀ (t0 : Nat) (y : ClassId × FieldType), tys[t0]? = some y → tys'[t0]? = some y) (hT3 : ∀ ty n o, x = .inl (ty, n, o) → ∃ t0 : Nat, tys'[t0]? = some (k, ty))
    (hK : va_K D X.2.1 tys' s) (hP : va_P D X.2.1 (am_W ad cA M sh ++ [(q, am_E ad (fun p => if p = sh.length then k else cA p) (am_wr M sh.length (fun _ => 0)) sh.length x)]) H1) (hD : va_D (am_A z) (am_W ad cA M sh ++ [(q, am_E ad (fun p => if p = sh.length then k else cA p) (am_wr M sh.length (fun _ => 0)) sh.length x)])) (hS : va_S (am_A z) s.heap H1 locs) :
    am_Z X D z s H1 locs (fun p => if p = sh.length then q else ad p) (fun p => if p = sh.length then k else cA p) tys' (sh ++ [x]) (am_wr M sh.length (fun _ => 0)) := by
  rw [am_W_push hok (fun p hp => am_wr_ne hp) hc] at hP hD
  refine ⟨hK, hP, hD, hS, ?_, ?_, ?_⟩
  · intro i ty n o hi
    by_cases hil : i < sh.length
    · rw [List.getElem?_append_left hil] at hi
      obtain ⟨t0, ht⟩ := hT i ty n o hi
      refine ⟨t0, ?_⟩
      show tys'[t0]? = some ((if i = sh.length then k else cA i), ty)
      rw [if_neg (Nat.ne_of_lt hil)]
      exact hT2 _ _ ht
    · rw [List.getElem?_append_right (Nat.not_lt.mp hil)] at hi
      have hi0 : i - sh.length = 0 := by
        rcases Nat.eq_zero_or_pos (i - sh.length) with h | h
        · exact h
        · rw [List.getElem?_eq_none (by rw [List.length_singleton]; exact h)] at hi; cases hi
      have hie : i = sh.length := by omega
      subst hie
      rw [hi0] at hi
      show ∃ t0 : Nat, tys'[t0]? = some ((if sh.length = sh.length then k else cA sh.length), ty)
      rw [if_pos rfl]
      exact hT3 ty n o (Option.some.inj hi)
  · rw [List.length_append]
    simp only [List.length_singleton]
    omega
  · apply List.all_eq_true.mpr
    intro y hy
    rcases List.mem_append.mp hy with h | h
    · exact List.all_eq_true.mp hok2 y h
    · exact List.all_eq_true.mp hx y h
theorem am_agn {q : Nat} {k : ClassId} : am_ag sh.length ad (fun p => if p = sh.length then q else ad p) cA (fun p => if p = sh.length then k else cA p) := fun i hi => ⟨if_neg (Nat.ne_of_lt hi), if_neg (Nat.ne_of_lt hi)⟩
theorem am_mk_i (h : am_mk L st sh = true) : sh.length < 999 ∧ am_okL sh.length L = true ∧ am_okV sh.length st = true ∧ am_okS sh.length sh = true := by
  unfold am_mk at h
  simp only [Bool.and_eq_true, decide_eq_true_eq] at h
  exact ⟨h.1.1.1, h.1.1.2, h.1.2, h.2⟩
theorem am_newo (hB : am_B X z fo LN xs b adK adV d p R s m args c meth) (hZ : am_Z X D z s H locs ad cA tys sh M) (hl : am_lh ad fo ls L) {idx r1 r2 : Nat} {rv : Value} (hd : decode d.1.2.1 pc = .ok (.new idx, 3)) (hw : am_wx X d pc (.new idx) r1 r2 rv) {r : vw_C} {ty : Nat → FieldType} (h1 : X.2.1[r1]? = some r) (h2 : X.2.2.1[r1]? = some ty) (hm : am_mk L st sh = true) (hkc : kc + 1 ≤ R.cells) (hks : ks + r.2.2 ≤ R.slots)
    (kk : ∀ (H1 : Heap) (ad' : Nat → Nat) (cA' : Nat → ClassId) (tys' : List (ClassId × FieldType)), am_ag sh.length ad ad' cA cA' → am_Z X D z s H1 locs ad' cA' tys' (sh ++ [.inr (r1, am_df ty r.2.2)]) (am_wr M sh.length (fun _ => 0)) → am_lh ad' fo ls L → W p l e R s m args below meth c H1 locs (kc + 1) (ks + r.2.2) Q (F0 m (pc + 3) ls (am_tr ad' fo (.ref sh.length) :: st.map (am_tr ad' fo)))) : W p l e R s m args below meth c H locs kc ks Q (F0 m pc ls (st.map (am_tr ad fo))) := by
  obtain ⟨hx, hb, hml, hown, hts, hR, hz, hfo, hF, hin⟩ := hB
  obtain ⟨hK, hP, hD, hS, hT, hn, hok⟩ := hZ
  obtain ⟨m1, m2, m3, m4⟩ := am_mk_i hm
  obtain ⟨C, T, N, ty', g1, g2, g3, g4, g5, g6, g7, g8⟩ := hw
  cases h1.symm.trans g1
  cases h2.symm.trans g2
  dsimp only at hks kk ⊢
  refine va_new (ci := r1) (fs := (am_df ty N).mapIdx (fun k f => match f with
    | none => Value.int 0
    | some o => va_rf (o.map ad))) hx hb hts g3 ty g4 hown (hts _ g6) (hts _ g7) (hts _ g8) hK hP hD hS (fun q hq => Nat.le_trans hz hq) g1 ?_ hkc hks hd (fun q H1 hP1 hD1 hS1 => ?_)
  · intro j hj
    unfold vp_V
    rw [List.getD_eq_getElem?_getD, List.getElem?_mapIdx]
    unfold am_df
    rw [List.getElem?_map, List.getElem?_range hj]
    rcases g5 j hj with h9 | ⟨n, h9⟩ | ⟨t, h9⟩
    · unfold am_prim at h9
      simp only [Bool.or_eq_true, beq_iff_eq] at h9
      rcases h9 with (h9 | h9) | h9 <;> simp [h9, defaultValue]
    · simp [h9, defaultValue, va_rf]
    · simp [h9, defaultValue, va_rf]
  · have e1 : (Sum.inr (r1, (am_df ty N).mapIdx (fun k f => match f with
      | none => Value.int 0
      | some o => va_rf (o.map ad))) : va_E) = am_E ad (fun p => if p = sh.length then 0 else cA p) (am_wr M sh.length (fun _ => 0)) sh.length (.inr (r1, am_df ty N)) := by
      simp only [am_E, am_wr_eq]
      congr 2
    have hnull : ∀ f ∈ am_df ty N, f = none ∨ f = some none := by
      intro f hf
      unfold am_df at hf
      obtain ⟨k, -, rfl⟩ := List.mem_map.mp hf
      split <;> simp
    rw [e1] at hP1 hD1
    have hZ' := am_newZ (x := .inr (r1, am_df ty N)) (k := 0) m1 m4 hok (by
      apply List.all_eq_true.mpr
      intro y hy
      rw [List.mem_singleton] at hy
      subst hy
      apply List.all_eq_true.mpr
      intro f hf
      rcases hnull f hf with rfl | rfl <;> rfl) (fun ad' cA' _ => by
        simp only [am_E]
        congr 2
        apply List.ext_getElem?
        intro i
        rw [List.getElem?_mapIdx, List.getElem?_mapIdx]
        cases hi : (am_df ty N)[i]? with
        | none => rfl
        | some f => rcases hnull f (List.mem_of_getElem? hi) with rfl | rfl <;> rfl) hT (fun _ _ h => h) (fun _ _ _ h => by cases h) hK hP1 hD1 hS1
    have hk := kk H1 _ _ tys am_agn hZ' (am_lh_ag (am_agn (cA := cA) (k := 0)) m2 hl)
    rw [am_st_ag (am_agn (cA := cA) (k := 0)) m3, am_tr_w (by omega), if_pos rfl] at hk
    exact hk
theorem am_newi (hB : am_B X z fo LN xs b adK adV d p R s m args c meth) (hZ : am_Z X D z s H locs ad cA tys sh M) (hl : am_lh ad fo ls L) {a : ArrayType} {r1 r2 : Nat} {rv : Value} (hd : decode d.1.2.1 pc = .ok (.newarray a, 2)) (hw : am_wx X d pc (.newarray a) r1 r2 rv) {n : Int32} (hm : am_mk L st sh = true) (ha : am_prim (newarray.typeOf a) = true) (hn0 : ¬ n < 0) (hn1 : n.toNatClampNeg ≤ 1000) (hkc : kc + 1 ≤ R.cells) (hks : ks + n.toNatClampNeg ≤ R.slots)
    (kk : ∀ (H1 : Heap) (ad' : Nat → Nat) (cA' : Nat → ClassId) (tys' : List (ClassId × FieldType)), am_ag sh.length ad ad' cA cA' → am_Z X D z s H1 locs ad' cA' tys' (sh ++ [.inl (newarray.typeOf a, n.toNatClampNeg, none)]) (am_wr M sh.length (fun _ => 0)) → am_lh ad' fo ls L → W p l e R s m args below meth c H1 locs (kc + 1) (ks + n.toNatClampNeg) Q (F0 m (pc + 2) ls (am_tr ad' fo (.ref sh.length) :: st.map (am_tr ad' fo)))) : W p l e R s m args below meth c H locs kc ks Q (F0 m pc ls (.int n :: st.map (am_tr ad fo))) := by
  obtain ⟨hx, hb, hml, hown, hts, hR, hz, hfo, hF, hin⟩ := hB
  obtain ⟨hK, hP, hD, hS, hT, hn, hok⟩ := hZ
  obtain ⟨m1, m2, m3, m4⟩ := am_mk_i hm
  have hdef : defaultValue (newarray.typeOf a) = .int 0 ∧ componentBytes (newarray.typeOf a) ≤ 8 := by
    unfold am_prim at ha
    simp only [Bool.or_eq_true, beq_iff_eq] at ha
    rcases ha with (h9 | h9) | h9 <;> rw [h9] <;> exact ⟨rfl, by decide⟩
  refine va_newa (atype := a) (a0 := (n.toNatClampNeg, .inl (fun _ => 0))) hx hb (hts _ hw) rfl hK hP hD hS (fun q hq => Nat.le_trans hz hq) (fun cA => by rw [hdef.1]; rfl) hn0 rfl (Nat.le_trans (Nat.mul_le_mul hn1 hdef.2) (by decide)) hkc hks hd (fun q k H1 hK1 hP1 hD1 hS1 => ?_)
  have e1 : (Sum.inl (k, n.toNatClampNeg, .inl (fun _ => 0)) : va_E) = am_E ad (fun p => if p = sh.length then k else cA p) (am_wr M sh.length (fun _ => 0)) sh.length (.inl (newarray.typeOf a, n.toNatClampNeg, none)) := by
    simp only [am_E, am_wr_eq, if_pos]
  rw [e1] at hP1 hD1
  have hZ' := am_newZ (x := .inl (newarray.typeOf a, n.toNatClampNeg, none)) (k := k) m1 m4 hok rfl (fun ad' cA' hk => by simp only [am_E, hk, if_pos]) hT (fun t0 y h => by rw [List.getElem?_append_left (List.getElem?_eq_some_iff.mp h).1]; exact h) (fun ty n o h => by cases h; exact ⟨tys.length, by simp⟩) hK1 hP1 hD1 hS1
  have hk := kk H1 _ _ _ am_agn hZ' (am_lh_ag (am_agn (cA := cA) (k := k)) m2 hl)
  rw [am_st_ag (am_agn (cA := cA) (k := k)) m3, am_tr_w (by omega), if_pos rfl] at hk
  exact hk
theorem am_newr (hB : am_B X z fo LN xs b adK adV d p R s m args c meth) (hZ : am_Z X D z s H locs ad cA tys sh M) (hl : am_lh ad fo ls L) {idx r1 r2 : Nat} {rv : Value} (hd : decode d.1.2.1 pc = .ok (.anewarray idx, 3)) (hw : am_wx X d pc (.anewarray idx) r1 r2 rv) {r : vw_C} (h1 : X.2.1[r1]? = some r) {n : Int32} (hm : am_mk L st sh = true) (hn0 : ¬ n < 0) (hn1 : n.toNatClampNeg ≤ 1000) (hkc : kc + 1 ≤ R.cells) (hks : ks + n.toNatClampNeg ≤ R.slots)
    (kk : ∀ (H1 : Heap) (ad' : Nat → Nat) (cA' : Nat → ClassId) (tys' : List (ClassId × FieldType)), am_ag sh.length ad ad' cA cA' → am_Z X D z s H1 locs ad' cA' tys' (sh ++ [.inl (.object r.1, n.toNatClampNeg, some (List.replicate n.toNatClampNeg none))]) (am_wr M sh.length (fun _ => 0)) → am_lh ad' fo ls L → W p l e R s m args below meth c H1 locs (kc + 1) (ks + n.toNatClampNeg) Q (F0 m (pc + 3) ls (am_tr ad' fo (.ref sh.length) :: st.map (am_tr ad' fo)))) : W p l e R s m args below meth c H locs kc ks Q (F0 m pc ls (.int n :: st.map (am_tr ad fo))) := by
  obtain ⟨hx, hb, hml, hown, hts, hR, hz, hfo, hF, hin⟩ := hB
  obtain ⟨hK, hP, hD, hS, hT, hn, hok⟩ := hZ
  obtain ⟨m1, m2, m3, m4⟩ := am_mk_i hm
  obtain ⟨q', g1, g2, g3⟩ := hw
  cases h1.symm.trans g1
  have hrep : ∀ (f : Nat → Nat) (j : Nat), Option.map f ((List.replicate n.toNatClampNeg (none : Option Nat)).getD j none) = none := by
    intro f j
    rw [List.getD_eq_getElem?_getD, List.getElem?_replicate]
    split <;> rfl
  refine va_newq hx hb hown (hts _ g2) (hF.2.2.2.1.2.2 _ g3) hK hP hD hS (fun q hq => Nat.le_trans hz hq) hn0 rfl (Nat.le_trans (Nat.mul_le_mul hn1 (Nat.le_refl 4)) (by decide)) hkc hks hd (fun q k H1 hK1 hP1 hD1 hS1 => ?_)
  have e1 : (Sum.inl (k, n.toNatClampNeg, .inr (.inr (.inr (.inr (fun _ => none))))) : va_E) = am_E ad (fun p => if p = sh.length then k else cA p) (am_wr M sh.length (fun _ => 0)) sh.length (.inl (.object r.1, n.toNatClampNeg, some (List.replicate n.toNatClampNeg none))) := by
    simp only [am_E, if_pos, hrep]
  rw [e1] at hP1 hD1
  have hZ' := am_newZ (x := .inl (.object r.1, n.toNatClampNeg, some (List.replicate n.toNatClampNeg none))) (k := k) m1 m4 hok (by
      apply List.all_eq_true.mpr
      intro y hy
      rw [List.mem_singleton] at hy
      subst hy
      apply List.all_eq_true.mpr
      intro f hf
      rw [List.eq_of_mem_replicate hf]
      rfl) (fun ad' cA' hk => by simp only [am_E, hk, if_pos, hrep]) hT (fun t0 y h => by rw [List.getElem?_append_left (List.getElem?_eq_some_iff.mp h).1]; exact h) (fun ty n o h => by cases h; exact ⟨tys.length, by simp⟩) hK1 hP1 hD1 hS1
  have hk := kk H1 _ _ _ am_agn hZ' (am_lh_ag (am_agn (cA := cA) (k := k)) m2 hl)
  rw [am_st_ag (am_agn (cA := cA) (k := k)) m3, am_tr_w (by omega), if_pos rfl] at hk
  exact hk
theorem am_cat_sum (hfo : ∀ p, fo p = .null ∨ ∃ a, fo p = .ref a) (r : List Value) : ((r.map (am_tr ad fo)).map fun v => v.category).sum = (r.map fun v => v.category).sum := by
  rw [List.map_map]
  congr 1
  apply List.map_congr_left
  intro v _
  exact am_tr_cat hfo v
theorem am_copy (hB : am_B X z fo LN xs b adK adV d p R s m args c meth) (hZ : am_Z X D z s H locs ad cA tys sh M) (hl : am_lh ad fo ls L) (hL : L.length = d.1.2.2.1) {idx r1 r2 : Nat} {rv : Value} (hd : decode d.1.2.1 pc = .ok (.invokestatic idx, 3)) (hw : am_wx X d pc (.invokestatic idx) r1 r2 rv) {q0 q1 : Nat} {sp dp n : Int32} {M' : am_M} (h9 : r1 = 900) (hr : (st.map fun v => v.category).sum ≤ 8) (h : am_ac sh M q0 q1 sp dp n = some M')
    (kk : ∀ (H1 : Heap) (locs1 : List Loc), am_Z X D z s H1 locs1 ad cA tys sh M' → W p l e R s m args below meth c H1 locs1 kc ks Q (F0 m (pc + 3) ls (st.map (am_tr ad fo)))) : W p l e R s m args below meth c H locs kc ks Q (F0 m pc ls (.int n :: .int dp :: am_tr ad fo (.ref q1) :: .int sp :: am_tr ad fo (.ref q0) :: st.map (am_tr ad fo))) := by
  obtain ⟨hx, hb, hml, hown, hts, hR, hz, hfo, hF, hin⟩ := hB
  obtain ⟨hK, hP, hD, hS, hT, hn, hok⟩ := hZ
  rcases hw with ⟨-, g1, g2, g3, g4, g5, g6⟩ | ⟨g1, -⟩ | ⟨g1, -⟩ | ⟨g1, -⟩
  · unfold am_ac at h
    split at h
    · next n0 n1 hi0 hi1 =>
      split at h
      · next hc =>
        cases h
        obtain ⟨c1, c2, c3, c4, c5⟩ := hc
        obtain ⟨hq0, hs0⟩ := am_ia_i hi0
        obtain ⟨hq1, hs1⟩ := am_ia_i hi1
        obtain ⟨t0, ht0⟩ := hT _ _ _ _ hs0
        obtain ⟨t1, ht1⟩ := hT _ _ _ _ hs1
        rw [am_tr_w hq0, am_tr_w hq1]
        subst hR
        refine va_copyi hx hb (by rw [hml, ← hL]; exact hl.1.1.symm) hown (hts _ g1) (hts _ g2) (hts _ g3) (hts _ g4) hK hP hD hS q0 q1 t0 t1 (am_W_at hs0) (am_W_at hs1) ht0 ht1 rfl c1 c2 c3 c4 c5 (fun _ _ => rfl) g5 (by rw [am_cat_sum hfo.2.2]; omega) hd (fun H1 locs1 hP1 hD1 hS1 => ?_)
        have e1 : (Sum.inl (cA q1, n1, .inl (va_cpy (M q0) (M q1) sp.toNatClampNeg dp.toNatClampNeg n.toNatClampNeg)) : va_E) = am_E ad cA (am_wr M q1 (va_cpy (M q0) (M q1) sp.toNatClampNeg dp.toNatClampNeg n.toNatClampNeg)) q1 (.inl (.int, n1, none)) := by
          simp only [am_E, am_wr_eq]
        rw [e1, am_W_mem hs1 (fun _ hne => am_wr_ne hne)] at hP1 hD1
        exact kk H1 locs1 ⟨hK, hP1, hD1, hS1, hT, hn, hok⟩
      · cases h
    · cases h
  · omega
  · omega
  · omega
theorem am_mmw (hB : am_B X z fo LN xs b adK adV d p R s m args c meth) (hl : am_lh ad fo ls L) (hL : L.length = d.1.2.2.1) {idx r1 r2 : Nat} {rv : Value} (hd : decode d.1.2.1 pc = .ok (.invokestatic idx, 3)) (hw : am_wx X d pc (.invokestatic idx) r1 r2 rv) {x y : Int32} (hr : (st.map fun v => v.category).sum ≤ 8) (hkc : kc ≤ R.cells) (hks : ks ≤ R.slots) :
    (r1 = 902 → W p l e R s m args below meth c H locs kc ks Q (F0 m (pc + 3) ls (.int (if x < y then y else x) :: st.map (am_tr ad fo))) → W p l e R s m args below meth c H locs kc ks Q (F0 m pc ls (.int y :: .int x :: st.map (am_tr ad fo)))) ∧
    (r1 = 903 → W p l e R s m args below meth c H locs kc ks Q (F0 m (pc + 3) ls (.int (if y < x then y else x) :: st.map (am_tr ad fo))) → W p l e R s m args below meth c H locs kc ks Q (F0 m pc ls (.int y :: .int x :: st.map (am_tr ad fo)))) := by
  obtain ⟨hx, hb, hml, hown, hts, hR, hz, hfo, hF, hin⟩ := hB
  constructor
  · intro h9 kk
    rcases hw with ⟨g1, -⟩ | ⟨-, g1, g2, g3, g4, g5, g6⟩ | ⟨g1, -⟩ | ⟨g1, -⟩
    · omega
    · subst hR
      exact va_mmax hx hb (by rw [hml, ← hL]; exact hl.1.1.symm) hown (hts _ g1) (hts _ g2) (hts _ g3) (hts _ g4) g5 (by rw [am_cat_sum hfo.2.2]; omega) hkc hks hd kk
    · omega
    · omega
  · intro h9 kk
    rcases hw with ⟨g1, -⟩ | ⟨g1, -⟩ | ⟨-, g1, g2, g3, g4, g5, g6⟩ | ⟨g1, -⟩
    · omega
    · omega
    · subst hR
      exact va_mmin hx hb (by rw [hml, ← hL]; exact hl.1.1.symm) hown (hts _ g1) (hts _ g2) (hts _ g3) (hts _ g4) g5 (by rw [am_cat_sum hfo.2.2]; omega) hkc hks hd kk
    · omega
theorem am_oinit (hB : am_B X z fo LN xs b adK adV d p R s m args c meth) (hl : am_lh ad fo ls L) (hL : L.length = d.1.2.2.1) {idx r1 r2 : Nat} {rv : Value} (hd : decode d.1.2.1 pc = .ok (.invokespecial idx, 3)) (hw : am_wx X d pc (.invokespecial idx) r1 r2 rv) {q : Nat} (h9 : r1 = 901) (hq : q < 1000) (hr : (st.map fun v => v.category).sum ≤ 8)
    (kk : W p l e R s m args below meth c H locs kc ks Q (F0 m (pc + 3) ls (st.map (am_tr ad fo)))) : W p l e R s m args below meth c H locs kc ks Q (F0 m pc ls (am_tr ad fo (.ref q) :: st.map (am_tr ad fo))) := by
  obtain ⟨hx, hb, hml, hown, hts, hR, hz, hfo, hF, hin⟩ := hB
  rcases hw with ⟨-, g1, g2, g3, g4, g5⟩ | ⟨g1, -⟩
  · rw [am_tr_w hq]
    subst hR
    have h3 : 2 * (F0 m pc ls (.ref (ad q) :: st.map (am_tr ad fo))).monitorRoom = 0 := by simp [F0, JFrame.monitorRoom]
    exact W.objInit hx hb hown (hts _ g1) (hts _ g2) (hts _ g3) rfl (by rw [hml, ← hL]; exact hl.1.1) rfl hd g4 (by rw [am_cat_sum hfo.2.2, h3]; omega) kk
  · omega
end AMV
