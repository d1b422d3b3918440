/-! THE MAIN INDUCTION -/
section AMY
variable {p : Program} {l : Launch} {e : Env} {R : Room} {s : State} {m : MethodId} {args : Array Value} {below : List Frame} {meth : Method} {c : Code} {H : Heap} {locs : List Loc} {kc ks : Nat} {Q : State → Prop}
variable {X : am_X} {D : va_G} {z : Nat} {fo : Nat → Value} {LN : Nat} {xs : Nat → Int32} {b : Nat} {adK adV : Nat → Nat} {d : am_D}
variable {pc : Nat} {ls : Array Slot} {ad : Nat → Nat} {cA : Nat → ClassId} {tys : List (ClassId × FieldType)} {L : am_L} {st : List Value} {sh : List am_S} {M : am_M}
theorem am_ag_t {n n' : Nat} {ad ad' ad'' : Nat → Nat} {cA cA' cA'' : Nat → ClassId} (h : am_ag n ad ad' cA cA') (hn : n ≤ n') (h' : am_ag n' ad' ad'' cA' cA'') : am_ag n ad ad'' cA cA'' := fun i hi => ⟨(h' i (Nat.lt_of_lt_of_le hi hn)).1.trans (h i hi).1, (h' i (Nat.lt_of_lt_of_le hi hn)).2.trans (h i hi).2⟩
theorem am_rc_i {kd r2 : Nat} {as : List Value} (h : am_rc X sh kd r2 as = true) (hk : kd = 1 ∨ kd = 3) : ∃ (q : Nat) (tl : List Value), as = .ref q :: tl ∧ ((q < 1000 ∧ ∃ ci fs, sh[q]? = some (.inr (ci, fs)) ∧ (kd = 3 ∨ (ci = r2 ∧ r2 ≠ 100))) ∨ (¬ q < 1000 ∧ kd = 1 ∧ r2 = 100 ∧ 1001 ≤ q ∧ q - 1001 < X.2.2.2.2.1.length)) := by
  unfold am_rc at h
  rw [if_neg (by omega)] at h
  split at h
  · next q tl =>
    refine ⟨q, tl, rfl, ?_⟩
    split at h
    · next hq =>
      split at h
      · next ci fs hs =>
        left
        refine ⟨hq, ci, fs, hs, ?_⟩
        simpa using h
      · cases h
    · next hq =>
      right
      simp only [Bool.and_eq_true, beq_iff_eq, decide_eq_true_eq] at h
      exact ⟨hq, h.1.1.1, h.1.1.2, h.1.2, h.2⟩
  · cases h
set_option maxHeartbeats 2000000 in
theorem am_callw (hwf : am_wf X) (hB : am_B X z fo LN xs b adK adV d p R s m args c meth) (hZ : am_Z X D z s H locs ad cA tys sh M) (hl : am_lh ad fo ls L) (hL : L.length = d.1.2.2.1) {x : Instr} {len r1 r2 : Nat} {rv : Value} (hd : decode d.1.2.1 pc = .ok (x, len)) (hlen : len = am_le x len) (hw : am_wx X d pc x r1 r2 rv) (hkd : ¬ am_kd x r1 = 0) {f : am_D} (hf : X.1[r1]? = some f)
    (c1 : f.2.1.1 + f.2.1.2 ≤ st.length) (c2 : ((st.drop (f.2.1.1 + f.2.1.2)).map fun v => v.category).sum ≤ 8) (c3 : (lg_sl ((st.take (f.2.1.1 + f.2.1.2)).reverse)).length ≤ f.1.2.2.1) (c4 : kc + f.2.2.1.cells ≤ d.2.2.1.cells) (c5 : ks + f.2.2.1.slots ≤ d.2.2.1.slots) (c6 : am_rc X sh (am_kd x r1) r2 ((st.take (f.2.1.1 + f.2.1.2)).reverse) = true)
    {rc : Option Value × List am_S × am_M} (hsim : am_Sim X D z fo LN xs b adK adV l f (0, am_en f.1.2.2.1 ((st.take (f.2.1.1 + f.2.1.2)).reverse), [], sh, M, 0, 0) rc)
    (kk : ∀ (ad' : Nat → Nat) (cA' : Nat → ClassId) (tys' : List (ClassId × FieldType)) (H1 : Heap) (locs1 : List Loc), am_ag sh.length ad ad' cA cA' → sh.length ≤ rc.2.1.length → am_Z X D z s H1 locs1 ad' cA' tys' rc.2.1 rc.2.2 → W p l e R s m args below meth c H1 locs1 (kc + f.2.2.1.cells) (ks + f.2.2.1.slots) Q (F0 m (pc + 3) ls ((rc.1.map (am_tr ad' fo)).toList ++ (st.drop (f.2.1.1 + f.2.1.2)).map (am_tr ad fo)))) : W p l e R s m args below meth c H locs kc ks Q (F0 m pc ls (st.map (am_tr ad fo))) := by
  have hB0 := hB
  have hZ0 := hZ
  obtain ⟨hx, hb, hml, hown, hts, hR, hz, hfo, hF, hin⟩ := hB
  obtain ⟨hK, hP, hD, hS, hT, hn, hok⟩ := hZ
  subst hR
  have good : ∀ w ∈ X.2.2.2.1, w ∈ X.2.2.2.1 ∧ ((w.onTables && w.keeps) = true ∨ ∃ ty, w = .arrayClass ty) := fun w h => ⟨h, good_of_word (hwf.1 w h)⟩
  have hst : st.map (am_tr ad fo) = (((st.take (f.2.1.1 + f.2.1.2)).reverse).map (am_tr ad fo)).reverse ++ (st.drop (f.2.1.1 + f.2.1.2)).map (am_tr ad fo) := by
    rw [List.map_reverse, List.reverse_reverse, ← List.map_append, List.take_append_drop]
  have hlas : ((st.take (f.2.1.1 + f.2.1.2)).reverse).length = f.2.1.1 + f.2.1.2 := by
    rw [List.length_reverse, List.length_take]
    exact Nat.min_eq_left c1
  have hroom : 2 * (F0 m pc ls (st.map (am_tr ad fo))).monitorRoom + (((st.drop (f.2.1.1 + f.2.1.2)).map (am_tr ad fo)).map fun v => v.category).sum ≤ 8 := lv_room (by rw [am_cat_sum hfo.2.2]; exact c2)
  have hsize : (F0 m pc ls (st.map (am_tr ad fo))).locals.size = d.1.2.2.1 := by rw [← hL]; exact hl.1.1
  generalize has : (st.take (f.2.1.1 + f.2.1.2)).reverse = as at *
  generalize hrest : st.drop (f.2.1.1 + f.2.1.2) = rest at *
  have main : ∀ kd idx, am_wc X d kd idx r1 r2 → am_kd x r1 = kd → ((kd = 1 ∧ x = .invokevirtual idx) ∨ (kd = 2 ∧ x = .invokestatic idx) ∨ (kd = 3 ∧ x = .invokespecial idx)) → W p l e d.2.2.1 s m args below meth c H locs kc ks Q (F0 m pc ls (st.map (am_tr ad fo))) := by
    intro kd idx hwc hk hxk
    obtain ⟨f', hf', hpl, hnm, hcd, hini, hrm, hkind⟩ := hwc
    cases hf.symm.trans hf'
    have hM := am_met (ad := ad) (cA := cA) (tys := tys) hwf hfo hpl c3 hsim
    have hws : GoodIn X.2.2.2.1 (Jvm.Cond.code f.1.1 f.1.2.1 f.1.2.2.1 f.1.2.2.2 :: X.2.2.2.1) := by
      intro w hw
      rcases List.mem_cons.mp hw with h | h
      · subst h; exact good _ hcd
      · exact good _ h
    rcases hkind with ⟨rfl, i1, k1, k2, k3, k4⟩ | ⟨rfl, i1, k1, k2⟩ | ⟨rfl, i1, k1, k2, k3, k4⟩
    · obtain rfl : x = .invokevirtual idx := by
        rcases hxk with ⟨-, h⟩ | ⟨h, -⟩ | ⟨h, -⟩
        · exact h
        · cases h
        · cases h
      rw [hk] at c6
      obtain ⟨q, tl, rfl, hq⟩ := am_rc_i c6 (Or.inl rfl)
      have hgood : GoodIn X.2.2.2.1 (wsV d.1.1.cls idx f.1.1.cls f.1.1 (Jvm.Cond.code f.1.1 f.1.2.1 f.1.2.2.1 f.1.2.2.2 :: X.2.2.2.1)) := by
        intro w hw
        unfold wsV at hw
        rcases List.mem_append.mp hw with h | h
        · simp only [List.mem_cons, List.not_mem_nil, or_false] at h
          rcases h with h | h | h | h
          · subst h; exact good _ k1
          · subst h; exact good _ k2
          · subst h; exact good _ k3
          · subst h; exact good _ hini
        · exact hws w h
      have hrecv : ∃ a, am_tr ad fo (.ref q) = .ref a ∧ ∃ cell : Cell, H[a]? = some cell ∧ cell.vm.isStatics = false ∧ s.vm.findClass f.1.1.cls = some cell.cls := by
        rcases hq with ⟨hq, ci, fs, hs, hci⟩ | ⟨hq, -, hr2, hq1, hq2⟩
        · obtain ⟨rfl, hne⟩ : ci = r2 ∧ r2 ≠ 100 := by
            rcases hci with h | h
            · cases h
            · exact h
          refine ⟨ad q, am_tr_w hq, ?_⟩
          rcases k4 with ⟨e1, e2⟩ | ⟨e1, qc, e2, e3⟩
          · exact absurd e1 hne
          · have h9 := va_recv hK hP e2 (am_W_at hs)
            rw [e3] at h9
            exact h9
        · have hfq := (hfo.2.1 (q - 1001) (by have := hwf.2.1; omega)).1
          rw [show 1001 + (q - 1001) = q by omega] at hfq
          refine ⟨adK (q - 1001), by rw [am_tr_f hq, hfq], ?_⟩
          rcases k4 with ⟨e1, e2⟩ | ⟨e1, -⟩
          · rw [e2]; exact vk_recv hF.1 hq2 hS
          · exact absurd hr2 e1
      obtain ⟨a, ha, hcell⟩ := hrecv
      have hn1 : tl.length = f.2.1.1 := by
        rw [i1] at hlas
        simpa using hlas
      have hPre := am_Pb_of hB0 hZ0 ((Value.ref q :: tl).map (am_tr ad fo))
      rw [List.map_cons, ha] at hPre hM hst
      refine am_after (va_runV (C := f.1.1.cls) (As := tl.map (am_tr ad fo)) (rest := rest.map (am_tr ad fo)) ⟨hx, hb, hml, hown, hts⟩ hM (cwV f.2.1.1 hts hgood rfl rfl rfl ⟨rfl, hnm⟩ hrm) ⟨am_Pb_blind _, hcell, hPre⟩ rfl (by rw [List.length_map]; exact hn1) hsize ?_ hroom (am_hd hd hlen) ⟨c4, c5⟩) hS kk
      show st.map (am_tr ad fo) = _
      rw [hst, List.reverse_cons, List.append_assoc]
      rfl
    · obtain rfl : x = .invokestatic idx := by
        rcases hxk with ⟨h, -⟩ | ⟨-, h⟩ | ⟨h, -⟩
        · cases h
        · exact h
        · cases h
      have hgood : GoodIn X.2.2.2.1 (va_wsS d.1.1.cls idx f.1.1 (Jvm.Cond.code f.1.1 f.1.2.1 f.1.2.2.1 f.1.2.2.2 :: X.2.2.2.1)) := by
        intro w hw
        unfold va_wsS at hw
        rcases List.mem_append.mp hw with h | h
        · simp only [List.mem_cons, List.not_mem_nil, or_false] at h
          rcases h with h | h | h
          · subst h; exact good _ k1
          · subst h; exact good _ k2
          · subst h; exact good _ hini
        · exact hws w h
      have hPre := am_Pb_of hB0 hZ0 (as.map (am_tr ad fo))
      refine am_after (va_runS (As := as.map (am_tr ad fo)) (rest := rest.map (am_tr ad fo)) ⟨hx, hb, hml, hown, hts⟩ hM (va_cwS f.2.1.1 hts hgood rfl rfl rfl hnm hrm) ⟨am_Pb_blind _, hPre⟩ rfl (by rw [List.length_map, hlas, i1]; rfl) hsize hst hroom (am_hd hd hlen) ⟨c4, c5⟩) hS kk
    · obtain rfl : x = .invokespecial idx := by
        rcases hxk with ⟨h, -⟩ | ⟨h, -⟩ | ⟨-, h⟩
        · cases h
        · cases h
        · exact h
      rw [hk] at c6
      obtain ⟨q, tl, rfl, hq⟩ := am_rc_i c6 (Or.inr rfl)
      have hq1 : q < 1000 := by
        rcases hq with ⟨h, -⟩ | ⟨-, h, -⟩
        · exact h
        · cases h
      have ha : am_tr ad fo (.ref q) = .ref (ad q) := am_tr_w hq1
      have hn1 : tl.length = f.2.1.1 := by
        rw [i1] at hlas
        simpa using hlas
      have hPre := am_Pb_of hB0 hZ0 ((Value.ref q :: tl).map (am_tr ad fo))
      rw [List.map_cons, ha] at hPre hM hst
      rw [k2] at hM hws
      have hst2 : st.map (am_tr ad fo) = (tl.map (am_tr ad fo)).reverse ++ .ref (ad q) :: rest.map (am_tr ad fo) := by
        rw [hst, List.reverse_cons, List.append_assoc]
        rfl
      rcases k4 with k4 | ⟨host, k4⟩
      · exact am_after (va_runI (As := tl.map (am_tr ad fo)) (rest := rest.map (am_tr ad fo)) ⟨hx, hb, hml, hown, hts⟩ hM (cwI f.2.1.1 hts hws rfl rfl rfl (hts _ hini) (hts _ k4) (hts _ k3) k1 hnm hrm) ⟨am_Pb_blind _, hPre⟩ rfl (by rw [List.length_map]; exact hn1) hsize hst2 hroom (am_hd hd hlen) ⟨c4, c5⟩) hS kk
      · exact am_after (va_runIN (As := tl.map (am_tr ad fo)) (rest := rest.map (am_tr ad fo)) ⟨hx, hb, hml, hown, hts⟩ hM ⟨va_cnB f.2.1.1 hts hws rfl rfl rfl (hF.2.2.2.1.2.1 _ k4) (hts _ hini) hnm hrm, k1, hts _ k3⟩ ⟨am_Pb_blind _, hPre⟩ rfl (by rw [List.length_map]; exact hn1) hsize hst2 hroom (am_hd hd hlen) ⟨c4, c5⟩) hS kk
  have hkd2 := hkd
  unfold am_kd at hkd2
  split at hkd2
  · exact absurd rfl hkd2
  · next h900 =>
    split at hkd2
    · next idx => exact main 1 idx hw.2 (by unfold am_kd; rw [if_neg h900]) (Or.inl ⟨rfl, rfl⟩)
    · next idx =>
      rcases hw with ⟨h, -⟩ | ⟨h, -⟩ | ⟨h, -⟩ | ⟨-, h⟩
      · omega
      · omega
      · omega
      · exact main 2 idx h (by unfold am_kd; rw [if_neg h900]) (Or.inr (Or.inl ⟨rfl, rfl⟩))
    · next idx =>
      rcases hw with ⟨h, -⟩ | ⟨-, h⟩
      · omega
      · exact main 3 idx h (by unfold am_kd; rw [if_neg h900]) (Or.inr (Or.inr ⟨rfl, rfl⟩))
    · exact absurd rfl hkd2
theorem am_cd_i {j pc : Nat} {d : am_D} {q : Instr × Nat × Nat × Nat × Value} (hj : X.1[j]? = some d) (h : am_cd X j pc = some q) : (pc, q) ∈ d.2.2.2 := by
  unfold am_cd at h
  rw [hj] at h
  obtain ⟨i, hi, rfl⟩ := Option.map_eq_some_iff.mp h
  have h1 := List.find?_some hi
  have h2 := List.mem_of_find?_eq_some hi
  simp only [beq_iff_eq] at h1
  rw [← h1]
  exact h2
set_option maxHeartbeats 2000000 in
theorem am_main (hwf : am_wf X) (hfo : am_fo fo b adK adV) : ∀ (n j : Nat) (d : am_D) (cf : am_C) (r : Option Value × List am_S × am_M), X.1[j]? = some d → am_run X LN xs n j cf = some r → am_Sim X D z fo LN xs b adK adV l d cf r := by
  intro n
  induction n with
  | zero => intro j d cf r hj h; cases h
  | succ n ih =>
    intro j d cf r hj hrun
    rw [am_run_s] at hrun
    cases hc : am_cl X LN xs j cf with
    | none => rw [hc] at hrun; cases hrun
    | some t =>
      rw [hc] at hrun
      unfold am_cl at hc
      rw [hj] at hc
      cases hcd : am_cd X j cf.1 with
      | none => rw [hcd] at hc; cases hc
      | some q =>
        obtain ⟨x, len, r1, r2, rv⟩ := q
        rw [hcd] at hc
        dsimp only at hc
        obtain ⟨hdec, hlen, hwx⟩ := hwf.2.2 j d hj _ (am_cd_i hj hcd)
        dsimp only at hdec hlen hwx
        intro p e R s m args below meth c H locs Q ls ad cA tys hB hZ hl hL hkc hks K
        have hR : R = d.2.2.1 := hB.2.2.2.2.2.1
        cases hre : am_re d.1.2.2.2 x cf.2.2.1 with
        | some v =>
          rw [hre] at hc
          cases hc
          cases hrun
          refine K x cf.1 ls H locs ad cA tys _ _ cf.2.2.1 (am_hd hdec ?_) hre am_ag_r (Nat.le_refl _) hZ hkc hks
          rcases am_re_x hre with rfl | rfl | rfl <;> exact hlen
        | none =>
          rw [hre] at hc
          dsimp only at hc
          split at hc
          · split at hc
            · next pc' L' st' sh' M' ka kb hnx =>
              split at hc
              · next hcs =>
                cases hc
                rw [← hR] at hcs
                refine am_step hwf.2.1 hB hZ hl hL hdec hlen hwx hnx hcs.1 hcs.2 (fun H' locs' ad' cA' tys' ls' hag hle hZ' hl' hL' => ?_)
                exact ih j d _ r hj hrun p e R s m args below meth c H' locs' Q ls' ad' cA' tys' hB hZ' hl' hL' hcs.1 hcs.2 (fun x pc'' ls'' H'' locs'' ad'' cA'' tys'' kc'' ks'' st'' hd' hre' hag' hle' hZ'' hk1 hk2 => K x pc'' ls'' H'' locs'' ad'' cA'' tys'' kc'' ks'' st'' hd' hre' (am_ag_t hag hle hag') (Nat.le_trans hle hle') hZ'' hk1 hk2)
              · cases hc
            · cases hc
          · next hkd =>
            split at hc
            · next f hf =>
              split at hc
              · next hcs =>
                cases hc
                obtain ⟨c1, c2, c3, c4, c5, c6, c7, c8⟩ := hcs
                dsimp only at hrun
                have hmx : am_mx X r1 = f.1.2.2.1 := by unfold am_mx; rw [hf]
                have hrm : am_rm X r1 = (f.2.2.1.cells, f.2.2.1.slots) := by unfold am_rm; rw [hf]
                rw [hmx] at hrun
                cases hcal : am_run X LN xs n r1 (0, am_en f.1.2.2.1 ((cf.2.2.1.take (f.2.1.1 + f.2.1.2)).reverse), [], cf.2.2.2.1, cf.2.2.2.2.1, 0, 0) with
                | none => rw [hcal] at hrun; cases hrun
                | some rc =>
                  rw [hcal] at hrun
                  obtain ⟨rv', sh', M'⟩ := rc
                  dsimp only at hrun
                  unfold am_bk at hrun
                  rw [hrm] at hrun
                  have hsim := ih r1 f _ _ hf hcal
                  refine am_callw hwf hB hZ hl hL hdec hlen hwx hkd hf c1 c2 c5 c6 c7 c8 hsim (fun ad' cA' tys' H1 locs1 hag hle hZ' => ?_)
                  dsimp only at hle hZ'
                  have hrest : am_okV cf.2.2.2.1.length (cf.2.2.1.drop (f.2.1.1 + f.2.1.2)) = true := by
                    apply List.all_eq_true.mpr
                    intro v hv
                    exact List.all_eq_true.mp c4 v (List.mem_of_mem_drop hv)
                  have hstk : (rv'.map (am_tr ad' fo)).toList ++ (cf.2.2.1.drop (f.2.1.1 + f.2.1.2)).map (am_tr ad fo) = (rv'.toList ++ cf.2.2.1.drop (f.2.1.1 + f.2.1.2)).map (am_tr ad' fo) := by
                    rw [List.map_append, am_st_ag hag hrest]
                    cases rv' <;> rfl
                  dsimp only
                  rw [hstk]
                  rw [← hR] at c6 c7
                  exact ih j d _ r hj hrun p e R s m args below meth c H1 locs1 Q ls ad' cA' tys' hB hZ' (am_lh_ag hag c3 hl) hL c6 c7 (fun x pc'' ls'' H'' locs'' ad'' cA'' tys'' kc'' ks'' st'' hd' hre' hag' hle' hZ'' hk1 hk2 => K x pc'' ls'' H'' locs'' ad'' cA'' tys'' kc'' ks'' st'' hd' hre' (am_ag_t hag hle hag') (Nat.le_trans hle hle') hZ'' hk1 hk2)
              · cases hc
            · cases hc
end AMY
