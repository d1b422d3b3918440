/-! INSTRUCTIONS THAT TOUCH THE HEAP -/
section AMU
variable {p : Program} {l : Launch} {e : Env} {R : Room} {s : State} {m : MethodId} {args : Array Value} {below : List Frame} {meth : Method} {c : Code} {H : Heap} {locs : List Loc} {kc ks : Nat} {Q : State → Prop}
variable {X : am_X} {D : va_G} {z : Nat} {fo : Nat → Value} {LN : Nat} {xs : Nat → Int32} {b : Nat} {adK adV : Nat → Nat} {d : am_D}
variable {pc : Nat} {ls : Array Slot} {ad : Nat → Nat} {cA : Nat → ClassId} {tys : List (ClassId × FieldType)} {L : am_L} {st : List Value} {sh : List am_S} {M : am_M}
theorem am_tr_rv {o : Option Nat} (h : am_oko 1000 o = true) : am_tr ad fo (am_rv o) = va_rf (o.map ad) := by
  cases o with
  | none => rfl
  | some q =>
    simp only [am_oko, decide_eq_true_eq] at h
    exact am_tr_w h
theorem am_okS_f {q ci k : Nat} {fs : List (Option (Option Nat))} {o : Option Nat} (hS : am_okS 1000 sh = true) (h : sh[q]? = some (.inr (ci, fs))) (hk : fs[k]? = some (some o)) : am_oko 1000 o = true := by
  have h1 := List.all_eq_true.mp hS _ (List.mem_of_getElem? h)
  exact List.all_eq_true.mp h1 _ (List.mem_of_getElem? hk)
theorem am_okS_r {q n : Nat} {ty : FieldType} {rs : List (Option Nat)} (k : Nat) (hS : am_okS 1000 sh = true) (h : sh[q]? = some (.inl (ty, n, some rs))) : am_oko 1000 (rs.getD k none) = true := by
  have h1 := List.all_eq_true.mp hS _ (List.mem_of_getElem? h)
  rw [List.getD_eq_getElem?_getD]
  cases hj : rs[k]? with
  | none => rfl
  | some r => exact List.all_eq_true.mp h1 _ (List.mem_of_getElem? hj)
theorem am_okS_set {q : Nat} {x : am_S} (hS : am_okS 1000 sh = true) (hx : am_okS 1000 [x] = true) : am_okS 1000 (sh.set q x) = true := by
  apply List.all_eq_true.mpr
  intro y hy
  rcases List.mem_or_eq_of_mem_set hy with h | h
  · exact List.all_eq_true.mp hS y h
  · subst h
    exact List.all_eq_true.mp hx y List.mem_cons_self
theorem am_ty_set {q : Nat} {x y : am_S} (hT : am_ty sh cA tys) (hx : sh[q]? = some x) (hy : ∀ ty n o, y = .inl (ty, n, o) → ∃ n' o', x = .inl (ty, n', o')) : am_ty (sh.set q y) cA tys := by
  intro k ty n o hk
  rw [List.getElem?_set] at hk
  by_cases hq : q = k
  · subst hq
    have hlt : q < sh.length := (List.getElem?_eq_some_iff.mp hx).1
    rw [if_pos rfl, if_pos hlt] at hk
    cases hk
    obtain ⟨n', o', rfl⟩ := hy ty n o rfl
    exact hT q ty n' o' hx
  · rw [if_neg hq] at hk
    exact hT k ty n o hk
theorem am_getf (hB : am_B X z fo LN xs b adK adV d p R s m args c meth) (hZ : am_Z X D z s H locs ad cA tys sh M) (hSL : X.2.2.2.2.1.length ≤ 90) {idx len r1 r2 : Nat} {rv : Value} (hd : decode d.1.2.1 pc = .ok (.getfield idx, 3)) (hw : am_wx X d pc (.getfield idx) r1 r2 rv) {q : Nat} {v : Value} (h : am_gf X sh M q r1 r2 = some v)
    (kk : W p l e R s m args below meth c H locs kc ks Q (F0 m (pc + 3) ls (am_tr ad fo v :: st))) : W p l e R s m args below meth c H locs kc ks Q (F0 m pc ls (am_tr ad fo (.ref q) :: st)) := by
  obtain ⟨hx, hb, hml, hown, hts, hR, hz, hfo, hF, hin⟩ := hB
  obtain ⟨hK, hP, hD, hS, hT, hn, hok⟩ := hZ
  unfold am_gf at h
  split at h
  · next hq =>
    rw [am_tr_w hq]
    split at h
    · next ci' fs hs =>
      split at h
      · next hc =>
        obtain ⟨rfl, hc⟩ := hc
        rcases hw with ⟨e1, -⟩ | ⟨e1, -⟩ | ⟨-, C, T, N, g1, g2, g3, g4⟩
        · exact absurd e1 hc
        · exact absurd e1 hc
        · have he := am_W_at (ad := ad) (cA := cA) (M := M) hs
          split at h
          · next hf =>
            cases h
            exact va_get hx hb hts g3 hown hK hP q he g1 r2 g2 (hts _ g4) (fun _ h9 => h9) (by rw [List.getElem?_mapIdx, hf]; rfl) hd kk
          · next o hf =>
            cases h
            rw [am_tr_rv (am_okS_f hok hs hf)] at kk
            exact va_get hx hb hts g3 hown hK hP q he g1 r2 g2 (hts _ g4) (fun _ h9 => h9) (by rw [List.getElem?_mapIdx, hf]; rfl) hd kk
          · cases h
      · cases h
    · cases h
  · next hq =>
    split at h
    · next hc =>
      split at h
      · next bs hbs =>
        split at h
        · next hq2 =>
          have hj : q - 1001 < X.2.2.2.2.1.length := (List.getElem?_eq_some_iff.mp hbs).1
          have hq3 : q = 1001 + (q - 1001) := by omega
          have hfq := (hfo.2.1 (q - 1001) (by omega)).1
          rw [← hq3] at hfq
          rw [am_tr_f hq, hfq]
          split at h
          · next hk =>
            cases h
            have e1 : 100 + q = 1101 + (q - 1001) := by omega
            have e2 : am_tr ad fo (.ref (100 + q)) = .ref (adV (q - 1001)) := by
              rw [am_tr_f (by omega), e1]
              exact (hfo.2.1 (q - 1001) (by omega)).2
            rw [e2] at kk
            rcases hw with ⟨-, -, g4⟩ | ⟨-, e3, -⟩ | ⟨e3, -⟩
            · exact vk_getf hx hb (hF.1.1 _ hj).2.2.1 hS hown (hts _ g4) (fun _ h9 => h9) hd kk
            · omega
            · exact absurd hc e3
          · next hk =>
            split at h
            · next hk1 =>
              cases h
              rcases hw with ⟨-, e3, -⟩ | ⟨-, e3, g4⟩ | ⟨e3, -⟩
              · omega
              · exact vk_getf hx hb (hF.1.1 _ hj).2.1 hS hown (hts _ g4) (fun _ h9 => h9) hd kk
              · exact absurd hc e3
            · cases h
        · cases h
      · cases h
    · cases h
theorem am_E_put {q k ci : Nat} {fs : List (Option (Option Nat))} {x : Int32} (hk : fs[k]? = some none) : am_E ad cA (am_up M q k x) q (.inr (ci, fs)) = .inr (ci, (fs.mapIdx (fun k f => match f with
    | none => Value.int (M q k)
    | some o => va_rf (o.map ad))).set k (.int x)) := by
  simp only [am_E]
  congr 2
  apply List.ext_getElem?
  intro i
  rw [List.getElem?_set, List.getElem?_mapIdx, List.getElem?_mapIdx]
  have hlt : k < fs.length := (List.getElem?_eq_some_iff.mp hk).1
  by_cases hi : k = i
  · subst hi
    rw [if_pos rfl, List.length_mapIdx, if_pos hlt, hk]
    simp [am_up_eq, upd]
  · rw [if_neg hi]
    cases fs[i]? with
    | none => rfl
    | some f =>
      cases f with
      | none =>
        have hi2 : ¬ i = k := fun e => hi e.symm
        simp [am_up_eq, upd, hi2]
      | some o => rfl
theorem am_E_putr {q k ci r : Nat} {fs : List (Option (Option Nat))} {o : Option Nat} (hk : fs[k]? = some (some o)) : am_E ad cA M q (.inr (ci, fs.set k (some (some r)))) = .inr (ci, (fs.mapIdx (fun k f => match f with
    | none => Value.int (M q k)
    | some o => va_rf (o.map ad))).set k (.ref (ad r))) := by
  simp only [am_E]
  congr 2
  apply List.ext_getElem?
  intro i
  rw [List.getElem?_set, List.getElem?_mapIdx, List.getElem?_mapIdx, List.getElem?_set]
  have hlt : k < fs.length := (List.getElem?_eq_some_iff.mp hk).1
  by_cases hi : k = i
  · subst hi
    rw [if_pos rfl, List.length_mapIdx, if_pos hlt, if_pos rfl, if_pos hlt]
    rfl
  · rw [if_neg hi, if_neg hi]
    cases fs[i]? <;> rfl
theorem am_putf (hB : am_B X z fo LN xs b adK adV d p R s m args c meth) (hZ : am_Z X D z s H locs ad cA tys sh M) {idx len r1 r2 : Nat} {rv : Value} (hd : decode d.1.2.1 pc = .ok (.putfield idx, 3)) (hw : am_wx X d pc (.putfield idx) r1 r2 rv) {q : Nat} {v : Value} {sh' : List am_S} {M' : am_M} (h : am_pf sh M q r1 r2 rv v = some (sh', M'))
    (kk : ∀ (H1 : Heap) (locs1 : List Loc), am_Z X D z s H1 locs1 ad cA tys sh' M' → sh'.length = sh.length → W p l e R s m args below meth c H1 locs1 kc ks Q (F0 m (pc + 3) ls st)) : W p l e R s m args below meth c H locs kc ks Q (F0 m pc ls (am_tr ad fo v :: am_tr ad fo (.ref q) :: st)) := by
  obtain ⟨hx, hb, hml, hown, hts, hR, hz, hfo, hF, hin⟩ := hB
  obtain ⟨hK, hP, hD, hS, hT, hn, hok⟩ := hZ
  obtain ⟨C, T, N, ty, g1, g2, g3, g4, g5, g6, g7, g8⟩ := hw
  unfold am_pf at h
  split at h
  · next hq =>
    rw [am_tr_w hq]
    split at h
    · next ci' fs hs =>
      split at h
      · next hc =>
        subst hc
        have he := am_W_at (ad := ad) (cA := cA) (M := M) hs
        have key : ∀ (w : Value), narrow (ty r2) w = w → fits (ty r2) w = true → r2 < fs.length → (∀ (H1 : Heap) (locs1 : List Loc), va_P D X.2.1 ((am_W ad cA M sh).set q (ad q, .inr (ci', (fs.mapIdx (fun k f => match f with
    | none => Value.int (M q k)
    | some o => va_rf (o.map ad))).set r2 w))) H1 → va_D (am_A z) ((am_W ad cA M sh).set q (ad q, .inr (ci', (fs.mapIdx (fun k f => match f with
    | none => Value.int (M q k)
    | some o => va_rf (o.map ad))).set r2 w))) → va_S (am_A z) s.heap H1 locs1 → W p l e R s m args below meth c H1 locs1 kc ks Q (F0 m (pc + 3) ls st)) → W p l e R s m args below meth c H locs kc ks Q (F0 m pc ls (w :: .ref (ad q) :: st)) := by
          intro w h1 h2 h3 h4
          cases hfin : (T r2).2.2.2 with
          | false => exact va_put hx hb hts g3 ty g5 g6 hown hK hP hD hS q he g1 r2 g2 (hts _ g4) (fun _ h9 => h9) hfin (g5 r2 g2) h1 h2 (by rw [List.length_mapIdx]; exact h3) hd h4
          | true => exact va_putF hx hb hts g3 ty g5 g6 hown hK hP hD hS q he g1 r2 g2 (hts _ g4) (fun _ h9 => h9) hfin (hin (g7 hfin).1) (g7 hfin).2 (g5 r2 g2) h1 h2 (by rw [List.length_mapIdx]; exact h3) hd h4
        have fin : ∀ x : Int32, fs[r2]? = some none → (∀ (H1 : Heap) (locs1 : List Loc), am_Z X D z s H1 locs1 ad cA tys sh (am_up M q r2 x) → sh.length = sh.length → W p l e R s m args below meth c H1 locs1 kc ks Q (F0 m (pc + 3) ls st)) → narrow (ty r2) (.int x) = .int x → fits (ty r2) (.int x) = true → W p l e R s m args below meth c H locs kc ks Q (F0 m pc ls (.int x :: .ref (ad q) :: st)) := by
          intro x hf k9 h1 h2
          refine key (.int x) h1 h2 (List.getElem?_eq_some_iff.mp hf).1 (fun H1 locs1 hP1 hD1 hS1 => ?_)
          rw [← am_E_put (cA := cA) hf, am_W_mem hs (fun _ hne => am_up_ne hne)] at hP1 hD1
          exact k9 H1 locs1 ⟨hK, hP1, hD1, hS1, hT, hn, hok⟩ rfl
        split at h
        · next x hf =>
          cases h
          rcases g8 with ⟨-, e1⟩ | ⟨e1, -⟩ | ⟨e1, -⟩
          · exact fin x hf kk (by rw [e1]; rfl) (by rw [e1]; rfl)
          · exact absurd (Value.int.inj e1) (by decide)
          · cases e1
        · next x hf =>
          split at h
          · next hx01 =>
            cases h
            rcases g8 with ⟨e1, -⟩ | ⟨-, e1⟩ | ⟨e1, -⟩
            · exact absurd (Value.int.inj e1) (by decide)
            · exact fin x hf kk (by rw [e1]; rcases hx01 with rfl | rfl <;> rfl) (by rw [e1]; rcases hx01 with rfl | rfl <;> rfl)
            · cases e1
          · cases h
        · next o r hf =>
          split at h
          · next hr =>
            cases h
            have hty : narrow (ty r2) (.ref (ad r)) = .ref (ad r) ∧ fits (ty r2) (.ref (ad r)) = true := by
              rcases g8 with ⟨e1, -⟩ | ⟨e1, -⟩ | ⟨-, ⟨n, e1⟩ | ⟨t, e1⟩⟩
              · cases e1
              · cases e1
              · rw [e1]; exact ⟨rfl, rfl⟩
              · rw [e1]; exact ⟨rfl, rfl⟩
            rw [am_tr_w hr.2]
            refine key _ hty.1 hty.2 (List.getElem?_eq_some_iff.mp hf).1 (fun H1 locs1 hP1 hD1 hS1 => ?_)
            rw [← am_E_putr (cA := cA) hf, am_W_set hs (fun _ _ => rfl)] at hP1 hD1
            refine kk H1 locs1 ⟨hK, hP1, hD1, hS1, am_ty_set hT hs (fun _ _ _ h => by cases h), by rw [List.length_set]; exact hn, am_okS_set hok ?_⟩ List.length_set
            apply List.all_eq_true.mpr
            intro y hy
            rw [List.mem_singleton] at hy
            subst hy
            apply List.all_eq_true.mpr
            intro f hf2
            rcases List.mem_or_eq_of_mem_set hf2 with h9 | h9
            · have h1 := List.all_eq_true.mp hok _ (List.mem_of_getElem? hs)
              exact List.all_eq_true.mp h1 _ h9
            · subst h9
              simpa [am_oko] using hr.2
          · cases h
        · cases h
      · cases h
    · cases h
  · cases h
end AMU
