/-! THE WHOLE RUN -/
section AMX
variable {p : Program} {l : Launch} {e : Env} {R : Room} {s : State} {m : MethodId} {args : Array Value} {below : List Frame} {meth : Method} {c : Code} {H : Heap} {locs : List Loc} {kc ks : Nat} {Q : State → Prop}
variable {X : am_X} {D : va_G} {z : Nat} {fo : Nat → Value} {LN : Nat} {xs : Nat → Int32} {b : Nat} {adK adV : Nat → Nat} {d : am_D}
variable {pc : Nat} {ls : Array Slot} {ad : Nat → Nat} {cA : Nat → ClassId} {tys : List (ClassId × FieldType)} {L : am_L} {st : List Value} {sh : List am_S} {M : am_M}
/-- a callee's start -/
def am_Pb (X : am_X) (D : va_G) (z : Nat) (fo : Nat → Value) (LN : Nat) (xs : Nat → Int32) (b : Nat) (adK adV : Nat → Nat) (ad : Nat → Nat) (cA : Nat → ClassId) (tys : List (ClassId × FieldType)) (sh : List am_S) (M : am_M) (U : State) : Prop :=
  z ≤ U.heap.size ∧ va_K D X.2.1 tys U ∧ va_P D X.2.1 (am_W ad cA M sh) U.heap ∧ va_D (am_A z) (am_W ad cA M sh) ∧ am_ty sh cA tys ∧ sh.length ≤ 1000 ∧ am_okS 1000 sh = true ∧ am_F X z fo LN xs b adK adV U U.heap
/-- a callee's end -/
def am_Qb (X : am_X) (D : va_G) (z : Nat) (fo : Nat → Value) (ad : Nat → Nat) (cA : Nat → ClassId) (sh : List am_S) (r : Option Value × List am_S × am_M) : Array Value → State → Outcome → State → Prop := fun _ s0 oc t =>
  (∃ (ad' : Nat → Nat) (cA' : Nat → ClassId) (tys' : List (ClassId × FieldType)), oc = .returned (r.1.map (am_tr ad' fo)) ∧ am_ag sh.length ad ad' cA cA' ∧ sh.length ≤ r.2.1.length ∧ va_K D X.2.1 tys' t ∧ va_P D X.2.1 (am_W ad' cA' r.2.2 r.2.1) t.heap ∧ va_D (am_A z) (am_W ad' cA' r.2.2 r.2.1) ∧ am_ty r.2.1 cA' tys' ∧ r.2.1.length ≤ 1000 ∧ am_okS 1000 r.2.1 = true) ∧ va_F (am_A z) s0 t
theorem am_after {mc ms : Nat} {rest : List Value} {st0 : List Value} {a : Array Value} {r : Option Value × List am_S × am_M} (hr : va_Run p l e R s m args below meth c H locs kc ks mc ms (F0 m pc ls st0) rest (am_Qb X D z fo ad cA sh r a) (am_A z)) (hS : va_S (am_A z) s.heap H locs)
    (kk : ∀ (ad' : Nat → Nat) (cA' : Nat → ClassId) (tys' : List (ClassId × FieldType)) (H1 : Heap) (locs1 : List Loc), am_ag sh.length ad ad' cA cA' → sh.length ≤ r.2.1.length → am_Z X D z s H1 locs1 ad' cA' tys' r.2.1 r.2.2 → W p l e R s m args below meth c H1 locs1 (kc + mc) (ks + ms) Q (F0 m (pc + 3) ls ((r.1.map (am_tr ad' fo)).toList ++ rest))) : W p l e R s m args below meth c H locs kc ks Q (F0 m pc ls st0) := by
  intro T hT Y
  obtain ⟨v, s0, t, T', L1, h0, Y', hL, e1, e2, ⟨⟨ad', cA', tys', hv, hag, hle, hK, hP, hD, hty, hn, hok⟩, hz, hk⟩, stp⟩ := hr T hT Y
  cases hv
  rw [h0] at hz hk
  have hvm : s.vm.Alike t.vm := by rw [← e2]; exact Y'.warmed.alike
  obtain ⟨t2, a1, b1⟩ := kk ad' cA' tys' T'.heap (locs ++ L1) hag hle ⟨va_K.moved hvm.symm hK, by rw [e1]; exact hP, hD, ⟨Nat.le_trans hS.1 (by rw [e1]; exact hz), fun q h1 h2 => by rw [e1, hk q (Nat.lt_of_lt_of_le h1 hS.1) h2]; exact hS.2.1 q h1 h2, fun q hq => by
      rcases List.mem_append.mp hq with h | h
      · exact hS.2.2 q h
      · exact hL q h⟩, hty, hn, hok⟩ T' rfl Y'
  exact ⟨t2, stp t2 a1, b1⟩
theorem am_Pb_blind (as : List Value) : FrameBlind (va_Pc as (am_Pb X D z fo LN xs b adK adV ad cA tys sh M)) := by
  intro a U g mk h
  obtain ⟨h0, h1, h2, h3, h4, h5, h6, h7, h8⟩ := h
  exact ⟨h0, h1, va_K.moved (u := U) (U := U.calling g mk a) (Vm.Alike.refl U.vm) h2, h3, h4, h5, h6, h7, am_F_same (s := U) (U := U.calling g mk a) h8 rfl⟩
theorem am_Pb_of (hB : am_B X z fo LN xs b adK adV d p R s m args c meth) (hZ : am_Z X D z s H locs ad cA tys sh M) (as : List Value) (U : State) (hU : U.heap = H) (hW : s.WarmedH U.vm) : va_Pc as (am_Pb X D z fo LN xs b adK adV ad cA tys sh M) as.toArray U := by
  obtain ⟨hx, hb, hml, hown, hts, hR, hz, hfo, hF, hin⟩ := hB
  obtain ⟨hK, hP, hD, hS, hT, hn, hok⟩ := hZ
  refine ⟨rfl, ?_, va_K.moved hW.alike hK, by rw [hU]; exact hP, hD, hT, hn, hok, ?_⟩
  · rw [hU]; exact Nat.le_trans hz hS.1
  · rw [hU]; exact am_F_moved hF hW hz hS.2.1
/-- what is claimed of a run -/
def am_Sim (X : am_X) (D : va_G) (z : Nat) (fo : Nat → Value) (LN : Nat) (xs : Nat → Int32) (b : Nat) (adK adV : Nat → Nat) (l : Launch) (d : am_D) (cf : am_C) (r : Option Value × List am_S × am_M) : Prop :=
  ∀ (p : Program) (e : Env) (R : Room) (s : State) (m : MethodId) (args : Array Value) (below : List Frame) (meth : Method) (c : Code) (H : Heap) (locs : List Loc) (Q : State → Prop) (ls : Array Slot) (ad : Nat → Nat) (cA : Nat → ClassId) (tys : List (ClassId × FieldType)),
    am_B X z fo LN xs b adK adV d p R s m args c meth → am_Z X D z s H locs ad cA tys cf.2.2.2.1 cf.2.2.2.2.1 → am_lh ad fo ls cf.2.1 → cf.2.1.length = d.1.2.2.1 → cf.2.2.2.2.2.1 ≤ R.cells → cf.2.2.2.2.2.2 ≤ R.slots →
    (∀ (x : Instr) (pc' : Nat) (ls' : Array Slot) (H' : Heap) (locs' : List Loc) (ad' : Nat → Nat) (cA' : Nat → ClassId) (tys' : List (ClassId × FieldType)) (kc' ks' : Nat) (st' : List Value), decode d.1.2.1 pc' = .ok (x, 1) → am_re d.1.2.2.2 x st' = some r.1 → am_ag cf.2.2.2.1.length ad ad' cA cA' → cf.2.2.2.1.length ≤ r.2.1.length → am_Z X D z s H' locs' ad' cA' tys' r.2.1 r.2.2 → kc' ≤ R.cells → ks' ≤ R.slots → W p l e R s m args below meth c H' locs' kc' ks' Q (F0 m pc' ls' (st'.map (am_tr ad' fo)))) →
    W p l e R s m args below meth c H locs cf.2.2.2.2.2.1 cf.2.2.2.2.2.2 Q (F0 m cf.1 ls (cf.2.2.1.map (am_tr ad fo)))
theorem am_re_x {ret : Option FieldType} {x : Instr} {v : Option Value} (h : am_re ret x st = some v) : x = .return_ ∨ x = .ireturn ∨ x = .areturn := by
  unfold am_re at h
  split at h
  · exact Or.inl rfl
  · exact Or.inr (Or.inl rfl)
  · exact Or.inr (Or.inr rfl)
  · cases h
/-- a method's contract out of its run -/
theorem am_met (hwf : am_wf X) (hfo : am_fo fo b adK adV) {f : am_D} (hpl : plainName f.1.1.cls = true) {as : List Value} (hlen : (lg_sl as).length ≤ f.1.2.2.1) {r : Option Value × List am_S × am_M} (h : am_Sim X D z fo LN xs b adK adV l f (0, am_en f.1.2.2.1 as, [], sh, M, 0, 0) r) :
    Met l f.1.1 (Jvm.Cond.code f.1.1 f.1.2.1 f.1.2.2.1 f.1.2.2.2 :: X.2.2.2.1) f.2.2.1 (va_Pc (as.map (am_tr ad fo)) (am_Pb X D z fo LN xs b adK adV ad cA tys sh M)) (am_Qb X D z fo ad cA sh r) f.2.2.1.cells f.2.2.1.slots (am_A z) := by
  refine Met.ofW (cc := f.1.2.1) (maxL := f.1.2.2.1) (ret := f.1.2.2.2) hpl rfl ?_
  intro p e s m args below meth c s₁ B hml hv
  obtain ⟨rfl, h1, h2, h3, h4, h5, h6, h7, h8⟩ := hv
  have hx := B.exec
  have hb := B.bytes
  have hr := B.returns
  have hts := atoms_spec (ws := Jvm.Cond.code f.1.1 f.1.2.1 f.1.2.2.1 f.1.2.2.2 :: X.2.2.2.1) B.pre
  have hown : s.vm.findClass f.1.1.cls = some m.cls := findClass_of_methodNamed B.named
  have hlocks : meth.locks = false := B.notSynchronized
  have hB : am_B X z fo LN xs b adK adV f p f.2.2.1 s m (as.map (am_tr ad fo)).toArray c meth := ⟨hx, hb, hml, hown, fun w hw => hts w (List.mem_cons_of_mem _ hw), rfl, h1, hfo, h8, fun hi => by rw [(name_of_methodNamed B.named B.method).1]; exact hi⟩
  rw [lg_entry_eq]
  have hen := am_en_lh (ad := ad) as hfo.2.2 hlen
  refine h p e f.2.2.1 s m _ below meth c s.heap [] _ _ ad cA tys hB ⟨h2, h3, h4, va_S.rf, h5, h6, h7⟩ hen.1 hen.2 (Nat.zero_le _) (Nat.zero_le _) ?_
  intro x pc' ls' H' locs' ad' cA' tys' kc' ks' st' hd hre hag hle hZ hkc hks
  obtain ⟨hK, hP, hD, hS, hT, hn, hok⟩ := hZ
  refine W.widen hkc hks ?_
  have hq : ∀ t : State, t.heap = H' → s.WarmedH t.vm → am_Qb X D z fo ad cA sh r (as.map (am_tr ad fo)).toArray s (.returned (r.1.map (am_tr ad' fo))) t := fun t ht hW => ⟨⟨ad', cA', tys', rfl, hag, hle, va_K.moved hW.alike hK, by rw [ht]; exact hP, hD, hT, hn, hok⟩, hS.F ht⟩
  unfold am_re at hre
  split at hre
  · split at hre
    · next hret =>
      have e1 := Option.some.inj hre
      rw [← e1] at hq
      exact W.vret hx hb (by rw [hr, hret]) hq hS.2.2 hd hlocks
    · cases hre
  · split at hre
    · next v ty hret =>
      split at hre
      · next hc =>
        have e1 := Option.some.inj hre
        rw [← e1] at hq
        exact W.zret hx hb (by rw [hr, hret]) hc.1 hq hS.2.2 hd hlocks
      · cases hre
    · cases hre
  · split at hre
    · next q cn hret =>
      have e1 := Option.some.inj hre
      rw [← e1] at hq
      refine W.aret (rt := .object cn) hx hb (by rw [hr, hret]) (Or.inl ⟨cn, rfl⟩) ?_ hq hS.2.2 hd hlocks
      by_cases hp : q < 1000
      · right; exact ⟨ad' q, am_tr_w hp⟩
      · rw [am_tr_f hp]; exact hfo.2.2 q
    · cases hre
  · cases hre
end AMX
