/-! WHAT THE LITTLE MACHINE'S STATE SAYS OF THE REAL ONE -/
def am_A (z : Nat) : Nat → Prop := fun q => z ≤ q
def am_tr (ad : Nat → Nat) (fo : Nat → Value) (v : Value) : Value := match v with
  | .ref p => if p < 1000 then .ref (ad p) else fo p
  | v => v
def am_E (ad : Nat → Nat) (cA : Nat → ClassId) (M : am_M) (p : Nat) (c : am_S) : va_E := match c with
  | .inl (_, n, none) => .inl (cA p, n, .inl (M p))
  | .inl (_, n, some rs) => .inl (cA p, n, .inr (.inr (.inr (.inr (fun j => (rs.getD j none).map ad)))))
  | .inr (ci, fs) => .inr (ci, fs.mapIdx (fun k f => match f with
    | none => .int (M p k)
    | some o => va_rf (o.map ad)))
def am_W (ad : Nat → Nat) (cA : Nat → ClassId) (M : am_M) (sh : List am_S) : va_W := sh.mapIdx (fun p c => (ad p, am_E ad cA M p c))
theorem am_W_at {ad : Nat → Nat} {cA : Nat → ClassId} {M : am_M} {sh : List am_S} {p : Nat} {c : am_S} (h : sh[p]? = some c) : (am_W ad cA M sh)[p]? = some (ad p, am_E ad cA M p c) := by
  unfold am_W
  rw [List.getElem?_mapIdx, h]
  rfl
theorem am_W_set {ad : Nat → Nat} {cA : Nat → ClassId} {M M' : am_M} {sh : List am_S} {p : Nat} {c c' : am_S} (h : sh[p]? = some c) (hM : ∀ q, q ≠ p → M' q = M q) : (am_W ad cA M sh).set p (ad p, am_E ad cA M' p c') = am_W ad cA M' (sh.set p c') := by
  have hp : p < sh.length := (List.getElem?_eq_some_iff.mp h).1
  apply List.ext_getElem?
  intro i
  unfold am_W
  rw [List.getElem?_mapIdx, List.getElem?_set, List.getElem?_set, List.getElem?_mapIdx]
  by_cases hi : p = i
  · subst hi
    simp [hp]
  · have hM' : M' i = M i := hM i (fun e => hi e.symm)
    simp only [if_neg hi]
    cases sh[i]? with
    | none => rfl
    | some x =>
      show some (ad i, am_E ad cA M i x) = some (ad i, am_E ad cA M' i x)
      rcases x with ⟨ty, n, o⟩ | ⟨ci, fs⟩
      · cases o <;> simp [am_E, hM']
      · simp [am_E, hM']
theorem am_set_self {sh : List am_S} {p : Nat} {c : am_S} (h : sh[p]? = some c) : sh.set p c = sh := by
  apply List.ext_getElem?
  intro i
  rw [List.getElem?_set]
  by_cases hi : p = i
  · subst hi
    have hp : p < sh.length := (List.getElem?_eq_some_iff.mp h).1
    rw [if_pos rfl, if_pos hp, h]
  · simp [hi]
/-- another memory at one cell -/
theorem am_W_mem {ad : Nat → Nat} {cA : Nat → ClassId} {M M' : am_M} {sh : List am_S} {p : Nat} {c : am_S} (h : sh[p]? = some c) (hM : ∀ q, q ≠ p → M' q = M q) : (am_W ad cA M sh).set p (ad p, am_E ad cA M' p c) = am_W ad cA M' sh := by
  rw [am_W_set (c' := c) h hM, am_set_self h]
theorem am_up_ne {M : am_M} {p k : Nat} {v : Int32} {q : Nat} (h : q ≠ p) : am_up M p k v q = M q := by
  unfold am_up
  rw [if_neg h]
theorem am_up_eq {M : am_M} {p k : Nat} {v : Int32} : am_up M p k v p = upd (M p) k v := by
  unfold am_up
  rw [if_pos rfl]
theorem am_wr_ne {M : am_M} {p : Nat} {f : Nat → Int32} {q : Nat} (h : q ≠ p) : am_wr M p f q = M q := by
  unfold am_wr
  rw [if_neg h]
theorem am_wr_eq {M : am_M} {p : Nat} {f : Nat → Int32} : am_wr M p f p = f := by
  unfold am_wr
  rw [if_pos rfl]
def am_ty (sh : List am_S) (cA : Nat → ClassId) (tys : List (ClassId × FieldType)) : Prop := ∀ (p : Nat) (ty : FieldType) (n : Nat) (o : Option (List (Option Nat))), sh[p]? = some (.inl (ty, n, o)) → ∃ t0 : Nat, tys[t0]? = some (cA p, ty)
/-- the two agree on what was there before -/
def am_ag (n : Nat) (ad ad' : Nat → Nat) (cA cA' : Nat → ClassId) : Prop := ∀ p, p < n → ad' p = ad p ∧ cA' p = cA p
def am_fo (fo : Nat → Value) (b : Nat) (adK adV : Nat → Nat) : Prop := fo 1000 = .ref b ∧ (∀ j, j < 90 → fo (1001 + j) = .ref (adK j) ∧ fo (1101 + j) = .ref (adV j)) ∧ ∀ p, fo p = .null ∨ ∃ a, fo p = .ref a
def am_F (X : am_X) (z : Nat) (fo : Nat → Value) (LN : Nat) (xs : Nat → Int32) (b : Nat) (adK adV : Nat → Nat) (U : State) (H : Heap) : Prop :=
  vk_S X.2.2.2.2.1.length (X.2.2.2.2.1.map List.length) X.2.2.2.2.1 adK adV (am_A z) U H ∧ va_Z "java/lang/String" "COMPACT_STRINGS" "Z" (.int 1) (am_A z) U H ∧ va_Z "jdk/internal/util/Preconditions" "SIOOBE_FORMATTER" "Ljava/util/function/BiFunction;" (fo 1200) (am_A z) U H ∧ ((∀ q ∈ X.2.2.2.2.2.1, vk_R q.1 q.2.1 q.2.2.2 (adK q.2.2.1) U) ∧ (∀ q ∈ X.2.2.2.2.2.2.1, va_Nw (.methodLinkNest q.1 q.2.1 q.2.2.1 q.2.2.2) U) ∧ ∀ C ∈ X.2.2.2.2.2.2.2, va_AO C U) ∧ va_X b LN xs U H ∧ b < z
theorem am_F_moved {X : am_X} {z : Nat} {fo : Nat → Value} {LN : Nat} {xs : Nat → Int32} {b : Nat} {adK adV : Nat → Nat} {s U : State} {H H1 : Heap} (h : am_F X z fo LN xs b adK adV s H) (hW : s.WarmedH U.vm) (hz : z ≤ H.size) (hq : ∀ a : Nat, a < H.size → ¬ am_A z a → H1[a]? = H[a]?) : am_F X z fo LN xs b adK adV U H1 := by
  obtain ⟨h1, h2, h3, h4, h5, h6⟩ := h
  exact ⟨(h1.moved hW.alike).kept hq, (h2.moved hW.alike).kept hq, (h3.moved hW.alike).kept hq, ⟨fun q hq => (h4.1 q hq).warm hW, fun q hq => (h4.2.1 q hq).warmM hW, fun C hC => va_AO.moved hW.alike (h4.2.2 C hC)⟩, (h5.moved hW.alike).kept (hq b (Nat.lt_of_lt_of_le h6 hz) (Nat.not_le.mpr h6)), h6⟩
theorem am_F_same {X : am_X} {z : Nat} {fo : Nat → Value} {LN : Nat} {xs : Nat → Int32} {b : Nat} {adK adV : Nat → Nat} {s U : State} {H : Heap} (h : am_F X z fo LN xs b adK adV s H) (hv : U.vm = s.vm) : am_F X z fo LN xs b adK adV U H := by
  have ha : s.vm.Alike U.vm := by rw [hv]; exact Vm.Alike.refl _
  obtain ⟨h1, h2, h3, h4, h5, h6⟩ := h
  exact ⟨h1.moved ha, h2.moved ha, h3.moved ha, ⟨fun q hq => (h4.1 q hq).same hv, fun q hq => (h4.2.1 q hq).same rfl hv.symm, fun C hC => va_AO.moved ha (h4.2.2 C hC)⟩, h5.moved ha, h6⟩
theorem am_pw_s {L : am_L} {k : Nat} {u : Value} (h : am_ld L k = some u) : am_pw L (k + 1) = (u.category == 2) := by
  show (match am_ld L k with
    | some v => v.category == 2
    | none => false) = _
  rw [h]
/-- the locals -/
def am_lh (ad : Nat → Nat) (fo : Nat → Value) (ls : Array Slot) (L : am_L) : Prop := lv_has ls L.length [] ∧ ∀ (i : Nat) (v : Value), am_ld L i = some v → ls[i]? = some (.val (am_tr ad fo v))
theorem am_ld_iff {L : am_L} {i : Nat} {v : Value} : am_ld L i = some v ↔ L[i]? = some (some v) := by
  unfold am_ld
  constructor
  · intro h
    split at h
    · next w hw => cases h; exact hw
    · cases h
  · intro h
    rw [h]
def am_as (ad : Nat → Nat) (fo : Nat → Value) (L : am_L) : List (Nat × Value) := (List.range L.length).filterMap (fun i => (am_ld L i).map (fun v => (i, am_tr ad fo v)))
theorem am_as_mem {ad : Nat → Nat} {fo : Nat → Value} {L : am_L} {i : Nat} {w : Value} : (i, w) ∈ am_as ad fo L ↔ ∃ v, am_ld L i = some v ∧ w = am_tr ad fo v := by
  unfold am_as
  rw [List.mem_filterMap]
  constructor
  · rintro ⟨k, -, h⟩
    cases hv : am_ld L k with
    | none => rw [hv] at h; cases h
    | some v =>
      rw [hv] at h
      cases h
      exact ⟨v, hv, rfl⟩
  · rintro ⟨v, hv, rfl⟩
    refine ⟨i, ?_, by rw [hv]; rfl⟩
    rw [List.mem_range]
    exact (List.getElem?_eq_some_iff.mp (am_ld_iff.mp hv)).1
theorem am_lh_has {ad : Nat → Nat} {fo : Nat → Value} {ls : Array Slot} {L : am_L} (h : am_lh ad fo ls L) : lv_has ls L.length (am_as ad fo L) := by
  refine ⟨h.1.1, h.1.2.1, ?_⟩
  rintro ⟨i, w⟩ hq
  obtain ⟨v, hv, rfl⟩ := am_as_mem.mp hq
  exact h.2 i v hv
theorem am_tr_cat {ad : Nat → Nat} {fo : Nat → Value} (hfo : ∀ p, fo p = .null ∨ ∃ a, fo p = .ref a) (v : Value) : (am_tr ad fo v).category = v.category := by
  cases v with
  | ref p =>
    unfold am_tr
    by_cases hp : p < 1000
    · simp [hp, Value.category]
    · rcases hfo p with h | ⟨a, h⟩ <;> simp [hp, h, Value.category]
  | _ => rfl
theorem am_ld_set {L : am_L} {i : Nat} {v : Value} (k : Nat) (hi : i < L.length) : am_ld (L.set i (some v)) k = if i = k then some v else am_ld L k := by
  unfold am_ld
  rw [List.getElem?_set]
  by_cases hk : i = k
  · subst hk; simp [hi]
  · simp [hk]
theorem am_st1 {ad : Nat → Nat} {fo : Nat → Value} (hfo : ∀ p, fo p = .null ∨ ∃ a, fo p = .ref a) {ls' : Array Slot} {L L' : am_L} {i : Nat} {v : Value} (hs : am_s1 L i v = some L') (h : lv_has ls' L.length ((i, am_tr ad fo v) :: (am_as ad fo L).filter (fun q => !(q.1 == i) && !(q.1 + 1 == i && q.2.category == 2)))) : am_lh ad fo ls' L' := by
  unfold am_s1 at hs
  split at hs
  · next hi =>
    split at hs
    · cases hs
    · next hw =>
      cases hs
      refine ⟨⟨by rw [List.length_set]; exact h.1, h.2.1, fun q hq => by cases hq⟩, ?_⟩
      intro k u hk
      rw [am_ld_set k hi] at hk
      by_cases hik : i = k
      · subst hik
        rw [if_pos rfl] at hk
        cases hk
        exact h.2.2 (i, am_tr ad fo v) List.mem_cons_self
      · rw [if_neg hik] at hk
        have hkk := hk
        refine h.2.2 (k, am_tr ad fo u) (List.mem_cons_of_mem _ (List.mem_filter.mpr ⟨am_as_mem.mpr ⟨u, hk, rfl⟩, ?_⟩))
        have h1 : (k == i) = false := by simpa using fun e : k = i => hik e.symm
        by_cases hki : k + 1 = i
        · subst hki
          have hw2 : (u.category == 2) = false := by
            have hw3 : am_pw L (k + 1) = false := by simpa using hw
            rw [am_pw_s hkk] at hw3
            exact hw3
          show (!(k == k + 1) && !(k + 1 == k + 1 && (am_tr ad fo u).category == 2)) = true
          rw [am_tr_cat hfo, h1, hw2]
          simp
        · have h2 : (k + 1 == i) = false := by simpa using hki
          simp [h1, h2]
  · cases hs
theorem am_st2 {ad : Nat → Nat} {fo : Nat → Value} (hfo : ∀ p, fo p = .null ∨ ∃ a, fo p = .ref a) {ls' : Array Slot} {L L' : am_L} {i : Nat} {v : Value} (hs : am_s2 L i v = some L') (h : lv_has ls' L.length ((i, am_tr ad fo v) :: (am_as ad fo L).filter (fun q => !(q.1 == i) && (!(q.1 == i + 1) && !(q.1 + 1 == i && q.2.category == 2))))) : am_lh ad fo ls' L' := by
  unfold am_s2 at hs
  split at hs
  · next hi =>
    split at hs
    · cases hs
    · next hw =>
      cases hs
      refine ⟨⟨by rw [List.length_set, List.length_set]; exact h.1, h.2.1, fun q hq => by cases hq⟩, ?_⟩
      intro k u hk
      have hk' : i + 1 ≠ k ∧ am_ld (L.set i (some v)) k = some u := by
        rw [am_ld_iff, List.getElem?_set] at hk
        by_cases hik : i + 1 = k
        · subst hik
          rw [if_pos rfl] at hk
          split at hk <;> cases hk
        · rw [if_neg hik] at hk
          exact ⟨hik, am_ld_iff.mpr hk⟩
      obtain ⟨hk1, hk⟩ := hk'
      rw [am_ld_set k (by omega)] at hk
      by_cases hik : i = k
      · subst hik
        rw [if_pos rfl] at hk
        cases hk
        exact h.2.2 (i, am_tr ad fo v) List.mem_cons_self
      · rw [if_neg hik] at hk
        have hkk := hk
        refine h.2.2 (k, am_tr ad fo u) (List.mem_cons_of_mem _ (List.mem_filter.mpr ⟨am_as_mem.mpr ⟨u, hk, rfl⟩, ?_⟩))
        have h1 : (k == i) = false := by simpa using fun e : k = i => hik e.symm
        have h3 : (k == i + 1) = false := by simpa using fun e : k = i + 1 => hk1 e.symm
        by_cases hki : k + 1 = i
        · subst hki
          have hw2 : (u.category == 2) = false := by
            have hw3 : am_pw L (k + 1) = false := by simpa using hw
            rw [am_pw_s hkk] at hw3
            exact hw3
          show (!(k == k + 1) && (!(k == k + 1 + 1) && !(k + 1 == k + 1 && (am_tr ad fo u).category == 2))) = true
          rw [am_tr_cat hfo, h1, hw2, h3]
          simp
        · have h2 : (k + 1 == i) = false := by simpa using hki
          simp [h1, h2, h3]
  · cases hs
/-- no new place is named -/
theorem am_tr_ag {n : Nat} {ad ad' : Nat → Nat} {cA cA' : Nat → ClassId} (fo : Nat → Value) (h : am_ag n ad ad' cA cA') {v : Value} (hv : am_ok n v = true) : am_tr ad' fo v = am_tr ad fo v := by
  cases v with
  | ref p =>
    unfold am_tr
    by_cases hp : p < 1000
    · simp only [if_pos hp]
      have hn : p < n := by
        simp only [am_ok, am_okr, Bool.or_eq_true, decide_eq_true_eq] at hv
        rcases hv with h | h
        · exact h
        · exact absurd hp (Nat.not_lt.mpr h)
      rw [(h p hn).1]
    · simp only [if_neg hp]
  | _ => rfl
theorem am_lh_ag {n : Nat} {ad ad' : Nat → Nat} {cA cA' : Nat → ClassId} {fo : Nat → Value} (h : am_ag n ad ad' cA cA') {ls : Array Slot} {L : am_L} (hL : am_okL n L = true) (hl : am_lh ad fo ls L) : am_lh ad' fo ls L := by
  refine ⟨hl.1, fun i v hv => ?_⟩
  have ho : am_ok n v = true := by
    have h1 := List.all_eq_true.mp hL (some v) (List.mem_of_getElem? (am_ld_iff.mp hv))
    exact h1
  rw [am_tr_ag fo h ho]
  exact hl.2 i v hv
theorem am_st_ag {n : Nat} {ad ad' : Nat → Nat} {cA cA' : Nat → ClassId} {fo : Nat → Value} (h : am_ag n ad ad' cA cA') {st : List Value} (hs : am_okV n st = true) : st.map (am_tr ad' fo) = st.map (am_tr ad fo) := by
  apply List.map_congr_left
  intro v hv
  exact am_tr_ag fo h (List.all_eq_true.mp hs v hv)
theorem am_rs_ag {n : Nat} {ad ad' : Nat → Nat} (h : ∀ p, p < n → ad' p = ad p) {o : Option Nat} (ho : am_oko n o = true) : o.map ad' = o.map ad := by
  cases o with
  | none => rfl
  | some p =>
    simp only [am_oko, decide_eq_true_eq] at ho
    simp [h p ho]
/-- a new cell -/
theorem am_W_push {ad : Nat → Nat} {cA : Nat → ClassId} {M M' : am_M} {sh : List am_S} {c : am_S} {q : Nat} {k : ClassId} (hS : am_okS sh.length sh = true) (hM : ∀ p, p ≠ sh.length → M' p = M p) (hc : ∀ ad' : Nat → Nat, ∀ cA' : Nat → ClassId, cA' sh.length = k → am_E ad' cA' M' sh.length c = am_E ad (fun p => if p = sh.length then k else cA p) M' sh.length c) :
    am_W ad cA M sh ++ [(q, am_E ad (fun p => if p = sh.length then k else cA p) M' sh.length c)] = am_W (fun p => if p = sh.length then q else ad p) (fun p => if p = sh.length then k else cA p) M' (sh ++ [c]) := by
  unfold am_W
  rw [List.mapIdx_append]
  congr 1
  · apply List.ext_getElem?
    intro i
    rw [List.getElem?_mapIdx, List.getElem?_mapIdx]
    cases hx : sh[i]? with
    | none => rfl
    | some x =>
      have hi : i < sh.length := (List.getElem?_eq_some_iff.mp hx).1
      have hne : i ≠ sh.length := Nat.ne_of_lt hi
      have hok := List.all_eq_true.mp hS x (List.mem_of_getElem? hx)
      show some (ad i, am_E ad cA M i x) = some ((if i = sh.length then q else ad i), am_E (fun p => if p = sh.length then q else ad p) (fun p => if p = sh.length then k else cA p) M' i x)
      rw [if_neg hne]
      congr 2
      have had : ∀ p, p < sh.length → (fun p => if p = sh.length then q else ad p) p = ad p := fun p hp => if_neg (Nat.ne_of_lt hp)
      rcases x with ⟨ty, n, o⟩ | ⟨ci, fs⟩
      · cases o with
        | none => simp [am_E, hM i hne, hne]
        | some rs =>
          simp only [am_E, if_neg hne]
          have hfun : (fun j => Option.map ad (rs.getD j none)) = (fun j => Option.map (fun p => if p = sh.length then q else ad p) (rs.getD j none)) := by
            funext j
            refine (am_rs_ag had ?_).symm
            have h1 := List.all_eq_true.mp hok
            rw [List.getD_eq_getElem?_getD]
            cases hj : rs[j]? with
            | none => rfl
            | some r => exact h1 r (List.mem_of_getElem? hj)
          rw [hfun]
      · simp only [am_E]
        congr 2
        apply List.ext_getElem?
        intro j
        rw [List.getElem?_mapIdx, List.getElem?_mapIdx]
        cases hj : fs[j]? with
        | none => rfl
        | some f =>
          cases f with
          | none => simp [hM i hne]
          | some o =>
            have h1 := List.all_eq_true.mp hok (some o) (List.mem_of_getElem? hj)
            simp only [Option.map_some]
            rw [am_rs_ag had h1]
  · simp only [List.mapIdx_cons, List.mapIdx_nil, Nat.zero_add, if_pos]
    rw [hc (fun p => if p = sh.length then q else ad p) (fun p => if p = sh.length then k else cA p) (if_pos rfl)]
