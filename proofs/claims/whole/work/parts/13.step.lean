/-! ONE INSTRUCTION -/
section AMT
variable {p : Program} {l : Launch} {e : Env} {R : Room} {s : State} {m : MethodId} {args : Array Value} {below : List Frame} {meth : Method} {c : Code} {H : Heap} {locs : List Loc} {kc ks : Nat} {Q : State → Prop}
variable {X : am_X} {D : va_G} {z : Nat} {fo : Nat → Value} {LN : Nat} {xs : Nat → Int32} {b : Nat} {adK adV : Nat → Nat} {d : am_D}
variable {pc : Nat} {ls : Array Slot} {ad : Nat → Nat} {cA : Nat → ClassId} {tys : List (ClassId × FieldType)} {L : am_L} {st : List Value} {sh : List am_S} {M : am_M}
theorem am_dbin_in {i : Int32} {n : Nat} (h : am_dbin i n = true) : vp_in i n := by
  unfold am_dbin at h
  unfold vp_in
  simpa using h
theorem am_tr_w {q : Nat} (h : q < 1000) : am_tr ad fo (.ref q) = .ref (ad q) := by
  show (if q < 1000 then Value.ref (ad q) else fo q) = _
  rw [if_pos h]
theorem am_tr_f {q : Nat} (h : ¬ q < 1000) : am_tr ad fo (.ref q) = fo q := by
  show (if q < 1000 then Value.ref (ad q) else fo q) = _
  rw [if_neg h]
theorem am_ia_i {ty : FieldType} {q n : Nat} (h : am_ia ty sh q = some n) : q < 1000 ∧ sh[q]? = some (.inl (ty, n, none)) := by
  unfold am_ia at h
  split at h
  · next hq =>
    split at h
    · next ty' n' hs =>
      split at h
      · next e => cases h; rw [e] at hs; exact ⟨hq, hs⟩
      · cases h
    · cases h
  · cases h
theorem am_ba_i {ty : FieldType} {q n : Nat} (h : am_ba sh q = some (ty, n)) : (ty = .byte ∨ ty = .boolean) ∧ q < 1000 ∧ sh[q]? = some (.inl (ty, n, none)) := by
  unfold am_ba at h
  split at h
  · next n' hs => cases h; exact ⟨Or.inl rfl, am_ia_i hs⟩
  · split at h
    · next n' hs => cases h; exact ⟨Or.inr rfl, am_ia_i hs⟩
    · cases h
/-- stores -/
theorem am_st_w {k i len : Nat} {q : Nat × am_L × List Value × List am_S × am_M × Nat × Nat} (hfo : ∀ p, fo p = .null ∨ ∃ a, fo p = .ref a) (hl : am_lh ad fo ls L) (h : am_stx k i len pc L st sh M = some q)
    (h0 : ∀ (x : Int32) (r : List Value), k = 0 → i < L.length → (∀ ls' : Array Slot, lv_has ls' L.length ((i, Value.int x) :: (am_as ad fo L).filter (fun q => !(q.1 == i) && !(q.1 + 1 == i && q.2.category == 2))) → W p l e R s m args below meth c H locs kc ks Q (F0 m (pc + len) ls' r)) → W p l e R s m args below meth c H locs kc ks Q (F0 m pc ls (.int x :: r)))
    (h1 : ∀ (x : Int64) (r : List Value), k = 1 → i + 1 < L.length → (∀ ls' : Array Slot, lv_has ls' L.length ((i, Value.long x) :: (am_as ad fo L).filter (fun q => !(q.1 == i) && (!(q.1 == i + 1) && !(q.1 + 1 == i && q.2.category == 2)))) → W p l e R s m args below meth c H locs kc ks Q (F0 m (pc + len) ls' r)) → W p l e R s m args below meth c H locs kc ks Q (F0 m pc ls (.long x :: r)))
    (h2 : ∀ (x : Nat) (r : List Value), k = 2 → i < L.length → (∀ ls' : Array Slot, lv_has ls' L.length ((i, Value.ref x) :: (am_as ad fo L).filter (fun q => !(q.1 == i) && !(q.1 + 1 == i && q.2.category == 2))) → W p l e R s m args below meth c H locs kc ks Q (F0 m (pc + len) ls' r)) → W p l e R s m args below meth c H locs kc ks Q (F0 m pc ls (.ref x :: r)))
    (h3 : ∀ (r : List Value), k = 2 → i < L.length → (∀ ls' : Array Slot, lv_has ls' L.length ((i, Value.null) :: (am_as ad fo L).filter (fun q => !(q.1 == i) && !(q.1 + 1 == i && q.2.category == 2))) → W p l e R s m args below meth c H locs kc ks Q (F0 m (pc + len) ls' r)) → W p l e R s m args below meth c H locs kc ks Q (F0 m pc ls (.null :: r)))
    (kk : ∀ ls', q.2.2.2 = (sh, M, 0, 0) → am_lh ad fo ls' q.2.1 → q.2.1.length = L.length → W p l e R s m args below meth c H locs kc ks Q (F0 m q.1 ls' (q.2.2.1.map (am_tr ad fo)))) : W p l e R s m args below meth c H locs kc ks Q (F0 m pc ls (st.map (am_tr ad fo))) := by
  have s1 : ∀ {v : Value} {L' : am_L}, am_s1 L i v = some L' → i < L.length ∧ L'.length = L.length := by
    intro v L' h
    unfold am_s1 at h
    split at h
    · next hi =>
      split at h
      · cases h
      · cases h; exact ⟨hi, List.length_set⟩
    · cases h
  have s2 : ∀ {v : Value} {L' : am_L}, am_s2 L i v = some L' → i + 1 < L.length ∧ L'.length = L.length := by
    intro v L' h
    unfold am_s2 at h
    split at h
    · next hi =>
      split at h
      · cases h
      · cases h; exact ⟨hi, by rw [List.length_set, List.length_set]⟩
    · cases h
  unfold am_stx at h
  split at h
  · next v r =>
    split at h
    · next hk =>
      obtain ⟨L', e, rfl⟩ := Option.map_eq_some_iff.mp h
      exact h0 v _ hk (s1 e).1 (fun ls' hs => kk ls' rfl (am_st1 hfo e hs) (s1 e).2)
    · cases h
  · next v r =>
    split at h
    · next hk =>
      obtain ⟨L', e, rfl⟩ := Option.map_eq_some_iff.mp h
      exact h1 v _ hk (s2 e).1 (fun ls' hs => kk ls' rfl (am_st2 hfo e hs) (s2 e).2)
    · cases h
  · next v r =>
    split at h
    · next hk =>
      obtain ⟨L', eL, rfl⟩ := Option.map_eq_some_iff.mp h
      have hcase : am_tr ad fo (.ref v) = .null ∨ ∃ a, am_tr ad fo (.ref v) = .ref a := by
        by_cases hp : v < 1000
        · right; exact ⟨ad v, am_tr_w hp⟩
        · rw [am_tr_f hp]; exact hfo v
      show W p l e R s m args below meth c H locs kc ks Q (F0 m pc ls (am_tr ad fo (.ref v) :: r.map (am_tr ad fo)))
      have hk2 := fun ls' hs => kk ls' rfl (am_st1 hfo eL hs) (s1 eL).2
      rcases hcase with hn | ⟨a, ha⟩
      · rw [hn] at hk2 ⊢
        exact h3 _ hk (s1 eL).1 hk2
      · rw [ha] at hk2 ⊢
        exact h2 a _ hk (s1 eL).1 hk2
    · cases h
  · cases h
set_option maxHeartbeats 4000000 in
/-- the simple ones: locals, stack, arithmetic, jumps -/
theorem am_step1 (hB : am_B X z fo LN xs b adK adV d p R s m args c meth) (hl : am_lh ad fo ls L) (hL : L.length = d.1.2.2.1) {x : Instr} {len r1 r2 : Nat} {rv : Value} (hd : decode d.1.2.1 pc = .ok (x, len)) (hlen : len = am_le x len) (hw : am_wx X d pc x r1 r2 rv)
    {pc' : Nat} {L' : am_L} {st' : List Value} {sh' : List am_S} {M' : am_M} {ka kb : Nat}
    (hS : va_S (am_A z) s.heap H locs)
    (hg : ∀ f, x ≠ .getfield f) (hg2 : ∀ f, x ≠ .putfield f) (hg3 : x ≠ .iaload) (hg4 : x ≠ .baload) (hg5 : x ≠ .aaload) (hg6 : x ≠ .iastore) (hg7 : x ≠ .bastore) (hg8 : x ≠ .aastore) (hg9 : x ≠ .arraylength) (hg10 : ∀ f, x ≠ .new f) (hg11 : ∀ f, x ≠ .newarray f) (hg12 : ∀ f, x ≠ .anewarray f) (hg13 : ∀ f, x ≠ .invokestatic f) (hg14 : ∀ f, x ≠ .invokespecial f)
    (h : am_nx X LN xs x len r1 r2 rv pc L st sh M = some (pc', L', st', sh', M', ka, kb))
    (kk : ∀ ls', sh' = sh → M' = M → ka = 0 → kb = 0 → am_lh ad fo ls' L' → L'.length = d.1.2.2.1 → W p l e R s m args below meth c H locs kc ks Q (F0 m pc' ls' (st'.map (am_tr ad fo)))) : W p l e R s m args below meth c H locs kc ks Q (F0 m pc ls (st.map (am_tr ad fo))) := by
  obtain ⟨hx, hb, hml, hown, hts, hR, hz, hfo, hF, hin⟩ := hB
  have hnl := hfo.2.2
  unfold am_nx at h
  split at h
  · cases h; exact lv_iconst hx hb (am_hd hd hlen) rfl (kk ls rfl rfl rfl rfl hl hL)
  · cases h; exact lv_bipush hx hb (am_hd hd hlen) rfl (kk ls rfl rfl rfl rfl hl hL)
  · cases h; exact lv_sipush hx hb (am_hd hd hlen) rfl (kk ls rfl rfl rfl rfl hl hL)
  · cases h; exact lv_lconst hx hb (am_hd hd hlen) rfl (kk ls rfl rfl rfl rfl hl hL)
  · cases h
    rcases hw with ⟨v, rfl, hv⟩ | ⟨j, tx, rfl, hj, hv⟩
    · exact lv_ldc hx hb hown (hts _ hv) (am_hd hd hlen) (kk ls rfl rfl rfl rfl hl hL)
    · have hk := kk ls rfl rfl rfl rfl hl hL
      have ht : am_tr ad fo (.ref (1001 + j)) = .ref (adK j) := by
        rw [am_tr_f (by omega)]
        exact (hfo.2.1 j hj).1
      have hk2 : W p l e R s m args below meth c H locs kc ks Q (F0 m (pc + 2) ls (am_tr ad fo (.ref (1001 + j)) :: st.map (am_tr ad fo))) := hk
      rw [ht] at hk2
      exact va_ldcS hx hb hown (hF.2.2.2.1.1 _ hv) (am_hd hd hlen) hk2
  · cases h
    obtain ⟨v, rfl, hv⟩ := hw
    exact lv_ldcw hx hb hown (hts _ hv) (am_hd hd hlen) (kk ls rfl rfl rfl rfl hl hL)
  · cases h
    obtain ⟨v, rfl, hv⟩ := hw
    exact lv_ldc2 hx hb hown (hts _ hv) (am_hd hd hlen) (kk ls rfl rfl rfl rfl hl hL)
  · cases h
    rcases hw with ⟨rfl, hv⟩ | ⟨rfl, hv⟩
    · exact va_gets hx hb hF.2.1 hS hown (hts _ hv) (fun _ h9 => h9) (am_hd hd hlen) (kk ls rfl rfl rfl rfl hl hL)
    · exact va_gets hx hb hF.2.2.1 hS hown (hts _ hv) (fun _ h9 => h9) (am_hd hd hlen) (kk ls rfl rfl rfl rfl hl hL)
  · refine am_ld_w hl h (fun v _ hv k => lv_iload_n hx hb (am_hd hd hlen) rfl hv k) (fun v hk _ _ => by cases hk) (fun v hk _ _ => by cases hk) (fun hk _ _ => by cases hk) hnl (fun e1 e2 => ?_)
    cases e1; cases e2; exact kk ls rfl rfl rfl rfl hl hL
  · refine am_ld_w hl h (fun v _ hv k => lv_iload hx hb (am_hd hd hlen) hv k) (fun v hk _ _ => by cases hk) (fun v hk _ _ => by cases hk) (fun hk _ _ => by cases hk) hnl (fun e1 e2 => ?_)
    cases e1; cases e2; exact kk ls rfl rfl rfl rfl hl hL
  · refine am_ld_w hl h (fun v hk _ _ => by cases hk) (fun v _ hv k => lv_lload_n hx hb (am_hd hd hlen) rfl hv k) (fun v hk _ _ => by cases hk) (fun hk _ _ => by cases hk) hnl (fun e1 e2 => ?_)
    cases e1; cases e2; exact kk ls rfl rfl rfl rfl hl hL
  · refine am_ld_w hl h (fun v hk _ _ => by cases hk) (fun v _ hv k => lv_lload hx hb (am_hd hd hlen) hv k) (fun v hk _ _ => by cases hk) (fun hk _ _ => by cases hk) hnl (fun e1 e2 => ?_)
    cases e1; cases e2; exact kk ls rfl rfl rfl rfl hl hL
  · refine am_ld_w hl h (fun v hk _ _ => by cases hk) (fun v hk _ _ => by cases hk) (fun v _ hv k => lv_aload_n hx hb (am_hd hd hlen) rfl hv k) (fun _ hv k => lv_aload_nN hx hb (am_hd hd hlen) rfl hv k) hnl (fun e1 e2 => ?_)
    cases e1; cases e2; exact kk ls rfl rfl rfl rfl hl hL
  · refine am_ld_w hl h (fun v hk _ _ => by cases hk) (fun v hk _ _ => by cases hk) (fun v _ hv k => lv_aload hx hb (am_hd hd hlen) hv k) (fun _ hv k => lv_aloadN hx hb (am_hd hd hlen) hv k) hnl (fun e1 e2 => ?_)
    cases e1; cases e2; exact kk ls rfl rfl rfl rfl hl hL
  · refine am_st_w hnl hl h (fun v r _ hi k => lv_istore_n hx hb (am_hd hd hlen) rfl (am_lh_has hl) hi rfl k) (fun v r hk _ _ => by cases hk) (fun v r hk _ _ => by cases hk) (fun r hk _ _ => by cases hk) (fun ls' e1 e2 e3 => ?_)
    cases e1; exact kk ls' rfl rfl rfl rfl e2 (e3.trans hL)
  · refine am_st_w hnl hl h (fun v r _ hi k => lv_istore hx hb (am_hd hd hlen) (am_lh_has hl) hi rfl k) (fun v r hk _ _ => by cases hk) (fun v r hk _ _ => by cases hk) (fun r hk _ _ => by cases hk) (fun ls' e1 e2 e3 => ?_)
    cases e1; exact kk ls' rfl rfl rfl rfl e2 (e3.trans hL)
  · refine am_st_w hnl hl h (fun v r hk _ _ => by cases hk) (fun v r _ hi k => lv_lstore hx hb (am_hd hd hlen) (am_lh_has hl) hi rfl k) (fun v r hk _ _ => by cases hk) (fun r hk _ _ => by cases hk) (fun ls' e1 e2 e3 => ?_)
    cases e1; exact kk ls' rfl rfl rfl rfl e2 (e3.trans hL)
  · refine am_st_w hnl hl h (fun v r hk _ _ => by cases hk) (fun v r hk _ _ => by cases hk) (fun v r _ hi k => lv_astore_n hx hb (am_hd hd hlen) rfl (am_lh_has hl) hi rfl k) (fun r _ hi k => lv_astore_nN hx hb (am_hd hd hlen) rfl (am_lh_has hl) hi rfl k) (fun ls' e1 e2 e3 => ?_)
    cases e1; exact kk ls' rfl rfl rfl rfl e2 (e3.trans hL)
  · refine am_st_w hnl hl h (fun v r hk _ _ => by cases hk) (fun v r hk _ _ => by cases hk) (fun v r _ hi k => lv_astore hx hb (am_hd hd hlen) (am_lh_has hl) hi rfl k) (fun r _ hi k => lv_astoreN hx hb (am_hd hd hlen) (am_lh_has hl) hi rfl k) (fun ls' e1 e2 e3 => ?_)
    cases e1; exact kk ls' rfl rfl rfl rfl e2 (e3.trans hL)
  · split at h
    · next v hv =>
      obtain ⟨L', e, e2⟩ := Option.map_eq_some_iff.mp h
      cases e2
      have hv2 : (_, Value.int v) ∈ am_as ad fo L := am_as_mem.mpr ⟨_, hv, rfl⟩
      obtain ⟨k0, hk0⟩ := List.getElem?_of_mem hv2
      have hi := (List.getElem?_eq_some_iff.mp (am_ld_iff.mp hv)).1
      have e3 : L'.length = L.length := by
        unfold am_s1 at e
        rw [if_pos hi] at e
        split at e
        · cases e
        · cases e; exact List.length_set
      exact lv_iinc hx hb (am_hd hd hlen) (am_lh_has hl) hk0 rfl hi rfl (fun ls' hs => kk ls' rfl rfl rfl rfl (am_st1 hnl e hs) (e3.trans hL))
    · cases h
  · obtain ⟨x, y, r, rfl, e⟩ := am_b2_i h
    cases e
    exact lv_iadd hx hb (am_hd hd hlen) (kk ls rfl rfl rfl rfl hl hL)
  · obtain ⟨x, y, r, rfl, e⟩ := am_b2_i h
    cases e
    exact lv_isub hx hb (am_hd hd hlen) (kk ls rfl rfl rfl rfl hl hL)
  · obtain ⟨x, y, r, rfl, e⟩ := am_b2_i h
    cases e
    exact lv_imul hx hb (am_hd hd hlen) (kk ls rfl rfl rfl rfl hl hL)
  · obtain ⟨x, y, r, rfl, e⟩ := am_b2_i h
    cases e
    exact lv_iand hx hb (am_hd hd hlen) (kk ls rfl rfl rfl rfl hl hL)
  · obtain ⟨x, y, r, rfl, e⟩ := am_b2_i h
    cases e
    exact lv_ior hx hb (am_hd hd hlen) (kk ls rfl rfl rfl rfl hl hL)
  · obtain ⟨x, y, r, rfl, e⟩ := am_b2_i h
    cases e
    exact lv_ixor hx hb (am_hd hd hlen) (kk ls rfl rfl rfl rfl hl hL)
  · obtain ⟨x, y, r, rfl, e⟩ := am_b2_i h
    cases e
    exact lv_ishl hx hb (am_hd hd hlen) (kk ls rfl rfl rfl rfl hl hL)
  · obtain ⟨x, y, r, rfl, e⟩ := am_b2_i h
    cases e
    exact lv_ishr hx hb (am_hd hd hlen) (kk ls rfl rfl rfl rfl hl hL)
  · obtain ⟨x, y, r, rfl, e⟩ := am_b2_i h
    cases e
    exact lv_iushr hx hb (am_hd hd hlen) rfl (kk ls rfl rfl rfl rfl hl hL)
  · split at h
    · split at h
      · cases h
      · next hy => cases h; exact lv_idiv hx hb (am_hd hd hlen) hy (kk ls rfl rfl rfl rfl hl hL)
    · cases h
  · split at h
    · split at h
      · cases h
      · next hy => cases h; exact lv_irem hx hb (am_hd hd hlen) hy (kk ls rfl rfl rfl rfl hl hL)
    · cases h
  · obtain ⟨x, r, rfl, e⟩ := am_b1_i h
    cases e
    exact lv_i2b hx hb (am_hd hd hlen) rfl (kk ls rfl rfl rfl rfl hl hL)
  · obtain ⟨x, r, rfl, e⟩ := am_b1_i h
    cases e
    exact lv_i2s hx hb (am_hd hd hlen) rfl (kk ls rfl rfl rfl rfl hl hL)
  · obtain ⟨x, r, rfl, e⟩ := am_b1_i h
    cases e
    exact lv_i2c hx hb (am_hd hd hlen) rfl (kk ls rfl rfl rfl rfl hl hL)
  · split at h
    · cases h; exact lv_i2l hx hb (am_hd hd hlen) rfl (kk ls rfl rfl rfl rfl hl hL)
    · cases h
  · split at h
    · cases h; exact lv_ladd hx hb (am_hd hd hlen) (kk ls rfl rfl rfl rfl hl hL)
    · cases h
  · split at h
    · cases h; exact W.lcmp hx hb (am_hd hd hlen) (kk ls rfl rfl rfl rfl hl hL)
    · cases h
  · split at h
    · cases h; exact lv_dup hx hb (am_hd hd hlen) rfl (kk ls rfl rfl rfl rfl hl hL)
    · cases h; exact lv_dup hx hb (am_hd hd hlen) (am_tr_cat hnl _) (kk ls rfl rfl rfl rfl hl hL)
    · cases h
  · split at h
    · cases h; exact lv_dup2_11 hx hb (am_hd hd hlen) rfl (am_tr_cat hnl _) (kk ls rfl rfl rfl rfl hl hL)
    · cases h
  · split at h
    · cases h; exact lv_pop hx hb (am_hd hd hlen) rfl (kk ls rfl rfl rfl rfl hl hL)
    · cases h
  · cases h; exact lv_goto hx hb (am_hd hd hlen) hw (kk ls rfl rfl rfl rfl hl hL)
  · next cn off =>
    split at h
    · next x r =>
      cases h
      have hk := kk ls rfl rfl rfl rfl hl hL
      cases cn with
      | eq => exact lv_if_eq (tgt := r1) hx hb (am_hd hd hlen) hw (fun h9 => by rw [if_pos (by simp [am_c1, h9])] at hk; exact hk) (fun h9 => by rw [if_neg (by simpa [am_c1] using h9)] at hk; exact hk)
      | ne => exact lv_if_ne (tgt := r1) hx hb (am_hd hd hlen) hw (fun h9 => by rw [if_pos (by simp [am_c1, h9])] at hk; exact hk) (fun h9 => by rw [if_neg (by simpa [am_c1] using h9)] at hk; exact hk)
      | lt => exact lv_if_lt (tgt := r1) hx hb (am_hd hd hlen) hw (fun h9 => by rw [if_pos (by simp [am_c1, h9])] at hk; exact hk) (fun h9 => by rw [if_neg (by simpa [am_c1] using h9)] at hk; exact hk)
      | ge => exact lv_if_ge (tgt := r1) hx hb (am_hd hd hlen) hw (fun h9 => by rw [if_pos (by simp [am_c1, h9])] at hk; exact hk) (fun h9 => by rw [if_neg (by simpa [am_c1] using h9)] at hk; exact hk)
      | gt => exact lv_if_gt (tgt := r1) hx hb (am_hd hd hlen) hw (fun h9 => by rw [if_pos (by simp [am_c1, h9])] at hk; exact hk) (fun h9 => by rw [if_neg (by simpa [am_c1] using h9)] at hk; exact hk)
      | le => exact lv_if_le (tgt := r1) hx hb (am_hd hd hlen) hw (fun h9 => by rw [if_pos (by simp [am_c1, h9])] at hk; exact hk) (fun h9 => by rw [if_neg (by simpa [am_c1] using h9)] at hk; exact hk)
    · cases h
  · next cn off =>
    split at h
    · next y x r =>
      cases h
      have hk := kk ls rfl rfl rfl rfl hl hL
      cases cn with
      | eq => exact lv_icmp_eq (tgt := r1) hx hb (am_hd hd hlen) hw (fun h9 => by rw [if_pos (by simp [am_c2, h9])] at hk; exact hk) (fun h9 => by rw [if_neg (by simpa [am_c2] using h9)] at hk; exact hk)
      | ne => exact lv_icmp_ne (tgt := r1) hx hb (am_hd hd hlen) hw (fun h9 => by rw [if_pos (by simp [am_c2, h9])] at hk; exact hk) (fun h9 => by rw [if_neg (by simpa [am_c2] using h9)] at hk; exact hk)
      | lt => exact lv_icmp_lt (tgt := r1) hx hb (am_hd hd hlen) hw (fun h9 => by rw [if_pos (by simp [am_c2, h9])] at hk; exact hk) (fun h9 => by rw [if_neg (by simpa [am_c2] using h9)] at hk; exact hk)
      | ge => exact lv_icmp_ge (tgt := r1) hx hb (am_hd hd hlen) hw (fun h9 => by rw [if_pos (by simp [am_c2, h9])] at hk; exact hk) (fun h9 => by rw [if_neg (by simpa [am_c2] using h9)] at hk; exact hk)
      | gt => exact lv_icmp_gt (tgt := r1) hx hb (am_hd hd hlen) hw (fun h9 => by rw [if_pos (by simp [am_c2, h9])] at hk; exact hk) (fun h9 => by rw [if_neg (by simpa [am_c2] using h9)] at hk; exact hk)
      | le => exact lv_icmp_le (tgt := r1) hx hb (am_hd hd hlen) hw (fun h9 => by rw [if_pos (by simp [am_c2, h9])] at hk; exact hk) (fun h9 => by rw [if_neg (by simpa [am_c2] using h9)] at hk; exact hk)
    · cases h
  · split at h
    · next x r =>
      split at h
      · next ho =>
        split at h
        · next hp => cases h; exact lv_tableOut hx hb hd ho (Int.toNat_of_nonneg hp).symm (kk ls rfl rfl rfl rfl hl hL)
        · cases h
      · next ho =>
        split at h
        · next off hof =>
          split at h
          · next hp => cases h; exact lv_tableIn hx hb hd (fun q => ho (Or.inl q)) (fun q => ho (Or.inr q)) hof (Int.toNat_of_nonneg hp).symm (kk ls rfl rfl rfl rfl hl hL)
          · cases h
        · cases h
    · cases h
  · split at h
    · next x r =>
      split at h
      · next hp => cases h; exact lv_lookup hx hb hd hw rfl (Int.toNat_of_nonneg hp).symm (kk ls rfl rfl rfl rfl hl hL)
      · cases h
    · cases h
  · exact absurd rfl (hg _)
  · exact absurd rfl (hg2 _)
  · exact absurd rfl hg3
  · exact absurd rfl hg4
  · exact absurd rfl hg5
  · exact absurd rfl hg6
  · exact absurd rfl hg7
  · exact absurd rfl hg8
  · exact absurd rfl hg9
  · exact absurd rfl (hg10 _)
  · exact absurd rfl (hg11 _)
  · exact absurd rfl (hg12 _)
  · exact absurd rfl (hg13 _)
  · exact absurd rfl (hg14 _)
  · cases h
end AMT
