/-! THE CLAIM OUT OF ONE WALK OF THE LAW'S BODY. Your part is whole_start (and what it stands on); all else here is the same for every law, but numbers. -/
def R_law : String := "SqueezedAnswersLaw"
def lw_P (b : Addr) (xs : List Int32) (args : Array Value) (s : State) : Prop := args = #[.ref b] ∧ s.IntsAt b xs ∧ xs.length ≤ 2560 ∧ (Jvm.Cond.and given_1 narrow_1).before args s = true
def lw_Q (_ : Array Value) (s : State) (o : Outcome) (t : State) : Prop := o = .returned (some (.int 1)) ∧ Framed s o t [] 600000 7302249
def lw_Z (below : List Frame) (a : Array Value) (s : State) : State → Prop := fun t => ∃ o, t.status = .running ∧ Ended t below o ∧ lw_Q a s o t
/-- the law's own end, with 1 on the stack, nothing written that was there before, its room as the claim has it -/
theorem lw_ret {p : Program} {l : Launch} {e : Env} {s : State} {m : MethodId} {below : List Frame} {meth : Method} {c : Code} {b : Nat} (hx : p.tables.exec = Jvm.exec) (hb : c.code = code) (hr : meth.sig.returnType = ret) (hlocks : meth.locks = false) {pc : Nat} {H : Heap} {ls : Array Slot} (hdg : decode code pc = .ok (.ireturn, 1)) : W p l e room_1 s m #[Value.ref b] below meth c H [] 600000 7302249 (lw_Z below #[Value.ref b] s) (F0 m pc ls [.int 1]) := by
  intro T hT X
  obtain ⟨fs, hret, hrun, hended, hW, hframe⟩ := X.leave (v := some (.int 1)) (hlocks := hlocks) (fun h => by rw [hr] at h; cases h)
  have hmeth' : T.vm.method? m = some meth := X.method'
  refine ⟨T.setFrames fs, ?_, .returned (some (.int 1)), hrun, hended, rfl, ⟨_, rfl⟩, hW, hframe⟩
  jvm_step X.here [X.here.top, hx, hb, hdg, hmeth', hr, ret, narrow_b1]
  (try refine ⟨rfl, ?_⟩); (try refine ⟨rfl, ?_⟩)
  first | (intro acts; rw [hret _ acts rfl rfl rfl]) | rw [hret _ _ rfl rfl rfl]
  exact Steps.refl _
/-- what holds at the law's entry: the machine, the code, the tables' words (any of lw_tbl by 'hts w (by decide +kernel)'), the script of L ints xs at the cell b, what the Statement gives of the start (any of its parts by flat_of_before) -/
def lw_At (p : Program) (s : State) (m : MethodId) (meth : Method) (c : Code) (b L : Nat) (xs : Nat → Int32) : Prop :=
  p.tables.exec = Jvm.exec ∧ c.code = code ∧ meth.sig.returnType = ret ∧ c.maxLocals = 4 ∧ s.vm.findClass R_law = some m.cls ∧ (∀ w ∈ lw_tbl, w.before #[Value.ref b] s = true) ∧ va_X b L xs s s.heap ∧ b < s.heap.size ∧ meth.locks = false ∧ (Jvm.Cond.and given_1 narrow_1).before #[Value.ref b] s = true
/-! THE START: what the Statement gives, as the little machine's relation wants it -/
def st_tm (i : Nat) : Term := Term.string RX6 ((am_SR.getD i ("", 0, 0, "")).2.1)
abbrev st_fl : List Jvm.Cond := flatC (Jvm.Cond.and given_1 narrow_1)
theorem st_ex : ∀ i, i < 6 → Jvm.Cond.exactly (st_tm i) "java/lang/String" ∈ st_fl := by decide +kernel
theorem st_co : ∀ i, i < 6 → Jvm.Cond.eq (.field (st_tm i) "java/lang/String" "coder" "B") (.int 0) ∈ st_fl := by decide +kernel
theorem st_ar : ∀ i, i < 6 → Jvm.Cond.arrayOf (.field (st_tm i) "java/lang/String" "value" "[B") .byte ∈ st_fl := by decide +kernel
theorem st_le : ∀ i, i < 6 → Jvm.Cond.eq (.length (.field (st_tm i) "java/lang/String" "value" "[B")) (.int (Int32.ofNat ((am_SL.map List.length).getD i 0))) ∈ st_fl := by decide +kernel
theorem st_el : ∀ i, i < 6 → ∀ j, j < (am_SL.map List.length).getD i 0 → Jvm.Cond.eq (.elem (.field (st_tm i) "java/lang/String" "value" "[B") (.int (Int32.ofNat j))) (.int ((am_SL.getD i []).getD j 0)) ∈ st_fl := by decide +kernel
theorem st_ne : ∀ i, i < 6 → ∀ j, j < 6 → i ≠ j → Jvm.Cond.not (Jvm.Cond.eq (st_tm i) (st_tm j)) ∈ st_fl ∨ Jvm.Cond.not (Jvm.Cond.eq (st_tm j) (st_tm i)) ∈ st_fl := by decide +kernel
theorem st_sr0 : Jvm.Cond.stringRef RX6 83 "chip" ∈ lw_tbl := List.mem_of_getElem? (i := 400) (by decide +kernel)
theorem st_sr1 : Jvm.Cond.stringRef RX6 89 "column" ∈ lw_tbl := List.mem_of_getElem? (i := 453) (by decide +kernel)
theorem st_sr2 : Jvm.Cond.stringRef RX6 91 "out" ∈ lw_tbl := List.mem_of_getElem? (i := 454) (by decide +kernel)
theorem st_sr3 : Jvm.Cond.stringRef RX6 93 "register" ∈ lw_tbl := List.mem_of_getElem? (i := 455) (by decide +kernel)
theorem st_sr4 : Jvm.Cond.stringRef RX6 95 "poly" ∈ lw_tbl := List.mem_of_getElem? (i := 456) (by decide +kernel)
theorem st_sr5 : Jvm.Cond.stringRef RX6 97 "cell" ∈ lw_tbl := List.mem_of_getElem? (i := 457) (by decide +kernel)
theorem st_nw0 : Jvm.Cond.methodLinkNest RX7 9 yX6_init RX7 ∈ lw_tbl := List.mem_of_getElem? (i := 91) (by decide +kernel)
theorem st_nw1 : Jvm.Cond.methodLinkNest RX6 11 yX5_init RX7 ∈ lw_tbl := List.mem_of_getElem? (i := 97) (by decide +kernel)
theorem st_nw2 : Jvm.Cond.methodLinkNest RX7 33 yX2_init RX7 ∈ lw_tbl := List.mem_of_getElem? (i := 244) (by decide +kernel)
theorem st_nw3 : Jvm.Cond.methodLinkNest RX2 17 yX1_init RX7 ∈ lw_tbl := List.mem_of_getElem? (i := 250) (by decide +kernel)
theorem st_nw4 : Jvm.Cond.methodLinkNest RX7 40 yX4_init RX7 ∈ lw_tbl := List.mem_of_getElem? (i := 283) (by decide +kernel)
theorem st_nw5 : Jvm.Cond.methodLinkNest RX4 17 yX1_init RX7 ∈ lw_tbl := List.mem_of_getElem? (i := 288) (by decide +kernel)
theorem st_nw6 : Jvm.Cond.methodLinkNest RX7 51 yX3_init RX7 ∈ lw_tbl := List.mem_of_getElem? (i := 302) (by decide +kernel)
theorem st_ao0 : Jvm.Cond.arrayOver (.object RX0) ∈ lw_tbl := List.mem_of_getElem? (i := 241) (by decide +kernel)
theorem st_ao1 : Jvm.Cond.arrayOver (.object RX3) ∈ lw_tbl := List.mem_of_getElem? (i := 300) (by decide +kernel)
set_option maxHeartbeats 2000000 in
theorem am_start {p : Program} {e : Env} {s : State} {m : MethodId} {below : List Frame} {meth : Method} {c : Code} (l : Launch) {b L : Nat} {xs : Nat → Int32} (C0 : lw_At p s m meth c b L xs) {n : Nat} {sh : List am_S} {M : am_M} (hrun : am_run am_x L xs n 0 (0, [some (.ref 1000), none, none, none], [], [], fun _ _ => 0, 0, 0) = some (some (.int 1), sh, M)) : W p l e room_1 s m #[Value.ref b] below meth c s.heap [] 0 0 (lw_Z below #[Value.ref b] s) (entryFrame m ([Value.ref b] : List Value).toArray 4) := by
  obtain ⟨hx, hb, hr, hml, hown, hts, hX, hbl, hlocks, hgv⟩ := id C0
  have hs := flat_of_before _ hgv
  have hA : ∀ a : Nat, a < s.heap.size → ¬ am_A s.heap.size a := fun a h => Nat.not_le.mpr h
  obtain ⟨c0, i0, k0⟩ := u_known (C := RX0) (T := TX0) (N := 11) (n := 11) hts (fun w h => (List.mem_filter.mp (ws_RX0 w h)).1) (hts (.instantiable RX0 11) (List.mem_of_getElem? (i := 127) (by decide +kernel)))
  obtain ⟨c1, i1, k1⟩ := u_known (C := RX1) (T := TX1) (N := 3) (n := 3) hts (fun w h => (List.mem_filter.mp (ws_RX1 w h)).1) (hts (.instantiable RX1 3) (List.mem_of_getElem? (i := 249) (by decide +kernel)))
  obtain ⟨c2, i2, k2⟩ := u_known (C := RX2) (T := TX2) (N := 4) (n := 4) hts (fun w h => (List.mem_filter.mp (ws_RX2 w h)).1) (hts (.instantiable RX2 4) (List.mem_of_getElem? (i := 243) (by decide +kernel)))
  obtain ⟨c3, i3, k3⟩ := u_known (C := RX3) (T := TX3) (N := 3) (n := 3) hts (fun w h => (List.mem_filter.mp (ws_RX3 w h)).1) (hts (.instantiable RX3 3) (List.mem_of_getElem? (i := 301) (by decide +kernel)))
  obtain ⟨c4, i4, k4⟩ := u_known (C := RX4) (T := TX4) (N := 3) (n := 3) hts (fun w h => (List.mem_filter.mp (ws_RX4 w h)).1) (hts (.instantiable RX4 3) (List.mem_of_getElem? (i := 282) (by decide +kernel)))
  obtain ⟨c5, i5, k5⟩ := u_known (C := RX5) (T := TX5) (N := 6) (n := 6) hts (fun w h => (List.mem_filter.mp (ws_RX5 w h)).1) (hts (.instantiable RX5 6) (List.mem_of_getElem? (i := 96) (by decide +kernel)))
  obtain ⟨c6, i6, k6⟩ := u_known (C := RX6) (T := TX6) (N := 10) (n := 10) hts (fun w h => (List.mem_filter.mp (ws_RX6 w h)).1) (hts (.instantiable RX6 10) (List.mem_of_getElem? (i := 90) (by decide +kernel)))
  obtain ⟨c7, i7, k7⟩ := u_known (C := RX7) (T := TX7) (N := 9) (n := 9) hts (fun w h => (List.mem_filter.mp (ws_RX7 w h)).1) (hts (.instantiable RX7 9) (List.mem_of_getElem? (i := 82) (by decide +kernel)))
  obtain ⟨c8, i8, k8⟩ := u_known (C := RX8) (T := TX8) (N := 31) (n := 31) hts (fun w h => (List.mem_filter.mp (ws_RX8 w h)).1) (hts (.instantiable RX8 31) (List.mem_of_getElem? (i := 891) (by decide +kernel)))
  obtain ⟨dC, dI, hKc⟩ : ∃ (dC : Nat → ClassId) (dI : Nat → Nat → Nat), ∀ (k : Nat) (q : vw_C), am_cls[k]? = some q → u_Kn s q.1 q.2.1 q.2.2 (dC k) (dI k) := by
    refine ⟨fun k => if k = 0 then c0 else if k = 1 then c1 else if k = 2 then c2 else if k = 3 then c3 else if k = 4 then c4 else if k = 5 then c5 else if k = 6 then c6 else if k = 7 then c7 else c8, fun k => if k = 0 then i0 else if k = 1 then i1 else if k = 2 then i2 else if k = 3 then i3 else if k = 4 then i4 else if k = 5 then i5 else if k = 6 then i6 else if k = 7 then i7 else i8, ?_⟩
    intro k q hq
    match k, hq with
    | 0, hq => cases hq; exact k0
    | 1, hq => cases hq; exact k1
    | 2, hq => cases hq; exact k2
    | 3, hq => cases hq; exact k3
    | 4, hq => cases hq; exact k4
    | 5, hq => cases hq; exact k5
    | 6, hq => cases hq; exact k6
    | 7, hq => cases hq; exact k7
    | 8, hq => cases hq; exact k8
    | k + 9, hq => simp [am_cls] at hq
  obtain ⟨adK, adV, hE, hR⟩ := vk_Sof (s := s) (args := #[Value.ref b]) (N := am_SL.length) (tm := st_tm) (len := am_SL.map List.length) (byt := am_SL) (A := am_A s.heap.size) (by decide +kernel) (fun i hi => hs _ (st_ex i hi)) (fun i hi => hs _ (st_co i hi)) (fun i hi => hs _ (st_ar i hi)) (fun i hi => hs _ (st_le i hi)) (fun i hi j hj => hs _ (st_el i hi j hj)) (fun i j hi hj hij => (st_ne i hi j hj hij).elim (fun h => Or.inl (hs _ h)) (fun h => Or.inr (hs _ h))) hA
  have hZ1 : va_Z "java/lang/String" "COMPACT_STRINGS" "Z" (.int 1) (am_A s.heap.size) s s.heap := va_Zof (hts (.laysStatic "java/lang/String" "COMPACT_STRINGS" "Z") (List.mem_of_getElem? (i := 414) (by decide +kernel))) (hts (.initialized "java/lang/String") (List.mem_of_getElem? (i := 74) (by decide +kernel))) (va_eqi (hs _ (by decide +kernel))) hA
  have hZ2 : va_Zq "jdk/internal/util/Preconditions" "SIOOBE_FORMATTER" "Ljava/util/function/BiFunction;" (am_A s.heap.size) s s.heap := va_Zqof (hts (.laysStatic "jdk/internal/util/Preconditions" "SIOOBE_FORMATTER" "Ljava/util/function/BiFunction;") (List.mem_of_getElem? (i := 430) (by decide +kernel))) (hts (.initialized "jdk/internal/util/Preconditions") (List.mem_of_getElem? (i := 76) (by decide +kernel))) (hs _ (by decide +kernel)) hA
  obtain ⟨fm, hfm, hZ3⟩ : ∃ v : Value, (v = .null ∨ ∃ a, v = .ref a) ∧ va_Z "jdk/internal/util/Preconditions" "SIOOBE_FORMATTER" "Ljava/util/function/BiFunction;" v (am_A s.heap.size) s s.heap := by
    rcases hZ2 with h | ⟨t, h⟩
    · exact ⟨.null, Or.inl rfl, h⟩
    · exact ⟨.ref t, Or.inr ⟨t, rfl⟩, h⟩
  have hfo : am_fo (fun q => if q = 1000 then .ref b else if q < 1101 then .ref (adK (q - 1001)) else if q < 1200 then .ref (adV (q - 1101)) else if q = 1200 then fm else .ref (adV (q - 1101))) b adK adV := by
    refine ⟨rfl, fun j hj => ⟨?_, ?_⟩, fun q => ?_⟩
    · show (if 1001 + j = 1000 then _ else if 1001 + j < 1101 then _ else _) = _
      rw [if_neg (by omega), if_pos (by omega), show 1001 + j - 1001 = j by omega]
    · show (if 1101 + j = 1000 then _ else if 1101 + j < 1101 then _ else if 1101 + j < 1200 then _ else _) = _
      rw [if_neg (by omega), if_neg (by omega)]
      by_cases h9 : 1101 + j < 1200
      · rw [if_pos h9, show 1101 + j - 1101 = j by omega]
      · rw [if_neg h9, if_neg (by omega), show 1101 + j - 1101 = j by omega]
    · dsimp only
      split
      · exact Or.inr ⟨_, rfl⟩
      · split
        · exact Or.inr ⟨_, rfl⟩
        · split
          · exact Or.inr ⟨_, rfl⟩
          · split
            · exact hfm
            · exact Or.inr ⟨_, rfl⟩
  generalize hfoe : (fun q => if q = 1000 then Value.ref b else if q < 1101 then .ref (adK (q - 1001)) else if q < 1200 then .ref (adV (q - 1101)) else if q = 1200 then fm else .ref (adV (q - 1101))) = fo at hfo
  have hfm2 : fo 1200 = fm := by rw [← hfoe]; rfl
  rw [← hfm2] at hZ3
  have hF : am_F am_x s.heap.size fo L xs b adK adV s s.heap := by
    refine ⟨hE, hZ1, hZ3, ⟨?_, ?_, ?_⟩, hX, hbl⟩
    · show ∀ q ∈ am_SR, _
      unfold am_SR
      refine List.forall_mem_cons.mpr ⟨vk_R.of (hts _ st_sr0) (hR 0 (by decide)), ?_⟩
      refine List.forall_mem_cons.mpr ⟨vk_R.of (hts _ st_sr1) (hR 1 (by decide)), ?_⟩
      refine List.forall_mem_cons.mpr ⟨vk_R.of (hts _ st_sr2) (hR 2 (by decide)), ?_⟩
      refine List.forall_mem_cons.mpr ⟨vk_R.of (hts _ st_sr3) (hR 3 (by decide)), ?_⟩
      refine List.forall_mem_cons.mpr ⟨vk_R.of (hts _ st_sr4) (hR 4 (by decide)), ?_⟩
      refine List.forall_mem_cons.mpr ⟨vk_R.of (hts _ st_sr5) (hR 5 (by decide)), ?_⟩
      exact fun _ h => absurd h List.not_mem_nil
    · show ∀ q ∈ am_NW, _
      unfold am_NW
      refine List.forall_mem_cons.mpr ⟨va_Nw.of rfl (hts _ st_nw0), ?_⟩
      refine List.forall_mem_cons.mpr ⟨va_Nw.of rfl (hts _ st_nw1), ?_⟩
      refine List.forall_mem_cons.mpr ⟨va_Nw.of rfl (hts _ st_nw2), ?_⟩
      refine List.forall_mem_cons.mpr ⟨va_Nw.of rfl (hts _ st_nw3), ?_⟩
      refine List.forall_mem_cons.mpr ⟨va_Nw.of rfl (hts _ st_nw4), ?_⟩
      refine List.forall_mem_cons.mpr ⟨va_Nw.of rfl (hts _ st_nw5), ?_⟩
      refine List.forall_mem_cons.mpr ⟨va_Nw.of rfl (hts _ st_nw6), ?_⟩
      exact fun _ h => absurd h List.not_mem_nil
    · show ∀ q ∈ am_AO, _
      unfold am_AO
      refine List.forall_mem_cons.mpr ⟨va_AO.of (hts _ st_ao0), ?_⟩
      refine List.forall_mem_cons.mpr ⟨va_AO.of (hts _ st_ao1), ?_⟩
      exact fun _ h => absurd h List.not_mem_nil
  have hB : am_B am_x s.heap.size fo L xs b adK adV am_d0 p room_1 s m #[Value.ref b] c meth := ⟨hx, hb, hml, hown, fun w hw => hts w (List.mem_filter.mp hw).1, rfl, Nat.le_refl _, hfo, hF, fun h => absurd h (by decide)⟩
  have hZ : am_Z am_x (dC, dI) s.heap.size s s.heap [] (fun _ => 0) (fun _ => 0) [] [] (fun _ _ => 0) := ⟨⟨hKc, fun k q h => by simp at h⟩, fun k q h => by simp [am_W] at h, ⟨fun i j p q h => by simp [am_W] at h, fun k q h => by simp [am_W] at h⟩, va_S.rf, fun p ty n o h => by simp at h, by decide, rfl⟩
  have hen := am_en_lh (ad := fun _ => 0) (fo := fo) [.ref 1000] (n := 4) hfo.2.2 (by decide)
  have e1 : ([Value.ref 1000] : List Value).map (am_tr (fun _ => 0) fo) = [Value.ref b] := by
    show [am_tr (fun _ => 0) fo (.ref 1000)] = _
    rw [am_tr_f (by decide), hfo.1]
  rw [e1] at hen
  rw [lg_entry_eq]
  have main := am_main (l := l) (D := (dC, dI)) (z := s.heap.size) am_x_wf hfo n 0 am_d0 _ _ pj_0 hrun
  refine main p e room_1 s m _ below meth c s.heap [] _ _ (fun _ => 0) (fun _ => 0) [] hB hZ hen.1 hen.2 (by decide) (by decide) ?_
  intro x pc' ls' H' locs' ad' cA' tys' kc' ks' st' hd hre hag hle hZ' hkc hks
  have hf : ∀ q ∈ locs', s.heap.size ≤ q.base := fun q hq => hZ'.2.2.2.1.2.2 q hq
  refine va_forget hf ?_
  refine W.widen (k := 600000) (n := 7302249) hkc hks ?_
  rcases am_re_x hre with rfl | rfl | rfl
  · unfold am_re at hre
    dsimp only at hre
    split at hre <;> cases hre
  · unfold am_re at hre
    dsimp only at hre
    split at hre
    · split at hre
      · have e2 := Option.some.inj (Option.some.inj hre)
        rw [e2]
        exact lw_ret hx hb hr hlocks hd
      · cases hre
    · cases hre
  · unfold am_re at hre
    dsimp only at hre
    split at hre
    · have e2 := Option.some.inj (Option.some.inj hre)
      cases e2
    · cases hre
