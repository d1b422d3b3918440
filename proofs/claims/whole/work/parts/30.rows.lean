/-! RUNS OF THE LITTLE MACHINE, GOAL FIRST -/
/-- what there is once both are made -/
def am_sh : List am_S := [.inr (7, [some (some 1), none, some (some 9), some (some 14), some (some 25), some (some 26), some (some 30), some (some 34), none]), .inr (6, [some (some 2), some (some 4), none, none, none, none, none, none, none, none]), .inr (5, [some (some 3), none, none, none, none, none]), .inl (.byte, 160, none), .inr (0, [none, none, none, none, none, none, none, some (some 5), some (some 6), some (some 7), some (some 8)]), .inl (.int, 64, none), .inl (.int, 64, none), .inl (.int, 8, none), .inl (.int, 8, none), .inr (0, [none, none, none, none, none, none, none, some (some 10), some (some 11), some (some 12), some (some 13)]), .inl (.int, 64, none), .inl (.int, 64, none), .inl (.int, 8, none), .inl (.int, 8, none), .inl (.object RX0, 2, some [some 15, some 20]), .inr (0, [none, none, none, none, none, none, none, some (some 16), some (some 17), some (some 18), some (some 19)]), .inl (.int, 64, none), .inl (.int, 64, none), .inl (.int, 8, none), .inl (.int, 8, none), .inr (0, [none, none, none, none, none, none, none, some (some 21), some (some 22), some (some 23), some (some 24)]), .inl (.int, 64, none), .inl (.int, 64, none), .inl (.int, 8, none), .inl (.int, 8, none), .inl (.boolean, 2, none), .inr (2, [some (some 27), some (some 28), none, none]), .inl (.int, 12, none), .inr (1, [some (some 29), none, none]), .inl (.int, 12, none), .inr (4, [some (some 31), some (some 32), none]), .inl (.int, 64, none), .inr (1, [some (some 33), none, none]), .inl (.int, 12, none), .inl (.object RX3, 4, some [some 35, some 37, some 39, some 41]), .inr (3, [none, none, some (some 36)]), .inl (.int, 40, none), .inr (3, [none, none, some (some 38)]), .inl (.int, 40, none), .inr (3, [none, none, some (some 40)]), .inl (.int, 40, none), .inr (3, [none, none, some (some 42)]), .inl (.int, 40, none), .inr (8, [some (some 44), some (some 45), some (some 46), some (some 47), none, none, none, none, none, none, none, some (some 48), none, none, none, none, none, none, none, none, none, some (some 49), none, some (some 50), some (some 51), some (some 52), some (some 53), some (some 54), some (some 55), some (some 56), none]), .inl (.int, 151, none), .inl (.int, 302, none), .inl (.boolean, 2, none), .inl (.int, 151, none), .inl (.int, 160, none), .inl (.int, 64, none), .inl (.int, 8, none), .inl (.int, 151, none), .inl (.int, 64, none), .inl (.int, 64, none), .inl (.int, 4, none), .inl (.int, 4, none), .inl (.int, 160, none)]
def bl {α β : Type} (a : α) (f : α → β) : β := f a
theorem bl_i {α β : Type} {a : α} {f : α → β} {t : β} {G : Prop} (h : bl a f = t) (k : ∀ x, x = a → f x = t → G) : G := k a rfl h
theorem ck_i {α : Type} {c : Prop} [Decidable c] {A : Option α} {t : α} (h : (if c then A else none) = some t) : c ∧ A = some t := by
  by_cases hc : c
  · rw [if_pos hc] at h; exact ⟨hc, h⟩
  · rw [if_neg hc] at h; cases h
theorem ck_n {α : Type} {c : Prop} [Decidable c] {A : Option α} {t : α} (h : (if c then none else A) = some t) : ¬ c ∧ A = some t := by
  by_cases hc : c
  · rw [if_pos hc] at h; cases h
  · rw [if_neg hc] at h; exact ⟨hc, h⟩
theorem bd_i {α β : Type} {o : Option α} {f : α → Option β} {t : β} {G : Prop} (h : o.bind f = some t) (k : ∀ x, o = some x → f x = some t → G) : G := by
  obtain ⟨x, h1, h2⟩ := Option.bind_eq_some_iff.mp h
  exact k x h1 h2
def lp {σ ρ : Type} (body : σ → Option (σ ⊕ ρ)) : Nat → σ → Option ρ
  | 0, _ => none
  | n + 1, s => match body s with
    | none => none
    | some (.inl s') => lp body n s'
    | some (.inr q) => some q
theorem lp_s {σ ρ : Type} (body : σ → Option (σ ⊕ ρ)) (n : Nat) (s : σ) : lp body (n + 1) s = match body s with
    | none => none
    | some (.inl s') => lp body n s'
    | some (.inr q) => some q := rfl
theorem lp_o {σ ρ : Type} {body : σ → Option (σ ⊕ ρ)} (P : σ → Prop) (G : ρ → Prop) (hb : ∀ s w, body s = some w → (match w with
    | .inl s' => P s'
    | .inr q => G q) → P s) : ∀ {n : Nat} {s : σ} {q : ρ}, lp body n s = some q → G q → P s := by
  intro n
  induction n with
  | zero => intro s q h; cases h
  | succ n ih =>
    intro s q h hG
    rw [lp_s] at h
    cases hw : body s with
    | none => rw [hw] at h; cases h
    | some w =>
      rw [hw] at h
      refine hb s w hw ?_
      rcases w with s' | q'
      · exact ih h hG
      · cases h; exact hG
/-- what a local holds that nobody reads -/
def dv (x : Int32 ⊕ Int64) : Value := match x with
  | .inl a => .int a
  | .inr b => .long b
def ushr (x y : Int32) : Int32 := (x.toUInt32 >>> (y.toUInt32 &&& Int32.toUInt32 31)).toInt32
def imax (x y : Int32) : Int32 := if x < y then y else x
def imin (x y : Int32) : Int32 := if y < x then y else x
theorem ne_lit {x : Int32} {k : Int} (a : Int32) (ha : a.toInt = k) (h : ¬ x = a) : x.toInt ≠ k := fun e => h (Int32.toInt_inj.mp (e.trans ha.symm))
/-- how often a loop may turn -/
def lp_F : Nat := 5000
def oo (LN : Nat) (xs : Nat → Int32) (kc ks : Nat) (j pc : Nat) (L : am_L) (st : List Value) (M : am_M) (r : Option Value × am_M) : Prop :=
  (∀ d, am_x.1[j]? = some d → kc ≤ d.2.2.1.cells ∧ ks ≤ d.2.2.1.slots) → ∃ n, am_run am_x LN xs n j (pc, L, st, am_sh, M, kc, ks) = some (r.1, am_sh, r.2)
section OOR
variable {LN : Nat} {xs : Nat → Int32} {kc ks : Nat} {j pc : Nat} {L : am_L} {st : List Value} {M : am_M} {r : Option Value × am_M} {len r1 r2 : Nat} {rv : Value}
theorem oo_s {x : Instr} {pc' : Nat} {L' : am_L} {st' : List Value} {M' : am_M} (hc : am_cd am_x j pc = some (x, len, r1, r2, rv)) (hr : ∀ ret, am_re ret x st = none) (hk : am_kd x r1 = 0) (hn : am_nx am_x LN xs x len r1 r2 rv pc L st am_sh M = some (pc', L', st', am_sh, M', 0, 0)) (h : oo LN xs kc ks j pc' L' st' M' r) : oo LN xs kc ks j pc L st M r := by
  intro hd
  obtain ⟨n, h1⟩ := h hd
  refine ⟨n + 1, ?_⟩
  rw [am_run_s]
  have hcl : am_cl am_x LN xs j (pc, L, st, am_sh, M, kc, ks) = some (.inl (pc', L', st', am_sh, M', kc, ks)) := by
    unfold am_cl
    cases hj : am_x.1[j]? with
    | none => unfold am_cd at hc; rw [hj] at hc; cases hc
    | some d =>
      dsimp only
      rw [hc]
      dsimp only
      rw [hr, if_pos hk, hn]
      dsimp only
      exact if_pos (hd d hj)
  rw [hcl]
  exact h1
theorem kd_0 {x : Instr} {r1 : Nat} (h1 : ∀ i, x ≠ .invokevirtual i) (h2 : ∀ i, x ≠ .invokestatic i) (h3 : ∀ i, x ≠ .invokespecial i) : am_kd x r1 = 0 := by
  unfold am_kd
  split
  · rfl
  · split
    · exact absurd rfl (h1 _)
    · exact absurd rfl (h2 _)
    · exact absurd rfl (h3 _)
    · rfl
theorem o_iconst {n : Int} {v : Int32} (hc : am_cd am_x j pc = some (.iconst n, len, r1, r2, rv)) (hv : Int32.ofInt n = v) (h : oo LN xs kc ks j (pc + 1) L (.int v :: st) M r) : oo LN xs kc ks j pc L st M r :=
  oo_s hc (fun _ => rfl) (kd_0 (fun _ h => by cases h) (fun _ h => by cases h) (fun _ h => by cases h)) (by subst hv; rfl) h
theorem o_bipush {n : Int} {v : Int32} (hc : am_cd am_x j pc = some (.bipush n, len, r1, r2, rv)) (hv : (Int8.ofInt n).toInt32 = v) (h : oo LN xs kc ks j (pc + 2) L (.int v :: st) M r) : oo LN xs kc ks j pc L st M r :=
  oo_s hc (fun _ => rfl) (kd_0 (fun _ h => by cases h) (fun _ h => by cases h) (fun _ h => by cases h)) (by subst hv; rfl) h
theorem o_sipush {n : Int} {v : Int32} (hc : am_cd am_x j pc = some (.sipush n, len, r1, r2, rv)) (hv : (Int16.ofInt n).toInt32 = v) (h : oo LN xs kc ks j (pc + 3) L (.int v :: st) M r) : oo LN xs kc ks j pc L st M r :=
  oo_s hc (fun _ => rfl) (kd_0 (fun _ h => by cases h) (fun _ h => by cases h) (fun _ h => by cases h)) (by subst hv; rfl) h
theorem o_lconst {n : Fin 2} {v : Int64} (hc : am_cd am_x j pc = some (.lconst n, len, r1, r2, rv)) (hv : Int64.ofNat (n : Nat) = v) (h : oo LN xs kc ks j (pc + 1) L (.long v :: st) M r) : oo LN xs kc ks j pc L st M r :=
  oo_s hc (fun _ => rfl) (kd_0 (fun _ h => by cases h) (fun _ h => by cases h) (fun _ h => by cases h)) (by subst hv; rfl) h
theorem o_ldc {i : Nat} (hc : am_cd am_x j pc = some (.ldc i, len, r1, r2, rv)) (h : oo LN xs kc ks j (pc + 2) L (rv :: st) M r) : oo LN xs kc ks j pc L st M r :=
  oo_s hc (fun _ => rfl) (kd_0 (fun _ h => by cases h) (fun _ h => by cases h) (fun _ h => by cases h)) rfl h
theorem o_ldc_w {i : Nat} (hc : am_cd am_x j pc = some (.ldc_w i, len, r1, r2, rv)) (h : oo LN xs kc ks j (pc + 3) L (rv :: st) M r) : oo LN xs kc ks j pc L st M r :=
  oo_s hc (fun _ => rfl) (kd_0 (fun _ h => by cases h) (fun _ h => by cases h) (fun _ h => by cases h)) rfl h
theorem o_ldc2_w {i : Nat} (hc : am_cd am_x j pc = some (.ldc2_w i, len, r1, r2, rv)) (h : oo LN xs kc ks j (pc + 3) L (rv :: st) M r) : oo LN xs kc ks j pc L st M r :=
  oo_s hc (fun _ => rfl) (kd_0 (fun _ h => by cases h) (fun _ h => by cases h) (fun _ h => by cases h)) rfl h
theorem o_getstatic {i : Nat} (hc : am_cd am_x j pc = some (.getstatic i, len, r1, r2, rv)) (h : oo LN xs kc ks j (pc + 3) L (rv :: st) M r) : oo LN xs kc ks j pc L st M r :=
  oo_s hc (fun _ => rfl) (kd_0 (fun _ h => by cases h) (fun _ h => by cases h) (fun _ h => by cases h)) rfl h
theorem o_iload_n {i : Fin 4} {v : Int32} (hc : am_cd am_x j pc = some (.iload_n i, len, r1, r2, rv)) (hl : am_ld L (i : Nat) = some (.int v)) (h : oo LN xs kc ks j (pc + 1) L (.int v :: st) M r) : oo LN xs kc ks j pc L st M r :=
  oo_s hc (fun _ => rfl) (kd_0 (fun _ h => by cases h) (fun _ h => by cases h) (fun _ h => by cases h)) (by unfold am_nx am_ldx; dsimp only; rw [hl]; rfl) h
theorem o_iload {i : Nat} {v : Int32} (hc : am_cd am_x j pc = some (.iload i, len, r1, r2, rv)) (hl : am_ld L i = some (.int v)) (h : oo LN xs kc ks j (pc + 2) L (.int v :: st) M r) : oo LN xs kc ks j pc L st M r :=
  oo_s hc (fun _ => rfl) (kd_0 (fun _ h => by cases h) (fun _ h => by cases h) (fun _ h => by cases h)) (by unfold am_nx am_ldx; dsimp only; rw [hl]; rfl) h
theorem o_lload_n {i : Fin 4} {v : Int64} (hc : am_cd am_x j pc = some (.lload_n i, len, r1, r2, rv)) (hl : am_ld L (i : Nat) = some (.long v)) (h : oo LN xs kc ks j (pc + 1) L (.long v :: st) M r) : oo LN xs kc ks j pc L st M r :=
  oo_s hc (fun _ => rfl) (kd_0 (fun _ h => by cases h) (fun _ h => by cases h) (fun _ h => by cases h)) (by unfold am_nx am_ldx; dsimp only; rw [hl]; rfl) h
theorem o_lload {i : Nat} {v : Int64} (hc : am_cd am_x j pc = some (.lload i, len, r1, r2, rv)) (hl : am_ld L i = some (.long v)) (h : oo LN xs kc ks j (pc + 2) L (.long v :: st) M r) : oo LN xs kc ks j pc L st M r :=
  oo_s hc (fun _ => rfl) (kd_0 (fun _ h => by cases h) (fun _ h => by cases h) (fun _ h => by cases h)) (by unfold am_nx am_ldx; dsimp only; rw [hl]; rfl) h
theorem o_aload_n {i : Fin 4} {v : Nat} (hc : am_cd am_x j pc = some (.aload_n i, len, r1, r2, rv)) (hl : am_ld L (i : Nat) = some (.ref v)) (h : oo LN xs kc ks j (pc + 1) L (.ref v :: st) M r) : oo LN xs kc ks j pc L st M r :=
  oo_s hc (fun _ => rfl) (kd_0 (fun _ h => by cases h) (fun _ h => by cases h) (fun _ h => by cases h)) (by unfold am_nx am_ldx; dsimp only; rw [hl]; rfl) h
theorem o_aload {i : Nat} {v : Nat} (hc : am_cd am_x j pc = some (.aload i, len, r1, r2, rv)) (hl : am_ld L i = some (.ref v)) (h : oo LN xs kc ks j (pc + 2) L (.ref v :: st) M r) : oo LN xs kc ks j pc L st M r :=
  oo_s hc (fun _ => rfl) (kd_0 (fun _ h => by cases h) (fun _ h => by cases h) (fun _ h => by cases h)) (by unfold am_nx am_ldx; dsimp only; rw [hl]; rfl) h
theorem o_istore_n {i : Fin 4} {v e : Int32} {L' : am_L} (hc : am_cd am_x j pc = some (.istore_n i, len, r1, r2, rv)) (he : v = e) (hl : am_s1 L (i : Nat) (.int v) = some L') (h : oo LN xs kc ks j (pc + 1) L' st M r) : oo LN xs kc ks j pc L (.int e :: st) M r :=
  oo_s hc (fun _ => rfl) (kd_0 (fun _ h => by cases h) (fun _ h => by cases h) (fun _ h => by cases h)) (by subst he; unfold am_nx am_stx; dsimp only; rw [hl]; rfl) h
theorem o_istore {i : Nat} {v e : Int32} {L' : am_L} (hc : am_cd am_x j pc = some (.istore i, len, r1, r2, rv)) (he : v = e) (hl : am_s1 L i (.int v) = some L') (h : oo LN xs kc ks j (pc + 2) L' st M r) : oo LN xs kc ks j pc L (.int e :: st) M r :=
  oo_s hc (fun _ => rfl) (kd_0 (fun _ h => by cases h) (fun _ h => by cases h) (fun _ h => by cases h)) (by subst he; unfold am_nx am_stx; dsimp only; rw [hl]; rfl) h
theorem o_astore_n {i : Fin 4} {v e : Nat} {L' : am_L} (hc : am_cd am_x j pc = some (.astore_n i, len, r1, r2, rv)) (he : v = e) (hl : am_s1 L (i : Nat) (.ref v) = some L') (h : oo LN xs kc ks j (pc + 1) L' st M r) : oo LN xs kc ks j pc L (.ref e :: st) M r :=
  oo_s hc (fun _ => rfl) (kd_0 (fun _ h => by cases h) (fun _ h => by cases h) (fun _ h => by cases h)) (by subst he; unfold am_nx am_stx; dsimp only; rw [hl]; rfl) h
theorem o_astore {i : Nat} {v e : Nat} {L' : am_L} (hc : am_cd am_x j pc = some (.astore i, len, r1, r2, rv)) (he : v = e) (hl : am_s1 L i (.ref v) = some L') (h : oo LN xs kc ks j (pc + 2) L' st M r) : oo LN xs kc ks j pc L (.ref e :: st) M r :=
  oo_s hc (fun _ => rfl) (kd_0 (fun _ h => by cases h) (fun _ h => by cases h) (fun _ h => by cases h)) (by subst he; unfold am_nx am_stx; dsimp only; rw [hl]; rfl) h
theorem o_lstore {i : Nat} {v e : Int64} {L' : am_L} (hc : am_cd am_x j pc = some (.lstore i, len, r1, r2, rv)) (he : v = e) (hl : am_s2 L i (.long v) = some L') (h : oo LN xs kc ks j (pc + 2) L' st M r) : oo LN xs kc ks j pc L (.long e :: st) M r :=
  oo_s hc (fun _ => rfl) (kd_0 (fun _ h => by cases h) (fun _ h => by cases h) (fun _ h => by cases h)) (by subst he; unfold am_nx am_stx; dsimp only; rw [hl]; rfl) h
theorem o_iinc {i : Nat} {n : Int} {v k : Int32} {L' : am_L} (hc : am_cd am_x j pc = some (.iinc i n, len, r1, r2, rv)) (hl : am_ld L i = some (.int v)) (hv : Int32.ofInt n = k) (hs : am_s1 L i (.int (v + k)) = some L') (h : oo LN xs kc ks j (pc + 3) L' st M r) : oo LN xs kc ks j pc L st M r :=
  oo_s hc (fun _ => rfl) (kd_0 (fun _ h => by cases h) (fun _ h => by cases h) (fun _ h => by cases h)) (by subst hv; unfold am_nx; dsimp only; rw [hl]; dsimp only; rw [hs]; rfl) h
theorem o_iadd {x y : Int32} (hc : am_cd am_x j pc = some (.iadd, len, r1, r2, rv)) (h : oo LN xs kc ks j (pc + 1) L (.int (x + y) :: st) M r) : oo LN xs kc ks j pc L (.int y :: .int x :: st) M r :=
  oo_s hc (fun _ => rfl) (kd_0 (fun _ h => by cases h) (fun _ h => by cases h) (fun _ h => by cases h)) rfl h
theorem o_isub {x y : Int32} (hc : am_cd am_x j pc = some (.isub, len, r1, r2, rv)) (h : oo LN xs kc ks j (pc + 1) L (.int (x - y) :: st) M r) : oo LN xs kc ks j pc L (.int y :: .int x :: st) M r :=
  oo_s hc (fun _ => rfl) (kd_0 (fun _ h => by cases h) (fun _ h => by cases h) (fun _ h => by cases h)) rfl h
theorem o_imul {x y : Int32} (hc : am_cd am_x j pc = some (.imul, len, r1, r2, rv)) (h : oo LN xs kc ks j (pc + 1) L (.int (x * y) :: st) M r) : oo LN xs kc ks j pc L (.int y :: .int x :: st) M r :=
  oo_s hc (fun _ => rfl) (kd_0 (fun _ h => by cases h) (fun _ h => by cases h) (fun _ h => by cases h)) rfl h
theorem o_iand {x y : Int32} (hc : am_cd am_x j pc = some (.iand, len, r1, r2, rv)) (h : oo LN xs kc ks j (pc + 1) L (.int (x &&& y) :: st) M r) : oo LN xs kc ks j pc L (.int y :: .int x :: st) M r :=
  oo_s hc (fun _ => rfl) (kd_0 (fun _ h => by cases h) (fun _ h => by cases h) (fun _ h => by cases h)) rfl h
theorem o_ior {x y : Int32} (hc : am_cd am_x j pc = some (.ior, len, r1, r2, rv)) (h : oo LN xs kc ks j (pc + 1) L (.int (x ||| y) :: st) M r) : oo LN xs kc ks j pc L (.int y :: .int x :: st) M r :=
  oo_s hc (fun _ => rfl) (kd_0 (fun _ h => by cases h) (fun _ h => by cases h) (fun _ h => by cases h)) rfl h
theorem o_ixor {x y : Int32} (hc : am_cd am_x j pc = some (.ixor, len, r1, r2, rv)) (h : oo LN xs kc ks j (pc + 1) L (.int (x ^^^ y) :: st) M r) : oo LN xs kc ks j pc L (.int y :: .int x :: st) M r :=
  oo_s hc (fun _ => rfl) (kd_0 (fun _ h => by cases h) (fun _ h => by cases h) (fun _ h => by cases h)) rfl h
theorem o_ishl {x y : Int32} (hc : am_cd am_x j pc = some (.ishl, len, r1, r2, rv)) (h : oo LN xs kc ks j (pc + 1) L (.int (x <<< (y &&& 31)) :: st) M r) : oo LN xs kc ks j pc L (.int y :: .int x :: st) M r :=
  oo_s hc (fun _ => rfl) (kd_0 (fun _ h => by cases h) (fun _ h => by cases h) (fun _ h => by cases h)) rfl h
theorem o_ishr {x y : Int32} (hc : am_cd am_x j pc = some (.ishr, len, r1, r2, rv)) (h : oo LN xs kc ks j (pc + 1) L (.int (x >>> (y &&& 31)) :: st) M r) : oo LN xs kc ks j pc L (.int y :: .int x :: st) M r :=
  oo_s hc (fun _ => rfl) (kd_0 (fun _ h => by cases h) (fun _ h => by cases h) (fun _ h => by cases h)) rfl h
theorem o_iushr {x y : Int32} (hc : am_cd am_x j pc = some (.iushr, len, r1, r2, rv)) (h : oo LN xs kc ks j (pc + 1) L (.int (ushr x y) :: st) M r) : oo LN xs kc ks j pc L (.int y :: .int x :: st) M r :=
  oo_s hc (fun _ => rfl) (kd_0 (fun _ h => by cases h) (fun _ h => by cases h) (fun _ h => by cases h)) rfl h
theorem o_idiv {x y : Int32} (hc : am_cd am_x j pc = some (.idiv, len, r1, r2, rv)) (hy : ¬ y = 0) (h : oo LN xs kc ks j (pc + 1) L (.int (x / y) :: st) M r) : oo LN xs kc ks j pc L (.int y :: .int x :: st) M r :=
  oo_s hc (fun _ => rfl) (kd_0 (fun _ h => by cases h) (fun _ h => by cases h) (fun _ h => by cases h)) (by unfold am_nx; dsimp only; rw [if_neg hy]) h
theorem o_irem {x y : Int32} (hc : am_cd am_x j pc = some (.irem, len, r1, r2, rv)) (hy : ¬ y = 0) (h : oo LN xs kc ks j (pc + 1) L (.int (x - x / y * y) :: st) M r) : oo LN xs kc ks j pc L (.int y :: .int x :: st) M r :=
  oo_s hc (fun _ => rfl) (kd_0 (fun _ h => by cases h) (fun _ h => by cases h) (fun _ h => by cases h)) (by unfold am_nx; dsimp only; rw [if_neg hy]) h
theorem o_i2b {x : Int32} (hc : am_cd am_x j pc = some (.i2b, len, r1, r2, rv)) (h : oo LN xs kc ks j (pc + 1) L (.int (x.toInt8.toInt32) :: st) M r) : oo LN xs kc ks j pc L (.int x :: st) M r :=
  oo_s hc (fun _ => rfl) (kd_0 (fun _ h => by cases h) (fun _ h => by cases h) (fun _ h => by cases h)) rfl h
theorem o_i2s {x : Int32} (hc : am_cd am_x j pc = some (.i2s, len, r1, r2, rv)) (h : oo LN xs kc ks j (pc + 1) L (.int (x.toInt16.toInt32) :: st) M r) : oo LN xs kc ks j pc L (.int x :: st) M r :=
  oo_s hc (fun _ => rfl) (kd_0 (fun _ h => by cases h) (fun _ h => by cases h) (fun _ h => by cases h)) rfl h
theorem o_i2c {x : Int32} (hc : am_cd am_x j pc = some (.i2c, len, r1, r2, rv)) (h : oo LN xs kc ks j (pc + 1) L (.int ((x.toUInt32 % 65536).toInt32) :: st) M r) : oo LN xs kc ks j pc L (.int x :: st) M r :=
  oo_s hc (fun _ => rfl) (kd_0 (fun _ h => by cases h) (fun _ h => by cases h) (fun _ h => by cases h)) rfl h
theorem o_i2l {x : Int32} (hc : am_cd am_x j pc = some (.i2l, len, r1, r2, rv)) (h : oo LN xs kc ks j (pc + 1) L (.long x.toInt64 :: st) M r) : oo LN xs kc ks j pc L (.int x :: st) M r :=
  oo_s hc (fun _ => rfl) (kd_0 (fun _ h => by cases h) (fun _ h => by cases h) (fun _ h => by cases h)) rfl h
theorem o_ladd {x y : Int64} (hc : am_cd am_x j pc = some (.ladd, len, r1, r2, rv)) (h : oo LN xs kc ks j (pc + 1) L (.long (x + y) :: st) M r) : oo LN xs kc ks j pc L (.long y :: .long x :: st) M r :=
  oo_s hc (fun _ => rfl) (kd_0 (fun _ h => by cases h) (fun _ h => by cases h) (fun _ h => by cases h)) rfl h
theorem o_lcmp {x y : Int64} (hc : am_cd am_x j pc = some (.lcmp, len, r1, r2, rv)) (h : oo LN xs kc ks j (pc + 1) L (.int (lg_cmp x y) :: st) M r) : oo LN xs kc ks j pc L (.long y :: .long x :: st) M r :=
  oo_s hc (fun _ => rfl) (kd_0 (fun _ h => by cases h) (fun _ h => by cases h) (fun _ h => by cases h)) rfl h
theorem o_dupi {x : Int32} (hc : am_cd am_x j pc = some (.dup, len, r1, r2, rv)) (h : oo LN xs kc ks j (pc + 1) L (.int x :: .int x :: st) M r) : oo LN xs kc ks j pc L (.int x :: st) M r :=
  oo_s hc (fun _ => rfl) (kd_0 (fun _ h => by cases h) (fun _ h => by cases h) (fun _ h => by cases h)) rfl h
theorem o_dupr {x : Nat} (hc : am_cd am_x j pc = some (.dup, len, r1, r2, rv)) (h : oo LN xs kc ks j (pc + 1) L (.ref x :: .ref x :: st) M r) : oo LN xs kc ks j pc L (.ref x :: st) M r :=
  oo_s hc (fun _ => rfl) (kd_0 (fun _ h => by cases h) (fun _ h => by cases h) (fun _ h => by cases h)) rfl h
theorem o_dup2 {x : Int32} {q : Nat} (hc : am_cd am_x j pc = some (.dup2, len, r1, r2, rv)) (h : oo LN xs kc ks j (pc + 1) L (.int x :: .ref q :: .int x :: .ref q :: st) M r) : oo LN xs kc ks j pc L (.int x :: .ref q :: st) M r :=
  oo_s hc (fun _ => rfl) (kd_0 (fun _ h => by cases h) (fun _ h => by cases h) (fun _ h => by cases h)) rfl h
theorem o_pop {x : Int32} (hc : am_cd am_x j pc = some (.pop, len, r1, r2, rv)) (h : oo LN xs kc ks j (pc + 1) L st M r) : oo LN xs kc ks j pc L (.int x :: st) M r :=
  oo_s hc (fun _ => rfl) (kd_0 (fun _ h => by cases h) (fun _ h => by cases h) (fun _ h => by cases h)) rfl h
theorem o_goto {o : Int} (hc : am_cd am_x j pc = some (.goto o, len, r1, r2, rv)) (h : oo LN xs kc ks j r1 L st M r) : oo LN xs kc ks j pc L st M r :=
  oo_s hc (fun _ => rfl) (kd_0 (fun _ h => by cases h) (fun _ h => by cases h) (fun _ h => by cases h)) rfl h
theorem o_if_eq {o : Int} {x : Int32} (hc : am_cd am_x j pc = some (.ifCond .eq o, len, r1, r2, rv)) (ht : x = 0 → oo LN xs kc ks j r1 L st M r) (hf : ¬ x = 0 → oo LN xs kc ks j (pc + 3) L st M r) : oo LN xs kc ks j pc L (.int x :: st) M r := by
  by_cases h : am_c1 .eq x = true
  · exact oo_s hc (fun _ => rfl) (kd_0 (fun _ h => by cases h) (fun _ h => by cases h) (fun _ h => by cases h)) (by unfold am_nx; dsimp only; rw [if_pos h]) (ht (by simpa [am_c1] using h))
  · exact oo_s hc (fun _ => rfl) (kd_0 (fun _ h => by cases h) (fun _ h => by cases h) (fun _ h => by cases h)) (by unfold am_nx; dsimp only; rw [if_neg h]) (hf (by simpa [am_c1] using h))
theorem o_icmp_eq {o : Int} {x y : Int32} (hc : am_cd am_x j pc = some (.if_icmp .eq o, len, r1, r2, rv)) (ht : x = y → oo LN xs kc ks j r1 L st M r) (hf : ¬ x = y → oo LN xs kc ks j (pc + 3) L st M r) : oo LN xs kc ks j pc L (.int y :: .int x :: st) M r := by
  by_cases h : am_c2 .eq x y = true
  · exact oo_s hc (fun _ => rfl) (kd_0 (fun _ h => by cases h) (fun _ h => by cases h) (fun _ h => by cases h)) (by unfold am_nx; dsimp only; rw [if_pos h]) (ht (by simpa [am_c2] using h))
  · exact oo_s hc (fun _ => rfl) (kd_0 (fun _ h => by cases h) (fun _ h => by cases h) (fun _ h => by cases h)) (by unfold am_nx; dsimp only; rw [if_neg h]) (hf (by simpa [am_c2] using h))
theorem o_if_ne {o : Int} {x : Int32} (hc : am_cd am_x j pc = some (.ifCond .ne o, len, r1, r2, rv)) (ht : ¬ x = 0 → oo LN xs kc ks j r1 L st M r) (hf : x = 0 → oo LN xs kc ks j (pc + 3) L st M r) : oo LN xs kc ks j pc L (.int x :: st) M r := by
  by_cases h : am_c1 .ne x = true
  · exact oo_s hc (fun _ => rfl) (kd_0 (fun _ h => by cases h) (fun _ h => by cases h) (fun _ h => by cases h)) (by unfold am_nx; dsimp only; rw [if_pos h]) (ht (by simpa [am_c1] using h))
  · exact oo_s hc (fun _ => rfl) (kd_0 (fun _ h => by cases h) (fun _ h => by cases h) (fun _ h => by cases h)) (by unfold am_nx; dsimp only; rw [if_neg h]) (hf (by simpa [am_c1] using h))
theorem o_icmp_ne {o : Int} {x y : Int32} (hc : am_cd am_x j pc = some (.if_icmp .ne o, len, r1, r2, rv)) (ht : ¬ x = y → oo LN xs kc ks j r1 L st M r) (hf : x = y → oo LN xs kc ks j (pc + 3) L st M r) : oo LN xs kc ks j pc L (.int y :: .int x :: st) M r := by
  by_cases h : am_c2 .ne x y = true
  · exact oo_s hc (fun _ => rfl) (kd_0 (fun _ h => by cases h) (fun _ h => by cases h) (fun _ h => by cases h)) (by unfold am_nx; dsimp only; rw [if_pos h]) (ht (by simpa [am_c2] using h))
  · exact oo_s hc (fun _ => rfl) (kd_0 (fun _ h => by cases h) (fun _ h => by cases h) (fun _ h => by cases h)) (by unfold am_nx; dsimp only; rw [if_neg h]) (hf (by simpa [am_c2] using h))
theorem o_if_lt {o : Int} {x : Int32} (hc : am_cd am_x j pc = some (.ifCond .lt o, len, r1, r2, rv)) (ht : x < 0 → oo LN xs kc ks j r1 L st M r) (hf : ¬ x < 0 → oo LN xs kc ks j (pc + 3) L st M r) : oo LN xs kc ks j pc L (.int x :: st) M r := by
  by_cases h : am_c1 .lt x = true
  · exact oo_s hc (fun _ => rfl) (kd_0 (fun _ h => by cases h) (fun _ h => by cases h) (fun _ h => by cases h)) (by unfold am_nx; dsimp only; rw [if_pos h]) (ht (by simpa [am_c1] using h))
  · exact oo_s hc (fun _ => rfl) (kd_0 (fun _ h => by cases h) (fun _ h => by cases h) (fun _ h => by cases h)) (by unfold am_nx; dsimp only; rw [if_neg h]) (hf (by simpa [am_c1] using h))
theorem o_icmp_lt {o : Int} {x y : Int32} (hc : am_cd am_x j pc = some (.if_icmp .lt o, len, r1, r2, rv)) (ht : x < y → oo LN xs kc ks j r1 L st M r) (hf : ¬ x < y → oo LN xs kc ks j (pc + 3) L st M r) : oo LN xs kc ks j pc L (.int y :: .int x :: st) M r := by
  by_cases h : am_c2 .lt x y = true
  · exact oo_s hc (fun _ => rfl) (kd_0 (fun _ h => by cases h) (fun _ h => by cases h) (fun _ h => by cases h)) (by unfold am_nx; dsimp only; rw [if_pos h]) (ht (by simpa [am_c2] using h))
  · exact oo_s hc (fun _ => rfl) (kd_0 (fun _ h => by cases h) (fun _ h => by cases h) (fun _ h => by cases h)) (by unfold am_nx; dsimp only; rw [if_neg h]) (hf (by simpa [am_c2] using h))
theorem o_if_ge {o : Int} {x : Int32} (hc : am_cd am_x j pc = some (.ifCond .ge o, len, r1, r2, rv)) (ht : 0 ≤ x → oo LN xs kc ks j r1 L st M r) (hf : ¬ 0 ≤ x → oo LN xs kc ks j (pc + 3) L st M r) : oo LN xs kc ks j pc L (.int x :: st) M r := by
  by_cases h : am_c1 .ge x = true
  · exact oo_s hc (fun _ => rfl) (kd_0 (fun _ h => by cases h) (fun _ h => by cases h) (fun _ h => by cases h)) (by unfold am_nx; dsimp only; rw [if_pos h]) (ht (by simpa [am_c1] using h))
  · exact oo_s hc (fun _ => rfl) (kd_0 (fun _ h => by cases h) (fun _ h => by cases h) (fun _ h => by cases h)) (by unfold am_nx; dsimp only; rw [if_neg h]) (hf (by simpa [am_c1] using h))
theorem o_icmp_ge {o : Int} {x y : Int32} (hc : am_cd am_x j pc = some (.if_icmp .ge o, len, r1, r2, rv)) (ht : y ≤ x → oo LN xs kc ks j r1 L st M r) (hf : ¬ y ≤ x → oo LN xs kc ks j (pc + 3) L st M r) : oo LN xs kc ks j pc L (.int y :: .int x :: st) M r := by
  by_cases h : am_c2 .ge x y = true
  · exact oo_s hc (fun _ => rfl) (kd_0 (fun _ h => by cases h) (fun _ h => by cases h) (fun _ h => by cases h)) (by unfold am_nx; dsimp only; rw [if_pos h]) (ht (by simpa [am_c2] using h))
  · exact oo_s hc (fun _ => rfl) (kd_0 (fun _ h => by cases h) (fun _ h => by cases h) (fun _ h => by cases h)) (by unfold am_nx; dsimp only; rw [if_neg h]) (hf (by simpa [am_c2] using h))
theorem o_if_gt {o : Int} {x : Int32} (hc : am_cd am_x j pc = some (.ifCond .gt o, len, r1, r2, rv)) (ht : 0 < x → oo LN xs kc ks j r1 L st M r) (hf : ¬ 0 < x → oo LN xs kc ks j (pc + 3) L st M r) : oo LN xs kc ks j pc L (.int x :: st) M r := by
  by_cases h : am_c1 .gt x = true
  · exact oo_s hc (fun _ => rfl) (kd_0 (fun _ h => by cases h) (fun _ h => by cases h) (fun _ h => by cases h)) (by unfold am_nx; dsimp only; rw [if_pos h]) (ht (by simpa [am_c1] using h))
  · exact oo_s hc (fun _ => rfl) (kd_0 (fun _ h => by cases h) (fun _ h => by cases h) (fun _ h => by cases h)) (by unfold am_nx; dsimp only; rw [if_neg h]) (hf (by simpa [am_c1] using h))
theorem o_icmp_gt {o : Int} {x y : Int32} (hc : am_cd am_x j pc = some (.if_icmp .gt o, len, r1, r2, rv)) (ht : y < x → oo LN xs kc ks j r1 L st M r) (hf : ¬ y < x → oo LN xs kc ks j (pc + 3) L st M r) : oo LN xs kc ks j pc L (.int y :: .int x :: st) M r := by
  by_cases h : am_c2 .gt x y = true
  · exact oo_s hc (fun _ => rfl) (kd_0 (fun _ h => by cases h) (fun _ h => by cases h) (fun _ h => by cases h)) (by unfold am_nx; dsimp only; rw [if_pos h]) (ht (by simpa [am_c2] using h))
  · exact oo_s hc (fun _ => rfl) (kd_0 (fun _ h => by cases h) (fun _ h => by cases h) (fun _ h => by cases h)) (by unfold am_nx; dsimp only; rw [if_neg h]) (hf (by simpa [am_c2] using h))
theorem o_if_le {o : Int} {x : Int32} (hc : am_cd am_x j pc = some (.ifCond .le o, len, r1, r2, rv)) (ht : x ≤ 0 → oo LN xs kc ks j r1 L st M r) (hf : ¬ x ≤ 0 → oo LN xs kc ks j (pc + 3) L st M r) : oo LN xs kc ks j pc L (.int x :: st) M r := by
  by_cases h : am_c1 .le x = true
  · exact oo_s hc (fun _ => rfl) (kd_0 (fun _ h => by cases h) (fun _ h => by cases h) (fun _ h => by cases h)) (by unfold am_nx; dsimp only; rw [if_pos h]) (ht (by simpa [am_c1] using h))
  · exact oo_s hc (fun _ => rfl) (kd_0 (fun _ h => by cases h) (fun _ h => by cases h) (fun _ h => by cases h)) (by unfold am_nx; dsimp only; rw [if_neg h]) (hf (by simpa [am_c1] using h))
theorem o_icmp_le {o : Int} {x y : Int32} (hc : am_cd am_x j pc = some (.if_icmp .le o, len, r1, r2, rv)) (ht : x ≤ y → oo LN xs kc ks j r1 L st M r) (hf : ¬ x ≤ y → oo LN xs kc ks j (pc + 3) L st M r) : oo LN xs kc ks j pc L (.int y :: .int x :: st) M r := by
  by_cases h : am_c2 .le x y = true
  · exact oo_s hc (fun _ => rfl) (kd_0 (fun _ h => by cases h) (fun _ h => by cases h) (fun _ h => by cases h)) (by unfold am_nx; dsimp only; rw [if_pos h]) (ht (by simpa [am_c2] using h))
  · exact oo_s hc (fun _ => rfl) (kd_0 (fun _ h => by cases h) (fun _ h => by cases h) (fun _ h => by cases h)) (by unfold am_nx; dsimp only; rw [if_neg h]) (hf (by simpa [am_c2] using h))
theorem o_gf {i q : Nat} {v : Value} (hc : am_cd am_x j pc = some (.getfield i, len, r1, r2, rv)) (hg : am_gf am_x am_sh M q r1 r2 = some v) (h : oo LN xs kc ks j (pc + 3) L (v :: st) M r) : oo LN xs kc ks j pc L (.ref q :: st) M r :=
  oo_s hc (fun _ => rfl) (kd_0 (fun _ h => by cases h) (fun _ h => by cases h) (fun _ h => by cases h)) (by unfold am_nx; dsimp only; rw [hg]) h
theorem o_pf {i q : Nat} {v : Value} {M' : am_M} (hc : am_cd am_x j pc = some (.putfield i, len, r1, r2, rv)) (hg : am_pf am_sh M q r1 r2 rv v = some (am_sh, M')) (h : oo LN xs kc ks j (pc + 3) L st M' r) : oo LN xs kc ks j pc L (v :: .ref q :: st) M r :=
  oo_s hc (fun _ => rfl) (kd_0 (fun _ h => by cases h) (fun _ h => by cases h) (fun _ h => by cases h)) (by unfold am_nx; dsimp only; rw [hg]) h
theorem o_iald {i : Int32} {q n : Nat} (hc : am_cd am_x j pc = some (.iaload, len, r1, r2, rv)) (hq : (q == 1000) = false) (hs : am_ia .int am_sh q = some n) (hi : am_dbin i n = true) (h : oo LN xs kc ks j (pc + 1) L (.int (M q i.toNatClampNeg) :: st) M r) : oo LN xs kc ks j pc L (.int i :: .ref q :: st) M r :=
  oo_s hc (fun _ => rfl) (kd_0 (fun _ h => by cases h) (fun _ h => by cases h) (fun _ h => by cases h)) (by unfold am_nx am_ial; dsimp only; rw [if_neg (by simpa using hq), hs]; dsimp only; rw [if_pos hi]) h
theorem o_iascr {i : Int32} (hc : am_cd am_x j pc = some (.iaload, len, r1, r2, rv)) (hi : am_dbin i LN = true) (h : oo LN xs kc ks j (pc + 1) L (.int (xs i.toNatClampNeg) :: st) M r) : oo LN xs kc ks j pc L (.int i :: .ref 1000 :: st) M r :=
  oo_s hc (fun _ => rfl) (kd_0 (fun _ h => by cases h) (fun _ h => by cases h) (fun _ h => by cases h)) (by unfold am_nx am_ial; dsimp only; rw [if_pos rfl, if_pos hi]) h
theorem o_bald {i : Int32} {q n : Nat} {ty : FieldType} (hc : am_cd am_x j pc = some (.baload, len, r1, r2, rv)) (hs : am_ba am_sh q = some (ty, n)) (hi : am_dbin i n = true) (h : oo LN xs kc ks j (pc + 1) L (.int (M q i.toNatClampNeg) :: st) M r) : oo LN xs kc ks j pc L (.int i :: .ref q :: st) M r :=
  oo_s hc (fun _ => rfl) (kd_0 (fun _ h => by cases h) (fun _ h => by cases h) (fun _ h => by cases h)) (by unfold am_nx am_bal; dsimp only; rw [hs]; dsimp only; rw [if_pos hi]) h
theorem o_balS {i v : Int32} {q : Nat} (hc : am_cd am_x j pc = some (.baload, len, r1, r2, rv)) (hg : am_bal am_x am_sh M q i = some v) (h : oo LN xs kc ks j (pc + 1) L (.int v :: st) M r) : oo LN xs kc ks j pc L (.int i :: .ref q :: st) M r :=
  oo_s hc (fun _ => rfl) (kd_0 (fun _ h => by cases h) (fun _ h => by cases h) (fun _ h => by cases h)) (by unfold am_nx; dsimp only; rw [hg]) h
theorem o_aald {i : Int32} {q : Nat} {v : Value} (hc : am_cd am_x j pc = some (.aaload, len, r1, r2, rv)) (hg : am_aal am_sh q i = some v) (h : oo LN xs kc ks j (pc + 1) L (v :: st) M r) : oo LN xs kc ks j pc L (.int i :: .ref q :: st) M r :=
  oo_s hc (fun _ => rfl) (kd_0 (fun _ h => by cases h) (fun _ h => by cases h) (fun _ h => by cases h)) (by unfold am_nx; dsimp only; rw [hg]) h
theorem o_iast {i v : Int32} {q n : Nat} {M' : am_M} (hc : am_cd am_x j pc = some (.iastore, len, r1, r2, rv)) (hm : M' = am_up M q i.toNatClampNeg v) (hs : am_ia .int am_sh q = some n) (hi : am_dbin i n = true) (h : oo LN xs kc ks j (pc + 1) L st M' r) : oo LN xs kc ks j pc L (.int v :: .int i :: .ref q :: st) M r :=
  oo_s hc (fun _ => rfl) (kd_0 (fun _ h => by cases h) (fun _ h => by cases h) (fun _ h => by cases h)) (by subst hm; unfold am_nx; dsimp only; rw [hs]; dsimp only; rw [if_pos hi]) h
theorem o_bast {i v : Int32} {q n : Nat} {ty : FieldType} {M' : am_M} (hc : am_cd am_x j pc = some (.bastore, len, r1, r2, rv)) (hm : M' = am_up M q i.toNatClampNeg (vp_nar ty v)) (hs : am_ba am_sh q = some (ty, n)) (hi : am_dbin i n = true) (h : oo LN xs kc ks j (pc + 1) L st M' r) : oo LN xs kc ks j pc L (.int v :: .int i :: .ref q :: st) M r :=
  oo_s hc (fun _ => rfl) (kd_0 (fun _ h => by cases h) (fun _ h => by cases h) (fun _ h => by cases h)) (by subst hm; unfold am_nx; dsimp only; rw [hs]; dsimp only; rw [if_pos hi]) h
theorem o_alen {q n : Nat} {v : Int32} (hc : am_cd am_x j pc = some (.arraylength, len, r1, r2, rv)) (hg : am_len am_x LN am_sh q = some n) (hv : Int32.ofNat n = v) (h : oo LN xs kc ks j (pc + 1) L (.int v :: st) M r) : oo LN xs kc ks j pc L (.ref q :: st) M r :=
  oo_s hc (fun _ => rfl) (kd_0 (fun _ h => by cases h) (fun _ h => by cases h) (fun _ h => by cases h)) (by subst hv; unfold am_nx; dsimp only; rw [hg]) h
theorem o_max {i : Nat} {x y : Int32} (hc : am_cd am_x j pc = some (.invokestatic i, len, 902, r2, rv)) (hs : (st.map fun v => v.category).sum ≤ 8) (h : oo LN xs kc ks j (pc + 3) L (.int (imax x y) :: st) M r) : oo LN xs kc ks j pc L (.int y :: .int x :: st) M r :=
  oo_s hc (fun _ => rfl) rfl (by unfold am_nx; dsimp only; rw [if_pos rfl]; exact if_pos hs) h
theorem o_min {i : Nat} {x y : Int32} (hc : am_cd am_x j pc = some (.invokestatic i, len, 903, r2, rv)) (hs : (st.map fun v => v.category).sum ≤ 8) (h : oo LN xs kc ks j (pc + 3) L (.int (imin x y) :: st) M r) : oo LN xs kc ks j pc L (.int y :: .int x :: st) M r :=
  oo_s hc (fun _ => rfl) rfl (by unfold am_nx; dsimp only; rw [if_neg (by decide), if_pos rfl]; exact if_pos hs) h
theorem o_copy {i q0 q1 : Nat} {sp dp n : Int32} {M' M2 : am_M} (hc : am_cd am_x j pc = some (.invokestatic i, len, 900, r2, rv)) (hm : M2 = M') (hs : (st.map fun v => v.category).sum ≤ 8) (hg : am_ac am_sh M q0 q1 sp dp n = some M') (h : oo LN xs kc ks j (pc + 3) L st M2 r) : oo LN xs kc ks j pc L (.int n :: .int dp :: .ref q1 :: .int sp :: .ref q0 :: st) M r := by
  subst hm
  exact oo_s hc (fun _ => rfl) rfl (by unfold am_nx; dsimp only; rw [if_neg (by decide), if_neg (by decide), if_pos ⟨rfl, hs⟩, hg]) h
theorem o_tswI {dflt lo hi : Int} {offs : Array Int} {x : Int32} {tgt : Nat} {off : Int} (hc : am_cd am_x j pc = some (.tableswitch dflt lo hi offs, len, r1, r2, rv)) (h1 : ¬ x.toInt < lo) (h2 : ¬ hi < x.toInt) (ho : offs[(x.toInt - lo).toNat]? = some off) (ht : (pc : Int) + off = (tgt : Int)) (h : oo LN xs kc ks j tgt L st M r) : oo LN xs kc ks j pc L (.int x :: st) M r := by
  have h0 : (0 : Int) ≤ (pc : Int) + off := by omega
  refine oo_s hc (fun _ => rfl) (kd_0 (fun _ h => by cases h) (fun _ h => by cases h) (fun _ h => by cases h)) ?_ h
  unfold am_nx
  dsimp only
  rw [if_neg (fun h => h.elim h1 h2), ho]
  dsimp only
  rw [if_pos h0]
  have : ((pc : Int) + off).toNat = tgt := by omega
  rw [this]
theorem o_tswD {dflt lo hi : Int} {offs : Array Int} {x : Int32} {tgt : Nat} (hc : am_cd am_x j pc = some (.tableswitch dflt lo hi offs, len, r1, r2, rv)) (ho : x.toInt < lo ∨ hi < x.toInt) (ht : (pc : Int) + dflt = (tgt : Int)) (h : oo LN xs kc ks j tgt L st M r) : oo LN xs kc ks j pc L (.int x :: st) M r := by
  have h0 : (0 : Int) ≤ (pc : Int) + dflt := by omega
  refine oo_s hc (fun _ => rfl) (kd_0 (fun _ h => by cases h) (fun _ h => by cases h) (fun _ h => by cases h)) ?_ h
  unfold am_nx
  dsimp only
  rw [if_pos ho, if_pos h0]
  have : ((pc : Int) + dflt).toNat = tgt := by omega
  rw [this]
theorem o_lsw {dflt : Int} {ps : Array (Int × Int)} {x : Int32} {tgt : Nat} {off : Int} (hc : am_cd am_x j pc = some (.lookupswitch dflt ps, len, r1, r2, rv)) (ho : Op.lookupswitch.offset ps.toList dflt x.toInt = off) (ht : (pc : Int) + off = (tgt : Int)) (h : oo LN xs kc ks j tgt L st M r) : oo LN xs kc ks j pc L (.int x :: st) M r := by
  have h0 : (0 : Int) ≤ (pc : Int) + off := by omega
  refine oo_s hc (fun _ => rfl) (kd_0 (fun _ h => by cases h) (fun _ h => by cases h) (fun _ h => by cases h)) ?_ h
  unfold am_nx
  dsimp only
  rw [ho, if_pos h0]
  have : ((pc : Int) + off).toNat = tgt := by omega
  rw [this]
theorem oo_r {x : Instr} {d : am_D} {v : Option Value} (hj : am_x.1[j]? = some d) (hc : am_cd am_x j pc = some (x, len, r1, r2, rv)) (hr : am_re d.1.2.2.2 x st = some v) : oo LN xs kc ks j pc L st M (v, M) := by
  intro _
  refine ⟨1, ?_⟩
  rw [am_run_s]
  have hcl : am_cl am_x LN xs j (pc, L, st, am_sh, M, kc, ks) = some (.inr (.inr v)) := by
    unfold am_cl
    rw [hj]
    dsimp only
    rw [hc]
    dsimp only
    rw [hr]
  rw [hcl]
theorem o_iret {d : am_D} {v : Int32} {ty : FieldType} (hj : am_x.1[j]? = some d) (hc : am_cd am_x j pc = some (.ireturn, len, r1, r2, rv)) (hd : d.1.2.2.2 = some ty) (hn : narrow ty (.int v) = .int v ∧ (ty = .int ∨ ty = .boolean ∨ ty = .byte ∨ ty = .char)) : oo LN xs kc ks j pc L [.int v] M (some (.int v), M) := by
  refine oo_r hj hc ?_
  unfold am_re
  dsimp only
  rw [hd]
  dsimp only
  rw [if_pos hn]
theorem nr_i {v : Int32} : narrow .int (.int v) = .int v ∧ (FieldType.int = .int ∨ FieldType.int = .boolean ∨ FieldType.int = .byte ∨ FieldType.int = .char) := ⟨rfl, Or.inl rfl⟩
theorem nr_z {v : Int32} (h : v = 0 ∨ v = 1) : narrow .boolean (.int v) = .int v ∧ (FieldType.boolean = .int ∨ FieldType.boolean = .boolean ∨ FieldType.boolean = .byte ∨ FieldType.boolean = .char) := ⟨by rcases h with rfl | rfl <;> rfl, Or.inr (Or.inl rfl)⟩
theorem nr_b {v : Int32} (h : narrow .byte (.int v) = .int v) : narrow .byte (.int v) = .int v ∧ (FieldType.byte = .int ∨ FieldType.byte = .boolean ∨ FieldType.byte = .byte ∨ FieldType.byte = .char) := ⟨h, Or.inr (Or.inr (Or.inl rfl))⟩
theorem nr_c {v : Int32} (h : narrow .char (.int v) = .int v) : narrow .char (.int v) = .int v ∧ (FieldType.char = .int ∨ FieldType.char = .boolean ∨ FieldType.char = .byte ∨ FieldType.char = .char) := ⟨h, Or.inr (Or.inr (Or.inr rfl))⟩
theorem o_vret {d : am_D} (hj : am_x.1[j]? = some d) (hc : am_cd am_x j pc = some (.return_, len, r1, r2, rv)) (hd : d.1.2.2.2 = none) : oo LN xs kc ks j pc L [] M (none, M) := by
  refine oo_r hj hc ?_
  unfold am_re
  dsimp only
  rw [hd]
theorem o_aret {d : am_D} {q : Nat} {cn : String} (hj : am_x.1[j]? = some d) (hc : am_cd am_x j pc = some (.areturn, len, r1, r2, rv)) (hd : d.1.2.2.2 = some (.object cn)) : oo LN xs kc ks j pc L [.ref q] M (some (.ref q), M) := by
  refine oo_r hj hc ?_
  unfold am_re
  dsimp only
  rw [hd]
def am_cc (f : am_D) (x : Instr) (r1 r2 : Nat) (L : am_L) (st : List Value) : Bool := decide (f.2.1.1 + f.2.1.2 ≤ st.length) && decide (((st.drop (f.2.1.1 + f.2.1.2)).map fun v => v.category).sum ≤ 8) && am_okL am_sh.length L && am_okV am_sh.length st && decide ((lg_sl ((st.take (f.2.1.1 + f.2.1.2)).reverse)).length ≤ f.1.2.2.1) && decide (f.2.2.1.cells = 0) && decide (f.2.2.1.slots = 0) && am_rc am_x am_sh (am_kd x r1) r2 ((st.take (f.2.1.1 + f.2.1.2)).reverse)
theorem o_call {x : Instr} {f : am_D} {rc : Option Value} {M' : am_M} {as rest : List Value} {L0 : am_L} (hc : am_cd am_x j pc = some (x, len, r1, r2, rv)) (hf : am_x.1[r1]? = some f) (hr : ∀ ret, am_re ret x st = none) (hk : ¬ am_kd x r1 = 0) (hcc : am_cc f x r1 r2 L st = true) (hsp : ((st.take (f.2.1.1 + f.2.1.2)).reverse, st.drop (f.2.1.1 + f.2.1.2)) = (as, rest)) (hen : am_en f.1.2.2.1 as = L0)
    (hcal : oo LN xs 0 0 r1 0 L0 [] M (rc, M')) (h : oo LN xs kc ks j (pc + 3) L (rc.toList ++ rest) M' r) : oo LN xs kc ks j pc L st M r := by
  intro hd
  obtain ⟨n1, h1⟩ := hcal (fun d _ => ⟨Nat.zero_le _, Nat.zero_le _⟩)
  obtain ⟨n2, h2⟩ := h hd
  unfold am_cc at hcc
  simp only [Bool.and_eq_true, decide_eq_true_eq] at hcc
  obtain ⟨⟨⟨⟨⟨⟨⟨c1, c2⟩, c3⟩, c4⟩, c5⟩, c6⟩, c7⟩, c8⟩ := hcc
  injection hsp with e1 e2
  refine ⟨(n1 + n2) + 1, ?_⟩
  rw [am_run_s]
  have hcl : am_cl am_x LN xs j (pc, L, st, am_sh, M, kc, ks) = some (.inr (.inl (r1, as, rest))) := by
    unfold am_cl
    cases hj : am_x.1[j]? with
    | none => unfold am_cd at hc; rw [hj] at hc; cases hc
    | some d =>
      dsimp only
      rw [hc]
      dsimp only
      rw [hr, if_neg hk, hf]
      dsimp only
      have hdd := hd d hj
      rw [if_pos ⟨c1, c2, c3, c4, c5, by rw [c6]; exact hdd.1, by rw [c7]; exact hdd.2, c8⟩, e1, e2]
  rw [hcl]
  dsimp only
  have hmx : am_mx am_x r1 = f.1.2.2.1 := by unfold am_mx; rw [hf]
  have hrm : am_rm am_x r1 = (0, 0) := by unfold am_rm; rw [hf]; dsimp only; rw [c6, c7]
  rw [hmx, hen, am_mono' am_x LN xs h1 (Nat.le_add_right _ _)]
  dsimp only
  unfold am_bk
  rw [hrm]
  exact am_mono' am_x LN xs h2 (Nat.le_add_left _ _)
end OOR
