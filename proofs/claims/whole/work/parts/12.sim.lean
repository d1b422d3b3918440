/-! THE REAL MACHINE DOES WHAT THE LITTLE ONE DOES: what the tables must say -/
def am_fl (X : am_X) (own : String) (idx ci k : Nat) : Prop := ∃ (C : String) (T : u_T) (N : Nat), X.2.1[ci]? = some (C, T, N) ∧ k < N ∧ (∀ w ∈ u_ws C T N, w ∈ X.2.2.2.1) ∧ Jvm.Cond.fieldLink own idx (T k).1 (T k).2.1 (T k).2.2.1 ∈ X.2.2.2.1
def am_pt (rv : Value) (ty : FieldType) : Prop := (rv = .int 0 ∧ ty = .int) ∨ (rv = .int 1 ∧ ty = .boolean) ∨ (rv = .null ∧ ((∃ n, ty = .object n) ∨ ∃ t, ty = .array t))
def am_pl (X : am_X) (own nm : String) (idx ci k : Nat) (rv : Value) : Prop := ∃ (C : String) (T : u_T) (N : Nat) (ty : Nat → FieldType), X.2.1[ci]? = some (C, T, N) ∧ k < N ∧ (∀ w ∈ u_ws C T N, w ∈ X.2.2.2.1) ∧ Jvm.Cond.fieldLink own idx (T k).1 (T k).2.1 (T k).2.2.1 ∈ X.2.2.2.1 ∧ (∀ k, k < N → parseFieldDescriptor (T k).2.2.1 = some (ty k)) ∧ (∀ a, a < N → ∀ b, b < N → a ≠ b → (T a).2.1 ≠ (T b).2.1) ∧ ((T k).2.2.2 = true → nm = "<init>" ∧ (T k).1 = own) ∧ am_pt rv (ty k)
def am_wc (X : am_X) (d : am_D) (kd idx r1 r2 : Nat) : Prop := ∃ f : am_D, X.1[r1]? = some f ∧ plainName f.1.1.cls = true ∧ (f.1.1.cls ≠ "java/lang/invoke/MethodHandle" ∧ f.1.1.cls ≠ "java/lang/invoke/VarHandle" ∧ (parseMethodDescriptor f.1.1.desc).map (fun d => d.parameters.length) = some f.2.1.1) ∧ Jvm.Cond.code f.1.1 f.1.2.1 f.1.2.2.1 f.1.2.2.2 ∈ X.2.2.2.1 ∧ Jvm.Cond.initialized f.1.1.cls ∈ X.2.2.2.1 ∧ (f.2.2.1.frames + 1 ≤ d.2.2.1.frames ∧ 8 + (f.1.2.2.1 + 11) + f.2.2.1.locals ≤ d.2.2.1.locals) ∧
  ((kd = 1 ∧ f.2.1.2 = 1 ∧ Jvm.Cond.methodLink d.1.1.cls idx f.1.1 ∈ X.2.2.2.1 ∧ Jvm.Cond.instanceMethod f.1.1 ∈ X.2.2.2.1 ∧ Jvm.Cond.selects f.1.1.cls f.1.1 f.1.1 ∈ X.2.2.2.1 ∧ ((r2 = 100 ∧ f.1.1.cls = "java/lang/String") ∨ (r2 ≠ 100 ∧ ∃ q, X.2.1[r2]? = some q ∧ q.1 = f.1.1.cls))) ∨
   (kd = 2 ∧ f.2.1.2 = 0 ∧ Jvm.Cond.methodLink d.1.1.cls idx f.1.1 ∈ X.2.2.2.1 ∧ Jvm.Cond.static f.1.1 ∈ X.2.2.2.1) ∨
   (kd = 3 ∧ f.2.1.2 = 1 ∧ f.1.1.name = "<init>" ∧ f.1.2.2.2 = none ∧ Jvm.Cond.instanceMethod f.1.1 ∈ X.2.2.2.1 ∧ (Jvm.Cond.methodLink d.1.1.cls idx f.1.1 ∈ X.2.2.2.1 ∨ ∃ host, (d.1.1.cls, idx, f.1.1, host) ∈ X.2.2.2.2.2.2.1)))
def am_wx (X : am_X) (d : am_D) (pc : Nat) (x : Instr) (r1 r2 : Nat) (rv : Value) : Prop := match x with
  | .goto off => (pc : Int) + off = (r1 : Int)
  | .ifCond _ off => (pc : Int) + off = (r1 : Int)
  | .if_icmp _ off => (pc : Int) + off = (r1 : Int)
  | .lookupswitch _ ps => (ps.toList.zip (ps.toList.drop 1)).all (fun (a, next) => a.1 < next.1) = true
  | .ldc idx => (∃ v, rv = .int v ∧ Jvm.Cond.constant d.1.1.cls idx v ∈ X.2.2.2.1) ∨ (∃ j tx, rv = .ref (1001 + j) ∧ j < 90 ∧ (d.1.1.cls, idx, j, tx) ∈ X.2.2.2.2.2.1)
  | .ldc_w idx => ∃ v, rv = .int v ∧ Jvm.Cond.constant d.1.1.cls idx v ∈ X.2.2.2.1
  | .ldc2_w idx => ∃ v, rv = .long v ∧ Jvm.Cond.constantLong d.1.1.cls idx v ∈ X.2.2.2.1
  | .getstatic idx => (rv = .int 1 ∧ Jvm.Cond.fieldLink d.1.1.cls idx "java/lang/String" "COMPACT_STRINGS" "Z" ∈ X.2.2.2.1) ∨ (rv = .ref 1200 ∧ Jvm.Cond.fieldLink d.1.1.cls idx "jdk/internal/util/Preconditions" "SIOOBE_FORMATTER" "Ljava/util/function/BiFunction;" ∈ X.2.2.2.1)
  | .getfield idx => (r1 = 100 ∧ r2 = 0 ∧ Jvm.Cond.fieldLink d.1.1.cls idx "java/lang/String" "value" "[B" ∈ X.2.2.2.1) ∨ (r1 = 100 ∧ r2 = 1 ∧ Jvm.Cond.fieldLink d.1.1.cls idx "java/lang/String" "coder" "B" ∈ X.2.2.2.1) ∨ (r1 ≠ 100 ∧ am_fl X d.1.1.cls idx r1 r2)
  | .putfield idx => am_pl X d.1.1.cls d.1.1.name idx r1 r2 rv
  | .new idx => ∃ (C : String) (T : u_T) (N : Nat) (ty : Nat → FieldType), X.2.1[r1]? = some (C, T, N) ∧ X.2.2.1[r1]? = some ty ∧ (∀ w ∈ u_ws C T N, w ∈ X.2.2.2.1) ∧ (∀ k, k < N → parseFieldDescriptor (T k).2.2.1 = some (ty k)) ∧ (∀ k, k < N → am_prim (ty k) = true ∨ (∃ n, ty k = .object n) ∨ ∃ t, ty k = .array t) ∧ Jvm.Cond.classLink d.1.1.cls idx C ∈ X.2.2.2.1 ∧ Jvm.Cond.instantiable C N ∈ X.2.2.2.1 ∧ Jvm.Cond.initialized C ∈ X.2.2.2.1
  | .newarray a => Jvm.Cond.arrayClass (newarray.typeOf a) ∈ X.2.2.2.1
  | .anewarray idx => ∃ q, X.2.1[r1]? = some q ∧ Jvm.Cond.classLink d.1.1.cls idx q.1 ∈ X.2.2.2.1 ∧ q.1 ∈ X.2.2.2.2.2.2.2
  | .invokestatic idx => (r1 = 900 ∧ Jvm.Cond.methodLink d.1.1.cls idx arraycopyName ∈ X.2.2.2.1 ∧ Jvm.Cond.native arraycopyName ∈ X.2.2.2.1 ∧ Jvm.Cond.static arraycopyName ∈ X.2.2.2.1 ∧ Jvm.Cond.initialized "java/lang/System" ∈ X.2.2.2.1 ∧ 1 ≤ d.2.2.1.frames ∧ 8 + (nativeFrameWords "java/lang/System" "arraycopy" 5 + 11) ≤ d.2.2.1.locals) ∨ (r1 = 902 ∧ Jvm.Cond.methodLink d.1.1.cls idx Lib.Math.max.name ∈ X.2.2.2.1 ∧ Jvm.Cond.static Lib.Math.max.name ∈ X.2.2.2.1 ∧ Jvm.Cond.initialized "java/lang/Math" ∈ X.2.2.2.1 ∧ Jvm.Cond.code Lib.Math.max.name Lib.Math.max.code 2 (some .int) ∈ X.2.2.2.1 ∧ 1 ≤ d.2.2.1.frames ∧ 21 ≤ d.2.2.1.locals) ∨ (r1 = 903 ∧ Jvm.Cond.methodLink d.1.1.cls idx Lib.Math.min.name ∈ X.2.2.2.1 ∧ Jvm.Cond.static Lib.Math.min.name ∈ X.2.2.2.1 ∧ Jvm.Cond.initialized "java/lang/Math" ∈ X.2.2.2.1 ∧ Jvm.Cond.code Lib.Math.min.name Lib.Math.min.code 2 (some .int) ∈ X.2.2.2.1 ∧ 1 ≤ d.2.2.1.frames ∧ 21 ≤ d.2.2.1.locals) ∨ (r1 < 900 ∧ am_wc X d 2 idx r1 r2)
  | .invokespecial idx => (r1 = 901 ∧ Jvm.Cond.methodLink d.1.1.cls idx objectInit ∈ X.2.2.2.1 ∧ Jvm.Cond.instanceMethod objectInit ∈ X.2.2.2.1 ∧ Jvm.Cond.code objectInit ⟨#[0xb1]⟩ 1 none ∈ X.2.2.2.1 ∧ 1 ≤ d.2.2.1.frames ∧ 8 + 12 ≤ d.2.2.1.locals) ∨ (r1 < 900 ∧ am_wc X d 3 idx r1 r2)
  | .invokevirtual idx => r1 < 900 ∧ am_wc X d 1 idx r1 r2
  | _ => True
/-- how long an instruction is -/
def am_le (x : Instr) (len : Nat) : Nat := match x with
  | .bipush _ => 2
  | .sipush _ => 3
  | .ldc _ => 2
  | .ldc_w _ => 3
  | .ldc2_w _ => 3
  | .getstatic _ => 3
  | .iload _ => 2
  | .lload _ => 2
  | .aload _ => 2
  | .istore _ => 2
  | .lstore _ => 2
  | .astore _ => 2
  | .iinc _ _ => 3
  | .goto _ => 3
  | .ifCond _ _ => 3
  | .if_icmp _ _ => 3
  | .getfield _ => 3
  | .putfield _ => 3
  | .new _ => 3
  | .newarray _ => 2
  | .anewarray _ => 3
  | .invokestatic _ => 3
  | .invokespecial _ => 3
  | .invokevirtual _ => 3
  | .tableswitch _ _ _ _ => len
  | .lookupswitch _ _ => len
  | _ => 1
theorem am_hd {cc : ByteArray} {pc len n : Nat} {x : Instr} (h : decode cc pc = .ok (x, len)) (hn : len = n) : decode cc pc = .ok (x, n) := by rw [h, hn]
def am_wf (X : am_X) : Prop := (∀ w ∈ X.2.2.2.1, goodWord w = true) ∧ X.2.2.2.2.1.length ≤ 90 ∧ ∀ (j : Nat) (d : am_D), X.1[j]? = some d → ∀ i ∈ d.2.2.2, decode d.1.2.1 i.1 = .ok (i.2.1, i.2.2.1) ∧ i.2.2.1 = am_le i.2.1 i.2.2.1 ∧ am_wx X d i.1 i.2.1 i.2.2.2.1 i.2.2.2.2.1 i.2.2.2.2.2
/-- what a method knows of the machine -/
def am_B (X : am_X) (z : Nat) (fo : Nat → Value) (LN : Nat) (xs : Nat → Int32) (b : Nat) (adK adV : Nat → Nat) (d : am_D) (p : Program) (R : Room) (s : State) (m : MethodId) (args : Array Value) (c : Code) (meth : Method) : Prop :=
  p.tables.exec = Jvm.exec ∧ c.code = d.1.2.1 ∧ c.maxLocals = d.1.2.2.1 ∧ s.vm.findClass d.1.1.cls = some m.cls ∧ (∀ w ∈ X.2.2.2.1, w.before args s = true) ∧ R = d.2.2.1 ∧ z ≤ s.heap.size ∧ am_fo fo b adK adV ∧ am_F X z fo LN xs b adK adV s s.heap ∧ (d.1.1.name = "<init>" → meth.name = "<init>")
/-- the world -/
def am_Z (X : am_X) (D : va_G) (z : Nat) (s : State) (H : Heap) (locs : List Loc) (ad : Nat → Nat) (cA : Nat → ClassId) (tys : List (ClassId × FieldType)) (sh : List am_S) (M : am_M) : Prop :=
  va_K D X.2.1 tys s ∧ va_P D X.2.1 (am_W ad cA M sh) H ∧ va_D (am_A z) (am_W ad cA M sh) ∧ va_S (am_A z) s.heap H locs ∧ am_ty sh cA tys ∧ sh.length ≤ 1000 ∧ am_okS 1000 sh = true
theorem am_ag_r {n : Nat} {ad : Nat → Nat} {cA : Nat → ClassId} : am_ag n ad ad cA cA := fun _ _ => ⟨rfl, rfl⟩
theorem am_b2_i {f : Int32 → Int32 → Int32} {pc : Nat} {L : am_L} {st : List Value} {sh : List am_S} {M : am_M} {q : Nat × am_L × List Value × List am_S × am_M × Nat × Nat} (h : am_b2 f pc L st sh M = some q) : ∃ x y r, st = .int y :: .int x :: r ∧ q = (pc + 1, L, .int (f x y) :: r, sh, M, 0, 0) := by
  unfold am_b2 at h
  split at h
  · next y x r => cases h; exact ⟨x, y, r, rfl, rfl⟩
  · cases h
theorem am_b1_i {f : Int32 → Int32} {pc : Nat} {L : am_L} {st : List Value} {sh : List am_S} {M : am_M} {q : Nat × am_L × List Value × List am_S × am_M × Nat × Nat} (h : am_b1 f pc L st sh M = some q) : ∃ x r, st = .int x :: r ∧ q = (pc + 1, L, .int (f x) :: r, sh, M, 0, 0) := by
  unfold am_b1 at h
  split at h
  · next x r => cases h; exact ⟨x, r, rfl, rfl⟩
  · cases h
section AMS
variable {p : Program} {l : Launch} {e : Env} {R : Room} {s : State} {m : MethodId} {args : Array Value} {below : List Frame} {meth : Method} {c : Code} {H : Heap} {locs : List Loc} {kc ks : Nat} {Q : State → Prop}
variable {cc : ByteArray} {pc : Nat} {ls : Array Slot} {ad : Nat → Nat} {fo : Nat → Value} {L : am_L} {st : List Value} {sh : List am_S} {M : am_M}
/-- loads -/
theorem am_ld_w {k i len : Nat} {q : Nat × am_L × List Value × List am_S × am_M × Nat × Nat} (hl : am_lh ad fo ls L) (h : am_ldx k i len pc L st sh M = some q)
    (h0 : ∀ x : Int32, k = 0 → ls[i]? = some (.val (.int x)) → W p l e R s m args below meth c H locs kc ks Q (F0 m (pc + len) ls (.int x :: st.map (am_tr ad fo))) → W p l e R s m args below meth c H locs kc ks Q (F0 m pc ls (st.map (am_tr ad fo))))
    (h1 : ∀ x : Int64, k = 1 → ls[i]? = some (.val (.long x)) → W p l e R s m args below meth c H locs kc ks Q (F0 m (pc + len) ls (.long x :: st.map (am_tr ad fo))) → W p l e R s m args below meth c H locs kc ks Q (F0 m pc ls (st.map (am_tr ad fo))))
    (h2 : ∀ x : Nat, k = 2 → ls[i]? = some (.val (.ref x)) → W p l e R s m args below meth c H locs kc ks Q (F0 m (pc + len) ls (.ref x :: st.map (am_tr ad fo))) → W p l e R s m args below meth c H locs kc ks Q (F0 m pc ls (st.map (am_tr ad fo))))
    (h3 : k = 2 → ls[i]? = some (.val .null) → W p l e R s m args below meth c H locs kc ks Q (F0 m (pc + len) ls (.null :: st.map (am_tr ad fo))) → W p l e R s m args below meth c H locs kc ks Q (F0 m pc ls (st.map (am_tr ad fo))))
    (hfo : ∀ p, fo p = .null ∨ ∃ a, fo p = .ref a)
    (kk : q.2.1 = L → q.2.2.2 = (sh, M, 0, 0) → W p l e R s m args below meth c H locs kc ks Q (F0 m q.1 ls (q.2.2.1.map (am_tr ad fo)))) : W p l e R s m args below meth c H locs kc ks Q (F0 m pc ls (st.map (am_tr ad fo))) := by
  unfold am_ldx at h
  split at h
  · next v hv =>
    split at h
    · next hk => cases h; exact h0 v hk (hl.2 i _ hv) (kk rfl rfl)
    · cases h
  · next v hv =>
    split at h
    · next hk => cases h; exact h1 v hk (hl.2 i _ hv) (kk rfl rfl)
    · cases h
  · next v hv =>
    split at h
    · next hk =>
      cases h
      have hs := hl.2 i _ hv
      have hw := kk rfl rfl
      have hcase : am_tr ad fo (.ref v) = .null ∨ ∃ a, am_tr ad fo (.ref v) = .ref a := by
        unfold am_tr
        by_cases hp : v < 1000
        · right; exact ⟨ad v, by simp [hp]⟩
        · simp only [if_neg hp]; exact hfo v
      have hw2 : W p l e R s m args below meth c H locs kc ks Q (F0 m (pc + len) ls (am_tr ad fo (.ref v) :: st.map (am_tr ad fo))) := hw
      rcases hcase with hn | ⟨a, ha⟩
      · rw [hn] at hs hw2
        exact h3 hk hs hw2
      · rw [ha] at hs hw2
        exact h2 a hk hs hw2
    · cases h
  · next hv =>
    split at h
    · next hk => cases h; exact h3 hk (hl.2 i _ hv) (kk rfl rfl)
    · cases h
  · cases h
end AMS
