/-! HOW MANY BITS -/
theorem n_and (a b : Nat) : nI a &&& nI b = nI (a &&& b) := by
  apply Int32.toBitVec_inj.mp
  rw [Int32.toBitVec_and]
  show BitVec.ofNat 32 a &&& BitVec.ofNat 32 b = BitVec.ofNat 32 (a &&& b)
  apply BitVec.eq_of_getLsbD_eq
  intro i hi
  simp [BitVec.getLsbD_ofNat, hi, Nat.testBit_and]
def cntN (a : Nat) : Nat → Nat
  | 0 => 0
  | k + 1 => cntN a k + a / 2 ^ k % 2
def bcN (a : Nat) : Nat := 
  bl (a - ((a / 2) &&& 1431655765)) (fun x => bl ((x &&& 858993459) + ((x / 4) &&& 858993459)) (fun y => bl ((y + y / 16) &&& 252645135) (fun z => bl (z + z / 256) (fun u => (u + u / 65536) &&& 63))))
set_option maxRecDepth 100000 in
theorem bc_all : (List.range 16).all (fun h => (List.range 256).all (fun l => bcN (256 * h + l) == cntN (256 * h + l) 20)) = true := by decide +kernel
theorem bc_cnt {a : Nat} (ha : a < 2 ^ 12) : bcN a = cntN a 20 := by
  have h1 := List.all_eq_true.mp bc_all (a / 256) (List.mem_range.mpr (by omega))
  have h2 := List.all_eq_true.mp h1 (a % 256) (List.mem_range.mpr (by omega))
  have h3 : 256 * (a / 256) + a % 256 = a := by omega
  rw [h3] at h2
  simpa using h2
theorem n_ushr {a : Nat} (ha : a < 2 ^ 32) (s : Int32) (k : Nat) (hs : ((s.toUInt32 &&& Int32.toUInt32 31).toBitVec % 32).toNat = k) : ushr (nI a) s = nI (a / 2 ^ k) := pk_ushrN ha s k hs
theorem bc_N {a : Nat} (ha : a < 2 ^ 17) : f_J6_bitCount_0f7a4 (nI a) = nI (bcN a) := by
  unfold f_J6_bitCount_0f7a4 bcN
  have l1 : ((a / 2) &&& 1431655765) ≤ a := Nat.le_trans Nat.and_le_left (Nat.div_le_self _ _)
  have e1 : nI a - (ushr (nI a) 1 &&& 1431655765) = nI (a - ((a / 2) &&& 1431655765)) := by
    rw [n_ushr (by omega) 1 1 (by decide), show (1431655765 : Int32) = nI 1431655765 from rfl, n_and, pk_sub l1]
  rw [e1]
  generalize hx : a - ((a / 2) &&& 1431655765) = x
  have hxl : x < 2 ^ 17 := by omega
  simp only [bl]
  have e2 : (nI x &&& 858993459) + (ushr (nI x) 2 &&& 858993459) = nI ((x &&& 858993459) + ((x / 4) &&& 858993459)) := by
    rw [n_ushr (by omega) 2 2 (by decide), show (858993459 : Int32) = nI 858993459 from rfl, n_and, n_and, nI_add]
  rw [e2]
  have l2 : (x &&& 858993459) ≤ x := Nat.and_le_left
  have l3 : ((x / 4) &&& 858993459) ≤ x := Nat.le_trans Nat.and_le_left (Nat.div_le_self _ _)
  generalize hy : (x &&& 858993459) + ((x / 4) &&& 858993459) = y
  have hyl : y < 2 ^ 18 := by omega
  have e3 : (nI y + ushr (nI y) 4) &&& 252645135 = nI ((y + y / 16) &&& 252645135) := by
    rw [n_ushr (by omega) 4 4 (by decide), show (252645135 : Int32) = nI 252645135 from rfl, nI_add, n_and]
  rw [e3]
  have l4 : ((y + y / 16) &&& 252645135) ≤ y + y / 16 := Nat.and_le_left
  generalize hz : ((y + y / 16) &&& 252645135) = z
  have hzl : z < 2 ^ 19 := by omega
  have e4 : nI z + ushr (nI z) 8 = nI (z + z / 256) := by
    rw [n_ushr (by omega) 8 8 (by decide), nI_add]
  rw [e4]
  generalize hu : z + z / 256 = u
  have hul : u < 2 ^ 20 := by omega
  rw [n_ushr (by omega) 16 16 (by decide), nI_add, show (63 : Int32) = nI 63 from rfl, n_and]
theorem bc_ok {a : Nat} (ha : a < 2 ^ 12) : f_J6_bitCount_0f7a4 (nI a) = nI (cntN a 20) := by
  rw [bc_N (by omega), bc_cnt ha]
theorem sm_31 : ∀ i, i < 32 → ((nI i &&& 31).toBitVec.smod 32).toNat = i := by decide
theorem n_shr {a i : Nat} (ha : a < 2 ^ 31) (hi : i < 32) : nI a >>> (nI i &&& 31) = nI (a / 2 ^ i) := pk_shrN ha _ i (sm_31 i hi)
theorem n_and1 {a : Nat} (ha : a < 2 ^ 32) : nI a &&& 1 = nI (a % 2) := pk_andN ha 1 (by decide)
theorem bits_ok {a : Nat} (ha : a < 2 ^ 31) : f_X8_bitsOf (nI a) = some (nI (cntN a 20)) := by
  unfold f_X8_bitsOf
  refine Option.bind_eq_some_iff.mpr ⟨(nI (cntN a 20), nI 20), lp_run (fun i => (nI (cntN a i), nI i)) (n := 20) ?_ ?_ (lpF (by omega)), rfl⟩
  · intro i hi
    dsimp only
    rw [if_neg (by rw [show (20 : Int32) = nI 20 from rfl, ni_le (by omega) (by omega)]; omega), n_shr ha (by omega), n_and1 (Nat.lt_of_le_of_lt (Nat.div_le_self _ _) (by omega)), nI_add, nI_1]
    rfl
  · dsimp only
    rw [if_pos (by decide)]
theorem sus_eq : ∀ m, m < 9 → ((65536 : Int32) ||| (((1 : Int32) <<< (((2 : Int32) * nI m) &&& 31)) - 1)) = f_X8_allSuspects (nI m) ∧ (f_X8_allSuspects (nI m)).toBitVec.toNat < 2 ^ 17 := by decide
