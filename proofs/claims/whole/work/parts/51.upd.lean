/-! UPDATES OF THE CHIP, on both sides -/
theorem chp_upd {M : am_M} {n m w b P k k' : Nat} {v : Int32} (hP : 10 ≤ P ∧ P ≤ 13) (hk : 7 ≤ k') (hc : chp M n m w b) (M' : am_M) (hM : M' = am_up (am_up M P k v) 44 k' v)
    (h1 : ∀ c t, c < n → t < m → M' 44 (7 + 8 * c + t) = M' 10 (8 * c + t) ∧ cv3 (M' 10 (8 * c + t))) (h2 : ∀ c t, c < n → t < m → M' 44 (71 + 8 * c + t) = M' 11 (8 * c + t) ∧ cv3 (M' 11 (8 * c + t))) (h3 : ∀ c, c < n → M' 44 (135 + c) = M' 12 c ∧ bit (M' 12 c) w) (h4 : ∀ c, c < n → M' 44 (143 + c) = M' 13 c ∧ bit (M' 13 c) 17) : chp M' n m w b := by
  obtain ⟨h0, ⟨p0, p1, p2, p4⟩, ⟨q0, q1, q2, q3, q4, q5, q6⟩, ⟨b3, b5, b6⟩, -, -, -, -⟩ := hc
  have e9 : ∀ j, M' 9 j = M 9 j := fun j => by rw [hM, up_p (by decide), up_p (by omega)]
  have e44 : ∀ j, j < 7 → M' 44 j = M 44 j := fun j hj => by rw [hM, up_k (by omega), up_p (by omega)]
  refine ⟨h0, ?_, ?_, ?_, h1, h2, h3, h4⟩
  · rw [e9, e9, e9, e9]
    exact ⟨p0, p1, p2, p4⟩
  · rw [e44 0 (by omega), e44 1 (by omega), e44 2 (by omega), e44 3 (by omega), e44 4 (by omega), e44 5 (by omega), e44 6 (by omega), e9, e9, e9]
    exact ⟨q0, q1, q2, q3, q4, q5, q6⟩
  · rw [e9, e9, e9]
    exact ⟨b3, b5, b6⟩
theorem chp_cell {M : am_M} {n m w b c t : Nat} {v : Int32} (hc : c < n) (ht : t < m) (hv : cv3 v) (h : chp M n m w b) : chp (am_up (am_up M 10 (8 * c + t) v) 44 (7 + 8 * c + t) v) n m w b := by
  have h' := h
  obtain ⟨⟨hn, hm, hw, -, -⟩, -, -, -, hcell, hwant, hcol, hsus⟩ := h
  refine chp_upd (by omega) (by omega) h' _ rfl ?_ ?_ ?_ ?_
  · intro c' t' hc' ht'
    rw [up_p (q := 10) (by decide)]
    by_cases e : c' = c ∧ t' = t
    · obtain ⟨rfl, rfl⟩ := e
      rw [up_s, up_s]
      exact ⟨rfl, hv⟩
    · rw [up_k (by omega), up_p (q := 44) (by decide), up_k (by omega)]
      exact hcell c' t' hc' ht'
  · intro c' t' hc' ht'
    rw [up_k (q := 44) (by omega), up_p (q := 44) (by decide), up_p (q := 11) (by decide), up_p (q := 11) (by decide)]
    exact hwant c' t' hc' ht'
  · intro c' hc'
    rw [up_k (q := 44) (by omega), up_p (q := 44) (by decide), up_p (q := 12) (by decide), up_p (q := 12) (by decide)]
    exact hcol c' hc'
  · intro c' hc'
    rw [up_k (q := 44) (by omega), up_p (q := 44) (by decide), up_p (q := 13) (by decide), up_p (q := 13) (by decide)]
    exact hsus c' hc'
theorem chp_want {M : am_M} {n m w b c t : Nat} {v : Int32} (hc : c < n) (ht : t < m) (hv : cv3 v) (h : chp M n m w b) : chp (am_up (am_up M 11 (8 * c + t) v) 44 (71 + 8 * c + t) v) n m w b := by
  have h' := h
  obtain ⟨⟨hn, hm, hw, -, -⟩, -, -, -, hcell, hwant, hcol, hsus⟩ := h
  refine chp_upd (by omega) (by omega) h' _ rfl ?_ ?_ ?_ ?_
  · intro c' t' hc' ht'
    rw [up_k (q := 44) (by omega), up_p (q := 44) (by decide), up_p (q := 10) (by decide), up_p (q := 10) (by decide)]
    exact hcell c' t' hc' ht'
  · intro c' t' hc' ht'
    rw [up_p (q := 11) (by decide)]
    by_cases e : c' = c ∧ t' = t
    · obtain ⟨rfl, rfl⟩ := e
      rw [up_s, up_s]
      exact ⟨rfl, hv⟩
    · rw [up_k (by omega), up_p (q := 44) (by decide), up_k (by omega)]
      exact hwant c' t' hc' ht'
  · intro c' hc'
    rw [up_k (q := 44) (by omega), up_p (q := 44) (by decide), up_p (q := 12) (by decide), up_p (q := 12) (by decide)]
    exact hcol c' hc'
  · intro c' hc'
    rw [up_k (q := 44) (by omega), up_p (q := 44) (by decide), up_p (q := 13) (by decide), up_p (q := 13) (by decide)]
    exact hsus c' hc'
theorem chp_col {M : am_M} {n m w b c : Nat} {v : Int32} (hc : c < n) (hv : bit v w) (h : chp M n m w b) : chp (am_up (am_up M 12 c v) 44 (135 + c) v) n m w b := by
  have h' := h
  obtain ⟨⟨hn, hm, hw, -, -⟩, -, -, -, hcell, hwant, hcol, hsus⟩ := h
  refine chp_upd (by omega) (by omega) h' _ rfl ?_ ?_ ?_ ?_
  · intro c' t' hc' ht'
    rw [up_k (q := 44) (by omega), up_p (q := 44) (by decide), up_p (q := 10) (by decide), up_p (q := 10) (by decide)]
    exact hcell c' t' hc' ht'
  · intro c' t' hc' ht'
    rw [up_k (q := 44) (by omega), up_p (q := 44) (by decide), up_p (q := 11) (by decide), up_p (q := 11) (by decide)]
    exact hwant c' t' hc' ht'
  · intro c' hc'
    rw [up_p (q := 12) (by decide)]
    by_cases e : c' = c
    · subst e
      rw [up_s, up_s]
      exact ⟨rfl, hv⟩
    · rw [up_k (by omega), up_p (q := 44) (by decide), up_k (by omega)]
      exact hcol c' hc'
  · intro c' hc'
    rw [up_k (q := 44) (by omega), up_p (q := 44) (by decide), up_p (q := 13) (by decide), up_p (q := 13) (by decide)]
    exact hsus c' hc'
theorem chp_sus {M : am_M} {n m w b c : Nat} {v : Int32} (hc : c < n) (hv : bit v 17) (h : chp M n m w b) : chp (am_up (am_up M 13 c v) 44 (143 + c) v) n m w b := by
  have h' := h
  obtain ⟨⟨hn, hm, hw, -, -⟩, -, -, -, hcell, hwant, hcol, hsus⟩ := h
  refine chp_upd (by omega) (by omega) h' _ rfl ?_ ?_ ?_ ?_
  · intro c' t' hc' ht'
    rw [up_k (q := 44) (by omega), up_p (q := 44) (by decide), up_p (q := 10) (by decide), up_p (q := 10) (by decide)]
    exact hcell c' t' hc' ht'
  · intro c' t' hc' ht'
    rw [up_k (q := 44) (by omega), up_p (q := 44) (by decide), up_p (q := 11) (by decide), up_p (q := 11) (by decide)]
    exact hwant c' t' hc' ht'
  · intro c' hc'
    rw [up_k (q := 44) (by omega), up_p (q := 44) (by decide), up_p (q := 12) (by decide), up_p (q := 12) (by decide)]
    exact hcol c' hc'
  · intro c' hc'
    rw [up_p (q := 13) (by decide)]
    by_cases e : c' = c
    · subst e
      rw [up_s, up_s]
      exact ⟨rfl, hv⟩
    · rw [up_k (by omega), up_p (q := 44) (by decide), up_k (by omega)]
      exact hsus c' hc'
theorem rel_upd {M : am_M} {P k k' : Nat} {v : Int32} (hP : 9 ≤ P ∧ P ≤ 13) (hR : Rel M) (hc : ∃ n m w b, chp (am_up (am_up M P k v) 44 k' v) n m w b) : Rel (am_up (am_up M P k v) 44 k' v) :=
  rel_chip hR (chp_iff.mpr hc) (oth_t (oth_up (by omega)) (oth_up (by omega)))
/-- a cell, asked by the class and by the reference -/
theorem cell_c {M : am_M} {n m : Nat} (hn : n ≤ 8) (hm : m ≤ 8) (h0 : M 9 0 = nI n) (h1 : M 9 1 = nI m) (c t : Int32) : (f_X0_hasCell_9 c t M = 1 ∧ ∃ i j, i < n ∧ j < m ∧ c = nI i ∧ t = nI j) ∨ (f_X0_hasCell_9 c t M = 0 ∧ ¬ ∃ i j, i < n ∧ j < m ∧ c = nI i ∧ t = nI j) := by
  unfold f_X0_hasCell_9
  rcases chain_c hn h0 c with ⟨e, i, hi, rfl⟩ | ⟨e, hno⟩
  · rw [e, if_neg (by decide), h1]
    by_cases g1 : t < 0
    · right
      rw [if_pos g1]
      refine ⟨rfl, ?_⟩
      rintro ⟨i', j, -, hj, -, rfl⟩
      exact absurd g1 (nI_pos (by omega))
    · rw [if_neg g1]
      obtain ⟨j, hj, rfl⟩ := nI_of g1
      by_cases g2 : nI m ≤ nI j
      · right
        rw [if_pos g2]
        refine ⟨rfl, ?_⟩
        rintro ⟨i', j', -, hj', -, e'⟩
        rw [nI_eq hj (by omega)] at e'
        rw [ni_le (by omega) hj] at g2
        omega
      · left
        rw [if_neg g2]
        rw [ni_le (by omega) hj] at g2
        exact ⟨rfl, i, j, hi, by omega, rfl, rfl⟩
  · right
    rw [e, if_pos rfl]
    exact ⟨rfl, fun ⟨i, j, hi, _, hc, _⟩ => hno ⟨i, hi, hc⟩⟩
theorem cell_r {M : am_M} {n m : Nat} (hn : n ≤ 8) (hm : m ≤ 8) (h0 : M 44 0 = nI n) (h1 : M 44 1 = nI m) (c t : Int32) : ((∃ i j, i < n ∧ j < m ∧ c = nI i ∧ t = nI j) → f_X8_isCell_43 c t M = some 1) ∧ ((¬ ∃ i j, i < n ∧ j < m ∧ c = nI i ∧ t = nI j) → f_X8_isCell_43 c t M = some 0) := by
  unfold f_X8_isCell_43
  rw [chain_r hn h0, clamp1, h1, Option.bind_some]
  have hb := below (n := m) (by omega) t
  constructor
  · rintro ⟨i, j, hi, hj, rfl, rfl⟩
    rw [if_pos (show ∃ k, k < n ∧ nI i = nI k from ⟨i, hi, rfl⟩), if_neg (by decide), if_neg (in_y (b := 0) (c := nI m - 1) (by decide) rfl (hb.mpr ⟨j, hj, rfl⟩))]
  · intro hno
    by_cases hx : ∃ k, k < n ∧ c = nI k
    · rw [if_pos hx, if_neg (by decide), if_pos (in_n (b := 0) (c := nI m - 1) (by decide) rfl (fun h => ?_))]
      obtain ⟨i, hi, rfl⟩ := hx
      obtain ⟨j, hj, rfl⟩ := hb.mp h
      exact hno ⟨i, j, hi, hj, rfl, rfl⟩
    · rw [if_neg hx, if_pos rfl]
/-- 0 ≤ v ≤ 2 -/
theorem v3 (v : Int32) : (0 ≤ v ∧ v ≤ 2) ↔ cv3 v := by
  have h := below (n := 3) (by omega) v
  rw [show nI 3 - 1 = (2 : Int32) by decide] at h
  rw [h]
  constructor
  · rintro ⟨k, hk, rfl⟩
    rcases (show k = 0 ∨ k = 1 ∨ k = 2 by omega) with rfl | rfl | rfl
    · exact Or.inl rfl
    · exact Or.inr (Or.inl rfl)
    · exact Or.inr (Or.inr rfl)
  · rintro (rfl | rfl | rfl)
    · exact ⟨0, by omega, rfl⟩
    · exact ⟨1, by omega, rfl⟩
    · exact ⟨2, by omega, rfl⟩
theorem takes_c {M : am_M} {n m : Nat} (hn : n ≤ 8) (hm : m ≤ 8) (h0 : M 9 0 = nI n) (h1 : M 9 1 = nI m) (c t v : Int32) : (f_X0_takes_9 c t v M = 1 ∧ (∃ i j, i < n ∧ j < m ∧ c = nI i ∧ t = nI j) ∧ cv3 v) ∨ (f_X0_takes_9 c t v M = 0 ∧ ¬ ((∃ i j, i < n ∧ j < m ∧ c = nI i ∧ t = nI j) ∧ cv3 v)) := by
  unfold f_X0_takes_9
  rcases cell_c hn hm h0 h1 c t with ⟨e, hx⟩ | ⟨e, hno⟩
  · rw [e, if_neg (by decide)]
    by_cases g1 : v < 0
    · right
      rw [if_pos g1]
      exact ⟨rfl, fun h => absurd g1 (Int32.not_lt.mpr ((v3 v).mpr h.2).1)⟩
    · rw [if_neg g1]
      by_cases g2 : 2 < v
      · right
        rw [if_pos g2]
        exact ⟨rfl, fun h => absurd g2 (Int32.not_lt.mpr ((v3 v).mpr h.2).2)⟩
      · left
        rw [if_neg g2]
        exact ⟨rfl, hx, (v3 v).mp ⟨Int32.not_lt.mp g1, Int32.not_lt.mp g2⟩⟩
  · right
    rw [e, if_pos rfl]
    exact ⟨rfl, fun h => hno h.1⟩
theorem op_set (a0 a1 a2 : Int32) {M : am_M} (h : Rel M) : ∃ v M1 M2, f_X7_set_0 a0 a1 a2 M = some (v, M1) ∧ f_X8_set_43 a0 a1 a2 M1 = some (v, M2) ∧ Rel M2 := by
  obtain ⟨n, m, w, b, hch⟩ := chp_iff.mp h.1
  have hch0 := hch
  obtain ⟨⟨hn, hm, hw, hb1, hb2⟩, ⟨p0, p1, p2, p4⟩, ⟨q0, q1, q2, q3, q4, q5, q6⟩, ⟨b3, b5, b6⟩, hcell, hwant, hcol, hsus⟩ := hch
  unfold f_X7_set_0 f_X8_set_43
  rcases takes_c hn hm p0 p1 a0 a1 a2 with ⟨e, ⟨i, j, hi, hj, rfl, rfl⟩, hv⟩ | ⟨e, hno⟩
  · refine ⟨M 10 (8 * i + j), am_up M 10 (8 * i + j) a2, am_up (am_up M 10 (8 * i + j) a2) 44 (7 + 8 * i + j) a2, ?_, ?_, rel_upd (by omega) h ⟨n, m, w, b, chp_cell hi hj hv hch0⟩⟩
    · rw [e, if_neg (by decide), a_at]
      unfold f_X7_exchange_10
      rw [if_pos (db_ok (by omega) (by omega)), if_pos (db_ok (by omega) (by omega)), nI_clamp (by omega)]
      rfl
    · rw [(cell_r hn hm (by rw [up_p (by decide)]; exact q0) (by rw [up_p (by decide)]; exact q1) _ _).1 ⟨i, j, hi, hj, rfl, rfl⟩, Option.bind_some, if_neg (by decide), if_neg (in_y (b := 0) (c := 2) (by decide) (by decide) ((v3 a2).mpr hv)), a_7]
      unfold f_X8_becomes_43
      rw [if_pos (db_ok (by omega) (by omega)), if_pos (db_ok (by omega) (by omega)), nI_clamp (by omega), up_p (by decide), (hcell i j hi hj).1]
      rfl
  · refine ⟨-1, M, M, ?_, ?_, h⟩
    · rw [e, if_pos rfl]
    · by_cases hx : ∃ i j, i < n ∧ j < m ∧ a0 = nI i ∧ a1 = nI j
      · rw [(cell_r hn hm q0 q1 _ _).1 hx, Option.bind_some, if_neg (by decide), if_pos (in_n (b := 0) (c := 2) (by decide) (by decide) (fun h => hno ⟨hx, (v3 a2).mp h⟩))]
      · rw [(cell_r hn hm q0 q1 _ _).2 hx, Option.bind_some, if_pos rfl]
theorem op_want (a0 a1 a2 : Int32) {M : am_M} (h : Rel M) : ∃ v M1 M2, f_X7_want_0 a0 a1 a2 M = some (v, M1) ∧ f_X8_want_43 a0 a1 a2 M1 = some (v, M2) ∧ Rel M2 := by
  obtain ⟨n, m, w, b, hch⟩ := chp_iff.mp h.1
  have hch0 := hch
  obtain ⟨⟨hn, hm, hw, hb1, hb2⟩, ⟨p0, p1, p2, p4⟩, ⟨q0, q1, q2, q3, q4, q5, q6⟩, ⟨b3, b5, b6⟩, hcell, hwant, hcol, hsus⟩ := hch
  unfold f_X7_want_0 f_X8_want_43
  rcases takes_c hn hm p0 p1 a0 a1 a2 with ⟨e, ⟨i, j, hi, hj, rfl, rfl⟩, hv⟩ | ⟨e, hno⟩
  · refine ⟨M 11 (8 * i + j), am_up M 11 (8 * i + j) a2, am_up (am_up M 11 (8 * i + j) a2) 44 (71 + 8 * i + j) a2, ?_, ?_, rel_upd (by omega) h ⟨n, m, w, b, chp_want hi hj hv hch0⟩⟩
    · rw [e, if_neg (by decide), a_at]
      unfold f_X7_exchange_11
      rw [if_pos (db_ok (by omega) (by omega)), if_pos (db_ok (by omega) (by omega)), nI_clamp (by omega)]
      rfl
    · rw [(cell_r hn hm (by rw [up_p (by decide)]; exact q0) (by rw [up_p (by decide)]; exact q1) _ _).1 ⟨i, j, hi, hj, rfl, rfl⟩, Option.bind_some, if_neg (by decide), if_neg (in_y (b := 0) (c := 2) (by decide) (by decide) ((v3 a2).mpr hv)), a_71]
      unfold f_X8_becomes_43
      rw [if_pos (db_ok (by omega) (by omega)), if_pos (db_ok (by omega) (by omega)), nI_clamp (by omega), up_p (by decide), (hwant i j hi hj).1]
      rfl
  · refine ⟨-1, M, M, ?_, ?_, h⟩
    · rw [e, if_pos rfl]
    · by_cases hx : ∃ i j, i < n ∧ j < m ∧ a0 = nI i ∧ a1 = nI j
      · rw [(cell_r hn hm q0 q1 _ _).1 hx, Option.bind_some, if_neg (by decide), if_pos (in_n (b := 0) (c := 2) (by decide) (by decide) (fun h => hno ⟨hx, (v3 a2).mp h⟩))]
      · rw [(cell_r hn hm q0 q1 _ _).2 hx, Option.bind_some, if_pos rfl]
