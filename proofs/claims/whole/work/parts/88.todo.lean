/-! WHAT IS STILL WANTED -/
theorem op_feed (a0 : Int32) {M : am_M} (h : Rel M) : ∃ v M1 M2, f_X7_feed_0 a0 M = some (v, M1) ∧ f_X8_feed_43 a0 M1 = some (v, M2) ∧ Rel M2 := by
  sorry
theorem op_text {M : am_M} (h : Rel M) : ∃ v M1 M2, f_X7_text_0 M = some (v, M1) ∧ f_X8_text_43 M1 = some (v, M2) ∧ Rel M2 := by
  sorry
theorem op_rule (a0 : Int32) {M : am_M} (h : Rel M) : ∃ v, f_X7_rule_0 a0 M = some v ∧ f_X8_rule_43 a0 M = some v ∧ Rel M := by
  sorry
theorem op_cell (a0 a1 a2 : Int32) {M : am_M} (h : Rel M) : ∃ v, f_X7_cell_0 a0 a1 a2 M = some v ∧ f_X8_cell_43 a0 a1 a2 M = some v ∧ Rel M := by
  sorry
theorem op_seen (a0 a1 : Int32) {M : am_M} (h : Rel M) : ∃ v, f_X7_seen_0 a0 a1 M = some v ∧ f_X8_seen_43 a0 a1 M = some v ∧ Rel M := by
  sorry
theorem op_weak (a0 : Int32) {M : am_M} (h : Rel M) : ∃ v, f_X7_weak_0 a0 M = some v ∧ f_X8_weak_43 a0 M = some v ∧ Rel M := by
  sorry
theorem op_hidden (a0 a1 a2 : Int32) {M : am_M} (h : Rel M) : ∃ v M2, f_X7_hidden_0 a0 a1 a2 M = some v ∧ f_X8_hidden_43 a0 a1 a2 M = some (v, M2) ∧ Rel M2 := by
  sorry
theorem op_sure (a0 : Int32) {M : am_M} (h : Rel M) : ∃ v M2, f_X7_sure_0 a0 M = some v ∧ f_X8_sure_43 a0 M = some (v, M2) ∧ Rel M2 := by
  sorry
theorem op_hides (a0 : Int32) {M : am_M} (h : Rel M) : ∃ v, f_X7_hides_0 a0 M = some v ∧ f_X8_hides_43 a0 M = some v ∧ Rel M := by
  sorry
theorem op_watched {M : am_M} (h : Rel M) : ∃ v, f_X7_watched_0 M = some v ∧ f_X8_watched_43 M = some v ∧ Rel M := by
  sorry
theorem op_best {M : am_M} (h : Rel M) : ∃ v M2, f_X7_best_0 M = some v ∧ f_X8_best_43 M = some (v, M2) ∧ Rel M2 := by
  sorry
theorem op_draw (a0 : Int32) {M : am_M} (h : Rel M) : ∃ v M1 M2, f_X7_draw_0 a0 M = some (v, M1) ∧ f_X8_draw_43 a0 M1 = some (v, M2) ∧ Rel M2 := by
  sorry
theorem op_brought (a0 a1 a2 : Int32) {M : am_M} (h : Rel M) : ∃ v M1, f_X7_brought_0 a0 a1 a2 M = some (v, M1) ∧ f_X8_brought_43 a0 a1 a2 M1 = some v ∧ Rel M1 := by
  sorry
theorem op_seed (a0 : Int32) {M : am_M} (h : Rel M) : ∃ v M1, f_X7_seed_0 a0 M = some (v, M1) ∧ f_X8_seed_43 a0 M1 = some v ∧ Rel M1 := by
  sorry
theorem op_signature {M : am_M} (h : Rel M) : ∃ v, f_X7_signature_0 M = some v ∧ f_X8_signature_43 M = some v ∧ Rel M := by
  sorry
theorem op_alias (a0 : Int32) {M : am_M} (h : Rel M) : ∃ v M1 M2, f_X7_alias_0 a0 M = some (v, M1) ∧ f_X8_alias_43 a0 M1 = some (v, M2) ∧ Rel M2 := by
  sorry
theorem op_dump (a0 a1 : Int32) {M : am_M} (h : Rel M) : ∃ v M1 M2, f_X7_dump_0 a0 a1 M = some (v, M1) ∧ f_X8_dump_43 a0 a1 M1 = some (v, M2) ∧ Rel M2 := by
  sorry
theorem op_clear (a0 : Int32) {M : am_M} (h : Rel M) : ∃ v M1 M2, f_X7_clear_0 a0 M = some (v, M1) ∧ f_X8_clear_43 a0 M1 = some (v, M2) ∧ Rel M2 := by
  sorry
theorem op_keep (a0 : Int32) {M : am_M} (h : Rel M) : ∃ v M1 M2, f_X7_keep_0 a0 M = some (v, M1) ∧ f_X8_keep_43 a0 M1 = some (v, M2) ∧ Rel M2 := by
  sorry
theorem op_back (a0 : Int32) {M : am_M} (h : Rel M) : ∃ v M1 M2, f_X7_back_0 a0 M = some (v, M1) ∧ f_X8_back_43 a0 M1 = some (v, M2) ∧ Rel M2 := by
  sorry
theorem op_differs (a0 a1 : Int32) {M : am_M} (h : Rel M) : ∃ v M2, f_X7_differs_0 a0 a1 M = some v ∧ f_X8_differs_43 a0 a1 M = some (v, M2) ∧ Rel M2 := by
  sorry
theorem op_sheet (a0 a1 a2 : Int32) {M : am_M} (h : Rel M) : ∃ v M1 M2, f_X7_sheet_0 a0 a1 a2 M = some (v, M1) ∧ f_X8_sheet_43 a0 a1 a2 M1 = some (v, M2) ∧ Rel M2 := by
  sorry
theorem op_lay (a0 a1 a2 : Int32) {M : am_M} (h : Rel M) : ∃ v M1 M2, f_X7_lay_0 a0 a1 a2 M = some (v, M1) ∧ f_X8_lay_43 a0 a1 a2 M1 = some (v, M2) ∧ Rel M2 := by
  sorry
theorem op_read (a0 a1 a2 a3 : Int32) {M : am_M} (h : Rel M) : ∃ v M1 M2, f_X7_read_0 a0 a1 a2 a3 M = some (v, M1) ∧ f_X8_read_43 a0 a1 a2 a3 M1 = some (v, M2) ∧ Rel M2 := by
  sorry
theorem op_count (a0 : Int32) {M : am_M} (h : Rel M) : ∃ v, f_X7_count_0 a0 M = some v ∧ f_X8_count_43 a0 M = some v ∧ Rel M := by
  sorry
