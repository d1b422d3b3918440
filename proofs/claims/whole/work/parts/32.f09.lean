/-! FUNCTIONS, on -/
def f_L_law_1000 (LN : Nat) (xs : Nat → Int32) (a0 : Int32) (M : am_M) : Option (Int32 × am_M) := ((lp (σ := Int32 × am_M) (ρ := (Int32 × am_M) ⊕ (Int32 × am_M)) (fun (s1 : Int32 × am_M) => match s1 with | (x2, M3) => (if ((Int32.ofNat LN) - 5) < x2 then (some (.inr (.inr (x2, M3)))) else (if am_dbin x2 LN = true then (if ((xs x2.toNatClampNeg) &&& 63) = 0 then (if am_dbin (x2 + 1) LN = true then ((f_X7_feed_0 (xs (x2 + 1).toNatClampNeg) M3).bind (fun q7 => (if am_dbin (x2 + 1) LN = true then ((f_X8_feed_43 (xs (x2 + 1).toNatClampNeg) q7.2).bind (fun q9 => (if q7.1 = q9.1 then (some (.inl ((x2 + 5), q9.2))) else (some (.inr (.inl (0, q9.2))))))) else none))) else none) else (if ((xs x2.toNatClampNeg) &&& 63) = 1 then (if am_dbin (x2 + 1) LN = true then ((f_X7_end_0 (xs (x2 + 1).toNatClampNeg) M3).bind (fun q12 => (if am_dbin (x2 + 1) LN = true then ((f_X8_end_43 (xs (x2 + 1).toNatClampNeg) q12.2).bind (fun q14 => (if q12.1 = q14.1 then (some (.inl ((x2 + 5), q14.2))) else (some (.inr (.inl (0, q14.2))))))) else none))) else none) else (if ((xs x2.toNatClampNeg) &&& 63) = 2 then ((f_X7_text_0 M3).bind (fun q16 => ((f_X8_text_43 q16.2).bind (fun q17 => (if q16.1 = q17.1 then (some (.inl ((x2 + 5), q17.2))) else (some (.inr (.inl (0, q17.2))))))))) else (if ((xs x2.toNatClampNeg) &&& 63) = 3 then (if (f_X7_fault_0 M3) = (f_X8_fault_43 M3) then (some (.inl ((x2 + 5), M3))) else (some (.inr (.inl (0, M3))))) else (if ((xs x2.toNatClampNeg) &&& 63) = 4 then (if am_dbin (x2 + 1) LN = true then ((f_X7_rule_0 (xs (x2 + 1).toNatClampNeg) M3).bind (fun v21 => (if am_dbin (x2 + 1) LN = true then ((f_X8_rule_43 (xs (x2 + 1).toNatClampNeg) M3).bind (fun v23 => (if v21 = v23 then (some (.inl ((x2 + 5), M3))) else (some (.inr (.inl (0, M3))))))) else none))) else none) else (if ((xs x2.toNatClampNeg) &&& 63) = 5 then (if am_dbin (x2 + 1) LN = true then (if am_dbin (x2 + 2) LN = true then (if am_dbin (x2 + 3) LN = true then ((f_X7_cell_0 (xs (x2 + 1).toNatClampNeg) (xs (x2 + 2).toNatClampNeg) (xs (x2 + 3).toNatClampNeg) M3).bind (fun v28 => (if am_dbin (x2 + 1) LN = true then (if am_dbin (x2 + 2) LN = true then (if am_dbin (x2 + 3) LN = true then ((f_X8_cell_43 (xs (x2 + 1).toNatClampNeg) (xs (x2 + 2).toNatClampNeg) (xs (x2 + 3).toNatClampNeg) M3).bind (fun v32 => (if v28 = v32 then (some (.inl ((x2 + 5), M3))) else (some (.inr (.inl (0, M3))))))) else none) else none) else none))) else none) else none) else none) else (if ((xs x2.toNatClampNeg) &&& 63) = 6 then (if am_dbin (x2 + 1) LN = true then ((f_X7_column_0 (xs (x2 + 1).toNatClampNeg) M3).bind (fun v35 => (if am_dbin (x2 + 1) LN = true then ((f_X8_column_43 (xs (x2 + 1).toNatClampNeg) M3).bind (fun v37 => (if v35 = v37 then (some (.inl ((x2 + 5), M3))) else (some (.inr (.inl (0, M3))))))) else none))) else none) else (if ((xs x2.toNatClampNeg) &&& 63) = 7 then (if am_dbin (x2 + 1) LN = true then (if am_dbin (x2 + 2) LN = true then ((f_X7_seen_0 (xs (x2 + 1).toNatClampNeg) (xs (x2 + 2).toNatClampNeg) M3).bind (fun v41 => (if am_dbin (x2 + 1) LN = true then (if am_dbin (x2 + 2) LN = true then ((f_X8_seen_43 (xs (x2 + 1).toNatClampNeg) (xs (x2 + 2).toNatClampNeg) M3).bind (fun v44 => (if v41 = v44 then (some (.inl ((x2 + 5), M3))) else (some (.inr (.inl (0, M3))))))) else none) else none))) else none) else none) else (if ((xs x2.toNatClampNeg) &&& 63) = 8 then (if am_dbin (x2 + 1) LN = true then ((f_X7_weak_0 (xs (x2 + 1).toNatClampNeg) M3).bind (fun v47 => (if am_dbin (x2 + 1) LN = true then ((f_X8_weak_43 (xs (x2 + 1).toNatClampNeg) M3).bind (fun v49 => (if v47 = v49 then (some (.inl ((x2 + 5), M3))) else (some (.inr (.inl (0, M3))))))) else none))) else none) else (if ((xs x2.toNatClampNeg) &&& 63) = 9 then (if am_dbin (x2 + 1) LN = true then (if am_dbin (x2 + 2) LN = true then (if am_dbin (x2 + 3) LN = true then ((f_X7_hidden_0 (xs (x2 + 1).toNatClampNeg) (xs (x2 + 2).toNatClampNeg) (xs (x2 + 3).toNatClampNeg) M3).bind (fun v54 => (if am_dbin (x2 + 1) LN = true then (if am_dbin (x2 + 2) LN = true then (if am_dbin (x2 + 3) LN = true then ((f_X8_hidden_43 (xs (x2 + 1).toNatClampNeg) (xs (x2 + 2).toNatClampNeg) (xs (x2 + 3).toNatClampNeg) M3).bind (fun q58 => (if v54 = q58.1 then (some (.inl ((x2 + 5), q58.2))) else (some (.inr (.inl (0, q58.2))))))) else none) else none) else none))) else none) else none) else none) else (if ((xs x2.toNatClampNeg) &&& 63) = 10 then (if am_dbin (x2 + 1) LN = true then ((f_X7_sure_0 (xs (x2 + 1).toNatClampNeg) M3).bind (fun v61 => (if am_dbin (x2 + 1) LN = true then ((f_X8_sure_43 (xs (x2 + 1).toNatClampNeg) M3).bind (fun q63 => (if v61 = q63.1 then (some (.inl ((x2 + 5), q63.2))) else (some (.inr (.inl (0, q63.2))))))) else none))) else none) else (if ((xs x2.toNatClampNeg) &&& 63) = 11 then (if am_dbin (x2 + 1) LN = true then ((f_X7_hides_0 (xs (x2 + 1).toNatClampNeg) M3).bind (fun v66 => (if am_dbin (x2 + 1) LN = true then ((f_X8_hides_43 (xs (x2 + 1).toNatClampNeg) M3).bind (fun v68 => (if v66 = v68 then (some (.inl ((x2 + 5), M3))) else (some (.inr (.inl (0, M3))))))) else none))) else none) else (if ((xs x2.toNatClampNeg) &&& 63) = 12 then ((f_X7_watched_0 M3).bind (fun v70 => ((f_X8_watched_43 M3).bind (fun v71 => (if v70 = v71 then (some (.inl ((x2 + 5), M3))) else (some (.inr (.inl (0, M3))))))))) else (if ((xs x2.toNatClampNeg) &&& 63) = 13 then ((f_X7_best_0 M3).bind (fun v73 => ((f_X8_best_43 M3).bind (fun q74 => (if v73 = q74.1 then (some (.inl ((x2 + 5), q74.2))) else (some (.inr (.inl (0, q74.2))))))))) else (if ((xs x2.toNatClampNeg) &&& 63) = 14 then (if am_dbin (x2 + 1) LN = true then (if am_dbin (x2 + 2) LN = true then (if am_dbin (x2 + 3) LN = true then ((f_X7_set_0 (xs (x2 + 1).toNatClampNeg) (xs (x2 + 2).toNatClampNeg) (xs (x2 + 3).toNatClampNeg) M3).bind (fun q79 => (if am_dbin (x2 + 1) LN = true then (if am_dbin (x2 + 2) LN = true then (if am_dbin (x2 + 3) LN = true then ((f_X8_set_43 (xs (x2 + 1).toNatClampNeg) (xs (x2 + 2).toNatClampNeg) (xs (x2 + 3).toNatClampNeg) q79.2).bind (fun q83 => (if q79.1 = q83.1 then (some (.inl ((x2 + 5), q83.2))) else (some (.inr (.inl (0, q83.2))))))) else none) else none) else none))) else none) else none) else none) else (if ((xs x2.toNatClampNeg) &&& 63) = 15 then (if am_dbin (x2 + 1) LN = true then (if am_dbin (x2 + 2) LN = true then ((f_X7_put_0 (xs (x2 + 1).toNatClampNeg) (xs (x2 + 2).toNatClampNeg) M3).bind (fun q87 => (if am_dbin (x2 + 1) LN = true then (if am_dbin (x2 + 2) LN = true then ((f_X8_put_43 (xs (x2 + 1).toNatClampNeg) (xs (x2 + 2).toNatClampNeg) q87.2).bind (fun q90 => (if q87.1 = q90.1 then (some (.inl ((x2 + 5), q90.2))) else (some (.inr (.inl (0, q90.2))))))) else none) else none))) else none) else none) else (if ((xs x2.toNatClampNeg) &&& 63) = 16 then (if am_dbin (x2 + 1) LN = true then ((f_X7_out_0 (xs (x2 + 1).toNatClampNeg) M3).bind (fun q93 => (if am_dbin (x2 + 1) LN = true then ((f_X8_out_43 (xs (x2 + 1).toNatClampNeg) q93.2).bind (fun q95 => (if q93.1 = q95.1 then (some (.inl ((x2 + 5), q95.2))) else (some (.inr (.inl (0, q95.2))))))) else none))) else none) else (if ((xs x2.toNatClampNeg) &&& 63) = 17 then (if am_dbin (x2 + 1) LN = true then ((f_X7_draw_0 (xs (x2 + 1).toNatClampNeg) M3).bind (fun q98 => (if am_dbin (x2 + 1) LN = true then ((f_X8_draw_43 (xs (x2 + 1).toNatClampNeg) q98.2).bind (fun q100 => (if q98.1 = q100.1 then (some (.inl ((x2 + 5), q100.2))) else (some (.inr (.inl (0, q100.2))))))) else none))) else none) else (if ((xs x2.toNatClampNeg) &&& 63) = 18 then (if am_dbin (x2 + 1) LN = true then (if am_dbin (x2 + 2) LN = true then (if am_dbin (x2 + 3) LN = true then ((f_X7_want_0 (xs (x2 + 1).toNatClampNeg) (xs (x2 + 2).toNatClampNeg) (xs (x2 + 3).toNatClampNeg) M3).bind (fun q105 => (if am_dbin (x2 + 1) LN = true then (if am_dbin (x2 + 2) LN = true then (if am_dbin (x2 + 3) LN = true then ((f_X8_want_43 (xs (x2 + 1).toNatClampNeg) (xs (x2 + 2).toNatClampNeg) (xs (x2 + 3).toNatClampNeg) q105.2).bind (fun q109 => (if q105.1 = q109.1 then (some (.inl ((x2 + 5), q109.2))) else (some (.inr (.inl (0, q109.2))))))) else none) else none) else none))) else none) else none) else none) else (if ((xs x2.toNatClampNeg) &&& 63) = 19 then (if am_dbin (x2 + 1) LN = true then (if am_dbin (x2 + 2) LN = true then (if am_dbin (x2 + 3) LN = true then ((f_X7_brought_0 (xs (x2 + 1).toNatClampNeg) (xs (x2 + 2).toNatClampNeg) (xs (x2 + 3).toNatClampNeg) M3).bind (fun q114 => (if am_dbin (x2 + 1) LN = true then (if am_dbin (x2 + 2) LN = true then (if am_dbin (x2 + 3) LN = true then ((f_X8_brought_43 (xs (x2 + 1).toNatClampNeg) (xs (x2 + 2).toNatClampNeg) (xs (x2 + 3).toNatClampNeg) q114.2).bind (fun v118 => (if q114.1 = v118 then (some (.inl ((x2 + 5), q114.2))) else (some (.inr (.inl (0, q114.2))))))) else none) else none) else none))) else none) else none) else none) else (if ((xs x2.toNatClampNeg) &&& 63) = 20 then (if am_dbin (x2 + 1) LN = true then ((f_X7_seed_0 (xs (x2 + 1).toNatClampNeg) M3).bind (fun q121 => (if am_dbin (x2 + 1) LN = true then ((f_X8_seed_43 (xs (x2 + 1).toNatClampNeg) q121.2).bind (fun v123 => (if q121.1 = v123 then (some (.inl ((x2 + 5), q121.2))) else (some (.inr (.inl (0, q121.2))))))) else none))) else none) else (if ((xs x2.toNatClampNeg) &&& 63) = 21 then ((f_X7_signature_0 M3).bind (fun v125 => ((f_X8_signature_43 M3).bind (fun v126 => (if v125 = v126 then (some (.inl ((x2 + 5), M3))) else (some (.inr (.inl (0, M3))))))))) else (if ((xs x2.toNatClampNeg) &&& 63) = 22 then (if am_dbin (x2 + 1) LN = true then ((f_X7_alias_0 (xs (x2 + 1).toNatClampNeg) M3).bind (fun q129 => (if am_dbin (x2 + 1) LN = true then ((f_X8_alias_43 (xs (x2 + 1).toNatClampNeg) q129.2).bind (fun q131 => (if q129.1 = q131.1 then (some (.inl ((x2 + 5), q131.2))) else (some (.inr (.inl (0, q131.2))))))) else none))) else none) else (if ((xs x2.toNatClampNeg) &&& 63) = 23 then (if am_dbin (x2 + 1) LN = true then ((f_X7_suspects_0 (xs (x2 + 1).toNatClampNeg) M3).bind (fun v134 => (if am_dbin (x2 + 1) LN = true then ((f_X8_suspects_43 (xs (x2 + 1).toNatClampNeg) M3).bind (fun v136 => (if v134 = v136 then (some (.inl ((x2 + 5), M3))) else (some (.inr (.inl (0, M3))))))) else none))) else none) else (if ((xs x2.toNatClampNeg) &&& 63) = 24 then (if am_dbin (x2 + 1) LN = true then (if am_dbin (x2 + 2) LN = true then ((f_X7_dump_0 (xs (x2 + 1).toNatClampNeg) (xs (x2 + 2).toNatClampNeg) M3).bind (fun q140 => (if am_dbin (x2 + 1) LN = true then (if am_dbin (x2 + 2) LN = true then ((f_X8_dump_43 (xs (x2 + 1).toNatClampNeg) (xs (x2 + 2).toNatClampNeg) q140.2).bind (fun q143 => (if q140.1 = q143.1 then (some (.inl ((x2 + 5), q143.2))) else (some (.inr (.inl (0, q143.2))))))) else none) else none))) else none) else none) else (if ((xs x2.toNatClampNeg) &&& 63) = 25 then (if am_dbin (x2 + 1) LN = true then ((f_X7_clear_0 (xs (x2 + 1).toNatClampNeg) M3).bind (fun q146 => (if am_dbin (x2 + 1) LN = true then ((f_X8_clear_43 (xs (x2 + 1).toNatClampNeg) q146.2).bind (fun q148 => (if q146.1 = q148.1 then (some (.inl ((x2 + 5), q148.2))) else (some (.inr (.inl (0, q148.2))))))) else none))) else none) else (if ((xs x2.toNatClampNeg) &&& 63) = 26 then (if am_dbin (x2 + 1) LN = true then ((f_X7_keep_0 (xs (x2 + 1).toNatClampNeg) M3).bind (fun q151 => (if am_dbin (x2 + 1) LN = true then ((f_X8_keep_43 (xs (x2 + 1).toNatClampNeg) q151.2).bind (fun q153 => (if q151.1 = q153.1 then (some (.inl ((x2 + 5), q153.2))) else (some (.inr (.inl (0, q153.2))))))) else none))) else none) else (if ((xs x2.toNatClampNeg) &&& 63) = 27 then (if am_dbin (x2 + 1) LN = true then ((f_X7_back_0 (xs (x2 + 1).toNatClampNeg) M3).bind (fun q156 => (if am_dbin (x2 + 1) LN = true then ((f_X8_back_43 (xs (x2 + 1).toNatClampNeg) q156.2).bind (fun q158 => (if q156.1 = q158.1 then (some (.inl ((x2 + 5), q158.2))) else (some (.inr (.inl (0, q158.2))))))) else none))) else none) else (if ((xs x2.toNatClampNeg) &&& 63) = 28 then (if am_dbin (x2 + 1) LN = true then (if am_dbin (x2 + 2) LN = true then ((f_X7_differs_0 (xs (x2 + 1).toNatClampNeg) (xs (x2 + 2).toNatClampNeg) M3).bind (fun v162 => (if am_dbin (x2 + 1) LN = true then (if am_dbin (x2 + 2) LN = true then ((f_X8_differs_43 (xs (x2 + 1).toNatClampNeg) (xs (x2 + 2).toNatClampNeg) M3).bind (fun q165 => (if v162 = q165.1 then (some (.inl ((x2 + 5), q165.2))) else (some (.inr (.inl (0, q165.2))))))) else none) else none))) else none) else none) else (if ((xs x2.toNatClampNeg) &&& 63) = 29 then (if am_dbin (x2 + 1) LN = true then (if am_dbin (x2 + 2) LN = true then (if am_dbin (x2 + 3) LN = true then ((f_X7_sheet_0 (xs (x2 + 1).toNatClampNeg) (xs (x2 + 2).toNatClampNeg) (xs (x2 + 3).toNatClampNeg) M3).bind (fun q170 => (if am_dbin (x2 + 1) LN = true then (if am_dbin (x2 + 2) LN = true then (if am_dbin (x2 + 3) LN = true then ((f_X8_sheet_43 (xs (x2 + 1).toNatClampNeg) (xs (x2 + 2).toNatClampNeg) (xs (x2 + 3).toNatClampNeg) q170.2).bind (fun q174 => (if q170.1 = q174.1 then (some (.inl ((x2 + 5), q174.2))) else (some (.inr (.inl (0, q174.2))))))) else none) else none) else none))) else none) else none) else none) else (if ((xs x2.toNatClampNeg) &&& 63) = 30 then (if am_dbin (x2 + 1) LN = true then (if am_dbin (x2 + 2) LN = true then (if am_dbin (x2 + 3) LN = true then ((f_X7_lay_0 (xs (x2 + 1).toNatClampNeg) (xs (x2 + 2).toNatClampNeg) (xs (x2 + 3).toNatClampNeg) M3).bind (fun q179 => (if am_dbin (x2 + 1) LN = true then (if am_dbin (x2 + 2) LN = true then (if am_dbin (x2 + 3) LN = true then ((f_X8_lay_43 (xs (x2 + 1).toNatClampNeg) (xs (x2 + 2).toNatClampNeg) (xs (x2 + 3).toNatClampNeg) q179.2).bind (fun q183 => (if q179.1 = q183.1 then (some (.inl ((x2 + 5), q183.2))) else (some (.inr (.inl (0, q183.2))))))) else none) else none) else none))) else none) else none) else none) else (if ((xs x2.toNatClampNeg) &&& 63) = 31 then (if am_dbin (x2 + 1) LN = true then (if am_dbin (x2 + 2) LN = true then (if am_dbin (x2 + 3) LN = true then (if am_dbin (x2 + 4) LN = true then ((f_X7_read_0 (xs (x2 + 1).toNatClampNeg) (xs (x2 + 2).toNatClampNeg) (xs (x2 + 3).toNatClampNeg) (xs (x2 + 4).toNatClampNeg) M3).bind (fun q189 => (if am_dbin (x2 + 1) LN = true then (if am_dbin (x2 + 2) LN = true then (if am_dbin (x2 + 3) LN = true then (if am_dbin (x2 + 4) LN = true then ((f_X8_read_43 (xs (x2 + 1).toNatClampNeg) (xs (x2 + 2).toNatClampNeg) (xs (x2 + 3).toNatClampNeg) (xs (x2 + 4).toNatClampNeg) q189.2).bind (fun q194 => (if q189.1 = q194.1 then (some (.inl ((x2 + 5), q194.2))) else (some (.inr (.inl (0, q194.2))))))) else none) else none) else none) else none))) else none) else none) else none) else none) else (if ((xs x2.toNatClampNeg) &&& 63) = 32 then (if (f_X7_torn_0 M3) = (f_X8_torn_43 M3) then (some (.inl ((x2 + 5), M3))) else (some (.inr (.inl (0, M3))))) else (if ((xs x2.toNatClampNeg) &&& 63) = 33 then (if am_dbin (x2 + 1) LN = true then ((f_X7_count_0 (xs (x2 + 1).toNatClampNeg) M3).bind (fun v198 => (if am_dbin (x2 + 1) LN = true then ((f_X8_count_43 (xs (x2 + 1).toNatClampNeg) M3).bind (fun v200 => (if v198 = v200 then (some (.inl ((x2 + 5), M3))) else (some (.inr (.inl (0, M3))))))) else none))) else none) else (some (.inl ((x2 + 5), M3))))))))))))))))))))))))))))))))))))) else none))) lp_F (a0, M)).bind (fun os202 => Sum.elim (fun u => (some u)) (fun (s202 : Int32 × am_M) => match s202 with | (x203, M204) => (some (1, M204))) os202))
set_option maxRecDepth 20000 in
theorem t_L_law_1000 {LN : Nat} {xs : Nat → Int32} {kc ks : Nat} {a0 : Int32} {M : am_M} {t : Int32 × am_M} (h : f_L_law_1000 LN xs a0 M = some t) : oo LN xs kc ks 0 18 [some (.ref 1000), some (.ref 0), some (.ref 43), some (.int a0)] [] M (some (.int t.1), t.2) := by
  unfold f_L_law_1000 at h
  refine bd_i h (fun Os202 hOs202 h => ?_)
  refine lp_o (fun (s1 : Int32 × am_M) => match s1 with | (x2, M3) => oo LN xs kc ks 0 18 [some (.ref 1000), some (.ref 0), some (.ref 43), some (.int x2)] [] M3 (some (.int t.1), t.2)) (fun oq => Sum.elim (fun u => u = t) (fun (s202 : Int32 × am_M) => match s202 with | (x203, M204) => oo LN xs kc ks 0 1122 [some (.ref 1000), some (.ref 0), some (.ref 43), some (.int x203)] [] M204 (some (.int t.1), t.2)) oq) ?_ hOs202 ?_
  · rintro ⟨x2, M3⟩ ws1 h hK
    dsimp only at h
    show oo LN xs kc ks 0 18 [some (.ref 1000), some (.ref 0), some (.ref 43), some (.int x2)] [] M3 (some (.int t.1), t.2)
    refine o_iload_n k0_18 rfl ?_
    refine o_aload_n k0_19 rfl ?_
    refine o_alen k0_20 rfl rfl ?_
    refine o_iconst (v := 5) k0_21 (by decide) ?_
    refine o_isub k0_22 ?_
    refine o_icmp_gt k0_23 (fun hc4 => ?_) (fun hc4 => ?_)
    · rw [if_pos hc4] at h
      have h9 := Option.some.inj h
      subst h9
      exact hK
    · rw [if_neg hc4] at h
      refine o_aload_n k0_26 rfl ?_
      refine o_iload_n k0_27 rfl ?_
      obtain ⟨hc5, h⟩ := ck_i h
      refine o_iascr k0_28 hc5 ?_
      refine o_bipush (v := 63) k0_29 (by decide) ?_
      refine o_iand k0_31 ?_
      by_cases hx32_0 : ((xs x2.toNatClampNeg) &&& 63) = 0
      · rw [if_pos hx32_0] at h
        refine o_tswI (tgt := 184) (off := 152) k0_32 (by rw [hx32_0]; decide) (by rw [hx32_0]; decide) (by rw [hx32_0]; decide) (by decide) ?_
        refine o_aload_n k0_184 rfl ?_
        refine o_aload_n k0_185 rfl ?_
        refine o_iload_n k0_186 rfl ?_
        refine o_iconst (v := 1) k0_187 (by decide) ?_
        refine o_iadd k0_188 ?_
        obtain ⟨hc6, h⟩ := ck_i h
        refine o_iascr k0_189 hc6 ?_
        refine bd_i h (fun q7 hq7 h => ?_)
        refine o_call k0_190 pj_82 (fun _ => rfl) (by decide) rfl (as := [.ref 0, .int (xs (x2 + 1).toNatClampNeg)]) (rest := []) rfl (L0 := [some (.ref 0), some (.int (xs (x2 + 1).toNatClampNeg))]) rfl (t_X7_feed_0 hq7) ?_
        refine o_aload_n k0_193 rfl ?_
        refine o_aload_n k0_194 rfl ?_
        refine o_iload_n k0_195 rfl ?_
        refine o_iconst (v := 1) k0_196 (by decide) ?_
        refine o_iadd k0_197 ?_
        obtain ⟨hc8, h⟩ := ck_i h
        refine o_iascr k0_198 hc8 ?_
        refine bd_i h (fun q9 hq9 h => ?_)
        refine o_call k0_199 pj_132 (fun _ => rfl) (by decide) rfl (as := [.ref 43, .int (xs (x2 + 1).toNatClampNeg)]) (rest := [.int q7.1]) rfl (L0 := [some (.ref 43), some (.int (xs (x2 + 1).toNatClampNeg))]) rfl (t_X8_feed_43 hq9) ?_
        refine o_icmp_eq k0_202 (fun hc10 => ?_) (fun hc10 => ?_)
        · rw [if_pos hc10] at h
          refine o_iinc (k := 5) (L' := [some (.ref 1000), some (.ref 0), some (.ref 43), some (.int (x2 + 5))]) k0_1116 rfl (by decide) rfl ?_
          refine o_goto k0_1119 ?_
          have h9 := Option.some.inj h
          subst h9
          exact hK
        · rw [if_neg hc10] at h
          refine o_iconst (v := 0) k0_205 (by decide) ?_
          have h9 := Option.some.inj h
          subst h9
          have hK2 : (0, q9.2) = t := hK
          subst hK2
          exact o_iret pj_0 k0_206 rfl (nr_z (by decide))
      rw [if_neg hx32_0] at h
      by_cases hx32_1 : ((xs x2.toNatClampNeg) &&& 63) = 1
      · rw [if_pos hx32_1] at h
        refine o_tswI (tgt := 207) (off := 175) k0_32 (by rw [hx32_1]; decide) (by rw [hx32_1]; decide) (by rw [hx32_1]; decide) (by decide) ?_
        refine o_aload_n k0_207 rfl ?_
        refine o_aload_n k0_208 rfl ?_
        refine o_iload_n k0_209 rfl ?_
        refine o_iconst (v := 1) k0_210 (by decide) ?_
        refine o_iadd k0_211 ?_
        obtain ⟨hc11, h⟩ := ck_i h
        refine o_iascr k0_212 hc11 ?_
        refine bd_i h (fun q12 hq12 h => ?_)
        refine o_call k0_213 pj_83 (fun _ => rfl) (by decide) rfl (as := [.ref 0, .int (xs (x2 + 1).toNatClampNeg)]) (rest := []) rfl (L0 := [some (.ref 0), some (.int (xs (x2 + 1).toNatClampNeg)), none]) rfl (t_X7_end_0 hq12) ?_
        refine o_aload_n k0_216 rfl ?_
        refine o_aload_n k0_217 rfl ?_
        refine o_iload_n k0_218 rfl ?_
        refine o_iconst (v := 1) k0_219 (by decide) ?_
        refine o_iadd k0_220 ?_
        obtain ⟨hc13, h⟩ := ck_i h
        refine o_iascr k0_221 hc13 ?_
        refine bd_i h (fun q14 hq14 h => ?_)
        refine o_call k0_222 pj_133 (fun _ => rfl) (by decide) rfl (as := [.ref 43, .int (xs (x2 + 1).toNatClampNeg)]) (rest := [.int q12.1]) rfl (L0 := [some (.ref 43), some (.int (xs (x2 + 1).toNatClampNeg)), none]) rfl (t_X8_end_43 hq14) ?_
        refine o_icmp_eq k0_225 (fun hc15 => ?_) (fun hc15 => ?_)
        · rw [if_pos hc15] at h
          refine o_iinc (k := 5) (L' := [some (.ref 1000), some (.ref 0), some (.ref 43), some (.int (x2 + 5))]) k0_1116 rfl (by decide) rfl ?_
          refine o_goto k0_1119 ?_
          have h9 := Option.some.inj h
          subst h9
          exact hK
        · rw [if_neg hc15] at h
          refine o_iconst (v := 0) k0_228 (by decide) ?_
          have h9 := Option.some.inj h
          subst h9
          have hK2 : (0, q14.2) = t := hK
          subst hK2
          exact o_iret pj_0 k0_229 rfl (nr_z (by decide))
      rw [if_neg hx32_1] at h
      by_cases hx32_2 : ((xs x2.toNatClampNeg) &&& 63) = 2
      · rw [if_pos hx32_2] at h
        refine o_tswI (tgt := 230) (off := 198) k0_32 (by rw [hx32_2]; decide) (by rw [hx32_2]; decide) (by rw [hx32_2]; decide) (by decide) ?_
        refine o_aload_n k0_230 rfl ?_
        refine bd_i h (fun q16 hq16 h => ?_)
        refine o_call k0_231 pj_84 (fun _ => rfl) (by decide) rfl (as := [.ref 0]) (rest := []) rfl (L0 := [some (.ref 0), none, none]) rfl (t_X7_text_0 hq16) ?_
        refine o_aload_n k0_234 rfl ?_
        refine bd_i h (fun q17 hq17 h => ?_)
        refine o_call k0_235 pj_149 (fun _ => rfl) (by decide) rfl (as := [.ref 43]) (rest := [.int q16.1]) rfl (L0 := [some (.ref 43), none]) rfl (t_X8_text_43 hq17) ?_
        refine o_icmp_eq k0_238 (fun hc18 => ?_) (fun hc18 => ?_)
        · rw [if_pos hc18] at h
          refine o_iinc (k := 5) (L' := [some (.ref 1000), some (.ref 0), some (.ref 43), some (.int (x2 + 5))]) k0_1116 rfl (by decide) rfl ?_
          refine o_goto k0_1119 ?_
          have h9 := Option.some.inj h
          subst h9
          exact hK
        · rw [if_neg hc18] at h
          refine o_iconst (v := 0) k0_241 (by decide) ?_
          have h9 := Option.some.inj h
          subst h9
          have hK2 : (0, q17.2) = t := hK
          subst hK2
          exact o_iret pj_0 k0_242 rfl (nr_z (by decide))
      rw [if_neg hx32_2] at h
      by_cases hx32_3 : ((xs x2.toNatClampNeg) &&& 63) = 3
      · rw [if_pos hx32_3] at h
        refine o_tswI (tgt := 243) (off := 211) k0_32 (by rw [hx32_3]; decide) (by rw [hx32_3]; decide) (by rw [hx32_3]; decide) (by decide) ?_
        refine o_aload_n k0_243 rfl ?_
        refine o_call k0_244 pj_85 (fun _ => rfl) (by decide) rfl (as := [.ref 0]) (rest := []) rfl (L0 := [some (.ref 0)]) rfl (t_X7_fault_0 (M := M3) rfl) ?_
        refine o_aload_n k0_247 rfl ?_
        refine o_call k0_248 pj_150 (fun _ => rfl) (by decide) rfl (as := [.ref 43]) (rest := [.int (f_X7_fault_0 M3)]) rfl (L0 := [some (.ref 43)]) rfl (t_X8_fault_43 (M := M3) rfl) ?_
        refine o_icmp_eq k0_251 (fun hc19 => ?_) (fun hc19 => ?_)
        · rw [if_pos hc19] at h
          refine o_iinc (k := 5) (L' := [some (.ref 1000), some (.ref 0), some (.ref 43), some (.int (x2 + 5))]) k0_1116 rfl (by decide) rfl ?_
          refine o_goto k0_1119 ?_
          have h9 := Option.some.inj h
          subst h9
          exact hK
        · rw [if_neg hc19] at h
          refine o_iconst (v := 0) k0_254 (by decide) ?_
          have h9 := Option.some.inj h
          subst h9
          have hK2 : (0, M3) = t := hK
          subst hK2
          exact o_iret pj_0 k0_255 rfl (nr_z (by decide))
      rw [if_neg hx32_3] at h
      by_cases hx32_4 : ((xs x2.toNatClampNeg) &&& 63) = 4
      · rw [if_pos hx32_4] at h
        refine o_tswI (tgt := 256) (off := 224) k0_32 (by rw [hx32_4]; decide) (by rw [hx32_4]; decide) (by rw [hx32_4]; decide) (by decide) ?_
        refine o_aload_n k0_256 rfl ?_
        refine o_aload_n k0_257 rfl ?_
        refine o_iload_n k0_258 rfl ?_
        refine o_iconst (v := 1) k0_259 (by decide) ?_
        refine o_iadd k0_260 ?_
        obtain ⟨hc20, h⟩ := ck_i h
        refine o_iascr k0_261 hc20 ?_
        refine bd_i h (fun v21 hv21 h => ?_)
        refine o_call k0_262 pj_86 (fun _ => rfl) (by decide) rfl (as := [.ref 0, .int (xs (x2 + 1).toNatClampNeg)]) (rest := []) rfl (L0 := [some (.ref 0), some (.int (xs (x2 + 1).toNatClampNeg))]) rfl (t_X7_rule_0 hv21) ?_
        refine o_aload_n k0_265 rfl ?_
        refine o_aload_n k0_266 rfl ?_
        refine o_iload_n k0_267 rfl ?_
        refine o_iconst (v := 1) k0_268 (by decide) ?_
        refine o_iadd k0_269 ?_
        obtain ⟨hc22, h⟩ := ck_i h
        refine o_iascr k0_270 hc22 ?_
        refine bd_i h (fun v23 hv23 h => ?_)
        refine o_call k0_271 pj_158 (fun _ => rfl) (by decide) rfl (as := [.ref 43, .int (xs (x2 + 1).toNatClampNeg)]) (rest := [.int v21]) rfl (L0 := [some (.ref 43), some (.int (xs (x2 + 1).toNatClampNeg))]) rfl (t_X8_rule_43 hv23) ?_
        refine o_icmp_eq k0_274 (fun hc24 => ?_) (fun hc24 => ?_)
        · rw [if_pos hc24] at h
          refine o_iinc (k := 5) (L' := [some (.ref 1000), some (.ref 0), some (.ref 43), some (.int (x2 + 5))]) k0_1116 rfl (by decide) rfl ?_
          refine o_goto k0_1119 ?_
          have h9 := Option.some.inj h
          subst h9
          exact hK
        · rw [if_neg hc24] at h
          refine o_iconst (v := 0) k0_277 (by decide) ?_
          have h9 := Option.some.inj h
          subst h9
          have hK2 : (0, M3) = t := hK
          subst hK2
          exact o_iret pj_0 k0_278 rfl (nr_z (by decide))
      rw [if_neg hx32_4] at h
      by_cases hx32_5 : ((xs x2.toNatClampNeg) &&& 63) = 5
      · rw [if_pos hx32_5] at h
        refine o_tswI (tgt := 279) (off := 247) k0_32 (by rw [hx32_5]; decide) (by rw [hx32_5]; decide) (by rw [hx32_5]; decide) (by decide) ?_
        refine o_aload_n k0_279 rfl ?_
        refine o_aload_n k0_280 rfl ?_
        refine o_iload_n k0_281 rfl ?_
        refine o_iconst (v := 1) k0_282 (by decide) ?_
        refine o_iadd k0_283 ?_
        obtain ⟨hc25, h⟩ := ck_i h
        refine o_iascr k0_284 hc25 ?_
        refine o_aload_n k0_285 rfl ?_
        refine o_iload_n k0_286 rfl ?_
        refine o_iconst (v := 2) k0_287 (by decide) ?_
        refine o_iadd k0_288 ?_
        obtain ⟨hc26, h⟩ := ck_i h
        refine o_iascr k0_289 hc26 ?_
        refine o_aload_n k0_290 rfl ?_
        refine o_iload_n k0_291 rfl ?_
        refine o_iconst (v := 3) k0_292 (by decide) ?_
        refine o_iadd k0_293 ?_
        obtain ⟨hc27, h⟩ := ck_i h
        refine o_iascr k0_294 hc27 ?_
        refine bd_i h (fun v28 hv28 h => ?_)
        refine o_call k0_295 pj_87 (fun _ => rfl) (by decide) rfl (as := [.ref 0, .int (xs (x2 + 1).toNatClampNeg), .int (xs (x2 + 2).toNatClampNeg), .int (xs (x2 + 3).toNatClampNeg)]) (rest := []) rfl (L0 := [some (.ref 0), some (.int (xs (x2 + 1).toNatClampNeg)), some (.int (xs (x2 + 2).toNatClampNeg)), some (.int (xs (x2 + 3).toNatClampNeg))]) rfl (t_X7_cell_0 hv28) ?_
        refine o_aload_n k0_298 rfl ?_
        refine o_aload_n k0_299 rfl ?_
        refine o_iload_n k0_300 rfl ?_
        refine o_iconst (v := 1) k0_301 (by decide) ?_
        refine o_iadd k0_302 ?_
        obtain ⟨hc29, h⟩ := ck_i h
        refine o_iascr k0_303 hc29 ?_
        refine o_aload_n k0_304 rfl ?_
        refine o_iload_n k0_305 rfl ?_
        refine o_iconst (v := 2) k0_306 (by decide) ?_
        refine o_iadd k0_307 ?_
        obtain ⟨hc30, h⟩ := ck_i h
        refine o_iascr k0_308 hc30 ?_
        refine o_aload_n k0_309 rfl ?_
        refine o_iload_n k0_310 rfl ?_
        refine o_iconst (v := 3) k0_311 (by decide) ?_
        refine o_iadd k0_312 ?_
        obtain ⟨hc31, h⟩ := ck_i h
        refine o_iascr k0_313 hc31 ?_
        refine bd_i h (fun v32 hv32 h => ?_)
        refine o_call k0_314 pj_159 (fun _ => rfl) (by decide) rfl (as := [.ref 43, .int (xs (x2 + 1).toNatClampNeg), .int (xs (x2 + 2).toNatClampNeg), .int (xs (x2 + 3).toNatClampNeg)]) (rest := [.int v28]) rfl (L0 := [some (.ref 43), some (.int (xs (x2 + 1).toNatClampNeg)), some (.int (xs (x2 + 2).toNatClampNeg)), some (.int (xs (x2 + 3).toNatClampNeg))]) rfl (t_X8_cell_43 hv32) ?_
        refine o_icmp_eq k0_317 (fun hc33 => ?_) (fun hc33 => ?_)
        · rw [if_pos hc33] at h
          refine o_iinc (k := 5) (L' := [some (.ref 1000), some (.ref 0), some (.ref 43), some (.int (x2 + 5))]) k0_1116 rfl (by decide) rfl ?_
          refine o_goto k0_1119 ?_
          have h9 := Option.some.inj h
          subst h9
          exact hK
        · rw [if_neg hc33] at h
          refine o_iconst (v := 0) k0_320 (by decide) ?_
          have h9 := Option.some.inj h
          subst h9
          have hK2 : (0, M3) = t := hK
          subst hK2
          exact o_iret pj_0 k0_321 rfl (nr_z (by decide))
      rw [if_neg hx32_5] at h
      by_cases hx32_6 : ((xs x2.toNatClampNeg) &&& 63) = 6
      · rw [if_pos hx32_6] at h
        refine o_tswI (tgt := 322) (off := 290) k0_32 (by rw [hx32_6]; decide) (by rw [hx32_6]; decide) (by rw [hx32_6]; decide) (by decide) ?_
        refine o_aload_n k0_322 rfl ?_
        refine o_aload_n k0_323 rfl ?_
        refine o_iload_n k0_324 rfl ?_
        refine o_iconst (v := 1) k0_325 (by decide) ?_
        refine o_iadd k0_326 ?_
        obtain ⟨hc34, h⟩ := ck_i h
        refine o_iascr k0_327 hc34 ?_
        refine bd_i h (fun v35 hv35 h => ?_)
        refine o_call k0_328 pj_88 (fun _ => rfl) (by decide) rfl (as := [.ref 0, .int (xs (x2 + 1).toNatClampNeg)]) (rest := []) rfl (L0 := [some (.ref 0), some (.int (xs (x2 + 1).toNatClampNeg))]) rfl (t_X7_column_0 hv35) ?_
        refine o_aload_n k0_331 rfl ?_
        refine o_aload_n k0_332 rfl ?_
        refine o_iload_n k0_333 rfl ?_
        refine o_iconst (v := 1) k0_334 (by decide) ?_
        refine o_iadd k0_335 ?_
        obtain ⟨hc36, h⟩ := ck_i h
        refine o_iascr k0_336 hc36 ?_
        refine bd_i h (fun v37 hv37 h => ?_)
        refine o_call k0_337 pj_160 (fun _ => rfl) (by decide) rfl (as := [.ref 43, .int (xs (x2 + 1).toNatClampNeg)]) (rest := [.int v35]) rfl (L0 := [some (.ref 43), some (.int (xs (x2 + 1).toNatClampNeg))]) rfl (t_X8_column_43 hv37) ?_
        refine o_icmp_eq k0_340 (fun hc38 => ?_) (fun hc38 => ?_)
        · rw [if_pos hc38] at h
          refine o_iinc (k := 5) (L' := [some (.ref 1000), some (.ref 0), some (.ref 43), some (.int (x2 + 5))]) k0_1116 rfl (by decide) rfl ?_
          refine o_goto k0_1119 ?_
          have h9 := Option.some.inj h
          subst h9
          exact hK
        · rw [if_neg hc38] at h
          refine o_iconst (v := 0) k0_343 (by decide) ?_
          have h9 := Option.some.inj h
          subst h9
          have hK2 : (0, M3) = t := hK
          subst hK2
          exact o_iret pj_0 k0_344 rfl (nr_z (by decide))
      rw [if_neg hx32_6] at h
      by_cases hx32_7 : ((xs x2.toNatClampNeg) &&& 63) = 7
      · rw [if_pos hx32_7] at h
        refine o_tswI (tgt := 345) (off := 313) k0_32 (by rw [hx32_7]; decide) (by rw [hx32_7]; decide) (by rw [hx32_7]; decide) (by decide) ?_
        refine o_aload_n k0_345 rfl ?_
        refine o_aload_n k0_346 rfl ?_
        refine o_iload_n k0_347 rfl ?_
        refine o_iconst (v := 1) k0_348 (by decide) ?_
        refine o_iadd k0_349 ?_
        obtain ⟨hc39, h⟩ := ck_i h
        refine o_iascr k0_350 hc39 ?_
        refine o_aload_n k0_351 rfl ?_
        refine o_iload_n k0_352 rfl ?_
        refine o_iconst (v := 2) k0_353 (by decide) ?_
        refine o_iadd k0_354 ?_
        obtain ⟨hc40, h⟩ := ck_i h
        refine o_iascr k0_355 hc40 ?_
        refine bd_i h (fun v41 hv41 h => ?_)
        refine o_call k0_356 pj_89 (fun _ => rfl) (by decide) rfl (as := [.ref 0, .int (xs (x2 + 1).toNatClampNeg), .int (xs (x2 + 2).toNatClampNeg)]) (rest := []) rfl (L0 := [some (.ref 0), some (.int (xs (x2 + 1).toNatClampNeg)), some (.int (xs (x2 + 2).toNatClampNeg))]) rfl (t_X7_seen_0 hv41) ?_
        refine o_aload_n k0_359 rfl ?_
        refine o_aload_n k0_360 rfl ?_
        refine o_iload_n k0_361 rfl ?_
        refine o_iconst (v := 1) k0_362 (by decide) ?_
        refine o_iadd k0_363 ?_
        obtain ⟨hc42, h⟩ := ck_i h
        refine o_iascr k0_364 hc42 ?_
        refine o_aload_n k0_365 rfl ?_
        refine o_iload_n k0_366 rfl ?_
        refine o_iconst (v := 2) k0_367 (by decide) ?_
        refine o_iadd k0_368 ?_
        obtain ⟨hc43, h⟩ := ck_i h
        refine o_iascr k0_369 hc43 ?_
        refine bd_i h (fun v44 hv44 h => ?_)
        refine o_call k0_370 pj_161 (fun _ => rfl) (by decide) rfl (as := [.ref 43, .int (xs (x2 + 1).toNatClampNeg), .int (xs (x2 + 2).toNatClampNeg)]) (rest := [.int v41]) rfl (L0 := [some (.ref 43), some (.int (xs (x2 + 1).toNatClampNeg)), some (.int (xs (x2 + 2).toNatClampNeg))]) rfl (t_X8_seen_43 hv44) ?_
        refine o_icmp_eq k0_373 (fun hc45 => ?_) (fun hc45 => ?_)
        · rw [if_pos hc45] at h
          refine o_iinc (k := 5) (L' := [some (.ref 1000), some (.ref 0), some (.ref 43), some (.int (x2 + 5))]) k0_1116 rfl (by decide) rfl ?_
          refine o_goto k0_1119 ?_
          have h9 := Option.some.inj h
          subst h9
          exact hK
        · rw [if_neg hc45] at h
          refine o_iconst (v := 0) k0_376 (by decide) ?_
          have h9 := Option.some.inj h
          subst h9
          have hK2 : (0, M3) = t := hK
          subst hK2
          exact o_iret pj_0 k0_377 rfl (nr_z (by decide))
      rw [if_neg hx32_7] at h
      by_cases hx32_8 : ((xs x2.toNatClampNeg) &&& 63) = 8
      · rw [if_pos hx32_8] at h
        refine o_tswI (tgt := 378) (off := 346) k0_32 (by rw [hx32_8]; decide) (by rw [hx32_8]; decide) (by rw [hx32_8]; decide) (by decide) ?_
        refine o_aload_n k0_378 rfl ?_
        refine o_aload_n k0_379 rfl ?_
        refine o_iload_n k0_380 rfl ?_
        refine o_iconst (v := 1) k0_381 (by decide) ?_
        refine o_iadd k0_382 ?_
        obtain ⟨hc46, h⟩ := ck_i h
        refine o_iascr k0_383 hc46 ?_
        refine bd_i h (fun v47 hv47 h => ?_)
        refine o_call k0_384 pj_90 (fun _ => rfl) (by decide) rfl (as := [.ref 0, .int (xs (x2 + 1).toNatClampNeg)]) (rest := []) rfl (L0 := [some (.ref 0), some (.int (xs (x2 + 1).toNatClampNeg)), none, none]) rfl (t_X7_weak_0 hv47) ?_
        refine o_aload_n k0_387 rfl ?_
        refine o_aload_n k0_388 rfl ?_
        refine o_iload_n k0_389 rfl ?_
        refine o_iconst (v := 1) k0_390 (by decide) ?_
        refine o_iadd k0_391 ?_
        obtain ⟨hc48, h⟩ := ck_i h
        refine o_iascr k0_392 hc48 ?_
        refine bd_i h (fun v49 hv49 h => ?_)
        refine o_call k0_393 pj_163 (fun _ => rfl) (by decide) rfl (as := [.ref 43, .int (xs (x2 + 1).toNatClampNeg)]) (rest := [.int v47]) rfl (L0 := [some (.ref 43), some (.int (xs (x2 + 1).toNatClampNeg)), none, none]) rfl (t_X8_weak_43 hv49) ?_
        refine o_icmp_eq k0_396 (fun hc50 => ?_) (fun hc50 => ?_)
        · rw [if_pos hc50] at h
          refine o_iinc (k := 5) (L' := [some (.ref 1000), some (.ref 0), some (.ref 43), some (.int (x2 + 5))]) k0_1116 rfl (by decide) rfl ?_
          refine o_goto k0_1119 ?_
          have h9 := Option.some.inj h
          subst h9
          exact hK
        · rw [if_neg hc50] at h
          refine o_iconst (v := 0) k0_399 (by decide) ?_
          have h9 := Option.some.inj h
          subst h9
          have hK2 : (0, M3) = t := hK
          subst hK2
          exact o_iret pj_0 k0_400 rfl (nr_z (by decide))
      rw [if_neg hx32_8] at h
      by_cases hx32_9 : ((xs x2.toNatClampNeg) &&& 63) = 9
      · rw [if_pos hx32_9] at h
        refine o_tswI (tgt := 401) (off := 369) k0_32 (by rw [hx32_9]; decide) (by rw [hx32_9]; decide) (by rw [hx32_9]; decide) (by decide) ?_
        refine o_aload_n k0_401 rfl ?_
        refine o_aload_n k0_402 rfl ?_
        refine o_iload_n k0_403 rfl ?_
        refine o_iconst (v := 1) k0_404 (by decide) ?_
        refine o_iadd k0_405 ?_
        obtain ⟨hc51, h⟩ := ck_i h
        refine o_iascr k0_406 hc51 ?_
        refine o_aload_n k0_407 rfl ?_
        refine o_iload_n k0_408 rfl ?_
        refine o_iconst (v := 2) k0_409 (by decide) ?_
        refine o_iadd k0_410 ?_
        obtain ⟨hc52, h⟩ := ck_i h
        refine o_iascr k0_411 hc52 ?_
        refine o_aload_n k0_412 rfl ?_
        refine o_iload_n k0_413 rfl ?_
        refine o_iconst (v := 3) k0_414 (by decide) ?_
        refine o_iadd k0_415 ?_
        obtain ⟨hc53, h⟩ := ck_i h
        refine o_iascr k0_416 hc53 ?_
        refine bd_i h (fun v54 hv54 h => ?_)
        refine o_call k0_417 pj_91 (fun _ => rfl) (by decide) rfl (as := [.ref 0, .int (xs (x2 + 1).toNatClampNeg), .int (xs (x2 + 2).toNatClampNeg), .int (xs (x2 + 3).toNatClampNeg)]) (rest := []) rfl (L0 := [some (.ref 0), some (.int (xs (x2 + 1).toNatClampNeg)), some (.int (xs (x2 + 2).toNatClampNeg)), some (.int (xs (x2 + 3).toNatClampNeg))]) rfl (t_X7_hidden_0 hv54) ?_
        refine o_aload_n k0_420 rfl ?_
        refine o_aload_n k0_421 rfl ?_
        refine o_iload_n k0_422 rfl ?_
        refine o_iconst (v := 1) k0_423 (by decide) ?_
        refine o_iadd k0_424 ?_
        obtain ⟨hc55, h⟩ := ck_i h
        refine o_iascr k0_425 hc55 ?_
        refine o_aload_n k0_426 rfl ?_
        refine o_iload_n k0_427 rfl ?_
        refine o_iconst (v := 2) k0_428 (by decide) ?_
        refine o_iadd k0_429 ?_
        obtain ⟨hc56, h⟩ := ck_i h
        refine o_iascr k0_430 hc56 ?_
        refine o_aload_n k0_431 rfl ?_
        refine o_iload_n k0_432 rfl ?_
        refine o_iconst (v := 3) k0_433 (by decide) ?_
        refine o_iadd k0_434 ?_
        obtain ⟨hc57, h⟩ := ck_i h
        refine o_iascr k0_435 hc57 ?_
        refine bd_i h (fun q58 hq58 h => ?_)
        refine o_call k0_436 pj_169 (fun _ => rfl) (by decide) rfl (as := [.ref 43, .int (xs (x2 + 1).toNatClampNeg), .int (xs (x2 + 2).toNatClampNeg), .int (xs (x2 + 3).toNatClampNeg)]) (rest := [.int v54]) rfl (L0 := [some (.ref 43), some (.int (xs (x2 + 1).toNatClampNeg)), some (.int (xs (x2 + 2).toNatClampNeg)), some (.int (xs (x2 + 3).toNatClampNeg))]) rfl (t_X8_hidden_43 hq58) ?_
        refine o_icmp_eq k0_439 (fun hc59 => ?_) (fun hc59 => ?_)
        · rw [if_pos hc59] at h
          refine o_iinc (k := 5) (L' := [some (.ref 1000), some (.ref 0), some (.ref 43), some (.int (x2 + 5))]) k0_1116 rfl (by decide) rfl ?_
          refine o_goto k0_1119 ?_
          have h9 := Option.some.inj h
          subst h9
          exact hK
        · rw [if_neg hc59] at h
          refine o_iconst (v := 0) k0_442 (by decide) ?_
          have h9 := Option.some.inj h
          subst h9
          have hK2 : (0, q58.2) = t := hK
          subst hK2
          exact o_iret pj_0 k0_443 rfl (nr_z (by decide))
      rw [if_neg hx32_9] at h
      by_cases hx32_10 : ((xs x2.toNatClampNeg) &&& 63) = 10
      · rw [if_pos hx32_10] at h
        refine o_tswI (tgt := 444) (off := 412) k0_32 (by rw [hx32_10]; decide) (by rw [hx32_10]; decide) (by rw [hx32_10]; decide) (by decide) ?_
        refine o_aload_n k0_444 rfl ?_
        refine o_aload_n k0_445 rfl ?_
        refine o_iload_n k0_446 rfl ?_
        refine o_iconst (v := 1) k0_447 (by decide) ?_
        refine o_iadd k0_448 ?_
        obtain ⟨hc60, h⟩ := ck_i h
        refine o_iascr k0_449 hc60 ?_
        refine bd_i h (fun v61 hv61 h => ?_)
        refine o_call k0_450 pj_92 (fun _ => rfl) (by decide) rfl (as := [.ref 0, .int (xs (x2 + 1).toNatClampNeg)]) (rest := []) rfl (L0 := [some (.ref 0), some (.int (xs (x2 + 1).toNatClampNeg)), none]) rfl (t_X7_sure_0 hv61) ?_
        refine o_aload_n k0_453 rfl ?_
        refine o_aload_n k0_454 rfl ?_
        refine o_iload_n k0_455 rfl ?_
        refine o_iconst (v := 1) k0_456 (by decide) ?_
        refine o_iadd k0_457 ?_
        obtain ⟨hc62, h⟩ := ck_i h
        refine o_iascr k0_458 hc62 ?_
        refine bd_i h (fun q63 hq63 h => ?_)
        refine o_call k0_459 pj_170 (fun _ => rfl) (by decide) rfl (as := [.ref 43, .int (xs (x2 + 1).toNatClampNeg)]) (rest := [.int v61]) rfl (L0 := [some (.ref 43), some (.int (xs (x2 + 1).toNatClampNeg)), none]) rfl (t_X8_sure_43 hq63) ?_
        refine o_icmp_eq k0_462 (fun hc64 => ?_) (fun hc64 => ?_)
        · rw [if_pos hc64] at h
          refine o_iinc (k := 5) (L' := [some (.ref 1000), some (.ref 0), some (.ref 43), some (.int (x2 + 5))]) k0_1116 rfl (by decide) rfl ?_
          refine o_goto k0_1119 ?_
          have h9 := Option.some.inj h
          subst h9
          exact hK
        · rw [if_neg hc64] at h
          refine o_iconst (v := 0) k0_465 (by decide) ?_
          have h9 := Option.some.inj h
          subst h9
          have hK2 : (0, q63.2) = t := hK
          subst hK2
          exact o_iret pj_0 k0_466 rfl (nr_z (by decide))
      rw [if_neg hx32_10] at h
      by_cases hx32_11 : ((xs x2.toNatClampNeg) &&& 63) = 11
      · rw [if_pos hx32_11] at h
        refine o_tswI (tgt := 467) (off := 435) k0_32 (by rw [hx32_11]; decide) (by rw [hx32_11]; decide) (by rw [hx32_11]; decide) (by decide) ?_
        refine o_aload_n k0_467 rfl ?_
        refine o_aload_n k0_468 rfl ?_
        refine o_iload_n k0_469 rfl ?_
        refine o_iconst (v := 1) k0_470 (by decide) ?_
        refine o_iadd k0_471 ?_
        obtain ⟨hc65, h⟩ := ck_i h
        refine o_iascr k0_472 hc65 ?_
        refine bd_i h (fun v66 hv66 h => ?_)
        refine o_call k0_473 pj_93 (fun _ => rfl) (by decide) rfl (as := [.ref 0, .int (xs (x2 + 1).toNatClampNeg)]) (rest := []) rfl (L0 := [some (.ref 0), some (.int (xs (x2 + 1).toNatClampNeg)), none, none, none, none]) rfl (t_X7_hides_0 hv66) ?_
        refine o_aload_n k0_476 rfl ?_
        refine o_aload_n k0_477 rfl ?_
        refine o_iload_n k0_478 rfl ?_
        refine o_iconst (v := 1) k0_479 (by decide) ?_
        refine o_iadd k0_480 ?_
        obtain ⟨hc67, h⟩ := ck_i h
        refine o_iascr k0_481 hc67 ?_
        refine bd_i h (fun v68 hv68 h => ?_)
        refine o_call k0_482 pj_171 (fun _ => rfl) (by decide) rfl (as := [.ref 43, .int (xs (x2 + 1).toNatClampNeg)]) (rest := [.int v66]) rfl (L0 := [some (.ref 43), some (.int (xs (x2 + 1).toNatClampNeg)), none, none]) rfl (t_X8_hides_43 hv68) ?_
        refine o_icmp_eq k0_485 (fun hc69 => ?_) (fun hc69 => ?_)
        · rw [if_pos hc69] at h
          refine o_iinc (k := 5) (L' := [some (.ref 1000), some (.ref 0), some (.ref 43), some (.int (x2 + 5))]) k0_1116 rfl (by decide) rfl ?_
          refine o_goto k0_1119 ?_
          have h9 := Option.some.inj h
          subst h9
          exact hK
        · rw [if_neg hc69] at h
          refine o_iconst (v := 0) k0_488 (by decide) ?_
          have h9 := Option.some.inj h
          subst h9
          have hK2 : (0, M3) = t := hK
          subst hK2
          exact o_iret pj_0 k0_489 rfl (nr_z (by decide))
      rw [if_neg hx32_11] at h
      by_cases hx32_12 : ((xs x2.toNatClampNeg) &&& 63) = 12
      · rw [if_pos hx32_12] at h
        refine o_tswI (tgt := 490) (off := 458) k0_32 (by rw [hx32_12]; decide) (by rw [hx32_12]; decide) (by rw [hx32_12]; decide) (by decide) ?_
        refine o_aload_n k0_490 rfl ?_
        refine bd_i h (fun v70 hv70 h => ?_)
        refine o_call k0_491 pj_94 (fun _ => rfl) (by decide) rfl (as := [.ref 0]) (rest := []) rfl (L0 := [some (.ref 0)]) rfl (t_X7_watched_0 hv70) ?_
        refine o_aload_n k0_494 rfl ?_
        refine bd_i h (fun v71 hv71 h => ?_)
        refine o_call k0_495 pj_172 (fun _ => rfl) (by decide) rfl (as := [.ref 43]) (rest := [.int v70]) rfl (L0 := [some (.ref 43), none, none, none]) rfl (t_X8_watched_43 hv71) ?_
        refine o_icmp_eq k0_498 (fun hc72 => ?_) (fun hc72 => ?_)
        · rw [if_pos hc72] at h
          refine o_iinc (k := 5) (L' := [some (.ref 1000), some (.ref 0), some (.ref 43), some (.int (x2 + 5))]) k0_1116 rfl (by decide) rfl ?_
          refine o_goto k0_1119 ?_
          have h9 := Option.some.inj h
          subst h9
          exact hK
        · rw [if_neg hc72] at h
          refine o_iconst (v := 0) k0_501 (by decide) ?_
          have h9 := Option.some.inj h
          subst h9
          have hK2 : (0, M3) = t := hK
          subst hK2
          exact o_iret pj_0 k0_502 rfl (nr_z (by decide))
      rw [if_neg hx32_12] at h
      by_cases hx32_13 : ((xs x2.toNatClampNeg) &&& 63) = 13
      · rw [if_pos hx32_13] at h
        refine o_tswI (tgt := 503) (off := 471) k0_32 (by rw [hx32_13]; decide) (by rw [hx32_13]; decide) (by rw [hx32_13]; decide) (by decide) ?_
        refine o_aload_n k0_503 rfl ?_
        refine bd_i h (fun v73 hv73 h => ?_)
        refine o_call k0_504 pj_95 (fun _ => rfl) (by decide) rfl (as := [.ref 0]) (rest := []) rfl (L0 := [some (.ref 0), none, none, none, none, none]) rfl (t_X7_best_0 hv73) ?_
        refine o_aload_n k0_507 rfl ?_
        refine bd_i h (fun q74 hq74 h => ?_)
        refine o_call k0_508 pj_173 (fun _ => rfl) (by decide) rfl (as := [.ref 43]) (rest := [.int v73]) rfl (L0 := [some (.ref 43), none, none, none, none, none]) rfl (t_X8_best_43 hq74) ?_
        refine o_icmp_eq k0_511 (fun hc75 => ?_) (fun hc75 => ?_)
        · rw [if_pos hc75] at h
          refine o_iinc (k := 5) (L' := [some (.ref 1000), some (.ref 0), some (.ref 43), some (.int (x2 + 5))]) k0_1116 rfl (by decide) rfl ?_
          refine o_goto k0_1119 ?_
          have h9 := Option.some.inj h
          subst h9
          exact hK
        · rw [if_neg hc75] at h
          refine o_iconst (v := 0) k0_514 (by decide) ?_
          have h9 := Option.some.inj h
          subst h9
          have hK2 : (0, q74.2) = t := hK
          subst hK2
          exact o_iret pj_0 k0_515 rfl (nr_z (by decide))
      rw [if_neg hx32_13] at h
      by_cases hx32_14 : ((xs x2.toNatClampNeg) &&& 63) = 14
      · rw [if_pos hx32_14] at h
        refine o_tswI (tgt := 516) (off := 484) k0_32 (by rw [hx32_14]; decide) (by rw [hx32_14]; decide) (by rw [hx32_14]; decide) (by decide) ?_
        refine o_aload_n k0_516 rfl ?_
        refine o_aload_n k0_517 rfl ?_
        refine o_iload_n k0_518 rfl ?_
        refine o_iconst (v := 1) k0_519 (by decide) ?_
        refine o_iadd k0_520 ?_
        obtain ⟨hc76, h⟩ := ck_i h
        refine o_iascr k0_521 hc76 ?_
        refine o_aload_n k0_522 rfl ?_
        refine o_iload_n k0_523 rfl ?_
        refine o_iconst (v := 2) k0_524 (by decide) ?_
        refine o_iadd k0_525 ?_
        obtain ⟨hc77, h⟩ := ck_i h
        refine o_iascr k0_526 hc77 ?_
        refine o_aload_n k0_527 rfl ?_
        refine o_iload_n k0_528 rfl ?_
        refine o_iconst (v := 3) k0_529 (by decide) ?_
        refine o_iadd k0_530 ?_
        obtain ⟨hc78, h⟩ := ck_i h
        refine o_iascr k0_531 hc78 ?_
        refine bd_i h (fun q79 hq79 h => ?_)
        refine o_call k0_532 pj_97 (fun _ => rfl) (by decide) rfl (as := [.ref 0, .int (xs (x2 + 1).toNatClampNeg), .int (xs (x2 + 2).toNatClampNeg), .int (xs (x2 + 3).toNatClampNeg)]) (rest := []) rfl (L0 := [some (.ref 0), some (.int (xs (x2 + 1).toNatClampNeg)), some (.int (xs (x2 + 2).toNatClampNeg)), some (.int (xs (x2 + 3).toNatClampNeg))]) rfl (t_X7_set_0 hq79) ?_
        refine o_aload_n k0_535 rfl ?_
        refine o_aload_n k0_536 rfl ?_
        refine o_iload_n k0_537 rfl ?_
        refine o_iconst (v := 1) k0_538 (by decide) ?_
        refine o_iadd k0_539 ?_
        obtain ⟨hc80, h⟩ := ck_i h
        refine o_iascr k0_540 hc80 ?_
        refine o_aload_n k0_541 rfl ?_
        refine o_iload_n k0_542 rfl ?_
        refine o_iconst (v := 2) k0_543 (by decide) ?_
        refine o_iadd k0_544 ?_
        obtain ⟨hc81, h⟩ := ck_i h
        refine o_iascr k0_545 hc81 ?_
        refine o_aload_n k0_546 rfl ?_
        refine o_iload_n k0_547 rfl ?_
        refine o_iconst (v := 3) k0_548 (by decide) ?_
        refine o_iadd k0_549 ?_
        obtain ⟨hc82, h⟩ := ck_i h
        refine o_iascr k0_550 hc82 ?_
        refine bd_i h (fun q83 hq83 h => ?_)
        refine o_call k0_551 pj_175 (fun _ => rfl) (by decide) rfl (as := [.ref 43, .int (xs (x2 + 1).toNatClampNeg), .int (xs (x2 + 2).toNatClampNeg), .int (xs (x2 + 3).toNatClampNeg)]) (rest := [.int q79.1]) rfl (L0 := [some (.ref 43), some (.int (xs (x2 + 1).toNatClampNeg)), some (.int (xs (x2 + 2).toNatClampNeg)), some (.int (xs (x2 + 3).toNatClampNeg))]) rfl (t_X8_set_43 hq83) ?_
        refine o_icmp_eq k0_554 (fun hc84 => ?_) (fun hc84 => ?_)
        · rw [if_pos hc84] at h
          refine o_iinc (k := 5) (L' := [some (.ref 1000), some (.ref 0), some (.ref 43), some (.int (x2 + 5))]) k0_1116 rfl (by decide) rfl ?_
          refine o_goto k0_1119 ?_
          have h9 := Option.some.inj h
          subst h9
          exact hK
        · rw [if_neg hc84] at h
          refine o_iconst (v := 0) k0_557 (by decide) ?_
          have h9 := Option.some.inj h
          subst h9
          have hK2 : (0, q83.2) = t := hK
          subst hK2
          exact o_iret pj_0 k0_558 rfl (nr_z (by decide))
      rw [if_neg hx32_14] at h
      by_cases hx32_15 : ((xs x2.toNatClampNeg) &&& 63) = 15
      · rw [if_pos hx32_15] at h
        refine o_tswI (tgt := 559) (off := 527) k0_32 (by rw [hx32_15]; decide) (by rw [hx32_15]; decide) (by rw [hx32_15]; decide) (by decide) ?_
        refine o_aload_n k0_559 rfl ?_
        refine o_aload_n k0_560 rfl ?_
        refine o_iload_n k0_561 rfl ?_
        refine o_iconst (v := 1) k0_562 (by decide) ?_
        refine o_iadd k0_563 ?_
        obtain ⟨hc85, h⟩ := ck_i h
        refine o_iascr k0_564 hc85 ?_
        refine o_aload_n k0_565 rfl ?_
        refine o_iload_n k0_566 rfl ?_
        refine o_iconst (v := 2) k0_567 (by decide) ?_
        refine o_iadd k0_568 ?_
        obtain ⟨hc86, h⟩ := ck_i h
        refine o_iascr k0_569 hc86 ?_
        refine bd_i h (fun q87 hq87 h => ?_)
        refine o_call k0_570 pj_98 (fun _ => rfl) (by decide) rfl (as := [.ref 0, .int (xs (x2 + 1).toNatClampNeg), .int (xs (x2 + 2).toNatClampNeg)]) (rest := []) rfl (L0 := [some (.ref 0), some (.int (xs (x2 + 1).toNatClampNeg)), some (.int (xs (x2 + 2).toNatClampNeg))]) rfl (t_X7_put_0 hq87) ?_
        refine o_aload_n k0_573 rfl ?_
        refine o_aload_n k0_574 rfl ?_
        refine o_iload_n k0_575 rfl ?_
        refine o_iconst (v := 1) k0_576 (by decide) ?_
        refine o_iadd k0_577 ?_
        obtain ⟨hc88, h⟩ := ck_i h
        refine o_iascr k0_578 hc88 ?_
        refine o_aload_n k0_579 rfl ?_
        refine o_iload_n k0_580 rfl ?_
        refine o_iconst (v := 2) k0_581 (by decide) ?_
        refine o_iadd k0_582 ?_
        obtain ⟨hc89, h⟩ := ck_i h
        refine o_iascr k0_583 hc89 ?_
        refine bd_i h (fun q90 hq90 h => ?_)
        refine o_call k0_584 pj_176 (fun _ => rfl) (by decide) rfl (as := [.ref 43, .int (xs (x2 + 1).toNatClampNeg), .int (xs (x2 + 2).toNatClampNeg)]) (rest := [.int q87.1]) rfl (L0 := [some (.ref 43), some (.int (xs (x2 + 1).toNatClampNeg)), some (.int (xs (x2 + 2).toNatClampNeg))]) rfl (t_X8_put_43 hq90) ?_
        refine o_icmp_eq k0_587 (fun hc91 => ?_) (fun hc91 => ?_)
        · rw [if_pos hc91] at h
          refine o_iinc (k := 5) (L' := [some (.ref 1000), some (.ref 0), some (.ref 43), some (.int (x2 + 5))]) k0_1116 rfl (by decide) rfl ?_
          refine o_goto k0_1119 ?_
          have h9 := Option.some.inj h
          subst h9
          exact hK
        · rw [if_neg hc91] at h
          refine o_iconst (v := 0) k0_590 (by decide) ?_
          have h9 := Option.some.inj h
          subst h9
          have hK2 : (0, q90.2) = t := hK
          subst hK2
          exact o_iret pj_0 k0_591 rfl (nr_z (by decide))
      rw [if_neg hx32_15] at h
      by_cases hx32_16 : ((xs x2.toNatClampNeg) &&& 63) = 16
      · rw [if_pos hx32_16] at h
        refine o_tswI (tgt := 592) (off := 560) k0_32 (by rw [hx32_16]; decide) (by rw [hx32_16]; decide) (by rw [hx32_16]; decide) (by decide) ?_
        refine o_aload_n k0_592 rfl ?_
        refine o_aload_n k0_593 rfl ?_
        refine o_iload_n k0_594 rfl ?_
        refine o_iconst (v := 1) k0_595 (by decide) ?_
        refine o_iadd k0_596 ?_
        obtain ⟨hc92, h⟩ := ck_i h
        refine o_iascr k0_597 hc92 ?_
        refine bd_i h (fun q93 hq93 h => ?_)
        refine o_call k0_598 pj_99 (fun _ => rfl) (by decide) rfl (as := [.ref 0, .int (xs (x2 + 1).toNatClampNeg)]) (rest := []) rfl (L0 := [some (.ref 0), some (.int (xs (x2 + 1).toNatClampNeg)), none]) rfl (t_X7_out_0 hq93) ?_
        refine o_aload_n k0_601 rfl ?_
        refine o_aload_n k0_602 rfl ?_
        refine o_iload_n k0_603 rfl ?_
        refine o_iconst (v := 1) k0_604 (by decide) ?_
        refine o_iadd k0_605 ?_
        obtain ⟨hc94, h⟩ := ck_i h
        refine o_iascr k0_606 hc94 ?_
        refine bd_i h (fun q95 hq95 h => ?_)
        refine o_call k0_607 pj_177 (fun _ => rfl) (by decide) rfl (as := [.ref 43, .int (xs (x2 + 1).toNatClampNeg)]) (rest := [.int q93.1]) rfl (L0 := [some (.ref 43), some (.int (xs (x2 + 1).toNatClampNeg))]) rfl (t_X8_out_43 hq95) ?_
        refine o_icmp_eq k0_610 (fun hc96 => ?_) (fun hc96 => ?_)
        · rw [if_pos hc96] at h
          refine o_iinc (k := 5) (L' := [some (.ref 1000), some (.ref 0), some (.ref 43), some (.int (x2 + 5))]) k0_1116 rfl (by decide) rfl ?_
          refine o_goto k0_1119 ?_
          have h9 := Option.some.inj h
          subst h9
          exact hK
        · rw [if_neg hc96] at h
          refine o_iconst (v := 0) k0_613 (by decide) ?_
          have h9 := Option.some.inj h
          subst h9
          have hK2 : (0, q95.2) = t := hK
          subst hK2
          exact o_iret pj_0 k0_614 rfl (nr_z (by decide))
      rw [if_neg hx32_16] at h
      by_cases hx32_17 : ((xs x2.toNatClampNeg) &&& 63) = 17
      · rw [if_pos hx32_17] at h
        refine o_tswI (tgt := 615) (off := 583) k0_32 (by rw [hx32_17]; decide) (by rw [hx32_17]; decide) (by rw [hx32_17]; decide) (by decide) ?_
        refine o_aload_n k0_615 rfl ?_
        refine o_aload_n k0_616 rfl ?_
        refine o_iload_n k0_617 rfl ?_
        refine o_iconst (v := 1) k0_618 (by decide) ?_
        refine o_iadd k0_619 ?_
        obtain ⟨hc97, h⟩ := ck_i h
        refine o_iascr k0_620 hc97 ?_
        refine bd_i h (fun q98 hq98 h => ?_)
        refine o_call k0_621 pj_100 (fun _ => rfl) (by decide) rfl (as := [.ref 0, .int (xs (x2 + 1).toNatClampNeg)]) (rest := []) rfl (L0 := [some (.ref 0), some (.int (xs (x2 + 1).toNatClampNeg)), none, none, none]) rfl (t_X7_draw_0 hq98) ?_
        refine o_aload_n k0_624 rfl ?_
        refine o_aload_n k0_625 rfl ?_
        refine o_iload_n k0_626 rfl ?_
        refine o_iconst (v := 1) k0_627 (by decide) ?_
        refine o_iadd k0_628 ?_
        obtain ⟨hc99, h⟩ := ck_i h
        refine o_iascr k0_629 hc99 ?_
        refine bd_i h (fun q100 hq100 h => ?_)
        refine o_call k0_630 pj_178 (fun _ => rfl) (by decide) rfl (as := [.ref 43, .int (xs (x2 + 1).toNatClampNeg)]) (rest := [.int q98.1]) rfl (L0 := [some (.ref 43), some (.int (xs (x2 + 1).toNatClampNeg)), none, none, none, none]) rfl (t_X8_draw_43 hq100) ?_
        refine o_icmp_eq k0_633 (fun hc101 => ?_) (fun hc101 => ?_)
        · rw [if_pos hc101] at h
          refine o_iinc (k := 5) (L' := [some (.ref 1000), some (.ref 0), some (.ref 43), some (.int (x2 + 5))]) k0_1116 rfl (by decide) rfl ?_
          refine o_goto k0_1119 ?_
          have h9 := Option.some.inj h
          subst h9
          exact hK
        · rw [if_neg hc101] at h
          refine o_iconst (v := 0) k0_636 (by decide) ?_
          have h9 := Option.some.inj h
          subst h9
          have hK2 : (0, q100.2) = t := hK
          subst hK2
          exact o_iret pj_0 k0_637 rfl (nr_z (by decide))
      rw [if_neg hx32_17] at h
      by_cases hx32_18 : ((xs x2.toNatClampNeg) &&& 63) = 18
      · rw [if_pos hx32_18] at h
        refine o_tswI (tgt := 638) (off := 606) k0_32 (by rw [hx32_18]; decide) (by rw [hx32_18]; decide) (by rw [hx32_18]; decide) (by decide) ?_
        refine o_aload_n k0_638 rfl ?_
        refine o_aload_n k0_639 rfl ?_
        refine o_iload_n k0_640 rfl ?_
        refine o_iconst (v := 1) k0_641 (by decide) ?_
        refine o_iadd k0_642 ?_
        obtain ⟨hc102, h⟩ := ck_i h
        refine o_iascr k0_643 hc102 ?_
        refine o_aload_n k0_644 rfl ?_
        refine o_iload_n k0_645 rfl ?_
        refine o_iconst (v := 2) k0_646 (by decide) ?_
        refine o_iadd k0_647 ?_
        obtain ⟨hc103, h⟩ := ck_i h
        refine o_iascr k0_648 hc103 ?_
        refine o_aload_n k0_649 rfl ?_
        refine o_iload_n k0_650 rfl ?_
        refine o_iconst (v := 3) k0_651 (by decide) ?_
        refine o_iadd k0_652 ?_
        obtain ⟨hc104, h⟩ := ck_i h
        refine o_iascr k0_653 hc104 ?_
        refine bd_i h (fun q105 hq105 h => ?_)
        refine o_call k0_654 pj_103 (fun _ => rfl) (by decide) rfl (as := [.ref 0, .int (xs (x2 + 1).toNatClampNeg), .int (xs (x2 + 2).toNatClampNeg), .int (xs (x2 + 3).toNatClampNeg)]) (rest := []) rfl (L0 := [some (.ref 0), some (.int (xs (x2 + 1).toNatClampNeg)), some (.int (xs (x2 + 2).toNatClampNeg)), some (.int (xs (x2 + 3).toNatClampNeg))]) rfl (t_X7_want_0 hq105) ?_
        refine o_aload_n k0_657 rfl ?_
        refine o_aload_n k0_658 rfl ?_
        refine o_iload_n k0_659 rfl ?_
        refine o_iconst (v := 1) k0_660 (by decide) ?_
        refine o_iadd k0_661 ?_
        obtain ⟨hc106, h⟩ := ck_i h
        refine o_iascr k0_662 hc106 ?_
        refine o_aload_n k0_663 rfl ?_
        refine o_iload_n k0_664 rfl ?_
        refine o_iconst (v := 2) k0_665 (by decide) ?_
        refine o_iadd k0_666 ?_
        obtain ⟨hc107, h⟩ := ck_i h
        refine o_iascr k0_667 hc107 ?_
        refine o_aload_n k0_668 rfl ?_
        refine o_iload_n k0_669 rfl ?_
        refine o_iconst (v := 3) k0_670 (by decide) ?_
        refine o_iadd k0_671 ?_
        obtain ⟨hc108, h⟩ := ck_i h
        refine o_iascr k0_672 hc108 ?_
        refine bd_i h (fun q109 hq109 h => ?_)
        refine o_call k0_673 pj_179 (fun _ => rfl) (by decide) rfl (as := [.ref 43, .int (xs (x2 + 1).toNatClampNeg), .int (xs (x2 + 2).toNatClampNeg), .int (xs (x2 + 3).toNatClampNeg)]) (rest := [.int q105.1]) rfl (L0 := [some (.ref 43), some (.int (xs (x2 + 1).toNatClampNeg)), some (.int (xs (x2 + 2).toNatClampNeg)), some (.int (xs (x2 + 3).toNatClampNeg))]) rfl (t_X8_want_43 hq109) ?_
        refine o_icmp_eq k0_676 (fun hc110 => ?_) (fun hc110 => ?_)
        · rw [if_pos hc110] at h
          refine o_iinc (k := 5) (L' := [some (.ref 1000), some (.ref 0), some (.ref 43), some (.int (x2 + 5))]) k0_1116 rfl (by decide) rfl ?_
          refine o_goto k0_1119 ?_
          have h9 := Option.some.inj h
          subst h9
          exact hK
        · rw [if_neg hc110] at h
          refine o_iconst (v := 0) k0_679 (by decide) ?_
          have h9 := Option.some.inj h
          subst h9
          have hK2 : (0, q109.2) = t := hK
          subst hK2
          exact o_iret pj_0 k0_680 rfl (nr_z (by decide))
      rw [if_neg hx32_18] at h
      by_cases hx32_19 : ((xs x2.toNatClampNeg) &&& 63) = 19
      · rw [if_pos hx32_19] at h
        refine o_tswI (tgt := 681) (off := 649) k0_32 (by rw [hx32_19]; decide) (by rw [hx32_19]; decide) (by rw [hx32_19]; decide) (by decide) ?_
        refine o_aload_n k0_681 rfl ?_
        refine o_aload_n k0_682 rfl ?_
        refine o_iload_n k0_683 rfl ?_
        refine o_iconst (v := 1) k0_684 (by decide) ?_
        refine o_iadd k0_685 ?_
        obtain ⟨hc111, h⟩ := ck_i h
        refine o_iascr k0_686 hc111 ?_
        refine o_aload_n k0_687 rfl ?_
        refine o_iload_n k0_688 rfl ?_
        refine o_iconst (v := 2) k0_689 (by decide) ?_
        refine o_iadd k0_690 ?_
        obtain ⟨hc112, h⟩ := ck_i h
        refine o_iascr k0_691 hc112 ?_
        refine o_aload_n k0_692 rfl ?_
        refine o_iload_n k0_693 rfl ?_
        refine o_iconst (v := 3) k0_694 (by decide) ?_
        refine o_iadd k0_695 ?_
        obtain ⟨hc113, h⟩ := ck_i h
        refine o_iascr k0_696 hc113 ?_
        refine bd_i h (fun q114 hq114 h => ?_)
        refine o_call k0_697 pj_104 (fun _ => rfl) (by decide) rfl (as := [.ref 0, .int (xs (x2 + 1).toNatClampNeg), .int (xs (x2 + 2).toNatClampNeg), .int (xs (x2 + 3).toNatClampNeg)]) (rest := []) rfl (L0 := [some (.ref 0), some (.int (xs (x2 + 1).toNatClampNeg)), some (.int (xs (x2 + 2).toNatClampNeg)), some (.int (xs (x2 + 3).toNatClampNeg)), none]) rfl (t_X7_brought_0 hq114) ?_
        refine o_aload_n k0_700 rfl ?_
        refine o_aload_n k0_701 rfl ?_
        refine o_iload_n k0_702 rfl ?_
        refine o_iconst (v := 1) k0_703 (by decide) ?_
        refine o_iadd k0_704 ?_
        obtain ⟨hc115, h⟩ := ck_i h
        refine o_iascr k0_705 hc115 ?_
        refine o_aload_n k0_706 rfl ?_
        refine o_iload_n k0_707 rfl ?_
        refine o_iconst (v := 2) k0_708 (by decide) ?_
        refine o_iadd k0_709 ?_
        obtain ⟨hc116, h⟩ := ck_i h
        refine o_iascr k0_710 hc116 ?_
        refine o_aload_n k0_711 rfl ?_
        refine o_iload_n k0_712 rfl ?_
        refine o_iconst (v := 3) k0_713 (by decide) ?_
        refine o_iadd k0_714 ?_
        obtain ⟨hc117, h⟩ := ck_i h
        refine o_iascr k0_715 hc117 ?_
        refine bd_i h (fun v118 hv118 h => ?_)
        refine o_call k0_716 pj_183 (fun _ => rfl) (by decide) rfl (as := [.ref 43, .int (xs (x2 + 1).toNatClampNeg), .int (xs (x2 + 2).toNatClampNeg), .int (xs (x2 + 3).toNatClampNeg)]) (rest := [.int q114.1]) rfl (L0 := [some (.ref 43), some (.int (xs (x2 + 1).toNatClampNeg)), some (.int (xs (x2 + 2).toNatClampNeg)), some (.int (xs (x2 + 3).toNatClampNeg)), none, none]) rfl (t_X8_brought_43 hv118) ?_
        refine o_icmp_eq k0_719 (fun hc119 => ?_) (fun hc119 => ?_)
        · rw [if_pos hc119] at h
          refine o_iinc (k := 5) (L' := [some (.ref 1000), some (.ref 0), some (.ref 43), some (.int (x2 + 5))]) k0_1116 rfl (by decide) rfl ?_
          refine o_goto k0_1119 ?_
          have h9 := Option.some.inj h
          subst h9
          exact hK
        · rw [if_neg hc119] at h
          refine o_iconst (v := 0) k0_722 (by decide) ?_
          have h9 := Option.some.inj h
          subst h9
          have hK2 : (0, q114.2) = t := hK
          subst hK2
          exact o_iret pj_0 k0_723 rfl (nr_z (by decide))
      rw [if_neg hx32_19] at h
      by_cases hx32_20 : ((xs x2.toNatClampNeg) &&& 63) = 20
      · rw [if_pos hx32_20] at h
        refine o_tswI (tgt := 724) (off := 692) k0_32 (by rw [hx32_20]; decide) (by rw [hx32_20]; decide) (by rw [hx32_20]; decide) (by decide) ?_
        refine o_aload_n k0_724 rfl ?_
        refine o_aload_n k0_725 rfl ?_
        refine o_iload_n k0_726 rfl ?_
        refine o_iconst (v := 1) k0_727 (by decide) ?_
        refine o_iadd k0_728 ?_
        obtain ⟨hc120, h⟩ := ck_i h
        refine o_iascr k0_729 hc120 ?_
        refine bd_i h (fun q121 hq121 h => ?_)
        refine o_call k0_730 pj_105 (fun _ => rfl) (by decide) rfl (as := [.ref 0, .int (xs (x2 + 1).toNatClampNeg)]) (rest := []) rfl (L0 := [some (.ref 0), some (.int (xs (x2 + 1).toNatClampNeg)), none]) rfl (t_X7_seed_0 hq121) ?_
        refine o_aload_n k0_733 rfl ?_
        refine o_aload_n k0_734 rfl ?_
        refine o_iload_n k0_735 rfl ?_
        refine o_iconst (v := 1) k0_736 (by decide) ?_
        refine o_iadd k0_737 ?_
        obtain ⟨hc122, h⟩ := ck_i h
        refine o_iascr k0_738 hc122 ?_
        refine bd_i h (fun v123 hv123 h => ?_)
        refine o_call k0_739 pj_185 (fun _ => rfl) (by decide) rfl (as := [.ref 43, .int (xs (x2 + 1).toNatClampNeg)]) (rest := [.int q121.1]) rfl (L0 := [some (.ref 43), some (.int (xs (x2 + 1).toNatClampNeg)), none, none, none]) rfl (t_X8_seed_43 hv123) ?_
        refine o_icmp_eq k0_742 (fun hc124 => ?_) (fun hc124 => ?_)
        · rw [if_pos hc124] at h
          refine o_iinc (k := 5) (L' := [some (.ref 1000), some (.ref 0), some (.ref 43), some (.int (x2 + 5))]) k0_1116 rfl (by decide) rfl ?_
          refine o_goto k0_1119 ?_
          have h9 := Option.some.inj h
          subst h9
          exact hK
        · rw [if_neg hc124] at h
          refine o_iconst (v := 0) k0_745 (by decide) ?_
          have h9 := Option.some.inj h
          subst h9
          have hK2 : (0, q121.2) = t := hK
          subst hK2
          exact o_iret pj_0 k0_746 rfl (nr_z (by decide))
      rw [if_neg hx32_20] at h
      by_cases hx32_21 : ((xs x2.toNatClampNeg) &&& 63) = 21
      · rw [if_pos hx32_21] at h
        refine o_tswI (tgt := 747) (off := 715) k0_32 (by rw [hx32_21]; decide) (by rw [hx32_21]; decide) (by rw [hx32_21]; decide) (by decide) ?_
        refine o_aload_n k0_747 rfl ?_
        refine bd_i h (fun v125 hv125 h => ?_)
        refine o_call k0_748 pj_106 (fun _ => rfl) (by decide) rfl (as := [.ref 0]) (rest := []) rfl (L0 := [some (.ref 0), none, none, none]) rfl (t_X7_signature_0 hv125) ?_
        refine o_aload_n k0_751 rfl ?_
        refine bd_i h (fun v126 hv126 h => ?_)
        refine o_call k0_752 pj_188 (fun _ => rfl) (by decide) rfl (as := [.ref 43]) (rest := [.int v125]) rfl (L0 := [some (.ref 43), none, none, none, none]) rfl (t_X8_signature_43 hv126) ?_
        refine o_icmp_eq k0_755 (fun hc127 => ?_) (fun hc127 => ?_)
        · rw [if_pos hc127] at h
          refine o_iinc (k := 5) (L' := [some (.ref 1000), some (.ref 0), some (.ref 43), some (.int (x2 + 5))]) k0_1116 rfl (by decide) rfl ?_
          refine o_goto k0_1119 ?_
          have h9 := Option.some.inj h
          subst h9
          exact hK
        · rw [if_neg hc127] at h
          refine o_iconst (v := 0) k0_758 (by decide) ?_
          have h9 := Option.some.inj h
          subst h9
          have hK2 : (0, M3) = t := hK
          subst hK2
          exact o_iret pj_0 k0_759 rfl (nr_z (by decide))
      rw [if_neg hx32_21] at h
      by_cases hx32_22 : ((xs x2.toNatClampNeg) &&& 63) = 22
      · rw [if_pos hx32_22] at h
        refine o_tswI (tgt := 760) (off := 728) k0_32 (by rw [hx32_22]; decide) (by rw [hx32_22]; decide) (by rw [hx32_22]; decide) (by decide) ?_
        refine o_aload_n k0_760 rfl ?_
        refine o_aload_n k0_761 rfl ?_
        refine o_iload_n k0_762 rfl ?_
        refine o_iconst (v := 1) k0_763 (by decide) ?_
        refine o_iadd k0_764 ?_
        obtain ⟨hc128, h⟩ := ck_i h
        refine o_iascr k0_765 hc128 ?_
        refine bd_i h (fun q129 hq129 h => ?_)
        refine o_call k0_766 pj_107 (fun _ => rfl) (by decide) rfl (as := [.ref 0, .int (xs (x2 + 1).toNatClampNeg)]) (rest := []) rfl (L0 := [some (.ref 0), some (.int (xs (x2 + 1).toNatClampNeg))]) rfl (t_X7_alias_0 hq129) ?_
        refine o_aload_n k0_769 rfl ?_
        refine o_aload_n k0_770 rfl ?_
        refine o_iload_n k0_771 rfl ?_
        refine o_iconst (v := 1) k0_772 (by decide) ?_
        refine o_iadd k0_773 ?_
        obtain ⟨hc130, h⟩ := ck_i h
        refine o_iascr k0_774 hc130 ?_
        refine bd_i h (fun q131 hq131 h => ?_)
        refine o_call k0_775 pj_191 (fun _ => rfl) (by decide) rfl (as := [.ref 43, .int (xs (x2 + 1).toNatClampNeg)]) (rest := [.int q129.1]) rfl (L0 := [some (.ref 43), some (.int (xs (x2 + 1).toNatClampNeg)), none, none, none]) rfl (t_X8_alias_43 hq131) ?_
        refine o_icmp_eq k0_778 (fun hc132 => ?_) (fun hc132 => ?_)
        · rw [if_pos hc132] at h
          refine o_iinc (k := 5) (L' := [some (.ref 1000), some (.ref 0), some (.ref 43), some (.int (x2 + 5))]) k0_1116 rfl (by decide) rfl ?_
          refine o_goto k0_1119 ?_
          have h9 := Option.some.inj h
          subst h9
          exact hK
        · rw [if_neg hc132] at h
          refine o_iconst (v := 0) k0_781 (by decide) ?_
          have h9 := Option.some.inj h
          subst h9
          have hK2 : (0, q131.2) = t := hK
          subst hK2
          exact o_iret pj_0 k0_782 rfl (nr_z (by decide))
      rw [if_neg hx32_22] at h
      by_cases hx32_23 : ((xs x2.toNatClampNeg) &&& 63) = 23
      · rw [if_pos hx32_23] at h
        refine o_tswI (tgt := 783) (off := 751) k0_32 (by rw [hx32_23]; decide) (by rw [hx32_23]; decide) (by rw [hx32_23]; decide) (by decide) ?_
        refine o_aload_n k0_783 rfl ?_
        refine o_aload_n k0_784 rfl ?_
        refine o_iload_n k0_785 rfl ?_
        refine o_iconst (v := 1) k0_786 (by decide) ?_
        refine o_iadd k0_787 ?_
        obtain ⟨hc133, h⟩ := ck_i h
        refine o_iascr k0_788 hc133 ?_
        refine bd_i h (fun v134 hv134 h => ?_)
        refine o_call k0_789 pj_108 (fun _ => rfl) (by decide) rfl (as := [.ref 0, .int (xs (x2 + 1).toNatClampNeg)]) (rest := []) rfl (L0 := [some (.ref 0), some (.int (xs (x2 + 1).toNatClampNeg))]) rfl (t_X7_suspects_0 hv134) ?_
        refine o_aload_n k0_792 rfl ?_
        refine o_aload_n k0_793 rfl ?_
        refine o_iload_n k0_794 rfl ?_
        refine o_iconst (v := 1) k0_795 (by decide) ?_
        refine o_iadd k0_796 ?_
        obtain ⟨hc135, h⟩ := ck_i h
        refine o_iascr k0_797 hc135 ?_
        refine bd_i h (fun v136 hv136 h => ?_)
        refine o_call k0_798 pj_192 (fun _ => rfl) (by decide) rfl (as := [.ref 43, .int (xs (x2 + 1).toNatClampNeg)]) (rest := [.int v134]) rfl (L0 := [some (.ref 43), some (.int (xs (x2 + 1).toNatClampNeg))]) rfl (t_X8_suspects_43 hv136) ?_
        refine o_icmp_eq k0_801 (fun hc137 => ?_) (fun hc137 => ?_)
        · rw [if_pos hc137] at h
          refine o_iinc (k := 5) (L' := [some (.ref 1000), some (.ref 0), some (.ref 43), some (.int (x2 + 5))]) k0_1116 rfl (by decide) rfl ?_
          refine o_goto k0_1119 ?_
          have h9 := Option.some.inj h
          subst h9
          exact hK
        · rw [if_neg hc137] at h
          refine o_iconst (v := 0) k0_804 (by decide) ?_
          have h9 := Option.some.inj h
          subst h9
          have hK2 : (0, M3) = t := hK
          subst hK2
          exact o_iret pj_0 k0_805 rfl (nr_z (by decide))
      rw [if_neg hx32_23] at h
      by_cases hx32_24 : ((xs x2.toNatClampNeg) &&& 63) = 24
      · rw [if_pos hx32_24] at h
        refine o_tswI (tgt := 806) (off := 774) k0_32 (by rw [hx32_24]; decide) (by rw [hx32_24]; decide) (by rw [hx32_24]; decide) (by decide) ?_
        refine o_aload_n k0_806 rfl ?_
        refine o_aload_n k0_807 rfl ?_
        refine o_iload_n k0_808 rfl ?_
        refine o_iconst (v := 1) k0_809 (by decide) ?_
        refine o_iadd k0_810 ?_
        obtain ⟨hc138, h⟩ := ck_i h
        refine o_iascr k0_811 hc138 ?_
        refine o_aload_n k0_812 rfl ?_
        refine o_iload_n k0_813 rfl ?_
        refine o_iconst (v := 2) k0_814 (by decide) ?_
        refine o_iadd k0_815 ?_
        obtain ⟨hc139, h⟩ := ck_i h
        refine o_iascr k0_816 hc139 ?_
        refine bd_i h (fun q140 hq140 h => ?_)
        refine o_call k0_817 pj_109 (fun _ => rfl) (by decide) rfl (as := [.ref 0, .int (xs (x2 + 1).toNatClampNeg), .int (xs (x2 + 2).toNatClampNeg)]) (rest := []) rfl (L0 := [some (.ref 0), some (.int (xs (x2 + 1).toNatClampNeg)), some (.int (xs (x2 + 2).toNatClampNeg))]) rfl (t_X7_dump_0 hq140) ?_
        refine o_aload_n k0_820 rfl ?_
        refine o_aload_n k0_821 rfl ?_
        refine o_iload_n k0_822 rfl ?_
        refine o_iconst (v := 1) k0_823 (by decide) ?_
        refine o_iadd k0_824 ?_
        obtain ⟨hc141, h⟩ := ck_i h
        refine o_iascr k0_825 hc141 ?_
        refine o_aload_n k0_826 rfl ?_
        refine o_iload_n k0_827 rfl ?_
        refine o_iconst (v := 2) k0_828 (by decide) ?_
        refine o_iadd k0_829 ?_
        obtain ⟨hc142, h⟩ := ck_i h
        refine o_iascr k0_830 hc142 ?_
        refine bd_i h (fun q143 hq143 h => ?_)
        refine o_call k0_831 pj_194 (fun _ => rfl) (by decide) rfl (as := [.ref 43, .int (xs (x2 + 1).toNatClampNeg), .int (xs (x2 + 2).toNatClampNeg)]) (rest := [.int q140.1]) rfl (L0 := [some (.ref 43), some (.int (xs (x2 + 1).toNatClampNeg)), some (.int (xs (x2 + 2).toNatClampNeg)), none, none]) rfl (t_X8_dump_43 hq143) ?_
        refine o_icmp_eq k0_834 (fun hc144 => ?_) (fun hc144 => ?_)
        · rw [if_pos hc144] at h
          refine o_iinc (k := 5) (L' := [some (.ref 1000), some (.ref 0), some (.ref 43), some (.int (x2 + 5))]) k0_1116 rfl (by decide) rfl ?_
          refine o_goto k0_1119 ?_
          have h9 := Option.some.inj h
          subst h9
          exact hK
        · rw [if_neg hc144] at h
          refine o_iconst (v := 0) k0_837 (by decide) ?_
          have h9 := Option.some.inj h
          subst h9
          have hK2 : (0, q143.2) = t := hK
          subst hK2
          exact o_iret pj_0 k0_838 rfl (nr_z (by decide))
      rw [if_neg hx32_24] at h
      by_cases hx32_25 : ((xs x2.toNatClampNeg) &&& 63) = 25
      · rw [if_pos hx32_25] at h
        refine o_tswI (tgt := 839) (off := 807) k0_32 (by rw [hx32_25]; decide) (by rw [hx32_25]; decide) (by rw [hx32_25]; decide) (by decide) ?_
        refine o_aload_n k0_839 rfl ?_
        refine o_aload_n k0_840 rfl ?_
        refine o_iload_n k0_841 rfl ?_
        refine o_iconst (v := 1) k0_842 (by decide) ?_
        refine o_iadd k0_843 ?_
        obtain ⟨hc145, h⟩ := ck_i h
        refine o_iascr k0_844 hc145 ?_
        refine bd_i h (fun q146 hq146 h => ?_)
        refine o_call k0_845 pj_110 (fun _ => rfl) (by decide) rfl (as := [.ref 0, .int (xs (x2 + 1).toNatClampNeg)]) (rest := []) rfl (L0 := [some (.ref 0), some (.int (xs (x2 + 1).toNatClampNeg))]) rfl (t_X7_clear_0 hq146) ?_
        refine o_aload_n k0_848 rfl ?_
        refine o_aload_n k0_849 rfl ?_
        refine o_iload_n k0_850 rfl ?_
        refine o_iconst (v := 1) k0_851 (by decide) ?_
        refine o_iadd k0_852 ?_
        obtain ⟨hc147, h⟩ := ck_i h
        refine o_iascr k0_853 hc147 ?_
        refine bd_i h (fun q148 hq148 h => ?_)
        refine o_call k0_854 pj_195 (fun _ => rfl) (by decide) rfl (as := [.ref 43, .int (xs (x2 + 1).toNatClampNeg)]) (rest := [.int q146.1]) rfl (L0 := [some (.ref 43), some (.int (xs (x2 + 1).toNatClampNeg))]) rfl (t_X8_clear_43 hq148) ?_
        refine o_icmp_eq k0_857 (fun hc149 => ?_) (fun hc149 => ?_)
        · rw [if_pos hc149] at h
          refine o_iinc (k := 5) (L' := [some (.ref 1000), some (.ref 0), some (.ref 43), some (.int (x2 + 5))]) k0_1116 rfl (by decide) rfl ?_
          refine o_goto k0_1119 ?_
          have h9 := Option.some.inj h
          subst h9
          exact hK
        · rw [if_neg hc149] at h
          refine o_iconst (v := 0) k0_860 (by decide) ?_
          have h9 := Option.some.inj h
          subst h9
          have hK2 : (0, q148.2) = t := hK
          subst hK2
          exact o_iret pj_0 k0_861 rfl (nr_z (by decide))
      rw [if_neg hx32_25] at h
      by_cases hx32_26 : ((xs x2.toNatClampNeg) &&& 63) = 26
      · rw [if_pos hx32_26] at h
        refine o_tswI (tgt := 862) (off := 830) k0_32 (by rw [hx32_26]; decide) (by rw [hx32_26]; decide) (by rw [hx32_26]; decide) (by decide) ?_
        refine o_aload_n k0_862 rfl ?_
        refine o_aload_n k0_863 rfl ?_
        refine o_iload_n k0_864 rfl ?_
        refine o_iconst (v := 1) k0_865 (by decide) ?_
        refine o_iadd k0_866 ?_
        obtain ⟨hc150, h⟩ := ck_i h
        refine o_iascr k0_867 hc150 ?_
        refine bd_i h (fun q151 hq151 h => ?_)
        refine o_call k0_868 pj_111 (fun _ => rfl) (by decide) rfl (as := [.ref 0, .int (xs (x2 + 1).toNatClampNeg)]) (rest := []) rfl (L0 := [some (.ref 0), some (.int (xs (x2 + 1).toNatClampNeg)), none]) rfl (t_X7_keep_0 hq151) ?_
        refine o_aload_n k0_871 rfl ?_
        refine o_aload_n k0_872 rfl ?_
        refine o_iload_n k0_873 rfl ?_
        refine o_iconst (v := 1) k0_874 (by decide) ?_
        refine o_iadd k0_875 ?_
        obtain ⟨hc152, h⟩ := ck_i h
        refine o_iascr k0_876 hc152 ?_
        refine bd_i h (fun q153 hq153 h => ?_)
        refine o_call k0_877 pj_196 (fun _ => rfl) (by decide) rfl (as := [.ref 43, .int (xs (x2 + 1).toNatClampNeg)]) (rest := [.int q151.1]) rfl (L0 := [some (.ref 43), some (.int (xs (x2 + 1).toNatClampNeg)), none, none]) rfl (t_X8_keep_43 hq153) ?_
        refine o_icmp_eq k0_880 (fun hc154 => ?_) (fun hc154 => ?_)
        · rw [if_pos hc154] at h
          refine o_iinc (k := 5) (L' := [some (.ref 1000), some (.ref 0), some (.ref 43), some (.int (x2 + 5))]) k0_1116 rfl (by decide) rfl ?_
          refine o_goto k0_1119 ?_
          have h9 := Option.some.inj h
          subst h9
          exact hK
        · rw [if_neg hc154] at h
          refine o_iconst (v := 0) k0_883 (by decide) ?_
          have h9 := Option.some.inj h
          subst h9
          have hK2 : (0, q153.2) = t := hK
          subst hK2
          exact o_iret pj_0 k0_884 rfl (nr_z (by decide))
      rw [if_neg hx32_26] at h
      by_cases hx32_27 : ((xs x2.toNatClampNeg) &&& 63) = 27
      · rw [if_pos hx32_27] at h
        refine o_tswI (tgt := 885) (off := 853) k0_32 (by rw [hx32_27]; decide) (by rw [hx32_27]; decide) (by rw [hx32_27]; decide) (by decide) ?_
        refine o_aload_n k0_885 rfl ?_
        refine o_aload_n k0_886 rfl ?_
        refine o_iload_n k0_887 rfl ?_
        refine o_iconst (v := 1) k0_888 (by decide) ?_
        refine o_iadd k0_889 ?_
        obtain ⟨hc155, h⟩ := ck_i h
        refine o_iascr k0_890 hc155 ?_
        refine bd_i h (fun q156 hq156 h => ?_)
        refine o_call k0_891 pj_112 (fun _ => rfl) (by decide) rfl (as := [.ref 0, .int (xs (x2 + 1).toNatClampNeg)]) (rest := []) rfl (L0 := [some (.ref 0), some (.int (xs (x2 + 1).toNatClampNeg))]) rfl (t_X7_back_0 hq156) ?_
        refine o_aload_n k0_894 rfl ?_
        refine o_aload_n k0_895 rfl ?_
        refine o_iload_n k0_896 rfl ?_
        refine o_iconst (v := 1) k0_897 (by decide) ?_
        refine o_iadd k0_898 ?_
        obtain ⟨hc157, h⟩ := ck_i h
        refine o_iascr k0_899 hc157 ?_
        refine bd_i h (fun q158 hq158 h => ?_)
        refine o_call k0_900 pj_198 (fun _ => rfl) (by decide) rfl (as := [.ref 43, .int (xs (x2 + 1).toNatClampNeg)]) (rest := [.int q156.1]) rfl (L0 := [some (.ref 43), some (.int (xs (x2 + 1).toNatClampNeg))]) rfl (t_X8_back_43 hq158) ?_
        refine o_icmp_eq k0_903 (fun hc159 => ?_) (fun hc159 => ?_)
        · rw [if_pos hc159] at h
          refine o_iinc (k := 5) (L' := [some (.ref 1000), some (.ref 0), some (.ref 43), some (.int (x2 + 5))]) k0_1116 rfl (by decide) rfl ?_
          refine o_goto k0_1119 ?_
          have h9 := Option.some.inj h
          subst h9
          exact hK
        · rw [if_neg hc159] at h
          refine o_iconst (v := 0) k0_906 (by decide) ?_
          have h9 := Option.some.inj h
          subst h9
          have hK2 : (0, q158.2) = t := hK
          subst hK2
          exact o_iret pj_0 k0_907 rfl (nr_z (by decide))
      rw [if_neg hx32_27] at h
      by_cases hx32_28 : ((xs x2.toNatClampNeg) &&& 63) = 28
      · rw [if_pos hx32_28] at h
        refine o_tswI (tgt := 908) (off := 876) k0_32 (by rw [hx32_28]; decide) (by rw [hx32_28]; decide) (by rw [hx32_28]; decide) (by decide) ?_
        refine o_aload_n k0_908 rfl ?_
        refine o_aload_n k0_909 rfl ?_
        refine o_iload_n k0_910 rfl ?_
        refine o_iconst (v := 1) k0_911 (by decide) ?_
        refine o_iadd k0_912 ?_
        obtain ⟨hc160, h⟩ := ck_i h
        refine o_iascr k0_913 hc160 ?_
        refine o_aload_n k0_914 rfl ?_
        refine o_iload_n k0_915 rfl ?_
        refine o_iconst (v := 2) k0_916 (by decide) ?_
        refine o_iadd k0_917 ?_
        obtain ⟨hc161, h⟩ := ck_i h
        refine o_iascr k0_918 hc161 ?_
        refine bd_i h (fun v162 hv162 h => ?_)
        refine o_call k0_919 pj_113 (fun _ => rfl) (by decide) rfl (as := [.ref 0, .int (xs (x2 + 1).toNatClampNeg), .int (xs (x2 + 2).toNatClampNeg)]) (rest := []) rfl (L0 := [some (.ref 0), some (.int (xs (x2 + 1).toNatClampNeg)), some (.int (xs (x2 + 2).toNatClampNeg))]) rfl (t_X7_differs_0 hv162) ?_
        refine o_aload_n k0_922 rfl ?_
        refine o_aload_n k0_923 rfl ?_
        refine o_iload_n k0_924 rfl ?_
        refine o_iconst (v := 1) k0_925 (by decide) ?_
        refine o_iadd k0_926 ?_
        obtain ⟨hc163, h⟩ := ck_i h
        refine o_iascr k0_927 hc163 ?_
        refine o_aload_n k0_928 rfl ?_
        refine o_iload_n k0_929 rfl ?_
        refine o_iconst (v := 2) k0_930 (by decide) ?_
        refine o_iadd k0_931 ?_
        obtain ⟨hc164, h⟩ := ck_i h
        refine o_iascr k0_932 hc164 ?_
        refine bd_i h (fun q165 hq165 h => ?_)
        refine o_call k0_933 pj_203 (fun _ => rfl) (by decide) rfl (as := [.ref 43, .int (xs (x2 + 1).toNatClampNeg), .int (xs (x2 + 2).toNatClampNeg)]) (rest := [.int v162]) rfl (L0 := [some (.ref 43), some (.int (xs (x2 + 1).toNatClampNeg)), some (.int (xs (x2 + 2).toNatClampNeg)), none, none]) rfl (t_X8_differs_43 hq165) ?_
        refine o_icmp_eq k0_936 (fun hc166 => ?_) (fun hc166 => ?_)
        · rw [if_pos hc166] at h
          refine o_iinc (k := 5) (L' := [some (.ref 1000), some (.ref 0), some (.ref 43), some (.int (x2 + 5))]) k0_1116 rfl (by decide) rfl ?_
          refine o_goto k0_1119 ?_
          have h9 := Option.some.inj h
          subst h9
          exact hK
        · rw [if_neg hc166] at h
          refine o_iconst (v := 0) k0_939 (by decide) ?_
          have h9 := Option.some.inj h
          subst h9
          have hK2 : (0, q165.2) = t := hK
          subst hK2
          exact o_iret pj_0 k0_940 rfl (nr_z (by decide))
      rw [if_neg hx32_28] at h
      by_cases hx32_29 : ((xs x2.toNatClampNeg) &&& 63) = 29
      · rw [if_pos hx32_29] at h
        refine o_tswI (tgt := 941) (off := 909) k0_32 (by rw [hx32_29]; decide) (by rw [hx32_29]; decide) (by rw [hx32_29]; decide) (by decide) ?_
        refine o_aload_n k0_941 rfl ?_
        refine o_aload_n k0_942 rfl ?_
        refine o_iload_n k0_943 rfl ?_
        refine o_iconst (v := 1) k0_944 (by decide) ?_
        refine o_iadd k0_945 ?_
        obtain ⟨hc167, h⟩ := ck_i h
        refine o_iascr k0_946 hc167 ?_
        refine o_aload_n k0_947 rfl ?_
        refine o_iload_n k0_948 rfl ?_
        refine o_iconst (v := 2) k0_949 (by decide) ?_
        refine o_iadd k0_950 ?_
        obtain ⟨hc168, h⟩ := ck_i h
        refine o_iascr k0_951 hc168 ?_
        refine o_aload_n k0_952 rfl ?_
        refine o_iload_n k0_953 rfl ?_
        refine o_iconst (v := 3) k0_954 (by decide) ?_
        refine o_iadd k0_955 ?_
        obtain ⟨hc169, h⟩ := ck_i h
        refine o_iascr k0_956 hc169 ?_
        refine bd_i h (fun q170 hq170 h => ?_)
        refine o_call k0_957 pj_114 (fun _ => rfl) (by decide) rfl (as := [.ref 0, .int (xs (x2 + 1).toNatClampNeg), .int (xs (x2 + 2).toNatClampNeg), .int (xs (x2 + 3).toNatClampNeg)]) (rest := []) rfl (L0 := [some (.ref 0), some (.int (xs (x2 + 1).toNatClampNeg)), some (.int (xs (x2 + 2).toNatClampNeg)), some (.int (xs (x2 + 3).toNatClampNeg))]) rfl (t_X7_sheet_0 hq170) ?_
        refine o_aload_n k0_960 rfl ?_
        refine o_aload_n k0_961 rfl ?_
        refine o_iload_n k0_962 rfl ?_
        refine o_iconst (v := 1) k0_963 (by decide) ?_
        refine o_iadd k0_964 ?_
        obtain ⟨hc171, h⟩ := ck_i h
        refine o_iascr k0_965 hc171 ?_
        refine o_aload_n k0_966 rfl ?_
        refine o_iload_n k0_967 rfl ?_
        refine o_iconst (v := 2) k0_968 (by decide) ?_
        refine o_iadd k0_969 ?_
        obtain ⟨hc172, h⟩ := ck_i h
        refine o_iascr k0_970 hc172 ?_
        refine o_aload_n k0_971 rfl ?_
        refine o_iload_n k0_972 rfl ?_
        refine o_iconst (v := 3) k0_973 (by decide) ?_
        refine o_iadd k0_974 ?_
        obtain ⟨hc173, h⟩ := ck_i h
        refine o_iascr k0_975 hc173 ?_
        refine bd_i h (fun q174 hq174 h => ?_)
        refine o_call k0_976 pj_205 (fun _ => rfl) (by decide) rfl (as := [.ref 43, .int (xs (x2 + 1).toNatClampNeg), .int (xs (x2 + 2).toNatClampNeg), .int (xs (x2 + 3).toNatClampNeg)]) (rest := [.int q170.1]) rfl (L0 := [some (.ref 43), some (.int (xs (x2 + 1).toNatClampNeg)), some (.int (xs (x2 + 2).toNatClampNeg)), some (.int (xs (x2 + 3).toNatClampNeg)), none]) rfl (t_X8_sheet_43 hq174) ?_
        refine o_icmp_eq k0_979 (fun hc175 => ?_) (fun hc175 => ?_)
        · rw [if_pos hc175] at h
          refine o_iinc (k := 5) (L' := [some (.ref 1000), some (.ref 0), some (.ref 43), some (.int (x2 + 5))]) k0_1116 rfl (by decide) rfl ?_
          refine o_goto k0_1119 ?_
          have h9 := Option.some.inj h
          subst h9
          exact hK
        · rw [if_neg hc175] at h
          refine o_iconst (v := 0) k0_982 (by decide) ?_
          have h9 := Option.some.inj h
          subst h9
          have hK2 : (0, q174.2) = t := hK
          subst hK2
          exact o_iret pj_0 k0_983 rfl (nr_z (by decide))
      rw [if_neg hx32_29] at h
      by_cases hx32_30 : ((xs x2.toNatClampNeg) &&& 63) = 30
      · rw [if_pos hx32_30] at h
        refine o_tswI (tgt := 984) (off := 952) k0_32 (by rw [hx32_30]; decide) (by rw [hx32_30]; decide) (by rw [hx32_30]; decide) (by decide) ?_
        refine o_aload_n k0_984 rfl ?_
        refine o_aload_n k0_985 rfl ?_
        refine o_iload_n k0_986 rfl ?_
        refine o_iconst (v := 1) k0_987 (by decide) ?_
        refine o_iadd k0_988 ?_
        obtain ⟨hc176, h⟩ := ck_i h
        refine o_iascr k0_989 hc176 ?_
        refine o_aload_n k0_990 rfl ?_
        refine o_iload_n k0_991 rfl ?_
        refine o_iconst (v := 2) k0_992 (by decide) ?_
        refine o_iadd k0_993 ?_
        obtain ⟨hc177, h⟩ := ck_i h
        refine o_iascr k0_994 hc177 ?_
        refine o_aload_n k0_995 rfl ?_
        refine o_iload_n k0_996 rfl ?_
        refine o_iconst (v := 3) k0_997 (by decide) ?_
        refine o_iadd k0_998 ?_
        obtain ⟨hc178, h⟩ := ck_i h
        refine o_iascr k0_999 hc178 ?_
        refine bd_i h (fun q179 hq179 h => ?_)
        refine o_call k0_1000 pj_115 (fun _ => rfl) (by decide) rfl (as := [.ref 0, .int (xs (x2 + 1).toNatClampNeg), .int (xs (x2 + 2).toNatClampNeg), .int (xs (x2 + 3).toNatClampNeg)]) (rest := []) rfl (L0 := [some (.ref 0), some (.int (xs (x2 + 1).toNatClampNeg)), some (.int (xs (x2 + 2).toNatClampNeg)), some (.int (xs (x2 + 3).toNatClampNeg)), none, none]) rfl (t_X7_lay_0 hq179) ?_
        refine o_aload_n k0_1003 rfl ?_
        refine o_aload_n k0_1004 rfl ?_
        refine o_iload_n k0_1005 rfl ?_
        refine o_iconst (v := 1) k0_1006 (by decide) ?_
        refine o_iadd k0_1007 ?_
        obtain ⟨hc180, h⟩ := ck_i h
        refine o_iascr k0_1008 hc180 ?_
        refine o_aload_n k0_1009 rfl ?_
        refine o_iload_n k0_1010 rfl ?_
        refine o_iconst (v := 2) k0_1011 (by decide) ?_
        refine o_iadd k0_1012 ?_
        obtain ⟨hc181, h⟩ := ck_i h
        refine o_iascr k0_1013 hc181 ?_
        refine o_aload_n k0_1014 rfl ?_
        refine o_iload_n k0_1015 rfl ?_
        refine o_iconst (v := 3) k0_1016 (by decide) ?_
        refine o_iadd k0_1017 ?_
        obtain ⟨hc182, h⟩ := ck_i h
        refine o_iascr k0_1018 hc182 ?_
        refine bd_i h (fun q183 hq183 h => ?_)
        refine o_call k0_1019 pj_206 (fun _ => rfl) (by decide) rfl (as := [.ref 43, .int (xs (x2 + 1).toNatClampNeg), .int (xs (x2 + 2).toNatClampNeg), .int (xs (x2 + 3).toNatClampNeg)]) (rest := [.int q179.1]) rfl (L0 := [some (.ref 43), some (.int (xs (x2 + 1).toNatClampNeg)), some (.int (xs (x2 + 2).toNatClampNeg)), some (.int (xs (x2 + 3).toNatClampNeg))]) rfl (t_X8_lay_43 hq183) ?_
        refine o_icmp_eq k0_1022 (fun hc184 => ?_) (fun hc184 => ?_)
        · rw [if_pos hc184] at h
          refine o_iinc (k := 5) (L' := [some (.ref 1000), some (.ref 0), some (.ref 43), some (.int (x2 + 5))]) k0_1116 rfl (by decide) rfl ?_
          refine o_goto k0_1119 ?_
          have h9 := Option.some.inj h
          subst h9
          exact hK
        · rw [if_neg hc184] at h
          refine o_iconst (v := 0) k0_1025 (by decide) ?_
          have h9 := Option.some.inj h
          subst h9
          have hK2 : (0, q183.2) = t := hK
          subst hK2
          exact o_iret pj_0 k0_1026 rfl (nr_z (by decide))
      rw [if_neg hx32_30] at h
      by_cases hx32_31 : ((xs x2.toNatClampNeg) &&& 63) = 31
      · rw [if_pos hx32_31] at h
        refine o_tswI (tgt := 1027) (off := 995) k0_32 (by rw [hx32_31]; decide) (by rw [hx32_31]; decide) (by rw [hx32_31]; decide) (by decide) ?_
        refine o_aload_n k0_1027 rfl ?_
        refine o_aload_n k0_1028 rfl ?_
        refine o_iload_n k0_1029 rfl ?_
        refine o_iconst (v := 1) k0_1030 (by decide) ?_
        refine o_iadd k0_1031 ?_
        obtain ⟨hc185, h⟩ := ck_i h
        refine o_iascr k0_1032 hc185 ?_
        refine o_aload_n k0_1033 rfl ?_
        refine o_iload_n k0_1034 rfl ?_
        refine o_iconst (v := 2) k0_1035 (by decide) ?_
        refine o_iadd k0_1036 ?_
        obtain ⟨hc186, h⟩ := ck_i h
        refine o_iascr k0_1037 hc186 ?_
        refine o_aload_n k0_1038 rfl ?_
        refine o_iload_n k0_1039 rfl ?_
        refine o_iconst (v := 3) k0_1040 (by decide) ?_
        refine o_iadd k0_1041 ?_
        obtain ⟨hc187, h⟩ := ck_i h
        refine o_iascr k0_1042 hc187 ?_
        refine o_aload_n k0_1043 rfl ?_
        refine o_iload_n k0_1044 rfl ?_
        refine o_iconst (v := 4) k0_1045 (by decide) ?_
        refine o_iadd k0_1046 ?_
        obtain ⟨hc188, h⟩ := ck_i h
        refine o_iascr k0_1047 hc188 ?_
        refine bd_i h (fun q189 hq189 h => ?_)
        refine o_call k0_1048 pj_116 (fun _ => rfl) (by decide) rfl (as := [.ref 0, .int (xs (x2 + 1).toNatClampNeg), .int (xs (x2 + 2).toNatClampNeg), .int (xs (x2 + 3).toNatClampNeg), .int (xs (x2 + 4).toNatClampNeg)]) (rest := []) rfl (L0 := [some (.ref 0), some (.int (xs (x2 + 1).toNatClampNeg)), some (.int (xs (x2 + 2).toNatClampNeg)), some (.int (xs (x2 + 3).toNatClampNeg)), some (.int (xs (x2 + 4).toNatClampNeg)), none, none, none, none, none]) rfl (t_X7_read_0 hq189) ?_
        refine o_aload_n k0_1051 rfl ?_
        refine o_aload_n k0_1052 rfl ?_
        refine o_iload_n k0_1053 rfl ?_
        refine o_iconst (v := 1) k0_1054 (by decide) ?_
        refine o_iadd k0_1055 ?_
        obtain ⟨hc190, h⟩ := ck_i h
        refine o_iascr k0_1056 hc190 ?_
        refine o_aload_n k0_1057 rfl ?_
        refine o_iload_n k0_1058 rfl ?_
        refine o_iconst (v := 2) k0_1059 (by decide) ?_
        refine o_iadd k0_1060 ?_
        obtain ⟨hc191, h⟩ := ck_i h
        refine o_iascr k0_1061 hc191 ?_
        refine o_aload_n k0_1062 rfl ?_
        refine o_iload_n k0_1063 rfl ?_
        refine o_iconst (v := 3) k0_1064 (by decide) ?_
        refine o_iadd k0_1065 ?_
        obtain ⟨hc192, h⟩ := ck_i h
        refine o_iascr k0_1066 hc192 ?_
        refine o_aload_n k0_1067 rfl ?_
        refine o_iload_n k0_1068 rfl ?_
        refine o_iconst (v := 4) k0_1069 (by decide) ?_
        refine o_iadd k0_1070 ?_
        obtain ⟨hc193, h⟩ := ck_i h
        refine o_iascr k0_1071 hc193 ?_
        refine bd_i h (fun q194 hq194 h => ?_)
        refine o_call k0_1072 pj_207 (fun _ => rfl) (by decide) rfl (as := [.ref 43, .int (xs (x2 + 1).toNatClampNeg), .int (xs (x2 + 2).toNatClampNeg), .int (xs (x2 + 3).toNatClampNeg), .int (xs (x2 + 4).toNatClampNeg)]) (rest := [.int q189.1]) rfl (L0 := [some (.ref 43), some (.int (xs (x2 + 1).toNatClampNeg)), some (.int (xs (x2 + 2).toNatClampNeg)), some (.int (xs (x2 + 3).toNatClampNeg)), some (.int (xs (x2 + 4).toNatClampNeg)), none, none, none, none, none, none]) rfl (t_X8_read_43 hq194) ?_
        refine o_icmp_eq k0_1075 (fun hc195 => ?_) (fun hc195 => ?_)
        · rw [if_pos hc195] at h
          refine o_iinc (k := 5) (L' := [some (.ref 1000), some (.ref 0), some (.ref 43), some (.int (x2 + 5))]) k0_1116 rfl (by decide) rfl ?_
          refine o_goto k0_1119 ?_
          have h9 := Option.some.inj h
          subst h9
          exact hK
        · rw [if_neg hc195] at h
          refine o_iconst (v := 0) k0_1078 (by decide) ?_
          have h9 := Option.some.inj h
          subst h9
          have hK2 : (0, q194.2) = t := hK
          subst hK2
          exact o_iret pj_0 k0_1079 rfl (nr_z (by decide))
      rw [if_neg hx32_31] at h
      by_cases hx32_32 : ((xs x2.toNatClampNeg) &&& 63) = 32
      · rw [if_pos hx32_32] at h
        refine o_tswI (tgt := 1080) (off := 1048) k0_32 (by rw [hx32_32]; decide) (by rw [hx32_32]; decide) (by rw [hx32_32]; decide) (by decide) ?_
        refine o_aload_n k0_1080 rfl ?_
        refine o_call k0_1081 pj_117 (fun _ => rfl) (by decide) rfl (as := [.ref 0]) (rest := []) rfl (L0 := [some (.ref 0)]) rfl (t_X7_torn_0 (M := M3) rfl) ?_
        refine o_aload_n k0_1084 rfl ?_
        refine o_call k0_1085 pj_208 (fun _ => rfl) (by decide) rfl (as := [.ref 43]) (rest := [.int (f_X7_torn_0 M3)]) rfl (L0 := [some (.ref 43)]) rfl (t_X8_torn_43 (M := M3) rfl) ?_
        refine o_icmp_eq k0_1088 (fun hc196 => ?_) (fun hc196 => ?_)
        · rw [if_pos hc196] at h
          refine o_iinc (k := 5) (L' := [some (.ref 1000), some (.ref 0), some (.ref 43), some (.int (x2 + 5))]) k0_1116 rfl (by decide) rfl ?_
          refine o_goto k0_1119 ?_
          have h9 := Option.some.inj h
          subst h9
          exact hK
        · rw [if_neg hc196] at h
          refine o_iconst (v := 0) k0_1091 (by decide) ?_
          have h9 := Option.some.inj h
          subst h9
          have hK2 : (0, M3) = t := hK
          subst hK2
          exact o_iret pj_0 k0_1092 rfl (nr_z (by decide))
      rw [if_neg hx32_32] at h
      by_cases hx32_33 : ((xs x2.toNatClampNeg) &&& 63) = 33
      · rw [if_pos hx32_33] at h
        refine o_tswI (tgt := 1093) (off := 1061) k0_32 (by rw [hx32_33]; decide) (by rw [hx32_33]; decide) (by rw [hx32_33]; decide) (by decide) ?_
        refine o_aload_n k0_1093 rfl ?_
        refine o_aload_n k0_1094 rfl ?_
        refine o_iload_n k0_1095 rfl ?_
        refine o_iconst (v := 1) k0_1096 (by decide) ?_
        refine o_iadd k0_1097 ?_
        obtain ⟨hc197, h⟩ := ck_i h
        refine o_iascr k0_1098 hc197 ?_
        refine bd_i h (fun v198 hv198 h => ?_)
        refine o_call k0_1099 pj_118 (fun _ => rfl) (by decide) rfl (as := [.ref 0, .int (xs (x2 + 1).toNatClampNeg)]) (rest := []) rfl (L0 := [some (.ref 0), some (.int (xs (x2 + 1).toNatClampNeg))]) rfl (t_X7_count_0 hv198) ?_
        refine o_aload_n k0_1102 rfl ?_
        refine o_aload_n k0_1103 rfl ?_
        refine o_iload_n k0_1104 rfl ?_
        refine o_iconst (v := 1) k0_1105 (by decide) ?_
        refine o_iadd k0_1106 ?_
        obtain ⟨hc199, h⟩ := ck_i h
        refine o_iascr k0_1107 hc199 ?_
        refine bd_i h (fun v200 hv200 h => ?_)
        refine o_call k0_1108 pj_211 (fun _ => rfl) (by decide) rfl (as := [.ref 43, .int (xs (x2 + 1).toNatClampNeg)]) (rest := [.int v198]) rfl (L0 := [some (.ref 43), some (.int (xs (x2 + 1).toNatClampNeg))]) rfl (t_X8_count_43 hv200) ?_
        refine o_icmp_eq k0_1111 (fun hc201 => ?_) (fun hc201 => ?_)
        · rw [if_pos hc201] at h
          refine o_iinc (k := 5) (L' := [some (.ref 1000), some (.ref 0), some (.ref 43), some (.int (x2 + 5))]) k0_1116 rfl (by decide) rfl ?_
          refine o_goto k0_1119 ?_
          have h9 := Option.some.inj h
          subst h9
          exact hK
        · rw [if_neg hc201] at h
          refine o_iconst (v := 0) k0_1114 (by decide) ?_
          have h9 := Option.some.inj h
          subst h9
          have hK2 : (0, M3) = t := hK
          subst hK2
          exact o_iret pj_0 k0_1115 rfl (nr_z (by decide))
      rw [if_neg hx32_33] at h
      refine o_tswD (tgt := 1116) k0_32 (by have n0 := ne_lit (k := 0) 0 (by decide) hx32_0; have n1 := ne_lit (k := 1) 1 (by decide) hx32_1; have n2 := ne_lit (k := 2) 2 (by decide) hx32_2; have n3 := ne_lit (k := 3) 3 (by decide) hx32_3; have n4 := ne_lit (k := 4) 4 (by decide) hx32_4; have n5 := ne_lit (k := 5) 5 (by decide) hx32_5; have n6 := ne_lit (k := 6) 6 (by decide) hx32_6; have n7 := ne_lit (k := 7) 7 (by decide) hx32_7; have n8 := ne_lit (k := 8) 8 (by decide) hx32_8; have n9 := ne_lit (k := 9) 9 (by decide) hx32_9; have n10 := ne_lit (k := 10) 10 (by decide) hx32_10; have n11 := ne_lit (k := 11) 11 (by decide) hx32_11; have n12 := ne_lit (k := 12) 12 (by decide) hx32_12; have n13 := ne_lit (k := 13) 13 (by decide) hx32_13; have n14 := ne_lit (k := 14) 14 (by decide) hx32_14; have n15 := ne_lit (k := 15) 15 (by decide) hx32_15; have n16 := ne_lit (k := 16) 16 (by decide) hx32_16; have n17 := ne_lit (k := 17) 17 (by decide) hx32_17; have n18 := ne_lit (k := 18) 18 (by decide) hx32_18; have n19 := ne_lit (k := 19) 19 (by decide) hx32_19; have n20 := ne_lit (k := 20) 20 (by decide) hx32_20; have n21 := ne_lit (k := 21) 21 (by decide) hx32_21; have n22 := ne_lit (k := 22) 22 (by decide) hx32_22; have n23 := ne_lit (k := 23) 23 (by decide) hx32_23; have n24 := ne_lit (k := 24) 24 (by decide) hx32_24; have n25 := ne_lit (k := 25) 25 (by decide) hx32_25; have n26 := ne_lit (k := 26) 26 (by decide) hx32_26; have n27 := ne_lit (k := 27) 27 (by decide) hx32_27; have n28 := ne_lit (k := 28) 28 (by decide) hx32_28; have n29 := ne_lit (k := 29) 29 (by decide) hx32_29; have n30 := ne_lit (k := 30) 30 (by decide) hx32_30; have n31 := ne_lit (k := 31) 31 (by decide) hx32_31; have n32 := ne_lit (k := 32) 32 (by decide) hx32_32; have n33 := ne_lit (k := 33) 33 (by decide) hx32_33; omega) (by decide) ?_
      refine o_iinc (k := 5) (L' := [some (.ref 1000), some (.ref 0), some (.ref 43), some (.int (x2 + 5))]) k0_1116 rfl (by decide) rfl ?_
      refine o_goto k0_1119 ?_
      have h9 := Option.some.inj h
      subst h9
      exact hK
  · rcases Os202 with u | ⟨x203, M204⟩
    · exact Option.some.inj h
    · show oo LN xs kc ks 0 1122 [some (.ref 1000), some (.ref 0), some (.ref 43), some (.int x203)] [] M204 (some (.int t.1), t.2)
      rw [el_r] at h
      dsimp only at h
      refine o_iconst (v := 1) k0_1122 (by decide) ?_
      have h9 := Option.some.inj h
      subst h9
      exact o_iret pj_0 k0_1123 rfl (nr_z (by decide))
