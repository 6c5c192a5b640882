set_option maxHeartbeats 4000000 in
set_option maxRecDepth 100000 in
theorem law_next {p : Program} {l : Launch} {e : Env} {s : State} {m : MethodId} {below : List Frame} {meth : Method} {c : Code} {b L : Nat} {xs : Nat → Int32} {D : va_G} {cy : ClassId × ClassId × ClassId} {i : Nat} (C0 : lw_At p s m meth c b L xs) (K : LwS p l e s m below meth c b D cy 18 (i + 4)) : LwS p l e s m below meth c b D cy 864 i := by
  obtain ⟨hx, hb, hr, hml, hown, hts0, hX, hbl, hlocks, hgv⟩ := C0
  unfold LwS at K ⊢
  intro aD aM aT aT_letters aP aQ aG aG_columns aG_lines aG_distances aG_weights aHd aHd_sums aR aR_order aR_places aHr aHr_sums aPi aS aS_lines aS_counts aPa aPa_known aI aI_dots aI_kept aM_told aM_draft aM_past aM_kept aM_isKept aM_seenLine aM_seenIs aM_rank aM_stage aM_text g shut free dots pd q8 q9 mb hh ds dd tp tn tt tv q1 q2 q3 q4 q5 q6 q7 th fi ba sx sy tz mn mg mz ga bd bc n k U tl cols lins dist wts sums order places hsu ln ct ik told dr mik mt ml mc rank stage known im past mk H locs ls hI hP hD hS hl
  refine lv_iinc (v := nI i + 4) (lv' := [(3, .int (nI i + 4)), (0, .ref b), (1, .ref aD), (2, .ref aM)]) hx hb dL_law_864 hl (k := 3) rfl rfl (by decide) rfl (fun ls hl => ?_)
  refine lv_goto (tgt := 18) hx hb dL_law_867 (by decide) ?_
  have e4 : nI i + 4 = nI (i + 4) := by rw [show (4 : Int32) = nI 4 from rfl, nI_add]
  rw [e4] at hl
  exact K aD aM aT aT_letters aP aQ aG aG_columns aG_lines aG_distances aG_weights aHd aHd_sums aR aR_order aR_places aHr aHr_sums aPi aS aS_lines aS_counts aPa aPa_known aI aI_dots aI_kept aM_told aM_draft aM_past aM_kept aM_isKept aM_seenLine aM_seenIs aM_rank aM_stage aM_text g shut free dots pd q8 q9 mb hh ds dd tp tn tt tv q1 q2 q3 q4 q5 q6 q7 th fi ba sx sy tz mn mg mz ga bd bc n k U tl cols lins dist wts sums order places hsu ln ct ik told dr mik mt ml mc rank stage known im past mk H locs ls hI hP hD hS (lv_sub hl [1, 2, 3, 0] rfl)
set_option maxHeartbeats 4000000 in
set_option maxRecDepth 100000 in
theorem law_turn {p : Program} {l : Launch} {e : Env} {s : State} {m : MethodId} {below : List Frame} {meth : Method} {c : Code} {b L : Nat} {xs : Nat → Int32} {D : va_G} {cy : ClassId × ClassId × ClassId} {i : Nat} (C0 : lw_At p s m meth c b L xs) (hk : KK D cy s) (hL : L ≤ 2048) (hi : i + 4 ≤ L) (K : LwS p l e s m below meth c b D cy 864 i) : LwS p l e s m below meth c b D cy 26 i := by
  obtain ⟨hx, hb, hr, hml, hown, hts0, hX, hbl, hlocks, hgv⟩ := id C0
  have hbA : ¬ (fun q : Nat => s.heap.size ≤ q) b := Nat.not_le.mpr hbl
  have K160 := arm_160 C0 hk hL hi K
  have K183 := arm_183 C0 hk hL hi K
  have K196 := arm_196 C0 hk hL hi K
  have K209 := arm_209 C0 hk hL hi K
  have K242 := arm_242 C0 hk hL hi K
  have K285 := arm_285 C0 hk hL hi K
  have K318 := arm_318 C0 hk hL hi K
  have K341 := arm_341 C0 hk hL hi K
  have K374 := arm_374 C0 hk hL hi K
  have K387 := arm_387 C0 hk hL hi K
  have K420 := arm_420 C0 hk hL hi K
  have K443 := arm_443 C0 hk hL hi K
  have K456 := arm_456 C0 hk hL hi K
  have K479 := arm_479 C0 hk hL hi K
  have K492 := arm_492 C0 hk hL hi K
  have K525 := arm_525 C0 hk hL hi K
  have K548 := arm_548 C0 hk hL hi K
  have K581 := arm_581 C0 hk hL hi K
  have K614 := arm_614 C0 hk hL hi K
  have K637 := arm_637 C0 hk hL hi K
  have K680 := arm_680 C0 hk hL hi K
  have K713 := arm_713 C0 hk hL hi K
  have K726 := arm_726 C0 hk hL hi K
  have K759 := arm_759 C0 hk hL hi K
  have K772 := arm_772 C0 hk hL hi K
  have K795 := arm_795 C0 hk hL hi K
  have K818 := arm_818 C0 hk hL hi K
  have K841 := arm_841 C0 hk hL hi K
  unfold LwS at K160 K183 K196 K209 K242 K285 K318 K341 K374 K387 K420 K443 K456 K479 K492 K525 K548 K581 K614 K637 K680 K713 K726 K759 K772 K795 K818 K841 K ⊢
  intro aD aM aT aT_letters aP aQ aG aG_columns aG_lines aG_distances aG_weights aHd aHd_sums aR aR_order aR_places aHr aHr_sums aPi aS aS_lines aS_counts aPa aPa_known aI aI_dots aI_kept aM_told aM_draft aM_past aM_kept aM_isKept aM_seenLine aM_seenIs aM_rank aM_stage aM_text g shut free dots pd q8 q9 mb hh ds dd tp tn tt tv q1 q2 q3 q4 q5 q6 q7 th fi ba sx sy tz mn mg mz ga bd bc n k U tl cols lins dist wts sums order places hsu ln ct ik told dr mik mt ml mc rank stage known im past mk H locs ls hI hP hD hS hl
  refine lv_aload_n hx hb dL_law_26 rfl (lv_at hl 0 rfl) ?_
  refine lv_iload_n hx hb dL_law_27 rfl (lv_at hl 3 rfl) ?_
  refine va_sld hx hb hX hbl hbA hS (vp_in_nI (by omega) (by omega)) dL_law_28 ?_
  refine lv_bipush (v := 31) hx hb dL_law_29 (by decide) ?_
  refine lv_iand hx hb dL_law_31 ?_
  generalize xs (nI i).toNatClampNeg &&& 31 = w
  by_cases hc0 : w = (0 : Int32)
  · refine lv_tableIn (off := 128) (tgt := 160) hx hb dL_law_32 (by rw [hc0]; decide) (by rw [hc0]; decide) (by rw [hc0]; rfl) (by decide) ?_
    exact K160 aD aM aT aT_letters aP aQ aG aG_columns aG_lines aG_distances aG_weights aHd aHd_sums aR aR_order aR_places aHr aHr_sums aPi aS aS_lines aS_counts aPa aPa_known aI aI_dots aI_kept aM_told aM_draft aM_past aM_kept aM_isKept aM_seenLine aM_seenIs aM_rank aM_stage aM_text g shut free dots pd q8 q9 mb hh ds dd tp tn tt tv q1 q2 q3 q4 q5 q6 q7 th fi ba sx sy tz mn mg mz ga bd bc n k U tl cols lins dist wts sums order places hsu ln ct ik told dr mik mt ml mc rank stage known im past mk H locs ls hI hP hD hS hl
  · skip
    by_cases hc1 : w = (1 : Int32)
    · refine lv_tableIn (off := 151) (tgt := 183) hx hb dL_law_32 (by rw [hc1]; decide) (by rw [hc1]; decide) (by rw [hc1]; rfl) (by decide) ?_
      exact K183 aD aM aT aT_letters aP aQ aG aG_columns aG_lines aG_distances aG_weights aHd aHd_sums aR aR_order aR_places aHr aHr_sums aPi aS aS_lines aS_counts aPa aPa_known aI aI_dots aI_kept aM_told aM_draft aM_past aM_kept aM_isKept aM_seenLine aM_seenIs aM_rank aM_stage aM_text g shut free dots pd q8 q9 mb hh ds dd tp tn tt tv q1 q2 q3 q4 q5 q6 q7 th fi ba sx sy tz mn mg mz ga bd bc n k U tl cols lins dist wts sums order places hsu ln ct ik told dr mik mt ml mc rank stage known im past mk H locs ls hI hP hD hS hl
    · skip
      by_cases hc2 : w = (2 : Int32)
      · refine lv_tableIn (off := 164) (tgt := 196) hx hb dL_law_32 (by rw [hc2]; decide) (by rw [hc2]; decide) (by rw [hc2]; rfl) (by decide) ?_
        exact K196 aD aM aT aT_letters aP aQ aG aG_columns aG_lines aG_distances aG_weights aHd aHd_sums aR aR_order aR_places aHr aHr_sums aPi aS aS_lines aS_counts aPa aPa_known aI aI_dots aI_kept aM_told aM_draft aM_past aM_kept aM_isKept aM_seenLine aM_seenIs aM_rank aM_stage aM_text g shut free dots pd q8 q9 mb hh ds dd tp tn tt tv q1 q2 q3 q4 q5 q6 q7 th fi ba sx sy tz mn mg mz ga bd bc n k U tl cols lins dist wts sums order places hsu ln ct ik told dr mik mt ml mc rank stage known im past mk H locs ls hI hP hD hS hl
      · skip
        by_cases hc3 : w = (3 : Int32)
        · refine lv_tableIn (off := 177) (tgt := 209) hx hb dL_law_32 (by rw [hc3]; decide) (by rw [hc3]; decide) (by rw [hc3]; rfl) (by decide) ?_
          exact K209 aD aM aT aT_letters aP aQ aG aG_columns aG_lines aG_distances aG_weights aHd aHd_sums aR aR_order aR_places aHr aHr_sums aPi aS aS_lines aS_counts aPa aPa_known aI aI_dots aI_kept aM_told aM_draft aM_past aM_kept aM_isKept aM_seenLine aM_seenIs aM_rank aM_stage aM_text g shut free dots pd q8 q9 mb hh ds dd tp tn tt tv q1 q2 q3 q4 q5 q6 q7 th fi ba sx sy tz mn mg mz ga bd bc n k U tl cols lins dist wts sums order places hsu ln ct ik told dr mik mt ml mc rank stage known im past mk H locs ls hI hP hD hS hl
        · skip
          by_cases hc4 : w = (4 : Int32)
          · refine lv_tableIn (off := 210) (tgt := 242) hx hb dL_law_32 (by rw [hc4]; decide) (by rw [hc4]; decide) (by rw [hc4]; rfl) (by decide) ?_
            exact K242 aD aM aT aT_letters aP aQ aG aG_columns aG_lines aG_distances aG_weights aHd aHd_sums aR aR_order aR_places aHr aHr_sums aPi aS aS_lines aS_counts aPa aPa_known aI aI_dots aI_kept aM_told aM_draft aM_past aM_kept aM_isKept aM_seenLine aM_seenIs aM_rank aM_stage aM_text g shut free dots pd q8 q9 mb hh ds dd tp tn tt tv q1 q2 q3 q4 q5 q6 q7 th fi ba sx sy tz mn mg mz ga bd bc n k U tl cols lins dist wts sums order places hsu ln ct ik told dr mik mt ml mc rank stage known im past mk H locs ls hI hP hD hS hl
          · skip
            by_cases hc5 : w = (5 : Int32)
            · refine lv_tableIn (off := 253) (tgt := 285) hx hb dL_law_32 (by rw [hc5]; decide) (by rw [hc5]; decide) (by rw [hc5]; rfl) (by decide) ?_
              exact K285 aD aM aT aT_letters aP aQ aG aG_columns aG_lines aG_distances aG_weights aHd aHd_sums aR aR_order aR_places aHr aHr_sums aPi aS aS_lines aS_counts aPa aPa_known aI aI_dots aI_kept aM_told aM_draft aM_past aM_kept aM_isKept aM_seenLine aM_seenIs aM_rank aM_stage aM_text g shut free dots pd q8 q9 mb hh ds dd tp tn tt tv q1 q2 q3 q4 q5 q6 q7 th fi ba sx sy tz mn mg mz ga bd bc n k U tl cols lins dist wts sums order places hsu ln ct ik told dr mik mt ml mc rank stage known im past mk H locs ls hI hP hD hS hl
            · skip
              by_cases hc6 : w = (6 : Int32)
              · refine lv_tableIn (off := 286) (tgt := 318) hx hb dL_law_32 (by rw [hc6]; decide) (by rw [hc6]; decide) (by rw [hc6]; rfl) (by decide) ?_
                exact K318 aD aM aT aT_letters aP aQ aG aG_columns aG_lines aG_distances aG_weights aHd aHd_sums aR aR_order aR_places aHr aHr_sums aPi aS aS_lines aS_counts aPa aPa_known aI aI_dots aI_kept aM_told aM_draft aM_past aM_kept aM_isKept aM_seenLine aM_seenIs aM_rank aM_stage aM_text g shut free dots pd q8 q9 mb hh ds dd tp tn tt tv q1 q2 q3 q4 q5 q6 q7 th fi ba sx sy tz mn mg mz ga bd bc n k U tl cols lins dist wts sums order places hsu ln ct ik told dr mik mt ml mc rank stage known im past mk H locs ls hI hP hD hS hl
              · skip
                by_cases hc7 : w = (7 : Int32)
                · refine lv_tableIn (off := 309) (tgt := 341) hx hb dL_law_32 (by rw [hc7]; decide) (by rw [hc7]; decide) (by rw [hc7]; rfl) (by decide) ?_
                  exact K341 aD aM aT aT_letters aP aQ aG aG_columns aG_lines aG_distances aG_weights aHd aHd_sums aR aR_order aR_places aHr aHr_sums aPi aS aS_lines aS_counts aPa aPa_known aI aI_dots aI_kept aM_told aM_draft aM_past aM_kept aM_isKept aM_seenLine aM_seenIs aM_rank aM_stage aM_text g shut free dots pd q8 q9 mb hh ds dd tp tn tt tv q1 q2 q3 q4 q5 q6 q7 th fi ba sx sy tz mn mg mz ga bd bc n k U tl cols lins dist wts sums order places hsu ln ct ik told dr mik mt ml mc rank stage known im past mk H locs ls hI hP hD hS hl
                · skip
                  by_cases hc8 : w = (8 : Int32)
                  · refine lv_tableIn (off := 342) (tgt := 374) hx hb dL_law_32 (by rw [hc8]; decide) (by rw [hc8]; decide) (by rw [hc8]; rfl) (by decide) ?_
                    exact K374 aD aM aT aT_letters aP aQ aG aG_columns aG_lines aG_distances aG_weights aHd aHd_sums aR aR_order aR_places aHr aHr_sums aPi aS aS_lines aS_counts aPa aPa_known aI aI_dots aI_kept aM_told aM_draft aM_past aM_kept aM_isKept aM_seenLine aM_seenIs aM_rank aM_stage aM_text g shut free dots pd q8 q9 mb hh ds dd tp tn tt tv q1 q2 q3 q4 q5 q6 q7 th fi ba sx sy tz mn mg mz ga bd bc n k U tl cols lins dist wts sums order places hsu ln ct ik told dr mik mt ml mc rank stage known im past mk H locs ls hI hP hD hS hl
                  · skip
                    by_cases hc9 : w = (9 : Int32)
                    · refine lv_tableIn (off := 355) (tgt := 387) hx hb dL_law_32 (by rw [hc9]; decide) (by rw [hc9]; decide) (by rw [hc9]; rfl) (by decide) ?_
                      exact K387 aD aM aT aT_letters aP aQ aG aG_columns aG_lines aG_distances aG_weights aHd aHd_sums aR aR_order aR_places aHr aHr_sums aPi aS aS_lines aS_counts aPa aPa_known aI aI_dots aI_kept aM_told aM_draft aM_past aM_kept aM_isKept aM_seenLine aM_seenIs aM_rank aM_stage aM_text g shut free dots pd q8 q9 mb hh ds dd tp tn tt tv q1 q2 q3 q4 q5 q6 q7 th fi ba sx sy tz mn mg mz ga bd bc n k U tl cols lins dist wts sums order places hsu ln ct ik told dr mik mt ml mc rank stage known im past mk H locs ls hI hP hD hS hl
                    · skip
                      by_cases hc10 : w = (10 : Int32)
                      · refine lv_tableIn (off := 388) (tgt := 420) hx hb dL_law_32 (by rw [hc10]; decide) (by rw [hc10]; decide) (by rw [hc10]; rfl) (by decide) ?_
                        exact K420 aD aM aT aT_letters aP aQ aG aG_columns aG_lines aG_distances aG_weights aHd aHd_sums aR aR_order aR_places aHr aHr_sums aPi aS aS_lines aS_counts aPa aPa_known aI aI_dots aI_kept aM_told aM_draft aM_past aM_kept aM_isKept aM_seenLine aM_seenIs aM_rank aM_stage aM_text g shut free dots pd q8 q9 mb hh ds dd tp tn tt tv q1 q2 q3 q4 q5 q6 q7 th fi ba sx sy tz mn mg mz ga bd bc n k U tl cols lins dist wts sums order places hsu ln ct ik told dr mik mt ml mc rank stage known im past mk H locs ls hI hP hD hS hl
                      · skip
                        by_cases hc11 : w = (11 : Int32)
                        · refine lv_tableIn (off := 411) (tgt := 443) hx hb dL_law_32 (by rw [hc11]; decide) (by rw [hc11]; decide) (by rw [hc11]; rfl) (by decide) ?_
                          exact K443 aD aM aT aT_letters aP aQ aG aG_columns aG_lines aG_distances aG_weights aHd aHd_sums aR aR_order aR_places aHr aHr_sums aPi aS aS_lines aS_counts aPa aPa_known aI aI_dots aI_kept aM_told aM_draft aM_past aM_kept aM_isKept aM_seenLine aM_seenIs aM_rank aM_stage aM_text g shut free dots pd q8 q9 mb hh ds dd tp tn tt tv q1 q2 q3 q4 q5 q6 q7 th fi ba sx sy tz mn mg mz ga bd bc n k U tl cols lins dist wts sums order places hsu ln ct ik told dr mik mt ml mc rank stage known im past mk H locs ls hI hP hD hS hl
                        · skip
                          by_cases hc12 : w = (12 : Int32)
                          · refine lv_tableIn (off := 424) (tgt := 456) hx hb dL_law_32 (by rw [hc12]; decide) (by rw [hc12]; decide) (by rw [hc12]; rfl) (by decide) ?_
                            exact K456 aD aM aT aT_letters aP aQ aG aG_columns aG_lines aG_distances aG_weights aHd aHd_sums aR aR_order aR_places aHr aHr_sums aPi aS aS_lines aS_counts aPa aPa_known aI aI_dots aI_kept aM_told aM_draft aM_past aM_kept aM_isKept aM_seenLine aM_seenIs aM_rank aM_stage aM_text g shut free dots pd q8 q9 mb hh ds dd tp tn tt tv q1 q2 q3 q4 q5 q6 q7 th fi ba sx sy tz mn mg mz ga bd bc n k U tl cols lins dist wts sums order places hsu ln ct ik told dr mik mt ml mc rank stage known im past mk H locs ls hI hP hD hS hl
                          · skip
                            by_cases hc13 : w = (13 : Int32)
                            · refine lv_tableIn (off := 447) (tgt := 479) hx hb dL_law_32 (by rw [hc13]; decide) (by rw [hc13]; decide) (by rw [hc13]; rfl) (by decide) ?_
                              exact K479 aD aM aT aT_letters aP aQ aG aG_columns aG_lines aG_distances aG_weights aHd aHd_sums aR aR_order aR_places aHr aHr_sums aPi aS aS_lines aS_counts aPa aPa_known aI aI_dots aI_kept aM_told aM_draft aM_past aM_kept aM_isKept aM_seenLine aM_seenIs aM_rank aM_stage aM_text g shut free dots pd q8 q9 mb hh ds dd tp tn tt tv q1 q2 q3 q4 q5 q6 q7 th fi ba sx sy tz mn mg mz ga bd bc n k U tl cols lins dist wts sums order places hsu ln ct ik told dr mik mt ml mc rank stage known im past mk H locs ls hI hP hD hS hl
                            · skip
                              by_cases hc14 : w = (14 : Int32)
                              · refine lv_tableIn (off := 460) (tgt := 492) hx hb dL_law_32 (by rw [hc14]; decide) (by rw [hc14]; decide) (by rw [hc14]; rfl) (by decide) ?_
                                exact K492 aD aM aT aT_letters aP aQ aG aG_columns aG_lines aG_distances aG_weights aHd aHd_sums aR aR_order aR_places aHr aHr_sums aPi aS aS_lines aS_counts aPa aPa_known aI aI_dots aI_kept aM_told aM_draft aM_past aM_kept aM_isKept aM_seenLine aM_seenIs aM_rank aM_stage aM_text g shut free dots pd q8 q9 mb hh ds dd tp tn tt tv q1 q2 q3 q4 q5 q6 q7 th fi ba sx sy tz mn mg mz ga bd bc n k U tl cols lins dist wts sums order places hsu ln ct ik told dr mik mt ml mc rank stage known im past mk H locs ls hI hP hD hS hl
                              · skip
                                by_cases hc15 : w = (15 : Int32)
                                · refine lv_tableIn (off := 493) (tgt := 525) hx hb dL_law_32 (by rw [hc15]; decide) (by rw [hc15]; decide) (by rw [hc15]; rfl) (by decide) ?_
                                  exact K525 aD aM aT aT_letters aP aQ aG aG_columns aG_lines aG_distances aG_weights aHd aHd_sums aR aR_order aR_places aHr aHr_sums aPi aS aS_lines aS_counts aPa aPa_known aI aI_dots aI_kept aM_told aM_draft aM_past aM_kept aM_isKept aM_seenLine aM_seenIs aM_rank aM_stage aM_text g shut free dots pd q8 q9 mb hh ds dd tp tn tt tv q1 q2 q3 q4 q5 q6 q7 th fi ba sx sy tz mn mg mz ga bd bc n k U tl cols lins dist wts sums order places hsu ln ct ik told dr mik mt ml mc rank stage known im past mk H locs ls hI hP hD hS hl
                                · skip
                                  by_cases hc16 : w = (16 : Int32)
                                  · refine lv_tableIn (off := 516) (tgt := 548) hx hb dL_law_32 (by rw [hc16]; decide) (by rw [hc16]; decide) (by rw [hc16]; rfl) (by decide) ?_
                                    exact K548 aD aM aT aT_letters aP aQ aG aG_columns aG_lines aG_distances aG_weights aHd aHd_sums aR aR_order aR_places aHr aHr_sums aPi aS aS_lines aS_counts aPa aPa_known aI aI_dots aI_kept aM_told aM_draft aM_past aM_kept aM_isKept aM_seenLine aM_seenIs aM_rank aM_stage aM_text g shut free dots pd q8 q9 mb hh ds dd tp tn tt tv q1 q2 q3 q4 q5 q6 q7 th fi ba sx sy tz mn mg mz ga bd bc n k U tl cols lins dist wts sums order places hsu ln ct ik told dr mik mt ml mc rank stage known im past mk H locs ls hI hP hD hS hl
                                  · skip
                                    by_cases hc17 : w = (17 : Int32)
                                    · refine lv_tableIn (off := 549) (tgt := 581) hx hb dL_law_32 (by rw [hc17]; decide) (by rw [hc17]; decide) (by rw [hc17]; rfl) (by decide) ?_
                                      exact K581 aD aM aT aT_letters aP aQ aG aG_columns aG_lines aG_distances aG_weights aHd aHd_sums aR aR_order aR_places aHr aHr_sums aPi aS aS_lines aS_counts aPa aPa_known aI aI_dots aI_kept aM_told aM_draft aM_past aM_kept aM_isKept aM_seenLine aM_seenIs aM_rank aM_stage aM_text g shut free dots pd q8 q9 mb hh ds dd tp tn tt tv q1 q2 q3 q4 q5 q6 q7 th fi ba sx sy tz mn mg mz ga bd bc n k U tl cols lins dist wts sums order places hsu ln ct ik told dr mik mt ml mc rank stage known im past mk H locs ls hI hP hD hS hl
                                    · skip
                                      by_cases hc18 : w = (18 : Int32)
                                      · refine lv_tableIn (off := 582) (tgt := 614) hx hb dL_law_32 (by rw [hc18]; decide) (by rw [hc18]; decide) (by rw [hc18]; rfl) (by decide) ?_
                                        exact K614 aD aM aT aT_letters aP aQ aG aG_columns aG_lines aG_distances aG_weights aHd aHd_sums aR aR_order aR_places aHr aHr_sums aPi aS aS_lines aS_counts aPa aPa_known aI aI_dots aI_kept aM_told aM_draft aM_past aM_kept aM_isKept aM_seenLine aM_seenIs aM_rank aM_stage aM_text g shut free dots pd q8 q9 mb hh ds dd tp tn tt tv q1 q2 q3 q4 q5 q6 q7 th fi ba sx sy tz mn mg mz ga bd bc n k U tl cols lins dist wts sums order places hsu ln ct ik told dr mik mt ml mc rank stage known im past mk H locs ls hI hP hD hS hl
                                      · skip
                                        by_cases hc19 : w = (19 : Int32)
                                        · refine lv_tableIn (off := 605) (tgt := 637) hx hb dL_law_32 (by rw [hc19]; decide) (by rw [hc19]; decide) (by rw [hc19]; rfl) (by decide) ?_
                                          exact K637 aD aM aT aT_letters aP aQ aG aG_columns aG_lines aG_distances aG_weights aHd aHd_sums aR aR_order aR_places aHr aHr_sums aPi aS aS_lines aS_counts aPa aPa_known aI aI_dots aI_kept aM_told aM_draft aM_past aM_kept aM_isKept aM_seenLine aM_seenIs aM_rank aM_stage aM_text g shut free dots pd q8 q9 mb hh ds dd tp tn tt tv q1 q2 q3 q4 q5 q6 q7 th fi ba sx sy tz mn mg mz ga bd bc n k U tl cols lins dist wts sums order places hsu ln ct ik told dr mik mt ml mc rank stage known im past mk H locs ls hI hP hD hS hl
                                        · skip
                                          by_cases hc20 : w = (20 : Int32)
                                          · refine lv_tableIn (off := 648) (tgt := 680) hx hb dL_law_32 (by rw [hc20]; decide) (by rw [hc20]; decide) (by rw [hc20]; rfl) (by decide) ?_
                                            exact K680 aD aM aT aT_letters aP aQ aG aG_columns aG_lines aG_distances aG_weights aHd aHd_sums aR aR_order aR_places aHr aHr_sums aPi aS aS_lines aS_counts aPa aPa_known aI aI_dots aI_kept aM_told aM_draft aM_past aM_kept aM_isKept aM_seenLine aM_seenIs aM_rank aM_stage aM_text g shut free dots pd q8 q9 mb hh ds dd tp tn tt tv q1 q2 q3 q4 q5 q6 q7 th fi ba sx sy tz mn mg mz ga bd bc n k U tl cols lins dist wts sums order places hsu ln ct ik told dr mik mt ml mc rank stage known im past mk H locs ls hI hP hD hS hl
                                          · skip
                                            by_cases hc21 : w = (21 : Int32)
                                            · refine lv_tableIn (off := 681) (tgt := 713) hx hb dL_law_32 (by rw [hc21]; decide) (by rw [hc21]; decide) (by rw [hc21]; rfl) (by decide) ?_
                                              exact K713 aD aM aT aT_letters aP aQ aG aG_columns aG_lines aG_distances aG_weights aHd aHd_sums aR aR_order aR_places aHr aHr_sums aPi aS aS_lines aS_counts aPa aPa_known aI aI_dots aI_kept aM_told aM_draft aM_past aM_kept aM_isKept aM_seenLine aM_seenIs aM_rank aM_stage aM_text g shut free dots pd q8 q9 mb hh ds dd tp tn tt tv q1 q2 q3 q4 q5 q6 q7 th fi ba sx sy tz mn mg mz ga bd bc n k U tl cols lins dist wts sums order places hsu ln ct ik told dr mik mt ml mc rank stage known im past mk H locs ls hI hP hD hS hl
                                            · skip
                                              by_cases hc22 : w = (22 : Int32)
                                              · refine lv_tableIn (off := 694) (tgt := 726) hx hb dL_law_32 (by rw [hc22]; decide) (by rw [hc22]; decide) (by rw [hc22]; rfl) (by decide) ?_
                                                exact K726 aD aM aT aT_letters aP aQ aG aG_columns aG_lines aG_distances aG_weights aHd aHd_sums aR aR_order aR_places aHr aHr_sums aPi aS aS_lines aS_counts aPa aPa_known aI aI_dots aI_kept aM_told aM_draft aM_past aM_kept aM_isKept aM_seenLine aM_seenIs aM_rank aM_stage aM_text g shut free dots pd q8 q9 mb hh ds dd tp tn tt tv q1 q2 q3 q4 q5 q6 q7 th fi ba sx sy tz mn mg mz ga bd bc n k U tl cols lins dist wts sums order places hsu ln ct ik told dr mik mt ml mc rank stage known im past mk H locs ls hI hP hD hS hl
                                              · skip
                                                by_cases hc23 : w = (23 : Int32)
                                                · refine lv_tableIn (off := 727) (tgt := 759) hx hb dL_law_32 (by rw [hc23]; decide) (by rw [hc23]; decide) (by rw [hc23]; rfl) (by decide) ?_
                                                  exact K759 aD aM aT aT_letters aP aQ aG aG_columns aG_lines aG_distances aG_weights aHd aHd_sums aR aR_order aR_places aHr aHr_sums aPi aS aS_lines aS_counts aPa aPa_known aI aI_dots aI_kept aM_told aM_draft aM_past aM_kept aM_isKept aM_seenLine aM_seenIs aM_rank aM_stage aM_text g shut free dots pd q8 q9 mb hh ds dd tp tn tt tv q1 q2 q3 q4 q5 q6 q7 th fi ba sx sy tz mn mg mz ga bd bc n k U tl cols lins dist wts sums order places hsu ln ct ik told dr mik mt ml mc rank stage known im past mk H locs ls hI hP hD hS hl
                                                · skip
                                                  by_cases hc24 : w = (24 : Int32)
                                                  · refine lv_tableIn (off := 740) (tgt := 772) hx hb dL_law_32 (by rw [hc24]; decide) (by rw [hc24]; decide) (by rw [hc24]; rfl) (by decide) ?_
                                                    exact K772 aD aM aT aT_letters aP aQ aG aG_columns aG_lines aG_distances aG_weights aHd aHd_sums aR aR_order aR_places aHr aHr_sums aPi aS aS_lines aS_counts aPa aPa_known aI aI_dots aI_kept aM_told aM_draft aM_past aM_kept aM_isKept aM_seenLine aM_seenIs aM_rank aM_stage aM_text g shut free dots pd q8 q9 mb hh ds dd tp tn tt tv q1 q2 q3 q4 q5 q6 q7 th fi ba sx sy tz mn mg mz ga bd bc n k U tl cols lins dist wts sums order places hsu ln ct ik told dr mik mt ml mc rank stage known im past mk H locs ls hI hP hD hS hl
                                                  · skip
                                                    by_cases hc25 : w = (25 : Int32)
                                                    · refine lv_tableIn (off := 763) (tgt := 795) hx hb dL_law_32 (by rw [hc25]; decide) (by rw [hc25]; decide) (by rw [hc25]; rfl) (by decide) ?_
                                                      exact K795 aD aM aT aT_letters aP aQ aG aG_columns aG_lines aG_distances aG_weights aHd aHd_sums aR aR_order aR_places aHr aHr_sums aPi aS aS_lines aS_counts aPa aPa_known aI aI_dots aI_kept aM_told aM_draft aM_past aM_kept aM_isKept aM_seenLine aM_seenIs aM_rank aM_stage aM_text g shut free dots pd q8 q9 mb hh ds dd tp tn tt tv q1 q2 q3 q4 q5 q6 q7 th fi ba sx sy tz mn mg mz ga bd bc n k U tl cols lins dist wts sums order places hsu ln ct ik told dr mik mt ml mc rank stage known im past mk H locs ls hI hP hD hS hl
                                                    · skip
                                                      by_cases hc26 : w = (26 : Int32)
                                                      · refine lv_tableIn (off := 786) (tgt := 818) hx hb dL_law_32 (by rw [hc26]; decide) (by rw [hc26]; decide) (by rw [hc26]; rfl) (by decide) ?_
                                                        exact K818 aD aM aT aT_letters aP aQ aG aG_columns aG_lines aG_distances aG_weights aHd aHd_sums aR aR_order aR_places aHr aHr_sums aPi aS aS_lines aS_counts aPa aPa_known aI aI_dots aI_kept aM_told aM_draft aM_past aM_kept aM_isKept aM_seenLine aM_seenIs aM_rank aM_stage aM_text g shut free dots pd q8 q9 mb hh ds dd tp tn tt tv q1 q2 q3 q4 q5 q6 q7 th fi ba sx sy tz mn mg mz ga bd bc n k U tl cols lins dist wts sums order places hsu ln ct ik told dr mik mt ml mc rank stage known im past mk H locs ls hI hP hD hS hl
                                                      · skip
                                                        by_cases hc27 : w = (27 : Int32)
                                                        · refine lv_tableIn (off := 809) (tgt := 841) hx hb dL_law_32 (by rw [hc27]; decide) (by rw [hc27]; decide) (by rw [hc27]; rfl) (by decide) ?_
                                                          exact K841 aD aM aT aT_letters aP aQ aG aG_columns aG_lines aG_distances aG_weights aHd aHd_sums aR aR_order aR_places aHr aHr_sums aPi aS aS_lines aS_counts aPa aPa_known aI aI_dots aI_kept aM_told aM_draft aM_past aM_kept aM_isKept aM_seenLine aM_seenIs aM_rank aM_stage aM_text g shut free dots pd q8 q9 mb hh ds dd tp tn tt tv q1 q2 q3 q4 q5 q6 q7 th fi ba sx sy tz mn mg mz ga bd bc n k U tl cols lins dist wts sums order places hsu ln ct ik told dr mik mt ml mc rank stage known im past mk H locs ls hI hP hD hS hl
                                                        · skip
                                                          have hn0 := lv_neT (a := 0) hc0 (by decide)
                                                          have hn1 := lv_neT (a := 1) hc1 (by decide)
                                                          have hn2 := lv_neT (a := 2) hc2 (by decide)
                                                          have hn3 := lv_neT (a := 3) hc3 (by decide)
                                                          have hn4 := lv_neT (a := 4) hc4 (by decide)
                                                          have hn5 := lv_neT (a := 5) hc5 (by decide)
                                                          have hn6 := lv_neT (a := 6) hc6 (by decide)
                                                          have hn7 := lv_neT (a := 7) hc7 (by decide)
                                                          have hn8 := lv_neT (a := 8) hc8 (by decide)
                                                          have hn9 := lv_neT (a := 9) hc9 (by decide)
                                                          have hn10 := lv_neT (a := 10) hc10 (by decide)
                                                          have hn11 := lv_neT (a := 11) hc11 (by decide)
                                                          have hn12 := lv_neT (a := 12) hc12 (by decide)
                                                          have hn13 := lv_neT (a := 13) hc13 (by decide)
                                                          have hn14 := lv_neT (a := 14) hc14 (by decide)
                                                          have hn15 := lv_neT (a := 15) hc15 (by decide)
                                                          have hn16 := lv_neT (a := 16) hc16 (by decide)
                                                          have hn17 := lv_neT (a := 17) hc17 (by decide)
                                                          have hn18 := lv_neT (a := 18) hc18 (by decide)
                                                          have hn19 := lv_neT (a := 19) hc19 (by decide)
                                                          have hn20 := lv_neT (a := 20) hc20 (by decide)
                                                          have hn21 := lv_neT (a := 21) hc21 (by decide)
                                                          have hn22 := lv_neT (a := 22) hc22 (by decide)
                                                          have hn23 := lv_neT (a := 23) hc23 (by decide)
                                                          have hn24 := lv_neT (a := 24) hc24 (by decide)
                                                          have hn25 := lv_neT (a := 25) hc25 (by decide)
                                                          have hn26 := lv_neT (a := 26) hc26 (by decide)
                                                          have hn27 := lv_neT (a := 27) hc27 (by decide)
                                                          refine lv_tableOut (tgt := 864) hx hb dL_law_32 (by omega) (by decide) ?_
                                                          exact K aD aM aT aT_letters aP aQ aG aG_columns aG_lines aG_distances aG_weights aHd aHd_sums aR aR_order aR_places aHr aHr_sums aPi aS aS_lines aS_counts aPa aPa_known aI aI_dots aI_kept aM_told aM_draft aM_past aM_kept aM_isKept aM_seenLine aM_seenIs aM_rank aM_stage aM_text g shut free dots pd q8 q9 mb hh ds dd tp tn tt tv q1 q2 q3 q4 q5 q6 q7 th fi ba sx sy tz mn mg mz ga bd bc n k U tl cols lins dist wts sums order places hsu ln ct ik told dr mik mt ml mc rank stage known im past mk H locs ls hI hP hD hS hl
set_option maxHeartbeats 4000000 in
set_option maxRecDepth 100000 in
theorem law_loop {p : Program} {l : Launch} {e : Env} {s : State} {m : MethodId} {below : List Frame} {meth : Method} {c : Code} {b L : Nat} {xs : Nat → Int32} {D : va_G} {cy : ClassId × ClassId × ClassId} (C0 : lw_At p s m meth c b L xs) (hk : KK D cy s) (hL : L ≤ 2048) : ∀ (N i : Nat), i ≤ L → L + 1 ≤ i + N → LwS p l e s m below meth c b D cy 18 i := by
  intro N
  induction N with
  | zero =>
    intro i h1 h2
    exact absurd h2 (by omega)
  | succ N ih =>
    intro i h1 h2
    have T : i + 4 ≤ L → LwS p l e s m below meth c b D cy 26 i := fun h4 => law_turn C0 hk hL h4 (law_next C0 (ih (i + 4) h4 (by omega)))
    obtain ⟨hx, hb, hr, hml, hown, hts0, hX, hbl, hlocks, hgv⟩ := id C0
    have hbA : ¬ (fun q : Nat => s.heap.size ≤ q) b := Nat.not_le.mpr hbl
    unfold LwS at T ⊢
    intro aD aM aT aT_letters aP aQ aG aG_columns aG_lines aG_distances aG_weights aHd aHd_sums aR aR_order aR_places aHr aHr_sums aPi aS aS_lines aS_counts aPa aPa_known aI aI_dots aI_kept aM_told aM_draft aM_past aM_kept aM_isKept aM_seenLine aM_seenIs aM_rank aM_stage aM_text g shut free dots pd q8 q9 mb hh ds dd tp tn tt tv q1 q2 q3 q4 q5 q6 q7 th fi ba sx sy tz mn mg mz ga bd bc n k U tl cols lins dist wts sums order places hsu ln ct ik told dr mik mt ml mc rank stage known im past mk H locs ls hI hP hD hS hl
    refine lv_iload_n hx hb dL_law_18 rfl (lv_at hl 3 rfl) ?_
    refine lv_aload_n hx hb dL_law_19 rfl (lv_at hl 0 rfl) ?_
    refine va_slen hx hb hX hbl hbA hS dL_law_20 ?_
    refine lv_iconst (v := 4) hx hb dL_law_21 (by decide) ?_
    refine lv_isub hx hb dL_law_22 ?_
    have eI : (nI i).toInt = i := nI_toInt (by omega)
    have eL : (Int32.ofNat L - 4).toInt = L - 4 := pk_sub_toInt (a := L) (b := 4) (by omega) (by decide)
    refine lv_icmp_gt (tgt := 870) hx hb dL_law_23 (by decide) (fun c9 => ?_) (fun c9 => ?_)
    · refine lv_iconst (v := 1) hx hb dL_law_870 (by decide) ?_
      refine va_forget (fun q hq => hS.2.2 q hq) ?_
      exact lw_ret hx hb hr hlocks dL_law_871
    · have h4 : i + 4 ≤ L := by
        rw [Int32.lt_iff_toInt_lt, eI, eL] at c9
        omega
      exact T h4 aD aM aT aT_letters aP aQ aG aG_columns aG_lines aG_distances aG_weights aHd aHd_sums aR aR_order aR_places aHr aHr_sums aPi aS aS_lines aS_counts aPa aPa_known aI aI_dots aI_kept aM_told aM_draft aM_past aM_kept aM_isKept aM_seenLine aM_seenIs aM_rank aM_stage aM_text g shut free dots pd q8 q9 mb hh ds dd tp tn tt tv q1 q2 q3 q4 q5 q6 q7 th fi ba sx sy tz mn mg mz ga bd bc n k U tl cols lins dist wts sums order places hsu ln ct ik told dr mik mt ml mc rank stage known im past mk H locs ls hI hP hD hS hl
