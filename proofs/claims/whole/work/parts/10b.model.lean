def f_X10_cells (m_told : Nat → Int32) : Option (Int32) := if inb (0 : Int32) 7 = true then (if inb (1 : Int32) 7 = true then (some ((m_told (0 : Int32).toNatClampNeg) * (m_told (1 : Int32).toNatClampNeg))) else none) else none
theorem ok_X10_cells : OkV yX10_cells cX10_cells 1 (some Jvm.ClassFile.FieldType.int) 0 := ⟨⟨tw_934, tw_13, by decide +kernel, by decide +kernel, by decide +kernel⟩, tw_933, tp_38⟩
set_option maxHeartbeats 4000000 in
set_option maxRecDepth 100000 in
theorem c_X10_cells (l : Launch) (D : va_G) (cy : ClassId × ClassId × ClassId) (H0 : Heap) (aM aM_told aM_draft aM_past aM_kept aM_isKept aM_seenLine aM_seenIs aM_rank aM_stage aM_text : Nat) (m_thrown : Int32) (m_shut : Int64) (m_dots : Int64) (m_draftShut : Int64) (m_draftDots : Int64) (m_undos : Int32) (m_base : Int32) (m_slopeX : Int32) (m_slopeY : Int32) (m_seen : Int32) (m_letters : Int32) (m_next : Int32) (m_begin : Int32) (m_token : Int32) (m_gain : Int32) (m_bestDot : Int32) (m_bestCell : Int32) (m_told : Nat → Int32) (r : Int32) (hP : va_P D vwCl [(aM, .inr (10, [.int m_thrown, .ref aM_told, .ref aM_draft, .long m_shut, .long m_dots, .long m_draftShut, .long m_draftDots, .int m_undos, .ref aM_past, .ref aM_kept, .ref aM_isKept, .int m_base, .int m_slopeX, .int m_slopeY, .int m_seen, .ref aM_seenLine, .ref aM_seenIs, .ref aM_rank, .ref aM_stage, .int m_letters, .ref aM_text, .int m_next, .int m_begin, .int m_token, .int m_gain, .int m_bestDot, .int m_bestCell])), (aM_told, .inl (cy.1, 7, .inl m_told))] H0) (hf : f_X10_cells m_told = some r) : Rd l yX10_cells cX10_cells 1 (some Jvm.ClassFile.FieldType.int) ({ frames := 0, cells := 0, slots := 0, locals := 0 } : Room) ([.ref aM] : List Value) (some (.int r)) D cy H0 := by
  refine rd_of (by decide +kernel) (Nat.le_of_ble_eq_true rfl) ?_
  intro p e s m below meth c ls S hr hlocks hk hl
  obtain ⟨hx, hb, hml, hown, hts⟩ := id S
  have hl : lv_has ls 1 [(0, .ref aM)] := hl
  rw [f_X10_cells] at hf
  refine lv_aload_n hx hb dX10_cells_0 rfl (lv_at hl 0 rfl) ?_
  refine va_get (D := D) (ci := 10) (v := .ref aM_told) (C := RX10) (T := TX10) (N := 27) hx hb hts iX10 hown hk.1 hP 0 rfl rfl 1 (by decide) (hts _ tw_784) (fun _ h9 => h9) rfl dX10_cells_1 ?_
  refine lv_iconst (v := (0 : Int32)) hx hb dX10_cells_4 (by decide) ?_
  obtain ⟨hi, hf⟩ := q_in hf
  refine va_iald hx hb hk.1 hP 1 0 rfl rfl hi dX10_cells_5 ?_
  refine lv_aload_n hx hb dX10_cells_6 rfl (lv_at hl 0 rfl) ?_
  refine va_get (D := D) (ci := 10) (v := .ref aM_told) (C := RX10) (T := TX10) (N := 27) hx hb hts iX10 hown hk.1 hP 0 rfl rfl 1 (by decide) (hts _ tw_784) (fun _ h9 => h9) rfl dX10_cells_7 ?_
  refine lv_iconst (v := (1 : Int32)) hx hb dX10_cells_10 (by decide) ?_
  obtain ⟨hi, hf⟩ := q_in hf
  refine va_iald hx hb hk.1 hP 1 0 rfl rfl hi dX10_cells_11 ?_
  refine lv_imul hx hb dX10_cells_12 ?_
  have hf := Option.some.inj hf
  subst hf
  exact q_riR hx hb hr hlocks dX10_cells_13
def j_X10_round_14 (x2 : Int32) (k0 : Int32) : Option (Int32) := if (x2 - k0) ≤ k0 then (some (x2 - k0)) else (some k0)
def f_X10_round (x0 : Int32) (x1 : Int32) (x2 : Int32) : Option (Int32) := if x0 ≤ x1 then (j_X10_round_14 x2 (x1 - x0)) else (j_X10_round_14 x2 (x0 - x1))
theorem ok_X10_round : OkS yX10_round cX10_round 4 (some Jvm.ClassFile.FieldType.int) 3 := ⟨⟨tw_941, tw_13, by decide +kernel, by decide +kernel, by decide +kernel⟩, tw_940⟩
set_option maxHeartbeats 4000000 in
set_option maxRecDepth 100000 in
theorem c_X10_round (l : Launch) (D : va_G) (cy : ClassId × ClassId × ClassId) (H0 : Heap) (x0 : Int32) (x1 : Int32) (x2 : Int32) (r : Int32) (hf : f_X10_round x0 x1 x2 = some r) : Rd l yX10_round cX10_round 4 (some Jvm.ClassFile.FieldType.int) ({ frames := 0, cells := 0, slots := 0, locals := 0 } : Room) ([.int x0, .int x1, .int x2] : List Value) (some (.int r)) D cy H0 := by
  refine rd_of (by decide +kernel) (Nat.le_of_ble_eq_true rfl) ?_
  intro p e s m below meth c ls S hr hlocks hk hl
  obtain ⟨hx, hb, hml, hown, hts⟩ := id S
  have hl : lv_has ls 4 [(0, .int x0), (1, .int x1), (2, .int x2)] := hl
  rw [f_X10_round] at hf
  have J14 : ∀ (k0 : Int32) (ls : Array Slot), lv_has ls 4 [(2, .int x2)] → j_X10_round_14 x2 k0 = some r → W p l e ({ frames := 0, cells := 0, slots := 0, locals := 0 } : Room) s m ([.int x0, .int x1, .int x2] : List Value).toArray below meth c H0 [] 0 0 (MQ below (QR (some (.int r)) H0) ([.int x0, .int x1, .int x2] : List Value).toArray s 0 0 (fun _ => False)) (F0 m 14 ls [.int k0]) := by
    intro k0 ls hl hf
    rw [j_X10_round_14] at hf
    refine lv_istore_n (lv' := [(3, .int k0), (2, .int x2)]) hx hb dX10_round_14 rfl hl (by decide) rfl (fun ls hl => ?_)
    refine lv_iload_n hx hb dX10_round_15 rfl (lv_at hl 0 rfl) ?_
    refine lv_iload_n hx hb dX10_round_16 rfl (lv_at hl 1 rfl) ?_
    refine lv_iload_n hx hb dX10_round_17 rfl (lv_at hl 0 rfl) ?_
    refine lv_isub hx hb dX10_round_18 ?_
    refine lv_icmp_ge (tgt := 26) hx hb dX10_round_19 (by decide) (fun hc => ?_) (fun hc => ?_)
    · have hf := q_t hc hf
      refine lv_iload_n hx hb dX10_round_26 rfl (lv_at hl 1 rfl) ?_
      refine lv_iload_n hx hb dX10_round_27 rfl (lv_at hl 0 rfl) ?_
      refine lv_isub hx hb dX10_round_28 ?_
      have hf := Option.some.inj hf
      subst hf
      exact q_riR hx hb hr hlocks dX10_round_29
    · have hf := q_f hc hf
      refine lv_iload_n hx hb dX10_round_22 rfl (lv_at hl 0 rfl) ?_
      refine lv_goto (tgt := 29) hx hb dX10_round_23 (by decide) ?_
      have hf := Option.some.inj hf
      subst hf
      exact q_riR hx hb hr hlocks dX10_round_29
  refine lv_iload_n hx hb dX10_round_0 rfl (lv_at hl 0 rfl) ?_
  refine lv_iload_n hx hb dX10_round_1 rfl (lv_at hl 1 rfl) ?_
  refine lv_icmp_le (tgt := 11) hx hb dX10_round_2 (by decide) (fun hc => ?_) (fun hc => ?_)
  · have hf := q_t hc hf
    refine lv_iload_n hx hb dX10_round_11 rfl (lv_at hl 1 rfl) ?_
    refine lv_iload_n hx hb dX10_round_12 rfl (lv_at hl 0 rfl) ?_
    refine lv_isub hx hb dX10_round_13 ?_
    exact J14 (x1 - x0) ls (lv_sub hl [2] rfl) hf
  · have hf := q_f hc hf
    refine lv_iload_n hx hb dX10_round_5 rfl (lv_at hl 0 rfl) ?_
    refine lv_iload_n hx hb dX10_round_6 rfl (lv_at hl 1 rfl) ?_
    refine lv_isub hx hb dX10_round_7 ?_
    refine lv_goto (tgt := 14) hx hb dX10_round_8 (by decide) ?_
    exact J14 (x0 - x1) ls (lv_sub hl [2] rfl) hf
def f_X10_distance (m_told : Nat → Int32) (x1 : Int32) (x2 : Int32) : Option (Int32) := if inb (0 : Int32) 7 = true then (if (m_told (0 : Int32).toNatClampNeg) = 0 then none else (if (m_told (0 : Int32).toNatClampNeg) = 0 then none else ((f_X10_round (x1 - x1 / (m_told (0 : Int32).toNatClampNeg) * (m_told (0 : Int32).toNatClampNeg)) (x2 - x2 / (m_told (0 : Int32).toNatClampNeg) * (m_told (0 : Int32).toNatClampNeg)) (m_told (0 : Int32).toNatClampNeg)).bind (fun z14 => if (m_told (0 : Int32).toNatClampNeg) = 0 then none else (if (m_told (0 : Int32).toNatClampNeg) = 0 then none else (if inb (1 : Int32) 7 = true then ((f_X10_round (x1 / (m_told (0 : Int32).toNatClampNeg)) (x2 / (m_told (0 : Int32).toNatClampNeg)) (m_told (1 : Int32).toNatClampNeg)).bind (fun z31 => if inb (5 : Int32) 7 = true then (if inb (6 : Int32) 7 = true then (some ((((m_told (5 : Int32).toNatClampNeg) * z14) * z14) + (((m_told (6 : Int32).toNatClampNeg) * z31) * z31))) else none) else none)) else none)))))) else none
theorem ok_X10_distance : OkV yX10_distance cX10_distance 6 (some Jvm.ClassFile.FieldType.int) 2 := ⟨⟨tw_938, tw_13, by decide +kernel, by decide +kernel, by decide +kernel⟩, tw_937, tp_39⟩
set_option maxHeartbeats 4000000 in
set_option maxRecDepth 100000 in
theorem c_X10_distance (l : Launch) (D : va_G) (cy : ClassId × ClassId × ClassId) (H0 : Heap) (aM aM_told aM_draft aM_past aM_kept aM_isKept aM_seenLine aM_seenIs aM_rank aM_stage aM_text : Nat) (m_thrown : Int32) (m_shut : Int64) (m_dots : Int64) (m_draftShut : Int64) (m_draftDots : Int64) (m_undos : Int32) (m_base : Int32) (m_slopeX : Int32) (m_slopeY : Int32) (m_seen : Int32) (m_letters : Int32) (m_next : Int32) (m_begin : Int32) (m_token : Int32) (m_gain : Int32) (m_bestDot : Int32) (m_bestCell : Int32) (m_told : Nat → Int32) (x1 : Int32) (x2 : Int32) (r : Int32) (hP : va_P D vwCl [(aM, .inr (10, [.int m_thrown, .ref aM_told, .ref aM_draft, .long m_shut, .long m_dots, .long m_draftShut, .long m_draftDots, .int m_undos, .ref aM_past, .ref aM_kept, .ref aM_isKept, .int m_base, .int m_slopeX, .int m_slopeY, .int m_seen, .ref aM_seenLine, .ref aM_seenIs, .ref aM_rank, .ref aM_stage, .int m_letters, .ref aM_text, .int m_next, .int m_begin, .int m_token, .int m_gain, .int m_bestDot, .int m_bestCell])), (aM_told, .inl (cy.1, 7, .inl m_told))] H0) (hf : f_X10_distance m_told x1 x2 = some r) : Rd l yX10_distance cX10_distance 6 (some Jvm.ClassFile.FieldType.int) ({ frames := 1, cells := 0, slots := 0, locals := 23 } : Room) ([.ref aM, .int x1, .int x2] : List Value) (some (.int r)) D cy H0 := by
  refine rd_of (by decide +kernel) (Nat.le_of_ble_eq_true rfl) ?_
  intro p e s m below meth c ls S hr hlocks hk hl
  obtain ⟨hx, hb, hml, hown, hts⟩ := id S
  have hl : lv_has ls 6 [(0, .ref aM), (1, .int x1), (2, .int x2)] := hl
  rw [f_X10_distance] at hf
  refine lv_aload_n hx hb dX10_distance_0 rfl (lv_at hl 0 rfl) ?_
  refine va_get (D := D) (ci := 10) (v := .ref aM_told) (C := RX10) (T := TX10) (N := 27) hx hb hts iX10 hown hk.1 hP 0 rfl rfl 1 (by decide) (hts _ tw_784) (fun _ h9 => h9) rfl dX10_distance_1 ?_
  refine lv_iconst (v := (0 : Int32)) hx hb dX10_distance_4 (by decide) ?_
  obtain ⟨hi, hf⟩ := q_in hf
  refine va_iald hx hb hk.1 hP 1 0 rfl rfl hi dX10_distance_5 ?_
  refine lv_istore_n (lv' := [(3, .int (m_told (0 : Int32).toNatClampNeg)), (0, .ref aM), (1, .int x1), (2, .int x2)]) hx hb dX10_distance_6 rfl hl (by decide) rfl (fun ls hl => ?_)
  refine lv_iload_n hx hb dX10_distance_7 rfl (lv_at hl 2 rfl) ?_
  refine lv_iload_n hx hb dX10_distance_8 rfl (lv_at hl 0 rfl) ?_
  obtain ⟨hne, hf⟩ := q_nz hf
  refine lv_irem hx hb dX10_distance_9 hne ?_
  refine lv_iload_n hx hb dX10_distance_10 rfl (lv_at hl 3 rfl) ?_
  refine lv_iload_n hx hb dX10_distance_11 rfl (lv_at hl 0 rfl) ?_
  obtain ⟨hne, hf⟩ := q_nz hf
  refine lv_irem hx hb dX10_distance_12 hne ?_
  refine lv_iload_n hx hb dX10_distance_13 rfl (lv_at hl 0 rfl) ?_
  obtain ⟨z14, hz14, hf⟩ := q_bind hf
  refine q_rdS (As := [.int (x1 - x1 / (m_told (0 : Int32).toNatClampNeg) * (m_told (0 : Int32).toNatClampNeg)), .int (x2 - x2 / (m_told (0 : Int32).toNatClampNeg) * (m_told (0 : Int32).toNatClampNeg)), .int (m_told (0 : Int32).toNatClampNeg)]) (rest := []) (st2 := [.int z14]) S hk (c_X10_round l D cy H0 (x1 - x1 / (m_told (0 : Int32).toNatClampNeg) * (m_told (0 : Int32).toNatClampNeg)) (x2 - x2 / (m_told (0 : Int32).toNatClampNeg) * (m_told (0 : Int32).toNatClampNeg)) (m_told (0 : Int32).toNatClampNeg) z14 hz14) ok_X10_round tw_939 ⟨rfl, rfl, Nat.le_of_ble_eq_true rfl, Nat.le_of_ble_eq_true rfl⟩ rfl hl.1 rfl (Nat.le_of_ble_eq_true rfl) dX10_distance_14 ⟨Nat.zero_le _, Nat.zero_le _⟩ rfl ?_
  refine lv_istore (lv' := [(4, .int z14), (3, .int (m_told (0 : Int32).toNatClampNeg)), (0, .ref aM), (1, .int x1), (2, .int x2)]) hx hb dX10_distance_17 hl (by decide) rfl (fun ls hl => ?_)
  refine lv_iload_n hx hb dX10_distance_19 rfl (lv_at hl 3 rfl) ?_
  refine lv_iload_n hx hb dX10_distance_20 rfl (lv_at hl 1 rfl) ?_
  obtain ⟨hne, hf⟩ := q_nz hf
  refine lv_idiv hx hb dX10_distance_21 hne ?_
  refine lv_iload_n hx hb dX10_distance_22 rfl (lv_at hl 4 rfl) ?_
  refine lv_iload_n hx hb dX10_distance_23 rfl (lv_at hl 1 rfl) ?_
  obtain ⟨hne, hf⟩ := q_nz hf
  refine lv_idiv hx hb dX10_distance_24 hne ?_
  refine lv_aload_n hx hb dX10_distance_25 rfl (lv_at hl 2 rfl) ?_
  refine va_get (D := D) (ci := 10) (v := .ref aM_told) (C := RX10) (T := TX10) (N := 27) hx hb hts iX10 hown hk.1 hP 0 rfl rfl 1 (by decide) (hts _ tw_784) (fun _ h9 => h9) rfl dX10_distance_26 ?_
  refine lv_iconst (v := (1 : Int32)) hx hb dX10_distance_29 (by decide) ?_
  obtain ⟨hi, hf⟩ := q_in hf
  refine va_iald hx hb hk.1 hP 1 0 rfl rfl hi dX10_distance_30 ?_
  obtain ⟨z31, hz31, hf⟩ := q_bind hf
  refine q_rdS (As := [.int (x1 / (m_told (0 : Int32).toNatClampNeg)), .int (x2 / (m_told (0 : Int32).toNatClampNeg)), .int (m_told (1 : Int32).toNatClampNeg)]) (rest := []) (st2 := [.int z31]) S hk (c_X10_round l D cy H0 (x1 / (m_told (0 : Int32).toNatClampNeg)) (x2 / (m_told (0 : Int32).toNatClampNeg)) (m_told (1 : Int32).toNatClampNeg) z31 hz31) ok_X10_round tw_939 ⟨rfl, rfl, Nat.le_of_ble_eq_true rfl, Nat.le_of_ble_eq_true rfl⟩ rfl hl.1 rfl (Nat.le_of_ble_eq_true rfl) dX10_distance_31 ⟨Nat.zero_le _, Nat.zero_le _⟩ rfl ?_
  refine lv_istore (lv' := [(5, .int z31), (4, .int z14), (3, .int (m_told (0 : Int32).toNatClampNeg)), (0, .ref aM), (1, .int x1), (2, .int x2)]) hx hb dX10_distance_34 hl (by decide) rfl (fun ls hl => ?_)
  refine lv_aload_n hx hb dX10_distance_36 rfl (lv_at hl 3 rfl) ?_
  refine va_get (D := D) (ci := 10) (v := .ref aM_told) (C := RX10) (T := TX10) (N := 27) hx hb hts iX10 hown hk.1 hP 0 rfl rfl 1 (by decide) (hts _ tw_784) (fun _ h9 => h9) rfl dX10_distance_37 ?_
  refine lv_iconst (v := (5 : Int32)) hx hb dX10_distance_40 (by decide) ?_
  obtain ⟨hi, hf⟩ := q_in hf
  refine va_iald hx hb hk.1 hP 1 0 rfl rfl hi dX10_distance_41 ?_
  refine lv_iload hx hb dX10_distance_42 (lv_at hl 1 rfl) ?_
  refine lv_imul hx hb dX10_distance_44 ?_
  refine lv_iload hx hb dX10_distance_45 (lv_at hl 1 rfl) ?_
  refine lv_imul hx hb dX10_distance_47 ?_
  refine lv_aload_n hx hb dX10_distance_48 rfl (lv_at hl 3 rfl) ?_
  refine va_get (D := D) (ci := 10) (v := .ref aM_told) (C := RX10) (T := TX10) (N := 27) hx hb hts iX10 hown hk.1 hP 0 rfl rfl 1 (by decide) (hts _ tw_784) (fun _ h9 => h9) rfl dX10_distance_49 ?_
  refine lv_bipush (v := (6 : Int32)) hx hb dX10_distance_52 (by decide) ?_
  obtain ⟨hi, hf⟩ := q_in hf
  refine va_iald hx hb hk.1 hP 1 0 rfl rfl hi dX10_distance_54 ?_
  refine lv_iload hx hb dX10_distance_55 (lv_at hl 0 rfl) ?_
  refine lv_imul hx hb dX10_distance_57 ?_
  refine lv_iload hx hb dX10_distance_58 (lv_at hl 0 rfl) ?_
  refine lv_imul hx hb dX10_distance_60 ?_
  refine lv_iadd hx hb dX10_distance_61 ?_
  have hf := Option.some.inj hf
  subst hf
  exact q_riR hx hb hr hlocks dX10_distance_62
def lp_X10_weight_65 (x1 : Int32) : Nat → Int32 → Int32 → Option (Int32)
  | 0, _, _ => none
  | n + 1, x2, x3 => if x1 ≤ x3 then (some x2) else (if x2 ≤ 0 then (some x2) else (lp_X10_weight_65 x1 n (x2 / (2 : Int32)) (x3 + 1)))
theorem lp_X10_weight_65_s (x1 : Int32) (n : Nat) (x2 : Int32) (x3 : Int32) : lp_X10_weight_65 x1 (n + 1) x2 x3 = (if x1 ≤ x3 then (some x2) else (if x2 ≤ 0 then (some x2) else (lp_X10_weight_65 x1 n (x2 / (2 : Int32)) (x3 + 1)))) := rfl
theorem lp_X10_weight_65_z (x1 : Int32) (x2 : Int32) (x3 : Int32) : lp_X10_weight_65 x1 0 x2 x3 = none := rfl
def f_X10_weight (m_told : Nat → Int32) (x1 : Int32) : Option (Int32) := if inb (2 : Int32) 7 = true then (if (m_told (2 : Int32).toNatClampNeg) = 0 then (if inb (3 : Int32) 7 = true then (if ((1 : Int32) + x1) = 0 then none else (some ((m_told (3 : Int32).toNatClampNeg) / ((1 : Int32) + x1)))) else none) else (if inb (2 : Int32) 7 = true then (if (m_told (2 : Int32).toNatClampNeg) = (1 : Int32) then (if inb (3 : Int32) 7 = true then (if inb (4 : Int32) 7 = true then (if ((m_told (3 : Int32).toNatClampNeg) - ((m_told (4 : Int32).toNatClampNeg) * x1)) ≤ 0 then (some (0 : Int32)) else (some ((m_told (3 : Int32).toNatClampNeg) - ((m_told (4 : Int32).toNatClampNeg) * x1)))) else none) else none) else (if inb (3 : Int32) 7 = true then (lp_X10_weight_65 x1 FU (m_told (3 : Int32).toNatClampNeg) (0 : Int32)) else none)) else none)) else none
theorem ok_X10_weight : OkV yX10_weight cX10_weight 4 (some Jvm.ClassFile.FieldType.int) 1 := ⟨⟨tw_945, tw_13, by decide +kernel, by decide +kernel, by decide +kernel⟩, tw_944, tp_40⟩
set_option maxHeartbeats 4000000 in
set_option maxRecDepth 100000 in
theorem c_X10_weight (l : Launch) (D : va_G) (cy : ClassId × ClassId × ClassId) (H0 : Heap) (aM aM_told aM_draft aM_past aM_kept aM_isKept aM_seenLine aM_seenIs aM_rank aM_stage aM_text : Nat) (m_thrown : Int32) (m_shut : Int64) (m_dots : Int64) (m_draftShut : Int64) (m_draftDots : Int64) (m_undos : Int32) (m_base : Int32) (m_slopeX : Int32) (m_slopeY : Int32) (m_seen : Int32) (m_letters : Int32) (m_next : Int32) (m_begin : Int32) (m_token : Int32) (m_gain : Int32) (m_bestDot : Int32) (m_bestCell : Int32) (m_told : Nat → Int32) (x1 : Int32) (r : Int32) (hP : va_P D vwCl [(aM, .inr (10, [.int m_thrown, .ref aM_told, .ref aM_draft, .long m_shut, .long m_dots, .long m_draftShut, .long m_draftDots, .int m_undos, .ref aM_past, .ref aM_kept, .ref aM_isKept, .int m_base, .int m_slopeX, .int m_slopeY, .int m_seen, .ref aM_seenLine, .ref aM_seenIs, .ref aM_rank, .ref aM_stage, .int m_letters, .ref aM_text, .int m_next, .int m_begin, .int m_token, .int m_gain, .int m_bestDot, .int m_bestCell])), (aM_told, .inl (cy.1, 7, .inl m_told))] H0) (hf : f_X10_weight m_told x1 = some r) : Rd l yX10_weight cX10_weight 4 (some Jvm.ClassFile.FieldType.int) ({ frames := 0, cells := 0, slots := 0, locals := 0 } : Room) ([.ref aM, .int x1] : List Value) (some (.int r)) D cy H0 := by
  refine rd_of (by decide +kernel) (Nat.le_of_ble_eq_true rfl) ?_
  intro p e s m below meth c ls S hr hlocks hk hl
  obtain ⟨hx, hb, hml, hown, hts⟩ := id S
  have hl : lv_has ls 4 [(0, .ref aM), (1, .int x1)] := hl
  rw [f_X10_weight] at hf
  have J65 : ∀ (n65 : Nat) (x2 : Int32) (x3 : Int32) (ls : Array Slot), lv_has ls 4 [(1, .int x1), (2, .int x2), (3, .int x3)] → lp_X10_weight_65 x1 n65 x2 x3 = some r → W p l e ({ frames := 0, cells := 0, slots := 0, locals := 0 } : Room) s m ([.ref aM, .int x1] : List Value).toArray below meth c H0 [] 0 0 (MQ below (QR (some (.int r)) H0) ([.ref aM, .int x1] : List Value).toArray s 0 0 (fun _ => False)) (F0 m 65 ls []) := by
    intro n65
    induction n65 with
    | zero =>
      intro x2 x3 ls hl hf
      rw [lp_X10_weight_65_z] at hf
      cases hf
    | succ n65 ih65 =>
      intro x2 x3 ls hl hf
      rw [lp_X10_weight_65_s] at hf
      refine lv_iload_n hx hb dX10_weight_65 rfl (lv_at hl 2 rfl) ?_
      refine lv_iload_n hx hb dX10_weight_66 rfl (lv_at hl 0 rfl) ?_
      refine lv_icmp_ge (tgt := 84) hx hb dX10_weight_67 (by decide) (fun hc => ?_) (fun hc => ?_)
      · have hf := q_t hc hf
        refine lv_iload_n hx hb dX10_weight_84 rfl (lv_at hl 1 rfl) ?_
        have hf := Option.some.inj hf
        subst hf
        exact q_riR hx hb hr hlocks dX10_weight_85
      · have hf := q_f hc hf
        refine lv_iload_n hx hb dX10_weight_70 rfl (lv_at hl 1 rfl) ?_
        refine lv_if_le (tgt := 84) hx hb dX10_weight_71 (by decide) (fun hc => ?_) (fun hc => ?_)
        · have hf := q_t hc hf
          refine lv_iload_n hx hb dX10_weight_84 rfl (lv_at hl 1 rfl) ?_
          have hf := Option.some.inj hf
          subst hf
          exact q_riR hx hb hr hlocks dX10_weight_85
        · have hf := q_f hc hf
          refine lv_iload_n hx hb dX10_weight_74 rfl (lv_at hl 1 rfl) ?_
          refine lv_iconst (v := (2 : Int32)) hx hb dX10_weight_75 (by decide) ?_
          refine lv_idiv hx hb dX10_weight_76 (by decide) ?_
          refine lv_istore_n (lv' := [(2, .int (x2 / (2 : Int32))), (1, .int x1), (3, .int x3)]) hx hb dX10_weight_77 rfl hl (by decide) rfl (fun ls hl => ?_)
          refine lv_iinc (v := (x3 + 1)) (lv' := [(3, .int (x3 + 1)), (2, .int (x2 / (2 : Int32))), (1, .int x1)]) hx hb dX10_weight_78 hl (k := 2) rfl rfl (by decide) rfl (fun ls hl => ?_)
          refine lv_goto (tgt := 65) hx hb dX10_weight_81 (by decide) ?_
          exact ih65 (x2 / (2 : Int32)) (x3 + 1) ls (lv_sub hl [2, 1, 0] rfl) hf
  refine lv_aload_n hx hb dX10_weight_0 rfl (lv_at hl 0 rfl) ?_
  refine va_get (D := D) (ci := 10) (v := .ref aM_told) (C := RX10) (T := TX10) (N := 27) hx hb hts iX10 hown hk.1 hP 0 rfl rfl 1 (by decide) (hts _ tw_784) (fun _ h9 => h9) rfl dX10_weight_1 ?_
  refine lv_iconst (v := (2 : Int32)) hx hb dX10_weight_4 (by decide) ?_
  obtain ⟨hi, hf⟩ := q_in hf
  refine va_iald hx hb hk.1 hP 1 0 rfl rfl hi dX10_weight_5 ?_
  refine lv_if_ne (tgt := 20) hx hb dX10_weight_6 (by decide) (fun hc => ?_) (fun hc => ?_)
  · have hf := q_f hc hf
    refine lv_aload_n hx hb dX10_weight_20 rfl (lv_at hl 0 rfl) ?_
    refine va_get (D := D) (ci := 10) (v := .ref aM_told) (C := RX10) (T := TX10) (N := 27) hx hb hts iX10 hown hk.1 hP 0 rfl rfl 1 (by decide) (hts _ tw_784) (fun _ h9 => h9) rfl dX10_weight_21 ?_
    refine lv_iconst (v := (2 : Int32)) hx hb dX10_weight_24 (by decide) ?_
    obtain ⟨hi, hf⟩ := q_in hf
    refine va_iald hx hb hk.1 hP 1 0 rfl rfl hi dX10_weight_25 ?_
    refine lv_iconst (v := (1 : Int32)) hx hb dX10_weight_26 (by decide) ?_
    refine lv_icmp_ne (tgt := 56) hx hb dX10_weight_27 (by decide) (fun hc => ?_) (fun hc => ?_)
    · have hf := q_f hc hf
      refine lv_aload_n hx hb dX10_weight_56 rfl (lv_at hl 0 rfl) ?_
      refine va_get (D := D) (ci := 10) (v := .ref aM_told) (C := RX10) (T := TX10) (N := 27) hx hb hts iX10 hown hk.1 hP 0 rfl rfl 1 (by decide) (hts _ tw_784) (fun _ h9 => h9) rfl dX10_weight_57 ?_
      refine lv_iconst (v := (3 : Int32)) hx hb dX10_weight_60 (by decide) ?_
      obtain ⟨hi, hf⟩ := q_in hf
      refine va_iald hx hb hk.1 hP 1 0 rfl rfl hi dX10_weight_61 ?_
      refine lv_istore_n (lv' := [(2, .int (m_told (3 : Int32).toNatClampNeg)), (0, .ref aM), (1, .int x1)]) hx hb dX10_weight_62 rfl hl (by decide) rfl (fun ls hl => ?_)
      refine lv_iconst (v := (0 : Int32)) hx hb dX10_weight_63 (by decide) ?_
      refine lv_istore_n (lv' := [(3, .int (0 : Int32)), (2, .int (m_told (3 : Int32).toNatClampNeg)), (0, .ref aM), (1, .int x1)]) hx hb dX10_weight_64 rfl hl (by decide) rfl (fun ls hl => ?_)
      exact J65 FU (m_told (3 : Int32).toNatClampNeg) (0 : Int32) ls (lv_sub hl [3, 1, 0] rfl) hf
    · have hf := q_t hc hf
      refine lv_aload_n hx hb dX10_weight_30 rfl (lv_at hl 0 rfl) ?_
      refine va_get (D := D) (ci := 10) (v := .ref aM_told) (C := RX10) (T := TX10) (N := 27) hx hb hts iX10 hown hk.1 hP 0 rfl rfl 1 (by decide) (hts _ tw_784) (fun _ h9 => h9) rfl dX10_weight_31 ?_
      refine lv_iconst (v := (3 : Int32)) hx hb dX10_weight_34 (by decide) ?_
      obtain ⟨hi, hf⟩ := q_in hf
      refine va_iald hx hb hk.1 hP 1 0 rfl rfl hi dX10_weight_35 ?_
      refine lv_aload_n hx hb dX10_weight_36 rfl (lv_at hl 0 rfl) ?_
      refine va_get (D := D) (ci := 10) (v := .ref aM_told) (C := RX10) (T := TX10) (N := 27) hx hb hts iX10 hown hk.1 hP 0 rfl rfl 1 (by decide) (hts _ tw_784) (fun _ h9 => h9) rfl dX10_weight_37 ?_
      refine lv_iconst (v := (4 : Int32)) hx hb dX10_weight_40 (by decide) ?_
      obtain ⟨hi, hf⟩ := q_in hf
      refine va_iald hx hb hk.1 hP 1 0 rfl rfl hi dX10_weight_41 ?_
      refine lv_iload_n hx hb dX10_weight_42 rfl (lv_at hl 1 rfl) ?_
      refine lv_imul hx hb dX10_weight_43 ?_
      refine lv_isub hx hb dX10_weight_44 ?_
      refine lv_istore_n (lv' := [(2, .int ((m_told (3 : Int32).toNatClampNeg) - ((m_told (4 : Int32).toNatClampNeg) * x1))), (0, .ref aM), (1, .int x1)]) hx hb dX10_weight_45 rfl hl (by decide) rfl (fun ls hl => ?_)
      refine lv_iload_n hx hb dX10_weight_46 rfl (lv_at hl 0 rfl) ?_
      refine lv_if_le (tgt := 54) hx hb dX10_weight_47 (by decide) (fun hc => ?_) (fun hc => ?_)
      · have hf := q_t hc hf
        refine lv_iconst (v := (0 : Int32)) hx hb dX10_weight_54 (by decide) ?_
        have hf := Option.some.inj hf
        subst hf
        exact q_riR hx hb hr hlocks dX10_weight_55
      · have hf := q_f hc hf
        refine lv_iload_n hx hb dX10_weight_50 rfl (lv_at hl 0 rfl) ?_
        refine lv_goto (tgt := 55) hx hb dX10_weight_51 (by decide) ?_
        have hf := Option.some.inj hf
        subst hf
        exact q_riR hx hb hr hlocks dX10_weight_55
  · have hf := q_t hc hf
    refine lv_aload_n hx hb dX10_weight_9 rfl (lv_at hl 0 rfl) ?_
    refine va_get (D := D) (ci := 10) (v := .ref aM_told) (C := RX10) (T := TX10) (N := 27) hx hb hts iX10 hown hk.1 hP 0 rfl rfl 1 (by decide) (hts _ tw_784) (fun _ h9 => h9) rfl dX10_weight_10 ?_
    refine lv_iconst (v := (3 : Int32)) hx hb dX10_weight_13 (by decide) ?_
    obtain ⟨hi, hf⟩ := q_in hf
    refine va_iald hx hb hk.1 hP 1 0 rfl rfl hi dX10_weight_14 ?_
    refine lv_iconst (v := (1 : Int32)) hx hb dX10_weight_15 (by decide) ?_
    refine lv_iload_n hx hb dX10_weight_16 rfl (lv_at hl 1 rfl) ?_
    refine lv_iadd hx hb dX10_weight_17 ?_
    obtain ⟨hne, hf⟩ := q_nz hf
    refine lv_idiv hx hb dX10_weight_18 hne ?_
    have hf := Option.some.inj hf
    subst hf
    exact q_riR hx hb hr hlocks dX10_weight_19
def j_X10_heldBy_41 (k6 : Int32 → Int32 → Option (Int32)) (x5 : Int32) (k0 : Int32) (k1 : Int32) : Option (Int32) := k6 (k0 + k1) (x5 + 1)
def lp_X10_heldBy_6 (m_told : Nat → Int32) (x1 : Int64) (x3 : Int32) : Nat → Int32 → Int32 → Option (Int32)
  | 0, _, _ => none
  | n + 1, x4, x5 => (f_X10_cells m_told).bind (fun z9 => if z9 ≤ x5 then (some x4) else ((f_X10_has x1 x5).bind (fun z20 => if z20 = 0 then (j_X10_heldBy_41 (lp_X10_heldBy_6 m_told x1 x3 n) x5 x4 (0 : Int32)) else ((f_X10_distance m_told x5 x3).bind (fun z31 => (f_X10_weight m_told z31).bind (fun z34 => j_X10_heldBy_41 (lp_X10_heldBy_6 m_told x1 x3 n) x5 x4 z34))))))
theorem lp_X10_heldBy_6_s (m_told : Nat → Int32) (x1 : Int64) (x3 : Int32) (n : Nat) (x4 : Int32) (x5 : Int32) : lp_X10_heldBy_6 m_told x1 x3 (n + 1) x4 x5 = ((f_X10_cells m_told).bind (fun z9 => if z9 ≤ x5 then (some x4) else ((f_X10_has x1 x5).bind (fun z20 => if z20 = 0 then (j_X10_heldBy_41 (lp_X10_heldBy_6 m_told x1 x3 n) x5 x4 (0 : Int32)) else ((f_X10_distance m_told x5 x3).bind (fun z31 => (f_X10_weight m_told z31).bind (fun z34 => j_X10_heldBy_41 (lp_X10_heldBy_6 m_told x1 x3 n) x5 x4 z34))))))) := rfl
theorem lp_X10_heldBy_6_z (m_told : Nat → Int32) (x1 : Int64) (x3 : Int32) (x4 : Int32) (x5 : Int32) : lp_X10_heldBy_6 m_told x1 x3 0 x4 x5 = none := rfl
def f_X10_heldBy (m_told : Nat → Int32) (x1 : Int64) (x3 : Int32) : Option (Int32) := lp_X10_heldBy_6 m_told x1 x3 FU (0 : Int32) (0 : Int32)
theorem ok_X10_heldBy : OkV yX10_heldBy cX10_heldBy 6 (some Jvm.ClassFile.FieldType.int) 2 := ⟨⟨tw_969, tw_13, by decide +kernel, by decide +kernel, by decide +kernel⟩, tw_968, tp_44⟩
set_option maxHeartbeats 4000000 in
set_option maxRecDepth 100000 in
theorem c_X10_heldBy (l : Launch) (D : va_G) (cy : ClassId × ClassId × ClassId) (H0 : Heap) (aM aM_told aM_draft aM_past aM_kept aM_isKept aM_seenLine aM_seenIs aM_rank aM_stage aM_text : Nat) (m_thrown : Int32) (m_shut : Int64) (m_dots : Int64) (m_draftShut : Int64) (m_draftDots : Int64) (m_undos : Int32) (m_base : Int32) (m_slopeX : Int32) (m_slopeY : Int32) (m_seen : Int32) (m_letters : Int32) (m_next : Int32) (m_begin : Int32) (m_token : Int32) (m_gain : Int32) (m_bestDot : Int32) (m_bestCell : Int32) (m_told : Nat → Int32) (x1 : Int64) (x3 : Int32) (r : Int32) (hP : va_P D vwCl [(aM, .inr (10, [.int m_thrown, .ref aM_told, .ref aM_draft, .long m_shut, .long m_dots, .long m_draftShut, .long m_draftDots, .int m_undos, .ref aM_past, .ref aM_kept, .ref aM_isKept, .int m_base, .int m_slopeX, .int m_slopeY, .int m_seen, .ref aM_seenLine, .ref aM_seenIs, .ref aM_rank, .ref aM_stage, .int m_letters, .ref aM_text, .int m_next, .int m_begin, .int m_token, .int m_gain, .int m_bestDot, .int m_bestCell])), (aM_told, .inl (cy.1, 7, .inl m_told))] H0) (hf : f_X10_heldBy m_told x1 x3 = some r) : Rd l yX10_heldBy cX10_heldBy 6 (some Jvm.ClassFile.FieldType.int) ({ frames := 2, cells := 0, slots := 0, locals := 48 } : Room) ([.ref aM, .long x1, .int x3] : List Value) (some (.int r)) D cy H0 := by
  refine rd_of (by decide +kernel) (Nat.le_of_ble_eq_true rfl) ?_
  intro p e s m below meth c ls S hr hlocks hk hl
  obtain ⟨hx, hb, hml, hown, hts⟩ := id S
  have hl : lv_has ls 6 [(0, .ref aM), (1, .long x1), (3, .int x3)] := hl
  rw [f_X10_heldBy] at hf
  have J6 : ∀ (n6 : Nat) (x4 : Int32) (x5 : Int32) (ls : Array Slot), lv_has ls 6 [(0, .ref aM), (1, .long x1), (3, .int x3), (4, .int x4), (5, .int x5)] → lp_X10_heldBy_6 m_told x1 x3 n6 x4 x5 = some r → W p l e ({ frames := 2, cells := 0, slots := 0, locals := 48 } : Room) s m ([.ref aM, .long x1, .int x3] : List Value).toArray below meth c H0 [] 0 0 (MQ below (QR (some (.int r)) H0) ([.ref aM, .long x1, .int x3] : List Value).toArray s 0 0 (fun _ => False)) (F0 m 6 ls []) := by
    intro n6
    induction n6 with
    | zero =>
      intro x4 x5 ls hl hf
      rw [lp_X10_heldBy_6_z] at hf
      cases hf
    | succ n6 ih6 =>
      have J41 : ∀ (x5 : Int32) (k0 : Int32) (k1 : Int32) (ls : Array Slot), lv_has ls 6 [(0, .ref aM), (1, .long x1), (3, .int x3), (5, .int x5)] → j_X10_heldBy_41 (lp_X10_heldBy_6 m_told x1 x3 n6) x5 k0 k1 = some r → W p l e ({ frames := 2, cells := 0, slots := 0, locals := 48 } : Room) s m ([.ref aM, .long x1, .int x3] : List Value).toArray below meth c H0 [] 0 0 (MQ below (QR (some (.int r)) H0) ([.ref aM, .long x1, .int x3] : List Value).toArray s 0 0 (fun _ => False)) (F0 m 41 ls [.int k1, .int k0]) := by
        intro x5 k0 k1 ls hl hf
        rw [j_X10_heldBy_41] at hf
        refine lv_iadd hx hb dX10_heldBy_41 ?_
        refine lv_istore (lv' := [(4, .int (k0 + k1)), (0, .ref aM), (1, .long x1), (3, .int x3), (5, .int x5)]) hx hb dX10_heldBy_42 hl (by decide) rfl (fun ls hl => ?_)
        refine lv_iinc (v := (x5 + 1)) (lv' := [(5, .int (x5 + 1)), (4, .int (k0 + k1)), (0, .ref aM), (1, .long x1), (3, .int x3)]) hx hb dX10_heldBy_44 hl (k := 4) rfl rfl (by decide) rfl (fun ls hl => ?_)
        refine lv_goto (tgt := 6) hx hb dX10_heldBy_47 (by decide) ?_
        exact ih6 (k0 + k1) (x5 + 1) ls (lv_sub hl [2, 3, 4, 1, 0] rfl) hf
      intro x4 x5 ls hl hf
      rw [lp_X10_heldBy_6_s] at hf
      refine lv_iload hx hb dX10_heldBy_6 (lv_at hl 4 rfl) ?_
      refine lv_aload_n hx hb dX10_heldBy_8 rfl (lv_at hl 0 rfl) ?_
      obtain ⟨z9, hz9, hf⟩ := q_bind hf
      refine q_rdV (As := []) (rest := [.int x5]) (st2 := [.int z9, .int x5]) S hk (c_X10_cells l D cy H0 aM aM_told aM_draft aM_past aM_kept aM_isKept aM_seenLine aM_seenIs aM_rank aM_stage aM_text m_thrown m_shut m_dots m_draftShut m_draftDots m_undos m_base m_slopeX m_slopeY m_seen m_letters m_next m_begin m_token m_gain m_bestDot m_bestCell m_told z9 (hP.sub [0, 1] rfl) hz9) ok_X10_cells tw_931 ⟨rfl, rfl, Nat.le_of_ble_eq_true rfl, Nat.le_of_ble_eq_true rfl⟩ (va_recv hk.1 hP (ci := 10) (q0 := 0) rfl rfl) rfl hl.1 rfl (Nat.le_of_ble_eq_true rfl) dX10_heldBy_9 ⟨Nat.zero_le _, Nat.zero_le _⟩ rfl ?_
      refine lv_icmp_ge (tgt := 50) hx hb dX10_heldBy_12 (by decide) (fun hc => ?_) (fun hc => ?_)
      · have hf := q_t hc hf
        refine lv_iload hx hb dX10_heldBy_50 (lv_at hl 3 rfl) ?_
        have hf := Option.some.inj hf
        subst hf
        exact q_riR hx hb hr hlocks dX10_heldBy_52
      · have hf := q_f hc hf
        refine lv_iload hx hb dX10_heldBy_15 (lv_at hl 3 rfl) ?_
        refine lv_lload_n hx hb dX10_heldBy_17 rfl (lv_at hl 1 rfl) ?_
        refine lv_iload hx hb dX10_heldBy_18 (lv_at hl 4 rfl) ?_
        obtain ⟨z20, hz20, hf⟩ := q_bind hf
        refine q_rdS (As := [.long x1, .int x5]) (rest := [.int x4]) (st2 := [.int z20, .int x4]) S hk (c_X10_has l D cy H0 x1 x5 z20 hz20) ok_X10_has tw_908 ⟨rfl, rfl, Nat.le_of_ble_eq_true rfl, Nat.le_of_ble_eq_true rfl⟩ rfl hl.1 rfl (Nat.le_of_ble_eq_true rfl) dX10_heldBy_20 ⟨Nat.zero_le _, Nat.zero_le _⟩ rfl ?_
        refine lv_if_eq (tgt := 40) hx hb dX10_heldBy_23 (by decide) (fun hc => ?_) (fun hc => ?_)
        · have hf := q_t hc hf
          refine lv_iconst (v := (0 : Int32)) hx hb dX10_heldBy_40 (by decide) ?_
          exact J41 x5 x4 (0 : Int32) ls (lv_sub hl [0, 1, 2, 4] rfl) hf
        · have hf := q_f hc hf
          refine lv_aload_n hx hb dX10_heldBy_26 rfl (lv_at hl 0 rfl) ?_
          refine lv_aload_n hx hb dX10_heldBy_27 rfl (lv_at hl 0 rfl) ?_
          refine lv_iload hx hb dX10_heldBy_28 (lv_at hl 4 rfl) ?_
          refine lv_iload_n hx hb dX10_heldBy_30 rfl (lv_at hl 2 rfl) ?_
          obtain ⟨z31, hz31, hf⟩ := q_bind hf
          refine q_rdV (As := [.int x5, .int x3]) (rest := [.ref aM, .int x4]) (st2 := [.int z31, .ref aM, .int x4]) S hk (c_X10_distance l D cy H0 aM aM_told aM_draft aM_past aM_kept aM_isKept aM_seenLine aM_seenIs aM_rank aM_stage aM_text m_thrown m_shut m_dots m_draftShut m_draftDots m_undos m_base m_slopeX m_slopeY m_seen m_letters m_next m_begin m_token m_gain m_bestDot m_bestCell m_told x5 x3 z31 (hP.sub [0, 1] rfl) hz31) ok_X10_distance tw_935 ⟨rfl, rfl, Nat.le_of_ble_eq_true rfl, Nat.le_of_ble_eq_true rfl⟩ (va_recv hk.1 hP (ci := 10) (q0 := 0) rfl rfl) rfl hl.1 rfl (Nat.le_of_ble_eq_true rfl) dX10_heldBy_31 ⟨Nat.zero_le _, Nat.zero_le _⟩ rfl ?_
          obtain ⟨z34, hz34, hf⟩ := q_bind hf
          refine q_rdV (As := [.int z31]) (rest := [.int x4]) (st2 := [.int z34, .int x4]) S hk (c_X10_weight l D cy H0 aM aM_told aM_draft aM_past aM_kept aM_isKept aM_seenLine aM_seenIs aM_rank aM_stage aM_text m_thrown m_shut m_dots m_draftShut m_draftDots m_undos m_base m_slopeX m_slopeY m_seen m_letters m_next m_begin m_token m_gain m_bestDot m_bestCell m_told z31 z34 (hP.sub [0, 1] rfl) hz34) ok_X10_weight tw_942 ⟨rfl, rfl, Nat.le_of_ble_eq_true rfl, Nat.le_of_ble_eq_true rfl⟩ (va_recv hk.1 hP (ci := 10) (q0 := 0) rfl rfl) rfl hl.1 rfl (Nat.le_of_ble_eq_true rfl) dX10_heldBy_34 ⟨Nat.zero_le _, Nat.zero_le _⟩ rfl ?_
          refine lv_goto (tgt := 41) hx hb dX10_heldBy_37 (by decide) ?_
          exact J41 x5 x4 z34 ls (lv_sub hl [0, 1, 2, 4] rfl) hf
  refine lv_iconst (v := (0 : Int32)) hx hb dX10_heldBy_0 (by decide) ?_
  refine lv_istore (lv' := [(4, .int (0 : Int32)), (0, .ref aM), (1, .long x1), (3, .int x3)]) hx hb dX10_heldBy_1 hl (by decide) rfl (fun ls hl => ?_)
  refine lv_iconst (v := (0 : Int32)) hx hb dX10_heldBy_3 (by decide) ?_
  refine lv_istore (lv' := [(5, .int (0 : Int32)), (4, .int (0 : Int32)), (0, .ref aM), (1, .long x1), (3, .int x3)]) hx hb dX10_heldBy_4 hl (by decide) rfl (fun ls hl => ?_)
  exact J6 FU (0 : Int32) (0 : Int32) ls (lv_sub hl [2, 3, 4, 1, 0] rfl) hf
def j_X10_extremeOf_85 (k10 : Int32 → Int32 → Int32 → Option (Int32)) (x7 : Int32) (x8 : Int32) (x9 : Int32) (x10 : Int32) (k0 : Int32) : Option (Int32) := if x10 = 0 then (k10 k0 x7 (x8 + 1)) else (k10 k0 x9 (x8 + 1))
def j_X10_extremeOf_71 (k10 : Int32 → Int32 → Int32 → Option (Int32)) (x6 : Int32) (x7 : Int32) (x8 : Int32) (x9 : Int32) (k0 : Int32) : Option (Int32) := if k0 = 0 then (j_X10_extremeOf_85 k10 x7 x8 x9 k0 x6) else (j_X10_extremeOf_85 k10 x7 x8 x9 k0 x8)
def lp_X10_extremeOf_10 (m_told : Nat → Int32) (x1 : Int64) (x3 : Int64) (x5 : Int32) : Nat → Int32 → Int32 → Int32 → Option (Int32)
  | 0, _, _, _ => none
  | n + 1, x6, x7, x8 => (f_X10_cells m_told).bind (fun z13 => if z13 ≤ x8 then (some x6) else ((f_X10_has x1 x8).bind (fun z22 => if z22 = 0 then (lp_X10_extremeOf_10 m_told x1 x3 x5 n x6 x7 (x8 + 1)) else ((f_X10_heldBy m_told x3 x8).bind (fun z32 => if x6 = (-9 : Int32) then (j_X10_extremeOf_71 (lp_X10_extremeOf_10 m_told x1 x3 x5 n) x6 x7 x8 z32 (1 : Int32)) else (if x5 = 0 then (if x7 ≤ z32 then (j_X10_extremeOf_71 (lp_X10_extremeOf_10 m_told x1 x3 x5 n) x6 x7 x8 z32 (0 : Int32)) else (j_X10_extremeOf_71 (lp_X10_extremeOf_10 m_told x1 x3 x5 n) x6 x7 x8 z32 (1 : Int32))) else (if z32 ≤ x7 then (j_X10_extremeOf_71 (lp_X10_extremeOf_10 m_told x1 x3 x5 n) x6 x7 x8 z32 (0 : Int32)) else (j_X10_extremeOf_71 (lp_X10_extremeOf_10 m_told x1 x3 x5 n) x6 x7 x8 z32 (1 : Int32)))))))))
theorem lp_X10_extremeOf_10_s (m_told : Nat → Int32) (x1 : Int64) (x3 : Int64) (x5 : Int32) (n : Nat) (x6 : Int32) (x7 : Int32) (x8 : Int32) : lp_X10_extremeOf_10 m_told x1 x3 x5 (n + 1) x6 x7 x8 = ((f_X10_cells m_told).bind (fun z13 => if z13 ≤ x8 then (some x6) else ((f_X10_has x1 x8).bind (fun z22 => if z22 = 0 then (lp_X10_extremeOf_10 m_told x1 x3 x5 n x6 x7 (x8 + 1)) else ((f_X10_heldBy m_told x3 x8).bind (fun z32 => if x6 = (-9 : Int32) then (j_X10_extremeOf_71 (lp_X10_extremeOf_10 m_told x1 x3 x5 n) x6 x7 x8 z32 (1 : Int32)) else (if x5 = 0 then (if x7 ≤ z32 then (j_X10_extremeOf_71 (lp_X10_extremeOf_10 m_told x1 x3 x5 n) x6 x7 x8 z32 (0 : Int32)) else (j_X10_extremeOf_71 (lp_X10_extremeOf_10 m_told x1 x3 x5 n) x6 x7 x8 z32 (1 : Int32))) else (if z32 ≤ x7 then (j_X10_extremeOf_71 (lp_X10_extremeOf_10 m_told x1 x3 x5 n) x6 x7 x8 z32 (0 : Int32)) else (j_X10_extremeOf_71 (lp_X10_extremeOf_10 m_told x1 x3 x5 n) x6 x7 x8 z32 (1 : Int32)))))))))) := rfl
theorem lp_X10_extremeOf_10_z (m_told : Nat → Int32) (x1 : Int64) (x3 : Int64) (x5 : Int32) (x6 : Int32) (x7 : Int32) (x8 : Int32) : lp_X10_extremeOf_10 m_told x1 x3 x5 0 x6 x7 x8 = none := rfl
def f_X10_extremeOf (m_told : Nat → Int32) (x1 : Int64) (x3 : Int64) (x5 : Int32) : Option (Int32) := lp_X10_extremeOf_10 m_told x1 x3 x5 FU (-9 : Int32) (0 : Int32) (0 : Int32)
theorem ok_X10_extremeOf : OkV yX10_extremeOf cX10_extremeOf 11 (some Jvm.ClassFile.FieldType.int) 3 := ⟨⟨tw_965, tw_13, by decide +kernel, by decide +kernel, by decide +kernel⟩, tw_964, tp_43⟩
set_option maxHeartbeats 4000000 in
set_option maxRecDepth 100000 in
theorem c_X10_extremeOf (l : Launch) (D : va_G) (cy : ClassId × ClassId × ClassId) (H0 : Heap) (aM aM_told aM_draft aM_past aM_kept aM_isKept aM_seenLine aM_seenIs aM_rank aM_stage aM_text : Nat) (m_thrown : Int32) (m_shut : Int64) (m_dots : Int64) (m_draftShut : Int64) (m_draftDots : Int64) (m_undos : Int32) (m_base : Int32) (m_slopeX : Int32) (m_slopeY : Int32) (m_seen : Int32) (m_letters : Int32) (m_next : Int32) (m_begin : Int32) (m_token : Int32) (m_gain : Int32) (m_bestDot : Int32) (m_bestCell : Int32) (m_told : Nat → Int32) (x1 : Int64) (x3 : Int64) (x5 : Int32) (r : Int32) (hP : va_P D vwCl [(aM, .inr (10, [.int m_thrown, .ref aM_told, .ref aM_draft, .long m_shut, .long m_dots, .long m_draftShut, .long m_draftDots, .int m_undos, .ref aM_past, .ref aM_kept, .ref aM_isKept, .int m_base, .int m_slopeX, .int m_slopeY, .int m_seen, .ref aM_seenLine, .ref aM_seenIs, .ref aM_rank, .ref aM_stage, .int m_letters, .ref aM_text, .int m_next, .int m_begin, .int m_token, .int m_gain, .int m_bestDot, .int m_bestCell])), (aM_told, .inl (cy.1, 7, .inl m_told))] H0) (hf : f_X10_extremeOf m_told x1 x3 x5 = some r) : Rd l yX10_extremeOf cX10_extremeOf 11 (some Jvm.ClassFile.FieldType.int) ({ frames := 3, cells := 0, slots := 0, locals := 73 } : Room) ([.ref aM, .long x1, .long x3, .int x5] : List Value) (some (.int r)) D cy H0 := by
  refine rd_of (by decide +kernel) (Nat.le_of_ble_eq_true rfl) ?_
  intro p e s m below meth c ls S hr hlocks hk hl
  obtain ⟨hx, hb, hml, hown, hts⟩ := id S
  have hl : lv_has ls 11 [(0, .ref aM), (1, .long x1), (3, .long x3), (5, .int x5)] := hl
  rw [f_X10_extremeOf] at hf
  have J10 : ∀ (n10 : Nat) (x6 : Int32) (x7 : Int32) (x8 : Int32) (ls : Array Slot), lv_has ls 11 [(0, .ref aM), (1, .long x1), (3, .long x3), (5, .int x5), (6, .int x6), (7, .int x7), (8, .int x8)] → lp_X10_extremeOf_10 m_told x1 x3 x5 n10 x6 x7 x8 = some r → W p l e ({ frames := 3, cells := 0, slots := 0, locals := 73 } : Room) s m ([.ref aM, .long x1, .long x3, .int x5] : List Value).toArray below meth c H0 [] 0 0 (MQ below (QR (some (.int r)) H0) ([.ref aM, .long x1, .long x3, .int x5] : List Value).toArray s 0 0 (fun _ => False)) (F0 m 10 ls []) := by
    intro n10
    induction n10 with
    | zero =>
      intro x6 x7 x8 ls hl hf
      rw [lp_X10_extremeOf_10_z] at hf
      cases hf
    | succ n10 ih10 =>
      have J85 : ∀ (x7 : Int32) (x8 : Int32) (x9 : Int32) (x10 : Int32) (k0 : Int32) (ls : Array Slot), lv_has ls 11 [(0, .ref aM), (1, .long x1), (3, .long x3), (5, .int x5), (7, .int x7), (8, .int x8), (9, .int x9), (10, .int x10)] → j_X10_extremeOf_85 (lp_X10_extremeOf_10 m_told x1 x3 x5 n10) x7 x8 x9 x10 k0 = some r → W p l e ({ frames := 3, cells := 0, slots := 0, locals := 73 } : Room) s m ([.ref aM, .long x1, .long x3, .int x5] : List Value).toArray below meth c H0 [] 0 0 (MQ below (QR (some (.int r)) H0) ([.ref aM, .long x1, .long x3, .int x5] : List Value).toArray s 0 0 (fun _ => False)) (F0 m 85 ls [.int k0]) := by
        intro x7 x8 x9 x10 k0 ls hl hf
        rw [j_X10_extremeOf_85] at hf
        refine lv_istore (lv' := [(6, .int k0), (0, .ref aM), (1, .long x1), (3, .long x3), (5, .int x5), (7, .int x7), (8, .int x8), (9, .int x9), (10, .int x10)]) hx hb dX10_extremeOf_85 hl (by decide) rfl (fun ls hl => ?_)
        refine lv_iload hx hb dX10_extremeOf_87 (lv_at hl 8 rfl) ?_
        refine lv_if_eq (tgt := 97) hx hb dX10_extremeOf_89 (by decide) (fun hc => ?_) (fun hc => ?_)
        · have hf := q_t hc hf
          refine lv_iload hx hb dX10_extremeOf_97 (lv_at hl 5 rfl) ?_
          refine lv_istore (lv' := [(7, .int x7), (6, .int k0), (0, .ref aM), (1, .long x1), (3, .long x3), (5, .int x5), (8, .int x8), (9, .int x9), (10, .int x10)]) hx hb dX10_extremeOf_99 hl (by decide) rfl (fun ls hl => ?_)
          refine lv_iinc (v := (x8 + 1)) (lv' := [(8, .int (x8 + 1)), (7, .int x7), (6, .int k0), (0, .ref aM), (1, .long x1), (3, .long x3), (5, .int x5), (9, .int x9), (10, .int x10)]) hx hb dX10_extremeOf_101 hl (k := 6) rfl rfl (by decide) rfl (fun ls hl => ?_)
          refine lv_goto (tgt := 10) hx hb dX10_extremeOf_104 (by decide) ?_
          exact ih10 k0 x7 (x8 + 1) ls (lv_sub hl [3, 4, 5, 6, 2, 1, 0] rfl) hf
        · have hf := q_f hc hf
          refine lv_iload hx hb dX10_extremeOf_92 (lv_at hl 7 rfl) ?_
          refine lv_goto (tgt := 99) hx hb dX10_extremeOf_94 (by decide) ?_
          refine lv_istore (lv' := [(7, .int x9), (6, .int k0), (0, .ref aM), (1, .long x1), (3, .long x3), (5, .int x5), (8, .int x8), (9, .int x9), (10, .int x10)]) hx hb dX10_extremeOf_99 hl (by decide) rfl (fun ls hl => ?_)
          refine lv_iinc (v := (x8 + 1)) (lv' := [(8, .int (x8 + 1)), (7, .int x9), (6, .int k0), (0, .ref aM), (1, .long x1), (3, .long x3), (5, .int x5), (9, .int x9), (10, .int x10)]) hx hb dX10_extremeOf_101 hl (k := 6) rfl rfl (by decide) rfl (fun ls hl => ?_)
          refine lv_goto (tgt := 10) hx hb dX10_extremeOf_104 (by decide) ?_
          exact ih10 k0 x9 (x8 + 1) ls (lv_sub hl [3, 4, 5, 6, 2, 1, 0] rfl) hf
      have J71 : ∀ (x6 : Int32) (x7 : Int32) (x8 : Int32) (x9 : Int32) (k0 : Int32) (ls : Array Slot), lv_has ls 11 [(0, .ref aM), (1, .long x1), (3, .long x3), (5, .int x5), (6, .int x6), (7, .int x7), (8, .int x8), (9, .int x9)] → j_X10_extremeOf_71 (lp_X10_extremeOf_10 m_told x1 x3 x5 n10) x6 x7 x8 x9 k0 = some r → W p l e ({ frames := 3, cells := 0, slots := 0, locals := 73 } : Room) s m ([.ref aM, .long x1, .long x3, .int x5] : List Value).toArray below meth c H0 [] 0 0 (MQ below (QR (some (.int r)) H0) ([.ref aM, .long x1, .long x3, .int x5] : List Value).toArray s 0 0 (fun _ => False)) (F0 m 71 ls [.int k0]) := by
        intro x6 x7 x8 x9 k0 ls hl hf
        rw [j_X10_extremeOf_71] at hf
        refine lv_istore (lv' := [(10, .int k0), (0, .ref aM), (1, .long x1), (3, .long x3), (5, .int x5), (6, .int x6), (7, .int x7), (8, .int x8), (9, .int x9)]) hx hb dX10_extremeOf_71 hl (by decide) rfl (fun ls hl => ?_)
        refine lv_iload hx hb dX10_extremeOf_73 (lv_at hl 0 rfl) ?_
        refine lv_if_eq (tgt := 83) hx hb dX10_extremeOf_75 (by decide) (fun hc => ?_) (fun hc => ?_)
        · have hf := q_t hc hf
          refine lv_iload hx hb dX10_extremeOf_83 (lv_at hl 5 rfl) ?_
          exact J85 x7 x8 x9 k0 x6 ls (lv_sub hl [1, 2, 3, 4, 6, 7, 8, 0] rfl) hf
        · have hf := q_f hc hf
          refine lv_iload hx hb dX10_extremeOf_78 (lv_at hl 7 rfl) ?_
          refine lv_goto (tgt := 85) hx hb dX10_extremeOf_80 (by decide) ?_
          exact J85 x7 x8 x9 k0 x8 ls (lv_sub hl [1, 2, 3, 4, 6, 7, 8, 0] rfl) hf
      intro x6 x7 x8 ls hl hf
      rw [lp_X10_extremeOf_10_s] at hf
      refine lv_iload hx hb dX10_extremeOf_10 (lv_at hl 6 rfl) ?_
      refine lv_aload_n hx hb dX10_extremeOf_12 rfl (lv_at hl 0 rfl) ?_
      obtain ⟨z13, hz13, hf⟩ := q_bind hf
      refine q_rdV (As := []) (rest := [.int x8]) (st2 := [.int z13, .int x8]) S hk (c_X10_cells l D cy H0 aM aM_told aM_draft aM_past aM_kept aM_isKept aM_seenLine aM_seenIs aM_rank aM_stage aM_text m_thrown m_shut m_dots m_draftShut m_draftDots m_undos m_base m_slopeX m_slopeY m_seen m_letters m_next m_begin m_token m_gain m_bestDot m_bestCell m_told z13 (hP.sub [0, 1] rfl) hz13) ok_X10_cells tw_931 ⟨rfl, rfl, Nat.le_of_ble_eq_true rfl, Nat.le_of_ble_eq_true rfl⟩ (va_recv hk.1 hP (ci := 10) (q0 := 0) rfl rfl) rfl hl.1 rfl (Nat.le_of_ble_eq_true rfl) dX10_extremeOf_13 ⟨Nat.zero_le _, Nat.zero_le _⟩ rfl ?_
      refine lv_icmp_ge (tgt := 107) hx hb dX10_extremeOf_16 (by decide) (fun hc => ?_) (fun hc => ?_)
      · have hf := q_t hc hf
        refine lv_iload hx hb dX10_extremeOf_107 (lv_at hl 4 rfl) ?_
        have hf := Option.some.inj hf
        subst hf
        exact q_riR hx hb hr hlocks dX10_extremeOf_109
      · have hf := q_f hc hf
        refine lv_lload_n hx hb dX10_extremeOf_19 rfl (lv_at hl 1 rfl) ?_
        refine lv_iload hx hb dX10_extremeOf_20 (lv_at hl 6 rfl) ?_
        obtain ⟨z22, hz22, hf⟩ := q_bind hf
        refine q_rdS (As := [.long x1, .int x8]) (rest := []) (st2 := [.int z22]) S hk (c_X10_has l D cy H0 x1 x8 z22 hz22) ok_X10_has tw_908 ⟨rfl, rfl, Nat.le_of_ble_eq_true rfl, Nat.le_of_ble_eq_true rfl⟩ rfl hl.1 rfl (Nat.le_of_ble_eq_true rfl) dX10_extremeOf_22 ⟨Nat.zero_le _, Nat.zero_le _⟩ rfl ?_
        refine lv_if_eq (tgt := 101) hx hb dX10_extremeOf_25 (by decide) (fun hc => ?_) (fun hc => ?_)
        · have hf := q_t hc hf
          refine lv_iinc (v := (x8 + 1)) (lv' := [(8, .int (x8 + 1)), (0, .ref aM), (1, .long x1), (3, .long x3), (5, .int x5), (6, .int x6), (7, .int x7)]) hx hb dX10_extremeOf_101 hl (k := 6) rfl rfl (by decide) rfl (fun ls hl => ?_)
          refine lv_goto (tgt := 10) hx hb dX10_extremeOf_104 (by decide) ?_
          exact ih10 x6 x7 (x8 + 1) ls (lv_sub hl [1, 2, 3, 4, 5, 6, 0] rfl) hf
        · have hf := q_f hc hf
          refine lv_aload_n hx hb dX10_extremeOf_28 rfl (lv_at hl 0 rfl) ?_
          refine lv_lload_n hx hb dX10_extremeOf_29 rfl (lv_at hl 2 rfl) ?_
          refine lv_iload hx hb dX10_extremeOf_30 (lv_at hl 6 rfl) ?_
          obtain ⟨z32, hz32, hf⟩ := q_bind hf
          refine q_rdV (As := [.long x3, .int x8]) (rest := []) (st2 := [.int z32]) S hk (c_X10_heldBy l D cy H0 aM aM_told aM_draft aM_past aM_kept aM_isKept aM_seenLine aM_seenIs aM_rank aM_stage aM_text m_thrown m_shut m_dots m_draftShut m_draftDots m_undos m_base m_slopeX m_slopeY m_seen m_letters m_next m_begin m_token m_gain m_bestDot m_bestCell m_told x3 x8 z32 (hP.sub [0, 1] rfl) hz32) ok_X10_heldBy tw_966 ⟨rfl, rfl, Nat.le_of_ble_eq_true rfl, Nat.le_of_ble_eq_true rfl⟩ (va_recv hk.1 hP (ci := 10) (q0 := 0) rfl rfl) rfl hl.1 rfl (Nat.le_of_ble_eq_true rfl) dX10_extremeOf_32 ⟨Nat.zero_le _, Nat.zero_le _⟩ rfl ?_
          refine lv_istore (lv' := [(9, .int z32), (0, .ref aM), (1, .long x1), (3, .long x3), (5, .int x5), (6, .int x6), (7, .int x7), (8, .int x8)]) hx hb dX10_extremeOf_35 hl (by decide) rfl (fun ls hl => ?_)
          refine lv_iload hx hb dX10_extremeOf_37 (lv_at hl 5 rfl) ?_
          refine lv_bipush (v := (-9 : Int32)) hx hb dX10_extremeOf_39 (by decide) ?_
          refine lv_icmp_eq (tgt := 66) hx hb dX10_extremeOf_41 (by decide) (fun hc => ?_) (fun hc => ?_)
          · have hf := q_t hc hf
            refine lv_iconst (v := (1 : Int32)) hx hb dX10_extremeOf_66 (by decide) ?_
            refine lv_goto (tgt := 71) hx hb dX10_extremeOf_67 (by decide) ?_
            exact J71 x6 x7 x8 z32 (1 : Int32) ls (lv_sub hl [1, 2, 3, 4, 5, 6, 7, 0] rfl) hf
          · have hf := q_f hc hf
            refine lv_iload hx hb dX10_extremeOf_44 (lv_at hl 4 rfl) ?_
            refine lv_if_eq (tgt := 59) hx hb dX10_extremeOf_46 (by decide) (fun hc => ?_) (fun hc => ?_)
            · have hf := q_t hc hf
              refine lv_iload hx hb dX10_extremeOf_59 (lv_at hl 0 rfl) ?_
              refine lv_iload hx hb dX10_extremeOf_61 (lv_at hl 6 rfl) ?_
              refine lv_icmp_ge (tgt := 70) hx hb dX10_extremeOf_63 (by decide) (fun hc => ?_) (fun hc => ?_)
              · have hf := q_t hc hf
                refine lv_iconst (v := (0 : Int32)) hx hb dX10_extremeOf_70 (by decide) ?_
                exact J71 x6 x7 x8 z32 (0 : Int32) ls (lv_sub hl [1, 2, 3, 4, 5, 6, 7, 0] rfl) hf
              · have hf := q_f hc hf
                refine lv_iconst (v := (1 : Int32)) hx hb dX10_extremeOf_66 (by decide) ?_
                refine lv_goto (tgt := 71) hx hb dX10_extremeOf_67 (by decide) ?_
                exact J71 x6 x7 x8 z32 (1 : Int32) ls (lv_sub hl [1, 2, 3, 4, 5, 6, 7, 0] rfl) hf
            · have hf := q_f hc hf
              refine lv_iload hx hb dX10_extremeOf_49 (lv_at hl 0 rfl) ?_
              refine lv_iload hx hb dX10_extremeOf_51 (lv_at hl 6 rfl) ?_
              refine lv_icmp_le (tgt := 70) hx hb dX10_extremeOf_53 (by decide) (fun hc => ?_) (fun hc => ?_)
              · have hf := q_t hc hf
                refine lv_iconst (v := (0 : Int32)) hx hb dX10_extremeOf_70 (by decide) ?_
                exact J71 x6 x7 x8 z32 (0 : Int32) ls (lv_sub hl [1, 2, 3, 4, 5, 6, 7, 0] rfl) hf
              · have hf := q_f hc hf
                refine lv_goto (tgt := 66) hx hb dX10_extremeOf_56 (by decide) ?_
                refine lv_iconst (v := (1 : Int32)) hx hb dX10_extremeOf_66 (by decide) ?_
                refine lv_goto (tgt := 71) hx hb dX10_extremeOf_67 (by decide) ?_
                exact J71 x6 x7 x8 z32 (1 : Int32) ls (lv_sub hl [1, 2, 3, 4, 5, 6, 7, 0] rfl) hf
  refine lv_bipush (v := (-9 : Int32)) hx hb dX10_extremeOf_0 (by decide) ?_
  refine lv_istore (lv' := [(6, .int (-9 : Int32)), (0, .ref aM), (1, .long x1), (3, .long x3), (5, .int x5)]) hx hb dX10_extremeOf_2 hl (by decide) rfl (fun ls hl => ?_)
  refine lv_iconst (v := (0 : Int32)) hx hb dX10_extremeOf_4 (by decide) ?_
  refine lv_istore (lv' := [(7, .int (0 : Int32)), (6, .int (-9 : Int32)), (0, .ref aM), (1, .long x1), (3, .long x3), (5, .int x5)]) hx hb dX10_extremeOf_5 hl (by decide) rfl (fun ls hl => ?_)
  refine lv_iconst (v := (0 : Int32)) hx hb dX10_extremeOf_7 (by decide) ?_
  refine lv_istore (lv' := [(8, .int (0 : Int32)), (7, .int (0 : Int32)), (6, .int (-9 : Int32)), (0, .ref aM), (1, .long x1), (3, .long x3), (5, .int x5)]) hx hb dX10_extremeOf_8 hl (by decide) rfl (fun ls hl => ?_)
  exact J10 FU (-9 : Int32) (0 : Int32) (0 : Int32) ls (lv_sub hl [3, 4, 5, 6, 2, 1, 0] rfl) hf
def f_X10_tightest (m_told : Nat → Int32) (x1 : Int64) : Option (Int32) := (f_X10_extremeOf m_told x1 x1 (1 : Int32)).bind (fun z4 => some z4)
theorem ok_X10_tightest : OkV yX10_tightest cX10_tightest 3 (some Jvm.ClassFile.FieldType.int) 1 := ⟨⟨tw_961, tw_13, by decide +kernel, by decide +kernel, by decide +kernel⟩, tw_960, tp_42⟩
set_option maxHeartbeats 4000000 in
set_option maxRecDepth 100000 in
theorem c_X10_tightest (l : Launch) (D : va_G) (cy : ClassId × ClassId × ClassId) (H0 : Heap) (aM aM_told aM_draft aM_past aM_kept aM_isKept aM_seenLine aM_seenIs aM_rank aM_stage aM_text : Nat) (m_thrown : Int32) (m_shut : Int64) (m_dots : Int64) (m_draftShut : Int64) (m_draftDots : Int64) (m_undos : Int32) (m_base : Int32) (m_slopeX : Int32) (m_slopeY : Int32) (m_seen : Int32) (m_letters : Int32) (m_next : Int32) (m_begin : Int32) (m_token : Int32) (m_gain : Int32) (m_bestDot : Int32) (m_bestCell : Int32) (m_told : Nat → Int32) (x1 : Int64) (r : Int32) (hP : va_P D vwCl [(aM, .inr (10, [.int m_thrown, .ref aM_told, .ref aM_draft, .long m_shut, .long m_dots, .long m_draftShut, .long m_draftDots, .int m_undos, .ref aM_past, .ref aM_kept, .ref aM_isKept, .int m_base, .int m_slopeX, .int m_slopeY, .int m_seen, .ref aM_seenLine, .ref aM_seenIs, .ref aM_rank, .ref aM_stage, .int m_letters, .ref aM_text, .int m_next, .int m_begin, .int m_token, .int m_gain, .int m_bestDot, .int m_bestCell])), (aM_told, .inl (cy.1, 7, .inl m_told))] H0) (hf : f_X10_tightest m_told x1 = some r) : Rd l yX10_tightest cX10_tightest 3 (some Jvm.ClassFile.FieldType.int) ({ frames := 4, cells := 0, slots := 0, locals := 103 } : Room) ([.ref aM, .long x1] : List Value) (some (.int r)) D cy H0 := by
  refine rd_of (by decide +kernel) (Nat.le_of_ble_eq_true rfl) ?_
  intro p e s m below meth c ls S hr hlocks hk hl
  obtain ⟨hx, hb, hml, hown, hts⟩ := id S
  have hl : lv_has ls 3 [(0, .ref aM), (1, .long x1)] := hl
  rw [f_X10_tightest] at hf
  refine lv_aload_n hx hb dX10_tightest_0 rfl (lv_at hl 0 rfl) ?_
  refine lv_lload_n hx hb dX10_tightest_1 rfl (lv_at hl 1 rfl) ?_
  refine lv_lload_n hx hb dX10_tightest_2 rfl (lv_at hl 1 rfl) ?_
  refine lv_iconst (v := (1 : Int32)) hx hb dX10_tightest_3 (by decide) ?_
  obtain ⟨z4, hz4, hf⟩ := q_bind hf
  refine q_rdV (As := [.long x1, .long x1, .int (1 : Int32)]) (rest := []) (st2 := [.int z4]) S hk (c_X10_extremeOf l D cy H0 aM aM_told aM_draft aM_past aM_kept aM_isKept aM_seenLine aM_seenIs aM_rank aM_stage aM_text m_thrown m_shut m_dots m_draftShut m_draftDots m_undos m_base m_slopeX m_slopeY m_seen m_letters m_next m_begin m_token m_gain m_bestDot m_bestCell m_told x1 x1 (1 : Int32) z4 (hP.sub [0, 1] rfl) hz4) ok_X10_extremeOf tw_962 ⟨rfl, rfl, Nat.le_of_ble_eq_true rfl, Nat.le_of_ble_eq_true rfl⟩ (va_recv hk.1 hP (ci := 10) (q0 := 0) rfl rfl) rfl hl.1 rfl (Nat.le_of_ble_eq_true rfl) dX10_tightest_4 ⟨Nat.zero_le _, Nat.zero_le _⟩ rfl ?_
  have hf := Option.some.inj hf
  subst hf
  exact q_riR hx hb hr hlocks dX10_tightest_7
def f_X10_isFree (m_shut : Int64) (x1 : Int32) : Option (Int32) := (f_X10_has m_shut x1).bind (fun z5 => if z5 = 0 then (some (1 : Int32)) else (some (0 : Int32)))
theorem ok_X10_isFree : OkV yX10_isFree cX10_isFree 2 (some Jvm.ClassFile.FieldType.boolean) 1 := ⟨⟨tw_982, tw_13, by decide +kernel, by decide +kernel, by decide +kernel⟩, tw_981, tp_47⟩
set_option maxHeartbeats 4000000 in
set_option maxRecDepth 100000 in
theorem c_X10_isFree (l : Launch) (D : va_G) (cy : ClassId × ClassId × ClassId) (H0 : Heap) (aM aM_told aM_draft aM_past aM_kept aM_isKept aM_seenLine aM_seenIs aM_rank aM_stage aM_text : Nat) (m_thrown : Int32) (m_shut : Int64) (m_dots : Int64) (m_draftShut : Int64) (m_draftDots : Int64) (m_undos : Int32) (m_base : Int32) (m_slopeX : Int32) (m_slopeY : Int32) (m_seen : Int32) (m_letters : Int32) (m_next : Int32) (m_begin : Int32) (m_token : Int32) (m_gain : Int32) (m_bestDot : Int32) (m_bestCell : Int32) (x1 : Int32) (r : Int32) (hP : va_P D vwCl [(aM, .inr (10, [.int m_thrown, .ref aM_told, .ref aM_draft, .long m_shut, .long m_dots, .long m_draftShut, .long m_draftDots, .int m_undos, .ref aM_past, .ref aM_kept, .ref aM_isKept, .int m_base, .int m_slopeX, .int m_slopeY, .int m_seen, .ref aM_seenLine, .ref aM_seenIs, .ref aM_rank, .ref aM_stage, .int m_letters, .ref aM_text, .int m_next, .int m_begin, .int m_token, .int m_gain, .int m_bestDot, .int m_bestCell]))] H0) (hf : f_X10_isFree m_shut x1 = some r) : Rd l yX10_isFree cX10_isFree 2 (some Jvm.ClassFile.FieldType.boolean) ({ frames := 1, cells := 0, slots := 0, locals := 22 } : Room) ([.ref aM, .int x1] : List Value) (some (.int r)) D cy H0 := by
  refine rd_of (by decide +kernel) (Nat.le_of_ble_eq_true rfl) ?_
  intro p e s m below meth c ls S hr hlocks hk hl
  obtain ⟨hx, hb, hml, hown, hts⟩ := id S
  have hl : lv_has ls 2 [(0, .ref aM), (1, .int x1)] := hl
  rw [f_X10_isFree] at hf
  refine lv_aload_n hx hb dX10_isFree_0 rfl (lv_at hl 0 rfl) ?_
  refine va_get (D := D) (ci := 10) (v := .long m_shut) (C := RX10) (T := TX10) (N := 27) hx hb hts iX10 hown hk.1 hP 0 rfl rfl 3 (by decide) (hts _ tw_786) (fun _ h9 => h9) rfl dX10_isFree_1 ?_
  refine lv_iload_n hx hb dX10_isFree_4 rfl (lv_at hl 1 rfl) ?_
  obtain ⟨z5, hz5, hf⟩ := q_bind hf
  refine q_rdS (As := [.long m_shut, .int x1]) (rest := []) (st2 := [.int z5]) S hk (c_X10_has l D cy H0 m_shut x1 z5 hz5) ok_X10_has tw_908 ⟨rfl, rfl, Nat.le_of_ble_eq_true rfl, Nat.le_of_ble_eq_true rfl⟩ rfl hl.1 rfl (Nat.le_of_ble_eq_true rfl) dX10_isFree_5 ⟨Nat.zero_le _, Nat.zero_le _⟩ rfl ?_
  refine lv_if_ne (tgt := 15) hx hb dX10_isFree_8 (by decide) (fun hc => ?_) (fun hc => ?_)
  · have hf := q_f hc hf
    refine lv_iconst (v := (0 : Int32)) hx hb dX10_isFree_15 (by decide) ?_
    have hf := Option.some.inj hf
    subst hf
    exact q_rzR (Or.inl rfl) hx hb hr hlocks dX10_isFree_16
  · have hf := q_t hc hf
    refine lv_iconst (v := (1 : Int32)) hx hb dX10_isFree_11 (by decide) ?_
    refine lv_goto (tgt := 16) hx hb dX10_isFree_12 (by decide) ?_
    have hf := Option.some.inj hf
    subst hf
    exact q_rzR (Or.inr rfl) hx hb hr hlocks dX10_isFree_16
def j_X10_freeCells_28 (k4 : Int64 → Int32 → Option (Int64)) (x3 : Int32) (k0 : Int64) (k1 : Int64) : Option (Int64) := k4 (k0 ||| k1) (x3 + 1)
def lp_X10_freeCells_4 (m_shut : Int64) (m_told : Nat → Int32) : Nat → Int64 → Int32 → Option (Int64)
  | 0, _, _ => none
  | n + 1, x1, x3 => (f_X10_cells m_told).bind (fun z6 => if z6 ≤ x3 then (some x1) else ((f_X10_isFree m_shut x3).bind (fun z15 => if z15 = 0 then (j_X10_freeCells_28 (lp_X10_freeCells_4 m_shut m_told n) x3 x1 (0 : Int64)) else (j_X10_freeCells_28 (lp_X10_freeCells_4 m_shut m_told n) x3 x1 (lsh (1 : Int64) x3)))))
theorem lp_X10_freeCells_4_s (m_shut : Int64) (m_told : Nat → Int32) (n : Nat) (x1 : Int64) (x3 : Int32) : lp_X10_freeCells_4 m_shut m_told (n + 1) x1 x3 = ((f_X10_cells m_told).bind (fun z6 => if z6 ≤ x3 then (some x1) else ((f_X10_isFree m_shut x3).bind (fun z15 => if z15 = 0 then (j_X10_freeCells_28 (lp_X10_freeCells_4 m_shut m_told n) x3 x1 (0 : Int64)) else (j_X10_freeCells_28 (lp_X10_freeCells_4 m_shut m_told n) x3 x1 (lsh (1 : Int64) x3)))))) := rfl
theorem lp_X10_freeCells_4_z (m_shut : Int64) (m_told : Nat → Int32) (x1 : Int64) (x3 : Int32) : lp_X10_freeCells_4 m_shut m_told 0 x1 x3 = none := rfl
def f_X10_freeCells (m_shut : Int64) (m_told : Nat → Int32) : Option (Int64) := lp_X10_freeCells_4 m_shut m_told FU (0 : Int64) (0 : Int32)
theorem ok_X10_freeCells : OkV yX10_freeCells cX10_freeCells 4 (some Jvm.ClassFile.FieldType.long) 0 := ⟨⟨tw_978, tw_13, by decide +kernel, by decide +kernel, by decide +kernel⟩, tw_977, tp_46⟩
set_option maxHeartbeats 4000000 in
set_option maxRecDepth 100000 in
theorem c_X10_freeCells (l : Launch) (D : va_G) (cy : ClassId × ClassId × ClassId) (H0 : Heap) (aM aM_told aM_draft aM_past aM_kept aM_isKept aM_seenLine aM_seenIs aM_rank aM_stage aM_text : Nat) (m_thrown : Int32) (m_shut : Int64) (m_dots : Int64) (m_draftShut : Int64) (m_draftDots : Int64) (m_undos : Int32) (m_base : Int32) (m_slopeX : Int32) (m_slopeY : Int32) (m_seen : Int32) (m_letters : Int32) (m_next : Int32) (m_begin : Int32) (m_token : Int32) (m_gain : Int32) (m_bestDot : Int32) (m_bestCell : Int32) (m_told : Nat → Int32) (r : Int64) (hP : va_P D vwCl [(aM, .inr (10, [.int m_thrown, .ref aM_told, .ref aM_draft, .long m_shut, .long m_dots, .long m_draftShut, .long m_draftDots, .int m_undos, .ref aM_past, .ref aM_kept, .ref aM_isKept, .int m_base, .int m_slopeX, .int m_slopeY, .int m_seen, .ref aM_seenLine, .ref aM_seenIs, .ref aM_rank, .ref aM_stage, .int m_letters, .ref aM_text, .int m_next, .int m_begin, .int m_token, .int m_gain, .int m_bestDot, .int m_bestCell])), (aM_told, .inl (cy.1, 7, .inl m_told))] H0) (hf : f_X10_freeCells m_shut m_told = some r) : Rd l yX10_freeCells cX10_freeCells 4 (some Jvm.ClassFile.FieldType.long) ({ frames := 2, cells := 0, slots := 0, locals := 43 } : Room) ([.ref aM] : List Value) (some (.long r)) D cy H0 := by
  refine rd_of (by decide +kernel) (Nat.le_of_ble_eq_true rfl) ?_
  intro p e s m below meth c ls S hr hlocks hk hl
  obtain ⟨hx, hb, hml, hown, hts⟩ := id S
  have hl : lv_has ls 4 [(0, .ref aM)] := hl
  rw [f_X10_freeCells] at hf
  have J4 : ∀ (n4 : Nat) (x1 : Int64) (x3 : Int32) (ls : Array Slot), lv_has ls 4 [(0, .ref aM), (1, .long x1), (3, .int x3)] → lp_X10_freeCells_4 m_shut m_told n4 x1 x3 = some r → W p l e ({ frames := 2, cells := 0, slots := 0, locals := 43 } : Room) s m ([.ref aM] : List Value).toArray below meth c H0 [] 0 0 (MQ below (QR (some (.long r)) H0) ([.ref aM] : List Value).toArray s 0 0 (fun _ => False)) (F0 m 4 ls []) := by
    intro n4
    induction n4 with
    | zero =>
      intro x1 x3 ls hl hf
      rw [lp_X10_freeCells_4_z] at hf
      cases hf
    | succ n4 ih4 =>
      have J28 : ∀ (x3 : Int32) (k0 : Int64) (k1 : Int64) (ls : Array Slot), lv_has ls 4 [(0, .ref aM), (3, .int x3)] → j_X10_freeCells_28 (lp_X10_freeCells_4 m_shut m_told n4) x3 k0 k1 = some r → W p l e ({ frames := 2, cells := 0, slots := 0, locals := 43 } : Room) s m ([.ref aM] : List Value).toArray below meth c H0 [] 0 0 (MQ below (QR (some (.long r)) H0) ([.ref aM] : List Value).toArray s 0 0 (fun _ => False)) (F0 m 28 ls [.long k1, .long k0]) := by
        intro x3 k0 k1 ls hl hf
        rw [j_X10_freeCells_28] at hf
        refine lv_lor hx hb dX10_freeCells_28 ?_
        refine lv_lstore_n (lv' := [(1, .long (k0 ||| k1)), (0, .ref aM), (3, .int x3)]) hx hb dX10_freeCells_29 rfl hl (by decide) rfl (fun ls hl => ?_)
        refine lv_iinc (v := (x3 + 1)) (lv' := [(3, .int (x3 + 1)), (1, .long (k0 ||| k1)), (0, .ref aM)]) hx hb dX10_freeCells_30 hl (k := 2) rfl rfl (by decide) rfl (fun ls hl => ?_)
        refine lv_goto (tgt := 4) hx hb dX10_freeCells_33 (by decide) ?_
        exact ih4 (k0 ||| k1) (x3 + 1) ls (lv_sub hl [2, 1, 0] rfl) hf
      intro x1 x3 ls hl hf
      rw [lp_X10_freeCells_4_s] at hf
      refine lv_iload_n hx hb dX10_freeCells_4 rfl (lv_at hl 2 rfl) ?_
      refine lv_aload_n hx hb dX10_freeCells_5 rfl (lv_at hl 0 rfl) ?_
      obtain ⟨z6, hz6, hf⟩ := q_bind hf
      refine q_rdV (As := []) (rest := [.int x3]) (st2 := [.int z6, .int x3]) S hk (c_X10_cells l D cy H0 aM aM_told aM_draft aM_past aM_kept aM_isKept aM_seenLine aM_seenIs aM_rank aM_stage aM_text m_thrown m_shut m_dots m_draftShut m_draftDots m_undos m_base m_slopeX m_slopeY m_seen m_letters m_next m_begin m_token m_gain m_bestDot m_bestCell m_told z6 (hP.sub [0, 1] rfl) hz6) ok_X10_cells tw_931 ⟨rfl, rfl, Nat.le_of_ble_eq_true rfl, Nat.le_of_ble_eq_true rfl⟩ (va_recv hk.1 hP (ci := 10) (q0 := 0) rfl rfl) rfl hl.1 rfl (Nat.le_of_ble_eq_true rfl) dX10_freeCells_6 ⟨Nat.zero_le _, Nat.zero_le _⟩ rfl ?_
      refine lv_icmp_ge (tgt := 36) hx hb dX10_freeCells_9 (by decide) (fun hc => ?_) (fun hc => ?_)
      · have hf := q_t hc hf
        refine lv_lload_n hx hb dX10_freeCells_36 rfl (lv_at hl 1 rfl) ?_
        have hf := Option.some.inj hf
        subst hf
        exact q_rlR hx hb hr hlocks dX10_freeCells_37
      · have hf := q_f hc hf
        refine lv_lload_n hx hb dX10_freeCells_12 rfl (lv_at hl 1 rfl) ?_
        refine lv_aload_n hx hb dX10_freeCells_13 rfl (lv_at hl 0 rfl) ?_
        refine lv_iload_n hx hb dX10_freeCells_14 rfl (lv_at hl 2 rfl) ?_
        obtain ⟨z15, hz15, hf⟩ := q_bind hf
        refine q_rdV (As := [.int x3]) (rest := [.long x1]) (st2 := [.int z15, .long x1]) S hk (c_X10_isFree l D cy H0 aM aM_told aM_draft aM_past aM_kept aM_isKept aM_seenLine aM_seenIs aM_rank aM_stage aM_text m_thrown m_shut m_dots m_draftShut m_draftDots m_undos m_base m_slopeX m_slopeY m_seen m_letters m_next m_begin m_token m_gain m_bestDot m_bestCell x3 z15 (hP.sub [0] rfl) hz15) ok_X10_isFree tw_979 ⟨rfl, rfl, Nat.le_of_ble_eq_true rfl, Nat.le_of_ble_eq_true rfl⟩ (va_recv hk.1 hP (ci := 10) (q0 := 0) rfl rfl) rfl hl.1 rfl (Nat.le_of_ble_eq_true rfl) dX10_freeCells_15 ⟨Nat.zero_le _, Nat.zero_le _⟩ rfl ?_
        refine lv_if_eq (tgt := 27) hx hb dX10_freeCells_18 (by decide) (fun hc => ?_) (fun hc => ?_)
        · have hf := q_t hc hf
          refine lv_lconst (v := (0 : Int64)) hx hb dX10_freeCells_27 (by decide) ?_
          exact J28 x3 x1 (0 : Int64) ls (lv_sub hl [0, 2] rfl) hf
        · have hf := q_f hc hf
          refine lv_lconst (v := (1 : Int64)) hx hb dX10_freeCells_21 (by decide) ?_
          refine lv_iload_n hx hb dX10_freeCells_22 rfl (lv_at hl 2 rfl) ?_
          refine lv_lshl (v := (lsh (1 : Int64) x3)) hx hb dX10_freeCells_23 rfl ?_
          refine lv_goto (tgt := 28) hx hb dX10_freeCells_24 (by decide) ?_
          exact J28 x3 x1 (lsh (1 : Int64) x3) ls (lv_sub hl [0, 2] rfl) hf
  refine lv_lconst (v := (0 : Int64)) hx hb dX10_freeCells_0 (by decide) ?_
  refine lv_lstore_n (lv' := [(1, .long (0 : Int64)), (0, .ref aM)]) hx hb dX10_freeCells_1 rfl hl (by decide) rfl (fun ls hl => ?_)
  refine lv_iconst (v := (0 : Int32)) hx hb dX10_freeCells_2 (by decide) ?_
  refine lv_istore_n (lv' := [(3, .int (0 : Int32)), (1, .long (0 : Int64)), (0, .ref aM)]) hx hb dX10_freeCells_3 rfl hl (by decide) rfl (fun ls hl => ?_)
  exact J4 FU (0 : Int64) (0 : Int32) ls (lv_sub hl [2, 1, 0] rfl) hf
def f_X10_emptiest (m_shut : Int64) (m_told : Nat → Int32) (x1 : Int64) : Option (Int32) := (f_X10_freeCells m_shut m_told).bind (fun z2 => (f_X10_extremeOf m_told (z2 &&& (x1 ^^^ (-1 : Int64))) x1 (0 : Int32)).bind (fun z13 => some z13))
theorem ok_X10_emptiest : OkV yX10_emptiest cX10_emptiest 3 (some Jvm.ClassFile.FieldType.int) 1 := ⟨⟨tw_974, tw_13, by decide +kernel, by decide +kernel, by decide +kernel⟩, tw_973, tp_45⟩
set_option maxHeartbeats 4000000 in
set_option maxRecDepth 100000 in
theorem c_X10_emptiest (l : Launch) (D : va_G) (cy : ClassId × ClassId × ClassId) (H0 : Heap) (aM aM_told aM_draft aM_past aM_kept aM_isKept aM_seenLine aM_seenIs aM_rank aM_stage aM_text : Nat) (m_thrown : Int32) (m_shut : Int64) (m_dots : Int64) (m_draftShut : Int64) (m_draftDots : Int64) (m_undos : Int32) (m_base : Int32) (m_slopeX : Int32) (m_slopeY : Int32) (m_seen : Int32) (m_letters : Int32) (m_next : Int32) (m_begin : Int32) (m_token : Int32) (m_gain : Int32) (m_bestDot : Int32) (m_bestCell : Int32) (m_told : Nat → Int32) (x1 : Int64) (r : Int32) (hP : va_P D vwCl [(aM, .inr (10, [.int m_thrown, .ref aM_told, .ref aM_draft, .long m_shut, .long m_dots, .long m_draftShut, .long m_draftDots, .int m_undos, .ref aM_past, .ref aM_kept, .ref aM_isKept, .int m_base, .int m_slopeX, .int m_slopeY, .int m_seen, .ref aM_seenLine, .ref aM_seenIs, .ref aM_rank, .ref aM_stage, .int m_letters, .ref aM_text, .int m_next, .int m_begin, .int m_token, .int m_gain, .int m_bestDot, .int m_bestCell])), (aM_told, .inl (cy.1, 7, .inl m_told))] H0) (hf : f_X10_emptiest m_shut m_told x1 = some r) : Rd l yX10_emptiest cX10_emptiest 3 (some Jvm.ClassFile.FieldType.int) ({ frames := 4, cells := 0, slots := 0, locals := 103 } : Room) ([.ref aM, .long x1] : List Value) (some (.int r)) D cy H0 := by
  refine rd_of (by decide +kernel) (Nat.le_of_ble_eq_true rfl) ?_
  intro p e s m below meth c ls S hr hlocks hk hl
  obtain ⟨hx, hb, hml, hown, hts⟩ := id S
  have hl : lv_has ls 3 [(0, .ref aM), (1, .long x1)] := hl
  rw [f_X10_emptiest] at hf
  refine lv_aload_n hx hb dX10_emptiest_0 rfl (lv_at hl 0 rfl) ?_
  refine lv_aload_n hx hb dX10_emptiest_1 rfl (lv_at hl 0 rfl) ?_
  obtain ⟨z2, hz2, hf⟩ := q_bind hf
  refine q_rdV (As := []) (rest := [.ref aM]) (st2 := [.long z2, .ref aM]) S hk (c_X10_freeCells l D cy H0 aM aM_told aM_draft aM_past aM_kept aM_isKept aM_seenLine aM_seenIs aM_rank aM_stage aM_text m_thrown m_shut m_dots m_draftShut m_draftDots m_undos m_base m_slopeX m_slopeY m_seen m_letters m_next m_begin m_token m_gain m_bestDot m_bestCell m_told z2 (hP.sub [0, 1] rfl) hz2) ok_X10_freeCells tw_975 ⟨rfl, rfl, Nat.le_of_ble_eq_true rfl, Nat.le_of_ble_eq_true rfl⟩ (va_recv hk.1 hP (ci := 10) (q0 := 0) rfl rfl) rfl hl.1 rfl (Nat.le_of_ble_eq_true rfl) dX10_emptiest_2 ⟨Nat.zero_le _, Nat.zero_le _⟩ rfl ?_
  refine lv_lload_n hx hb dX10_emptiest_5 rfl (lv_at hl 1 rfl) ?_
  refine lv_ldc2 hx hb hown (hts _ tw_970) dX10_emptiest_6 ?_
  refine lv_lxor hx hb dX10_emptiest_9 ?_
  refine lv_land hx hb dX10_emptiest_10 ?_
  refine lv_lload_n hx hb dX10_emptiest_11 rfl (lv_at hl 1 rfl) ?_
  refine lv_iconst (v := (0 : Int32)) hx hb dX10_emptiest_12 (by decide) ?_
  obtain ⟨z13, hz13, hf⟩ := q_bind hf
  refine q_rdV (As := [.long (z2 &&& (x1 ^^^ (-1 : Int64))), .long x1, .int (0 : Int32)]) (rest := []) (st2 := [.int z13]) S hk (c_X10_extremeOf l D cy H0 aM aM_told aM_draft aM_past aM_kept aM_isKept aM_seenLine aM_seenIs aM_rank aM_stage aM_text m_thrown m_shut m_dots m_draftShut m_draftDots m_undos m_base m_slopeX m_slopeY m_seen m_letters m_next m_begin m_token m_gain m_bestDot m_bestCell m_told (z2 &&& (x1 ^^^ (-1 : Int64))) x1 (0 : Int32) z13 (hP.sub [0, 1] rfl) hz13) ok_X10_extremeOf tw_962 ⟨rfl, rfl, Nat.le_of_ble_eq_true rfl, Nat.le_of_ble_eq_true rfl⟩ (va_recv hk.1 hP (ci := 10) (q0 := 0) rfl rfl) rfl hl.1 rfl (Nat.le_of_ble_eq_true rfl) dX10_emptiest_13 ⟨Nat.zero_le _, Nat.zero_le _⟩ rfl ?_
  have hf := Option.some.inj hf
  subst hf
  exact q_riR hx hb hr hlocks dX10_emptiest_16
def f_X10_isPlace (m_told : Nat → Int32) (x1 : Int32) (x2 : Int32) : Option (Int32) := if inb (0 : Int32) 7 = true then ((f_X10_in x1 (0 : Int32) ((m_told (0 : Int32).toNatClampNeg) - (1 : Int32))).bind (fun z10 => if z10 = 0 then (some (0 : Int32)) else (if inb (1 : Int32) 7 = true then ((f_X10_in x2 (0 : Int32) ((m_told (1 : Int32).toNatClampNeg) - (1 : Int32))).bind (fun z26 => if z26 = 0 then (some (0 : Int32)) else (some (1 : Int32)))) else none))) else none
theorem ok_X10_isPlace : OkV yX10_isPlace cX10_isPlace 3 (some Jvm.ClassFile.FieldType.boolean) 2 := ⟨⟨tw_918, tw_13, by decide +kernel, by decide +kernel, by decide +kernel⟩, tw_917, tp_35⟩
set_option maxHeartbeats 4000000 in
set_option maxRecDepth 100000 in
theorem c_X10_isPlace (l : Launch) (D : va_G) (cy : ClassId × ClassId × ClassId) (H0 : Heap) (aM aM_told aM_draft aM_past aM_kept aM_isKept aM_seenLine aM_seenIs aM_rank aM_stage aM_text : Nat) (m_thrown : Int32) (m_shut : Int64) (m_dots : Int64) (m_draftShut : Int64) (m_draftDots : Int64) (m_undos : Int32) (m_base : Int32) (m_slopeX : Int32) (m_slopeY : Int32) (m_seen : Int32) (m_letters : Int32) (m_next : Int32) (m_begin : Int32) (m_token : Int32) (m_gain : Int32) (m_bestDot : Int32) (m_bestCell : Int32) (m_told : Nat → Int32) (x1 : Int32) (x2 : Int32) (r : Int32) (hP : va_P D vwCl [(aM, .inr (10, [.int m_thrown, .ref aM_told, .ref aM_draft, .long m_shut, .long m_dots, .long m_draftShut, .long m_draftDots, .int m_undos, .ref aM_past, .ref aM_kept, .ref aM_isKept, .int m_base, .int m_slopeX, .int m_slopeY, .int m_seen, .ref aM_seenLine, .ref aM_seenIs, .ref aM_rank, .ref aM_stage, .int m_letters, .ref aM_text, .int m_next, .int m_begin, .int m_token, .int m_gain, .int m_bestDot, .int m_bestCell])), (aM_told, .inl (cy.1, 7, .inl m_told))] H0) (hf : f_X10_isPlace m_told x1 x2 = some r) : Rd l yX10_isPlace cX10_isPlace 3 (some Jvm.ClassFile.FieldType.boolean) ({ frames := 1, cells := 0, slots := 0, locals := 22 } : Room) ([.ref aM, .int x1, .int x2] : List Value) (some (.int r)) D cy H0 := by
  refine rd_of (by decide +kernel) (Nat.le_of_ble_eq_true rfl) ?_
  intro p e s m below meth c ls S hr hlocks hk hl
  obtain ⟨hx, hb, hml, hown, hts⟩ := id S
  have hl : lv_has ls 3 [(0, .ref aM), (1, .int x1), (2, .int x2)] := hl
  rw [f_X10_isPlace] at hf
  refine lv_iload_n hx hb dX10_isPlace_0 rfl (lv_at hl 1 rfl) ?_
  refine lv_iconst (v := (0 : Int32)) hx hb dX10_isPlace_1 (by decide) ?_
  refine lv_aload_n hx hb dX10_isPlace_2 rfl (lv_at hl 0 rfl) ?_
  refine va_get (D := D) (ci := 10) (v := .ref aM_told) (C := RX10) (T := TX10) (N := 27) hx hb hts iX10 hown hk.1 hP 0 rfl rfl 1 (by decide) (hts _ tw_784) (fun _ h9 => h9) rfl dX10_isPlace_3 ?_
  refine lv_iconst (v := (0 : Int32)) hx hb dX10_isPlace_6 (by decide) ?_
  obtain ⟨hi, hf⟩ := q_in hf
  refine va_iald hx hb hk.1 hP 1 0 rfl rfl hi dX10_isPlace_7 ?_
  refine lv_iconst (v := (1 : Int32)) hx hb dX10_isPlace_8 (by decide) ?_
  refine lv_isub hx hb dX10_isPlace_9 ?_
  obtain ⟨z10, hz10, hf⟩ := q_bind hf
  refine q_rdS (As := [.int x1, .int (0 : Int32), .int ((m_told (0 : Int32).toNatClampNeg) - (1 : Int32))]) (rest := []) (st2 := [.int z10]) S hk (c_X10_in l D cy H0 x1 (0 : Int32) ((m_told (0 : Int32).toNatClampNeg) - (1 : Int32)) z10 hz10) ok_X10_in tw_869 ⟨rfl, rfl, Nat.le_of_ble_eq_true rfl, Nat.le_of_ble_eq_true rfl⟩ rfl hl.1 rfl (Nat.le_of_ble_eq_true rfl) dX10_isPlace_10 ⟨Nat.zero_le _, Nat.zero_le _⟩ rfl ?_
  refine lv_if_eq (tgt := 36) hx hb dX10_isPlace_13 (by decide) (fun hc => ?_) (fun hc => ?_)
  · have hf := q_t hc hf
    refine lv_iconst (v := (0 : Int32)) hx hb dX10_isPlace_36 (by decide) ?_
    have hf := Option.some.inj hf
    subst hf
    exact q_rzR (Or.inl rfl) hx hb hr hlocks dX10_isPlace_37
  · have hf := q_f hc hf
    refine lv_iload_n hx hb dX10_isPlace_16 rfl (lv_at hl 2 rfl) ?_
    refine lv_iconst (v := (0 : Int32)) hx hb dX10_isPlace_17 (by decide) ?_
    refine lv_aload_n hx hb dX10_isPlace_18 rfl (lv_at hl 0 rfl) ?_
    refine va_get (D := D) (ci := 10) (v := .ref aM_told) (C := RX10) (T := TX10) (N := 27) hx hb hts iX10 hown hk.1 hP 0 rfl rfl 1 (by decide) (hts _ tw_784) (fun _ h9 => h9) rfl dX10_isPlace_19 ?_
    refine lv_iconst (v := (1 : Int32)) hx hb dX10_isPlace_22 (by decide) ?_
    obtain ⟨hi, hf⟩ := q_in hf
    refine va_iald hx hb hk.1 hP 1 0 rfl rfl hi dX10_isPlace_23 ?_
    refine lv_iconst (v := (1 : Int32)) hx hb dX10_isPlace_24 (by decide) ?_
    refine lv_isub hx hb dX10_isPlace_25 ?_
    obtain ⟨z26, hz26, hf⟩ := q_bind hf
    refine q_rdS (As := [.int x2, .int (0 : Int32), .int ((m_told (1 : Int32).toNatClampNeg) - (1 : Int32))]) (rest := []) (st2 := [.int z26]) S hk (c_X10_in l D cy H0 x2 (0 : Int32) ((m_told (1 : Int32).toNatClampNeg) - (1 : Int32)) z26 hz26) ok_X10_in tw_869 ⟨rfl, rfl, Nat.le_of_ble_eq_true rfl, Nat.le_of_ble_eq_true rfl⟩ rfl hl.1 rfl (Nat.le_of_ble_eq_true rfl) dX10_isPlace_26 ⟨Nat.zero_le _, Nat.zero_le _⟩ rfl ?_
    refine lv_if_eq (tgt := 36) hx hb dX10_isPlace_29 (by decide) (fun hc => ?_) (fun hc => ?_)
    · have hf := q_t hc hf
      refine lv_iconst (v := (0 : Int32)) hx hb dX10_isPlace_36 (by decide) ?_
      have hf := Option.some.inj hf
      subst hf
      exact q_rzR (Or.inl rfl) hx hb hr hlocks dX10_isPlace_37
    · have hf := q_f hc hf
      refine lv_iconst (v := (1 : Int32)) hx hb dX10_isPlace_32 (by decide) ?_
      refine lv_goto (tgt := 37) hx hb dX10_isPlace_33 (by decide) ?_
      have hf := Option.some.inj hf
      subst hf
      exact q_rzR (Or.inr rfl) hx hb hr hlocks dX10_isPlace_37
def f_X10_at (m_told : Nat → Int32) (x1 : Int32) (x2 : Int32) : Option (Int32) := if inb (0 : Int32) 7 = true then (some (((m_told (0 : Int32).toNatClampNeg) * x2) + x1)) else none
theorem ok_X10_at : OkV yX10_at cX10_at 3 (some Jvm.ClassFile.FieldType.int) 2 := ⟨⟨tw_922, tw_13, by decide +kernel, by decide +kernel, by decide +kernel⟩, tw_921, tp_36⟩
set_option maxHeartbeats 4000000 in
set_option maxRecDepth 100000 in
theorem c_X10_at (l : Launch) (D : va_G) (cy : ClassId × ClassId × ClassId) (H0 : Heap) (aM aM_told aM_draft aM_past aM_kept aM_isKept aM_seenLine aM_seenIs aM_rank aM_stage aM_text : Nat) (m_thrown : Int32) (m_shut : Int64) (m_dots : Int64) (m_draftShut : Int64) (m_draftDots : Int64) (m_undos : Int32) (m_base : Int32) (m_slopeX : Int32) (m_slopeY : Int32) (m_seen : Int32) (m_letters : Int32) (m_next : Int32) (m_begin : Int32) (m_token : Int32) (m_gain : Int32) (m_bestDot : Int32) (m_bestCell : Int32) (m_told : Nat → Int32) (x1 : Int32) (x2 : Int32) (r : Int32) (hP : va_P D vwCl [(aM, .inr (10, [.int m_thrown, .ref aM_told, .ref aM_draft, .long m_shut, .long m_dots, .long m_draftShut, .long m_draftDots, .int m_undos, .ref aM_past, .ref aM_kept, .ref aM_isKept, .int m_base, .int m_slopeX, .int m_slopeY, .int m_seen, .ref aM_seenLine, .ref aM_seenIs, .ref aM_rank, .ref aM_stage, .int m_letters, .ref aM_text, .int m_next, .int m_begin, .int m_token, .int m_gain, .int m_bestDot, .int m_bestCell])), (aM_told, .inl (cy.1, 7, .inl m_told))] H0) (hf : f_X10_at m_told x1 x2 = some r) : Rd l yX10_at cX10_at 3 (some Jvm.ClassFile.FieldType.int) ({ frames := 0, cells := 0, slots := 0, locals := 0 } : Room) ([.ref aM, .int x1, .int x2] : List Value) (some (.int r)) D cy H0 := by
  refine rd_of (by decide +kernel) (Nat.le_of_ble_eq_true rfl) ?_
  intro p e s m below meth c ls S hr hlocks hk hl
  obtain ⟨hx, hb, hml, hown, hts⟩ := id S
  have hl : lv_has ls 3 [(0, .ref aM), (1, .int x1), (2, .int x2)] := hl
  rw [f_X10_at] at hf
  refine lv_aload_n hx hb dX10_at_0 rfl (lv_at hl 0 rfl) ?_
  refine va_get (D := D) (ci := 10) (v := .ref aM_told) (C := RX10) (T := TX10) (N := 27) hx hb hts iX10 hown hk.1 hP 0 rfl rfl 1 (by decide) (hts _ tw_784) (fun _ h9 => h9) rfl dX10_at_1 ?_
  refine lv_iconst (v := (0 : Int32)) hx hb dX10_at_4 (by decide) ?_
  obtain ⟨hi, hf⟩ := q_in hf
  refine va_iald hx hb hk.1 hP 1 0 rfl rfl hi dX10_at_5 ?_
  refine lv_iload_n hx hb dX10_at_6 rfl (lv_at hl 2 rfl) ?_
  refine lv_imul hx hb dX10_at_7 ?_
  refine lv_iload_n hx hb dX10_at_8 rfl (lv_at hl 1 rfl) ?_
  refine lv_iadd hx hb dX10_at_9 ?_
  have hf := Option.some.inj hf
  subst hf
  exact q_riR hx hb hr hlocks dX10_at_10
def f_X10_cell (m_thrown : Int32) (m_shut : Int64) (m_dots : Int64) (m_told : Nat → Int32) (x1 : Int32) (x2 : Int32) : Option (Int32 × Int32) := (f_X10_isPlace m_told x1 x2).bind (fun z8 => if z8 = 0 then (some ((-1 : Int32), (0 : Int32))) else ((f_X10_at m_told x1 x2).bind (fun z25 => (f_X10_has m_shut z25).bind (fun z28 => if z28 = 0 then ((f_X10_at m_told x1 x2).bind (fun z45 => (f_X10_has m_dots z45).bind (fun z48 => if z48 = 0 then (some ((0 : Int32), (0 : Int32))) else (some ((1 : Int32), (0 : Int32)))))) else (some ((2 : Int32), (0 : Int32)))))))
theorem ok_X10_cell : OkV yX10_cell cX10_cell 3 (some Jvm.ClassFile.FieldType.int) 2 := ⟨⟨tw_914, tw_13, by decide +kernel, by decide +kernel, by decide +kernel⟩, tw_912, tw_913⟩
set_option maxHeartbeats 4000000 in
set_option maxRecDepth 100000 in
theorem c_X10_cell (l : Launch) (D : va_G) (cy : ClassId × ClassId × ClassId) (H0 : Heap) (aM aM_told aM_draft aM_past aM_kept aM_isKept aM_seenLine aM_seenIs aM_rank aM_stage aM_text : Nat) (m_thrown : Int32) (m_shut : Int64) (m_dots : Int64) (m_draftShut : Int64) (m_draftDots : Int64) (m_undos : Int32) (m_base : Int32) (m_slopeX : Int32) (m_slopeY : Int32) (m_seen : Int32) (m_letters : Int32) (m_next : Int32) (m_begin : Int32) (m_token : Int32) (m_gain : Int32) (m_bestDot : Int32) (m_bestCell : Int32) (m_told : Nat → Int32) (x1 : Int32) (x2 : Int32) (r : Int32 × Int32) (hP : va_P D vwCl [(aM, .inr (10, [.int m_thrown, .ref aM_told, .ref aM_draft, .long m_shut, .long m_dots, .long m_draftShut, .long m_draftDots, .int m_undos, .ref aM_past, .ref aM_kept, .ref aM_isKept, .int m_base, .int m_slopeX, .int m_slopeY, .int m_seen, .ref aM_seenLine, .ref aM_seenIs, .ref aM_rank, .ref aM_stage, .int m_letters, .ref aM_text, .int m_next, .int m_begin, .int m_token, .int m_gain, .int m_bestDot, .int m_bestCell])), (aM_told, .inl (cy.1, 7, .inl m_told))] H0) (hD0 : va_D (fun _ => True) [(aM, .inr (10, [.int m_thrown, .ref aM_told, .ref aM_draft, .long m_shut, .long m_dots, .long m_draftShut, .long m_draftDots, .int m_undos, .ref aM_past, .ref aM_kept, .ref aM_isKept, .int m_base, .int m_slopeX, .int m_slopeY, .int m_seen, .ref aM_seenLine, .ref aM_seenIs, .ref aM_rank, .ref aM_stage, .int m_letters, .ref aM_text, .int m_next, .int m_begin, .int m_token, .int m_gain, .int m_bestDot, .int m_bestCell])), (aM_told, .inl (cy.1, 7, .inl m_told))]) (hf : f_X10_cell m_thrown m_shut m_dots m_told x1 x2 = some r) : Wr l yX10_cell cX10_cell 3 (some Jvm.ClassFile.FieldType.int) ({ frames := 2, cells := 0, slots := 0, locals := 44 } : Room) ([.ref aM, .int x1, .int x2] : List Value) (some (.int (r.1))) D cy H0 [(aM, .inr (10, [.int m_thrown, .ref aM_told, .ref aM_draft, .long m_shut, .long m_dots, .long m_draftShut, .long m_draftDots, .int m_undos, .ref aM_past, .ref aM_kept, .ref aM_isKept, .int m_base, .int m_slopeX, .int m_slopeY, .int m_seen, .ref aM_seenLine, .ref aM_seenIs, .ref aM_rank, .ref aM_stage, .int m_letters, .ref aM_text, .int m_next, .int m_begin, .int m_token, .int m_gain, .int m_bestDot, .int m_bestCell])), (aM_told, .inl (cy.1, 7, .inl m_told))] [(aM, .inr (10, [.int (r.2), .ref aM_told, .ref aM_draft, .long m_shut, .long m_dots, .long m_draftShut, .long m_draftDots, .int m_undos, .ref aM_past, .ref aM_kept, .ref aM_isKept, .int m_base, .int m_slopeX, .int m_slopeY, .int m_seen, .ref aM_seenLine, .ref aM_seenIs, .ref aM_rank, .ref aM_stage, .int m_letters, .ref aM_text, .int m_next, .int m_begin, .int m_token, .int m_gain, .int m_bestDot, .int m_bestCell])), (aM_told, .inl (cy.1, 7, .inl m_told))] := by
  refine wr_of (by decide +kernel) (Nat.le_of_ble_eq_true rfl) hD0 ?_
  intro p e s m below meth c ls A S hr hlocks hk hl hD hS hA
  obtain ⟨hx, hb, hml, hown, hts⟩ := id S
  have hl : lv_has ls 3 [(0, .ref aM), (1, .int x1), (2, .int x2)] := hl
  rw [f_X10_cell] at hf
  refine lv_aload_n hx hb dX10_cell_0 rfl (lv_at hl 0 rfl) ?_
  refine lv_iconst (v := (0 : Int32)) hx hb dX10_cell_1 (by decide) ?_
  refine va_put (D := D) (ci := 10) (v := .int (0 : Int32)) (ty := .int) (C := RX10) (T := TX10) (N := 27) hx hb hts iX10 tyX10 tyX10_ok nmX10 hown hk.1 hP hD hS 0 rfl rfl 0 (by decide) (hts _ tw_783) (fun _ h9 => h9) rfl (by decide +kernel) rfl rfl (Nat.le_of_ble_eq_true rfl) dX10_cell_2 (fun H locs hP hD hS => ?_)
  have hP : va_P D vwCl [(aM, .inr (10, [.int (0 : Int32), .ref aM_told, .ref aM_draft, .long m_shut, .long m_dots, .long m_draftShut, .long m_draftDots, .int m_undos, .ref aM_past, .ref aM_kept, .ref aM_isKept, .int m_base, .int m_slopeX, .int m_slopeY, .int m_seen, .ref aM_seenLine, .ref aM_seenIs, .ref aM_rank, .ref aM_stage, .int m_letters, .ref aM_text, .int m_next, .int m_begin, .int m_token, .int m_gain, .int m_bestDot, .int m_bestCell])), (aM_told, .inl (cy.1, 7, .inl m_told))] H := hP
  have hD : va_D A [(aM, .inr (10, [.int (0 : Int32), .ref aM_told, .ref aM_draft, .long m_shut, .long m_dots, .long m_draftShut, .long m_draftDots, .int m_undos, .ref aM_past, .ref aM_kept, .ref aM_isKept, .int m_base, .int m_slopeX, .int m_slopeY, .int m_seen, .ref aM_seenLine, .ref aM_seenIs, .ref aM_rank, .ref aM_stage, .int m_letters, .ref aM_text, .int m_next, .int m_begin, .int m_token, .int m_gain, .int m_bestDot, .int m_bestCell])), (aM_told, .inl (cy.1, 7, .inl m_told))] := hD
  refine lv_aload_n hx hb dX10_cell_5 rfl (lv_at hl 0 rfl) ?_
  refine lv_iload_n hx hb dX10_cell_6 rfl (lv_at hl 1 rfl) ?_
  refine lv_iload_n hx hb dX10_cell_7 rfl (lv_at hl 2 rfl) ?_
  obtain ⟨z8, hz8, hf⟩ := q_bind hf
  refine q_rdV (As := [.int x1, .int x2]) (rest := []) (st2 := [.int z8]) S hk (c_X10_isPlace l D cy H aM aM_told aM_draft aM_past aM_kept aM_isKept aM_seenLine aM_seenIs aM_rank aM_stage aM_text (0 : Int32) m_shut m_dots m_draftShut m_draftDots m_undos m_base m_slopeX m_slopeY m_seen m_letters m_next m_begin m_token m_gain m_bestDot m_bestCell m_told x1 x2 z8 (hP.sub [0, 1] rfl) hz8) ok_X10_isPlace tw_915 ⟨rfl, rfl, Nat.le_of_ble_eq_true rfl, Nat.le_of_ble_eq_true rfl⟩ (va_recv hk.1 hP (ci := 10) (q0 := 0) rfl rfl) rfl hl.1 rfl (Nat.le_of_ble_eq_true rfl) dX10_cell_8 ⟨Nat.zero_le _, Nat.zero_le _⟩ rfl ?_
  refine lv_if_ne (tgt := 18) hx hb dX10_cell_11 (by decide) (fun hc => ?_) (fun hc => ?_)
  · have hf := q_f hc hf
    refine lv_aload_n hx hb dX10_cell_18 rfl (lv_at hl 0 rfl) ?_
    refine va_get (D := D) (ci := 10) (v := .long m_shut) (C := RX10) (T := TX10) (N := 27) hx hb hts iX10 hown hk.1 hP 0 rfl rfl 3 (by decide) (hts _ tw_786) (fun _ h9 => h9) rfl dX10_cell_19 ?_
    refine lv_aload_n hx hb dX10_cell_22 rfl (lv_at hl 0 rfl) ?_
    refine lv_iload_n hx hb dX10_cell_23 rfl (lv_at hl 1 rfl) ?_
    refine lv_iload_n hx hb dX10_cell_24 rfl (lv_at hl 2 rfl) ?_
    obtain ⟨z25, hz25, hf⟩ := q_bind hf
    refine q_rdV (As := [.int x1, .int x2]) (rest := [.long m_shut]) (st2 := [.int z25, .long m_shut]) S hk (c_X10_at l D cy H aM aM_told aM_draft aM_past aM_kept aM_isKept aM_seenLine aM_seenIs aM_rank aM_stage aM_text (0 : Int32) m_shut m_dots m_draftShut m_draftDots m_undos m_base m_slopeX m_slopeY m_seen m_letters m_next m_begin m_token m_gain m_bestDot m_bestCell m_told x1 x2 z25 (hP.sub [0, 1] rfl) hz25) ok_X10_at tw_919 ⟨rfl, rfl, Nat.le_of_ble_eq_true rfl, Nat.le_of_ble_eq_true rfl⟩ (va_recv hk.1 hP (ci := 10) (q0 := 0) rfl rfl) rfl hl.1 rfl (Nat.le_of_ble_eq_true rfl) dX10_cell_25 ⟨Nat.zero_le _, Nat.zero_le _⟩ rfl ?_
    obtain ⟨z28, hz28, hf⟩ := q_bind hf
    refine q_rdS (As := [.long m_shut, .int z25]) (rest := []) (st2 := [.int z28]) S hk (c_X10_has l D cy H m_shut z25 z28 hz28) ok_X10_has tw_908 ⟨rfl, rfl, Nat.le_of_ble_eq_true rfl, Nat.le_of_ble_eq_true rfl⟩ rfl hl.1 rfl (Nat.le_of_ble_eq_true rfl) dX10_cell_28 ⟨Nat.zero_le _, Nat.zero_le _⟩ rfl ?_
    refine lv_if_eq (tgt := 38) hx hb dX10_cell_31 (by decide) (fun hc => ?_) (fun hc => ?_)
    · have hf := q_t hc hf
      refine lv_aload_n hx hb dX10_cell_38 rfl (lv_at hl 0 rfl) ?_
      refine va_get (D := D) (ci := 10) (v := .long m_dots) (C := RX10) (T := TX10) (N := 27) hx hb hts iX10 hown hk.1 hP 0 rfl rfl 4 (by decide) (hts _ tw_787) (fun _ h9 => h9) rfl dX10_cell_39 ?_
      refine lv_aload_n hx hb dX10_cell_42 rfl (lv_at hl 0 rfl) ?_
      refine lv_iload_n hx hb dX10_cell_43 rfl (lv_at hl 1 rfl) ?_
      refine lv_iload_n hx hb dX10_cell_44 rfl (lv_at hl 2 rfl) ?_
      obtain ⟨z45, hz45, hf⟩ := q_bind hf
      refine q_rdV (As := [.int x1, .int x2]) (rest := [.long m_dots]) (st2 := [.int z45, .long m_dots]) S hk (c_X10_at l D cy H aM aM_told aM_draft aM_past aM_kept aM_isKept aM_seenLine aM_seenIs aM_rank aM_stage aM_text (0 : Int32) m_shut m_dots m_draftShut m_draftDots m_undos m_base m_slopeX m_slopeY m_seen m_letters m_next m_begin m_token m_gain m_bestDot m_bestCell m_told x1 x2 z45 (hP.sub [0, 1] rfl) hz45) ok_X10_at tw_919 ⟨rfl, rfl, Nat.le_of_ble_eq_true rfl, Nat.le_of_ble_eq_true rfl⟩ (va_recv hk.1 hP (ci := 10) (q0 := 0) rfl rfl) rfl hl.1 rfl (Nat.le_of_ble_eq_true rfl) dX10_cell_45 ⟨Nat.zero_le _, Nat.zero_le _⟩ rfl ?_
      obtain ⟨z48, hz48, hf⟩ := q_bind hf
      refine q_rdS (As := [.long m_dots, .int z45]) (rest := []) (st2 := [.int z48]) S hk (c_X10_has l D cy H m_dots z45 z48 hz48) ok_X10_has tw_908 ⟨rfl, rfl, Nat.le_of_ble_eq_true rfl, Nat.le_of_ble_eq_true rfl⟩ rfl hl.1 rfl (Nat.le_of_ble_eq_true rfl) dX10_cell_48 ⟨Nat.zero_le _, Nat.zero_le _⟩ rfl ?_
      refine lv_if_eq (tgt := 58) hx hb dX10_cell_51 (by decide) (fun hc => ?_) (fun hc => ?_)
      · have hf := q_t hc hf
        refine lv_iconst (v := (0 : Int32)) hx hb dX10_cell_58 (by decide) ?_
        have hf := Option.some.inj hf
        subst hf
        exact q_riW hP hS hx hb hr hlocks dX10_cell_59
      · have hf := q_f hc hf
        refine lv_iconst (v := (1 : Int32)) hx hb dX10_cell_54 (by decide) ?_
        refine lv_goto (tgt := 59) hx hb dX10_cell_55 (by decide) ?_
        have hf := Option.some.inj hf
        subst hf
        exact q_riW hP hS hx hb hr hlocks dX10_cell_59
    · have hf := q_f hc hf
      refine lv_iconst (v := (2 : Int32)) hx hb dX10_cell_34 (by decide) ?_
      refine lv_goto (tgt := 59) hx hb dX10_cell_35 (by decide) ?_
      have hf := Option.some.inj hf
      subst hf
      exact q_riW hP hS hx hb hr hlocks dX10_cell_59
  · have hf := q_t hc hf
    refine lv_iconst (v := (-1 : Int32)) hx hb dX10_cell_14 (by decide) ?_
    refine lv_goto (tgt := 59) hx hb dX10_cell_15 (by decide) ?_
    have hf := Option.some.inj hf
    subst hf
    exact q_riW hP hS hx hb hr hlocks dX10_cell_59
def f_X10_isCell (m_told : Nat → Int32) (x1 : Int32) : Option (Int32) := (f_X10_cells m_told).bind (fun z3 => (f_X10_in x1 (0 : Int32) (z3 - (1 : Int32))).bind (fun z8 => if isb z8 = true then some z8 else none))
theorem ok_X10_isCell : OkV yX10_isCell cX10_isCell 2 (some Jvm.ClassFile.FieldType.boolean) 1 := ⟨⟨tw_930, tw_13, by decide +kernel, by decide +kernel, by decide +kernel⟩, tw_929, tp_37⟩
set_option maxHeartbeats 4000000 in
set_option maxRecDepth 100000 in
theorem c_X10_isCell (l : Launch) (D : va_G) (cy : ClassId × ClassId × ClassId) (H0 : Heap) (aM aM_told aM_draft aM_past aM_kept aM_isKept aM_seenLine aM_seenIs aM_rank aM_stage aM_text : Nat) (m_thrown : Int32) (m_shut : Int64) (m_dots : Int64) (m_draftShut : Int64) (m_draftDots : Int64) (m_undos : Int32) (m_base : Int32) (m_slopeX : Int32) (m_slopeY : Int32) (m_seen : Int32) (m_letters : Int32) (m_next : Int32) (m_begin : Int32) (m_token : Int32) (m_gain : Int32) (m_bestDot : Int32) (m_bestCell : Int32) (m_told : Nat → Int32) (x1 : Int32) (r : Int32) (hP : va_P D vwCl [(aM, .inr (10, [.int m_thrown, .ref aM_told, .ref aM_draft, .long m_shut, .long m_dots, .long m_draftShut, .long m_draftDots, .int m_undos, .ref aM_past, .ref aM_kept, .ref aM_isKept, .int m_base, .int m_slopeX, .int m_slopeY, .int m_seen, .ref aM_seenLine, .ref aM_seenIs, .ref aM_rank, .ref aM_stage, .int m_letters, .ref aM_text, .int m_next, .int m_begin, .int m_token, .int m_gain, .int m_bestDot, .int m_bestCell])), (aM_told, .inl (cy.1, 7, .inl m_told))] H0) (hf : f_X10_isCell m_told x1 = some r) : Rd l yX10_isCell cX10_isCell 2 (some Jvm.ClassFile.FieldType.boolean) ({ frames := 1, cells := 0, slots := 0, locals := 22 } : Room) ([.ref aM, .int x1] : List Value) (some (.int r)) D cy H0 := by
  refine rd_of (by decide +kernel) (Nat.le_of_ble_eq_true rfl) ?_
  intro p e s m below meth c ls S hr hlocks hk hl
  obtain ⟨hx, hb, hml, hown, hts⟩ := id S
  have hl : lv_has ls 2 [(0, .ref aM), (1, .int x1)] := hl
  rw [f_X10_isCell] at hf
  refine lv_iload_n hx hb dX10_isCell_0 rfl (lv_at hl 1 rfl) ?_
  refine lv_iconst (v := (0 : Int32)) hx hb dX10_isCell_1 (by decide) ?_
  refine lv_aload_n hx hb dX10_isCell_2 rfl (lv_at hl 0 rfl) ?_
  obtain ⟨z3, hz3, hf⟩ := q_bind hf
  refine q_rdV (As := []) (rest := [.int (0 : Int32), .int x1]) (st2 := [.int z3, .int (0 : Int32), .int x1]) S hk (c_X10_cells l D cy H0 aM aM_told aM_draft aM_past aM_kept aM_isKept aM_seenLine aM_seenIs aM_rank aM_stage aM_text m_thrown m_shut m_dots m_draftShut m_draftDots m_undos m_base m_slopeX m_slopeY m_seen m_letters m_next m_begin m_token m_gain m_bestDot m_bestCell m_told z3 (hP.sub [0, 1] rfl) hz3) ok_X10_cells tw_931 ⟨rfl, rfl, Nat.le_of_ble_eq_true rfl, Nat.le_of_ble_eq_true rfl⟩ (va_recv hk.1 hP (ci := 10) (q0 := 0) rfl rfl) rfl hl.1 rfl (Nat.le_of_ble_eq_true rfl) dX10_isCell_3 ⟨Nat.zero_le _, Nat.zero_le _⟩ rfl ?_
  refine lv_iconst (v := (1 : Int32)) hx hb dX10_isCell_6 (by decide) ?_
  refine lv_isub hx hb dX10_isCell_7 ?_
  obtain ⟨z8, hz8, hf⟩ := q_bind hf
  refine q_rdS (As := [.int x1, .int (0 : Int32), .int (z3 - (1 : Int32))]) (rest := []) (st2 := [.int z8]) S hk (c_X10_in l D cy H0 x1 (0 : Int32) (z3 - (1 : Int32)) z8 hz8) ok_X10_in tw_869 ⟨rfl, rfl, Nat.le_of_ble_eq_true rfl, Nat.le_of_ble_eq_true rfl⟩ rfl hl.1 rfl (Nat.le_of_ble_eq_true rfl) dX10_isCell_8 ⟨Nat.zero_le _, Nat.zero_le _⟩ rfl ?_
  obtain ⟨hz, hf⟩ := q_isb hf
  have hf := Option.some.inj hf
  subst hf
  exact q_rzR hz hx hb hr hlocks dX10_isCell_11
def f_X10_near (m_thrown : Int32) (m_told : Nat → Int32) (x1 : Int32) (x2 : Int32) (x3 : Int32) : Option (Int32 × Int32) := (f_X10_isCell m_told x1).bind (fun z7 => if z7 = 0 then (some ((-1 : Int32), (0 : Int32))) else ((f_X10_isCell m_told x2).bind (fun z15 => if z15 = 0 then (some ((-1 : Int32), (0 : Int32))) else ((f_X10_in x3 (0 : Int32) (1 : Int32)).bind (fun z24 => if z24 = 0 then (some ((-1 : Int32), (0 : Int32))) else (if x3 = 0 then ((f_X10_distance m_told x1 x2).bind (fun z39 => some (z39, (0 : Int32)))) else ((f_X10_distance m_told x1 x2).bind (fun z49 => (f_X10_weight m_told z49).bind (fun z52 => some (z52, (0 : Int32)))))))))))
theorem ok_X10_near : OkV yX10_near cX10_near 4 (some Jvm.ClassFile.FieldType.int) 3 := ⟨⟨tw_926, tw_13, by decide +kernel, by decide +kernel, by decide +kernel⟩, tw_924, tw_925⟩
set_option maxHeartbeats 4000000 in
set_option maxRecDepth 100000 in
theorem c_X10_near (l : Launch) (D : va_G) (cy : ClassId × ClassId × ClassId) (H0 : Heap) (aM aM_told aM_draft aM_past aM_kept aM_isKept aM_seenLine aM_seenIs aM_rank aM_stage aM_text : Nat) (m_thrown : Int32) (m_shut : Int64) (m_dots : Int64) (m_draftShut : Int64) (m_draftDots : Int64) (m_undos : Int32) (m_base : Int32) (m_slopeX : Int32) (m_slopeY : Int32) (m_seen : Int32) (m_letters : Int32) (m_next : Int32) (m_begin : Int32) (m_token : Int32) (m_gain : Int32) (m_bestDot : Int32) (m_bestCell : Int32) (m_told : Nat → Int32) (x1 : Int32) (x2 : Int32) (x3 : Int32) (r : Int32 × Int32) (hP : va_P D vwCl [(aM, .inr (10, [.int m_thrown, .ref aM_told, .ref aM_draft, .long m_shut, .long m_dots, .long m_draftShut, .long m_draftDots, .int m_undos, .ref aM_past, .ref aM_kept, .ref aM_isKept, .int m_base, .int m_slopeX, .int m_slopeY, .int m_seen, .ref aM_seenLine, .ref aM_seenIs, .ref aM_rank, .ref aM_stage, .int m_letters, .ref aM_text, .int m_next, .int m_begin, .int m_token, .int m_gain, .int m_bestDot, .int m_bestCell])), (aM_told, .inl (cy.1, 7, .inl m_told))] H0) (hD0 : va_D (fun _ => True) [(aM, .inr (10, [.int m_thrown, .ref aM_told, .ref aM_draft, .long m_shut, .long m_dots, .long m_draftShut, .long m_draftDots, .int m_undos, .ref aM_past, .ref aM_kept, .ref aM_isKept, .int m_base, .int m_slopeX, .int m_slopeY, .int m_seen, .ref aM_seenLine, .ref aM_seenIs, .ref aM_rank, .ref aM_stage, .int m_letters, .ref aM_text, .int m_next, .int m_begin, .int m_token, .int m_gain, .int m_bestDot, .int m_bestCell])), (aM_told, .inl (cy.1, 7, .inl m_told))]) (hf : f_X10_near m_thrown m_told x1 x2 x3 = some r) : Wr l yX10_near cX10_near 4 (some Jvm.ClassFile.FieldType.int) ({ frames := 2, cells := 0, slots := 0, locals := 48 } : Room) ([.ref aM, .int x1, .int x2, .int x3] : List Value) (some (.int (r.1))) D cy H0 [(aM, .inr (10, [.int m_thrown, .ref aM_told, .ref aM_draft, .long m_shut, .long m_dots, .long m_draftShut, .long m_draftDots, .int m_undos, .ref aM_past, .ref aM_kept, .ref aM_isKept, .int m_base, .int m_slopeX, .int m_slopeY, .int m_seen, .ref aM_seenLine, .ref aM_seenIs, .ref aM_rank, .ref aM_stage, .int m_letters, .ref aM_text, .int m_next, .int m_begin, .int m_token, .int m_gain, .int m_bestDot, .int m_bestCell])), (aM_told, .inl (cy.1, 7, .inl m_told))] [(aM, .inr (10, [.int (r.2), .ref aM_told, .ref aM_draft, .long m_shut, .long m_dots, .long m_draftShut, .long m_draftDots, .int m_undos, .ref aM_past, .ref aM_kept, .ref aM_isKept, .int m_base, .int m_slopeX, .int m_slopeY, .int m_seen, .ref aM_seenLine, .ref aM_seenIs, .ref aM_rank, .ref aM_stage, .int m_letters, .ref aM_text, .int m_next, .int m_begin, .int m_token, .int m_gain, .int m_bestDot, .int m_bestCell])), (aM_told, .inl (cy.1, 7, .inl m_told))] := by
  refine wr_of (by decide +kernel) (Nat.le_of_ble_eq_true rfl) hD0 ?_
  intro p e s m below meth c ls A S hr hlocks hk hl hD hS hA
  obtain ⟨hx, hb, hml, hown, hts⟩ := id S
  have hl : lv_has ls 4 [(0, .ref aM), (1, .int x1), (2, .int x2), (3, .int x3)] := hl
  rw [f_X10_near] at hf
  refine lv_aload_n hx hb dX10_near_0 rfl (lv_at hl 0 rfl) ?_
  refine lv_iconst (v := (0 : Int32)) hx hb dX10_near_1 (by decide) ?_
  refine va_put (D := D) (ci := 10) (v := .int (0 : Int32)) (ty := .int) (C := RX10) (T := TX10) (N := 27) hx hb hts iX10 tyX10 tyX10_ok nmX10 hown hk.1 hP hD hS 0 rfl rfl 0 (by decide) (hts _ tw_783) (fun _ h9 => h9) rfl (by decide +kernel) rfl rfl (Nat.le_of_ble_eq_true rfl) dX10_near_2 (fun H locs hP hD hS => ?_)
  have hP : va_P D vwCl [(aM, .inr (10, [.int (0 : Int32), .ref aM_told, .ref aM_draft, .long m_shut, .long m_dots, .long m_draftShut, .long m_draftDots, .int m_undos, .ref aM_past, .ref aM_kept, .ref aM_isKept, .int m_base, .int m_slopeX, .int m_slopeY, .int m_seen, .ref aM_seenLine, .ref aM_seenIs, .ref aM_rank, .ref aM_stage, .int m_letters, .ref aM_text, .int m_next, .int m_begin, .int m_token, .int m_gain, .int m_bestDot, .int m_bestCell])), (aM_told, .inl (cy.1, 7, .inl m_told))] H := hP
  have hD : va_D A [(aM, .inr (10, [.int (0 : Int32), .ref aM_told, .ref aM_draft, .long m_shut, .long m_dots, .long m_draftShut, .long m_draftDots, .int m_undos, .ref aM_past, .ref aM_kept, .ref aM_isKept, .int m_base, .int m_slopeX, .int m_slopeY, .int m_seen, .ref aM_seenLine, .ref aM_seenIs, .ref aM_rank, .ref aM_stage, .int m_letters, .ref aM_text, .int m_next, .int m_begin, .int m_token, .int m_gain, .int m_bestDot, .int m_bestCell])), (aM_told, .inl (cy.1, 7, .inl m_told))] := hD
  refine lv_aload_n hx hb dX10_near_5 rfl (lv_at hl 0 rfl) ?_
  refine lv_iload_n hx hb dX10_near_6 rfl (lv_at hl 1 rfl) ?_
  obtain ⟨z7, hz7, hf⟩ := q_bind hf
  refine q_rdV (As := [.int x1]) (rest := []) (st2 := [.int z7]) S hk (c_X10_isCell l D cy H aM aM_told aM_draft aM_past aM_kept aM_isKept aM_seenLine aM_seenIs aM_rank aM_stage aM_text (0 : Int32) m_shut m_dots m_draftShut m_draftDots m_undos m_base m_slopeX m_slopeY m_seen m_letters m_next m_begin m_token m_gain m_bestDot m_bestCell m_told x1 z7 (hP.sub [0, 1] rfl) hz7) ok_X10_isCell tw_927 ⟨rfl, rfl, Nat.le_of_ble_eq_true rfl, Nat.le_of_ble_eq_true rfl⟩ (va_recv hk.1 hP (ci := 10) (q0 := 0) rfl rfl) rfl hl.1 rfl (Nat.le_of_ble_eq_true rfl) dX10_near_7 ⟨Nat.zero_le _, Nat.zero_le _⟩ rfl ?_
  refine lv_if_eq (tgt := 30) hx hb dX10_near_10 (by decide) (fun hc => ?_) (fun hc => ?_)
  · have hf := q_t hc hf
    refine lv_iconst (v := (-1 : Int32)) hx hb dX10_near_30 (by decide) ?_
    have hf := Option.some.inj hf
    subst hf
    exact q_riW hP hS hx hb hr hlocks dX10_near_31
  · have hf := q_f hc hf
    refine lv_aload_n hx hb dX10_near_13 rfl (lv_at hl 0 rfl) ?_
    refine lv_iload_n hx hb dX10_near_14 rfl (lv_at hl 2 rfl) ?_
    obtain ⟨z15, hz15, hf⟩ := q_bind hf
    refine q_rdV (As := [.int x2]) (rest := []) (st2 := [.int z15]) S hk (c_X10_isCell l D cy H aM aM_told aM_draft aM_past aM_kept aM_isKept aM_seenLine aM_seenIs aM_rank aM_stage aM_text (0 : Int32) m_shut m_dots m_draftShut m_draftDots m_undos m_base m_slopeX m_slopeY m_seen m_letters m_next m_begin m_token m_gain m_bestDot m_bestCell m_told x2 z15 (hP.sub [0, 1] rfl) hz15) ok_X10_isCell tw_927 ⟨rfl, rfl, Nat.le_of_ble_eq_true rfl, Nat.le_of_ble_eq_true rfl⟩ (va_recv hk.1 hP (ci := 10) (q0 := 0) rfl rfl) rfl hl.1 rfl (Nat.le_of_ble_eq_true rfl) dX10_near_15 ⟨Nat.zero_le _, Nat.zero_le _⟩ rfl ?_
    refine lv_if_eq (tgt := 30) hx hb dX10_near_18 (by decide) (fun hc => ?_) (fun hc => ?_)
    · have hf := q_t hc hf
      refine lv_iconst (v := (-1 : Int32)) hx hb dX10_near_30 (by decide) ?_
      have hf := Option.some.inj hf
      subst hf
      exact q_riW hP hS hx hb hr hlocks dX10_near_31
    · have hf := q_f hc hf
      refine lv_iload_n hx hb dX10_near_21 rfl (lv_at hl 3 rfl) ?_
      refine lv_iconst (v := (0 : Int32)) hx hb dX10_near_22 (by decide) ?_
      refine lv_iconst (v := (1 : Int32)) hx hb dX10_near_23 (by decide) ?_
      obtain ⟨z24, hz24, hf⟩ := q_bind hf
      refine q_rdS (As := [.int x3, .int (0 : Int32), .int (1 : Int32)]) (rest := []) (st2 := [.int z24]) S hk (c_X10_in l D cy H x3 (0 : Int32) (1 : Int32) z24 hz24) ok_X10_in tw_869 ⟨rfl, rfl, Nat.le_of_ble_eq_true rfl, Nat.le_of_ble_eq_true rfl⟩ rfl hl.1 rfl (Nat.le_of_ble_eq_true rfl) dX10_near_24 ⟨Nat.zero_le _, Nat.zero_le _⟩ rfl ?_
      refine lv_if_ne (tgt := 32) hx hb dX10_near_27 (by decide) (fun hc => ?_) (fun hc => ?_)
      · have hf := q_f hc hf
        refine lv_iload_n hx hb dX10_near_32 rfl (lv_at hl 3 rfl) ?_
        refine lv_if_ne (tgt := 45) hx hb dX10_near_33 (by decide) (fun hc => ?_) (fun hc => ?_)
        · have hf := q_f hc hf
          refine lv_aload_n hx hb dX10_near_45 rfl (lv_at hl 0 rfl) ?_
          refine lv_aload_n hx hb dX10_near_46 rfl (lv_at hl 0 rfl) ?_
          refine lv_iload_n hx hb dX10_near_47 rfl (lv_at hl 1 rfl) ?_
          refine lv_iload_n hx hb dX10_near_48 rfl (lv_at hl 2 rfl) ?_
          obtain ⟨z49, hz49, hf⟩ := q_bind hf
          refine q_rdV (As := [.int x1, .int x2]) (rest := [.ref aM]) (st2 := [.int z49, .ref aM]) S hk (c_X10_distance l D cy H aM aM_told aM_draft aM_past aM_kept aM_isKept aM_seenLine aM_seenIs aM_rank aM_stage aM_text (0 : Int32) m_shut m_dots m_draftShut m_draftDots m_undos m_base m_slopeX m_slopeY m_seen m_letters m_next m_begin m_token m_gain m_bestDot m_bestCell m_told x1 x2 z49 (hP.sub [0, 1] rfl) hz49) ok_X10_distance tw_935 ⟨rfl, rfl, Nat.le_of_ble_eq_true rfl, Nat.le_of_ble_eq_true rfl⟩ (va_recv hk.1 hP (ci := 10) (q0 := 0) rfl rfl) rfl hl.1 rfl (Nat.le_of_ble_eq_true rfl) dX10_near_49 ⟨Nat.zero_le _, Nat.zero_le _⟩ rfl ?_
          obtain ⟨z52, hz52, hf⟩ := q_bind hf
          refine q_rdV (As := [.int z49]) (rest := []) (st2 := [.int z52]) S hk (c_X10_weight l D cy H aM aM_told aM_draft aM_past aM_kept aM_isKept aM_seenLine aM_seenIs aM_rank aM_stage aM_text (0 : Int32) m_shut m_dots m_draftShut m_draftDots m_undos m_base m_slopeX m_slopeY m_seen m_letters m_next m_begin m_token m_gain m_bestDot m_bestCell m_told z49 z52 (hP.sub [0, 1] rfl) hz52) ok_X10_weight tw_942 ⟨rfl, rfl, Nat.le_of_ble_eq_true rfl, Nat.le_of_ble_eq_true rfl⟩ (va_recv hk.1 hP (ci := 10) (q0 := 0) rfl rfl) rfl hl.1 rfl (Nat.le_of_ble_eq_true rfl) dX10_near_52 ⟨Nat.zero_le _, Nat.zero_le _⟩ rfl ?_
          have hf := Option.some.inj hf
          subst hf
          exact q_riW hP hS hx hb hr hlocks dX10_near_55
        · have hf := q_t hc hf
          refine lv_aload_n hx hb dX10_near_36 rfl (lv_at hl 0 rfl) ?_
          refine lv_iload_n hx hb dX10_near_37 rfl (lv_at hl 1 rfl) ?_
          refine lv_iload_n hx hb dX10_near_38 rfl (lv_at hl 2 rfl) ?_
          obtain ⟨z39, hz39, hf⟩ := q_bind hf
          refine q_rdV (As := [.int x1, .int x2]) (rest := []) (st2 := [.int z39]) S hk (c_X10_distance l D cy H aM aM_told aM_draft aM_past aM_kept aM_isKept aM_seenLine aM_seenIs aM_rank aM_stage aM_text (0 : Int32) m_shut m_dots m_draftShut m_draftDots m_undos m_base m_slopeX m_slopeY m_seen m_letters m_next m_begin m_token m_gain m_bestDot m_bestCell m_told x1 x2 z39 (hP.sub [0, 1] rfl) hz39) ok_X10_distance tw_935 ⟨rfl, rfl, Nat.le_of_ble_eq_true rfl, Nat.le_of_ble_eq_true rfl⟩ (va_recv hk.1 hP (ci := 10) (q0 := 0) rfl rfl) rfl hl.1 rfl (Nat.le_of_ble_eq_true rfl) dX10_near_39 ⟨Nat.zero_le _, Nat.zero_le _⟩ rfl ?_
          refine lv_goto (tgt := 55) hx hb dX10_near_42 (by decide) ?_
          have hf := Option.some.inj hf
          subst hf
          exact q_riW hP hS hx hb hr hlocks dX10_near_55
      · have hf := q_t hc hf
        refine lv_iconst (v := (-1 : Int32)) hx hb dX10_near_30 (by decide) ?_
        have hf := Option.some.inj hf
        subst hf
        exact q_riW hP hS hx hb hr hlocks dX10_near_31
def j_X10_notes_43 (m_dots : Int64) (m_undos : Int32) (m_past : Nat → Int64) : Option (Int32 × (Nat → Int64)) := if inb m_undos 10 = true then (some ((m_undos + (1 : Int32)), (vp_updL m_past m_undos.toNatClampNeg m_dots))) else none
def lp_X10_notes_11 (m_dots : Int64) : Nat → Int32 → Int32 → (Nat → Int64) → Option (Int32 × (Nat → Int64))
  | 0, _, _, _ => none
  | n + 1, x1, m_undos, m_past => if (9 : Int32) ≤ x1 then (j_X10_notes_43 m_dots (9 : Int32) m_past) else (if inb (x1 + (1 : Int32)) 10 = true then (if inb x1 10 = true then (lp_X10_notes_11 m_dots n (x1 + 1) m_undos (vp_updL m_past x1.toNatClampNeg (m_past (x1 + (1 : Int32)).toNatClampNeg))) else none) else none)
theorem lp_X10_notes_11_s (m_dots : Int64) (n : Nat) (x1 : Int32) (m_undos : Int32) (m_past : Nat → Int64) : lp_X10_notes_11 m_dots (n + 1) x1 m_undos m_past = (if (9 : Int32) ≤ x1 then (j_X10_notes_43 m_dots (9 : Int32) m_past) else (if inb (x1 + (1 : Int32)) 10 = true then (if inb x1 10 = true then (lp_X10_notes_11 m_dots n (x1 + 1) m_undos (vp_updL m_past x1.toNatClampNeg (m_past (x1 + (1 : Int32)).toNatClampNeg))) else none) else none)) := rfl
theorem lp_X10_notes_11_z (m_dots : Int64) (x1 : Int32) (m_undos : Int32) (m_past : Nat → Int64) : lp_X10_notes_11 m_dots 0 x1 m_undos m_past = none := rfl
def f_X10_notes (m_dots : Int64) (m_undos : Int32) (m_past : Nat → Int64) : Option (Int32 × (Nat → Int64)) := if m_undos = (10 : Int32) then (lp_X10_notes_11 m_dots FU (0 : Int32) m_undos m_past) else (j_X10_notes_43 m_dots m_undos m_past)
theorem ok_X10_notes : OkV yX10_notes cX10_notes 2 none 0 := ⟨⟨tw_953, tw_13, by decide +kernel, by decide +kernel, by decide +kernel⟩, tw_952, tp_41⟩
set_option maxHeartbeats 4000000 in
set_option maxRecDepth 100000 in
theorem c_X10_notes (l : Launch) (D : va_G) (cy : ClassId × ClassId × ClassId) (H0 : Heap) (aM aM_told aM_draft aM_past aM_kept aM_isKept aM_seenLine aM_seenIs aM_rank aM_stage aM_text : Nat) (m_thrown : Int32) (m_shut : Int64) (m_dots : Int64) (m_draftShut : Int64) (m_draftDots : Int64) (m_undos : Int32) (m_base : Int32) (m_slopeX : Int32) (m_slopeY : Int32) (m_seen : Int32) (m_letters : Int32) (m_next : Int32) (m_begin : Int32) (m_token : Int32) (m_gain : Int32) (m_bestDot : Int32) (m_bestCell : Int32) (m_past : Nat → Int64) (r : Int32 × (Nat → Int64)) (hP : va_P D vwCl [(aM, .inr (10, [.int m_thrown, .ref aM_told, .ref aM_draft, .long m_shut, .long m_dots, .long m_draftShut, .long m_draftDots, .int m_undos, .ref aM_past, .ref aM_kept, .ref aM_isKept, .int m_base, .int m_slopeX, .int m_slopeY, .int m_seen, .ref aM_seenLine, .ref aM_seenIs, .ref aM_rank, .ref aM_stage, .int m_letters, .ref aM_text, .int m_next, .int m_begin, .int m_token, .int m_gain, .int m_bestDot, .int m_bestCell])), (aM_past, .inl (cy.2.1, 10, .inr (.inl m_past)))] H0) (hD0 : va_D (fun _ => True) [(aM, .inr (10, [.int m_thrown, .ref aM_told, .ref aM_draft, .long m_shut, .long m_dots, .long m_draftShut, .long m_draftDots, .int m_undos, .ref aM_past, .ref aM_kept, .ref aM_isKept, .int m_base, .int m_slopeX, .int m_slopeY, .int m_seen, .ref aM_seenLine, .ref aM_seenIs, .ref aM_rank, .ref aM_stage, .int m_letters, .ref aM_text, .int m_next, .int m_begin, .int m_token, .int m_gain, .int m_bestDot, .int m_bestCell])), (aM_past, .inl (cy.2.1, 10, .inr (.inl m_past)))]) (hf : f_X10_notes m_dots m_undos m_past = some r) : Wr l yX10_notes cX10_notes 2 none ({ frames := 0, cells := 0, slots := 0, locals := 0 } : Room) ([.ref aM] : List Value) none D cy H0 [(aM, .inr (10, [.int m_thrown, .ref aM_told, .ref aM_draft, .long m_shut, .long m_dots, .long m_draftShut, .long m_draftDots, .int m_undos, .ref aM_past, .ref aM_kept, .ref aM_isKept, .int m_base, .int m_slopeX, .int m_slopeY, .int m_seen, .ref aM_seenLine, .ref aM_seenIs, .ref aM_rank, .ref aM_stage, .int m_letters, .ref aM_text, .int m_next, .int m_begin, .int m_token, .int m_gain, .int m_bestDot, .int m_bestCell])), (aM_past, .inl (cy.2.1, 10, .inr (.inl m_past)))] [(aM, .inr (10, [.int m_thrown, .ref aM_told, .ref aM_draft, .long m_shut, .long m_dots, .long m_draftShut, .long m_draftDots, .int (r.1), .ref aM_past, .ref aM_kept, .ref aM_isKept, .int m_base, .int m_slopeX, .int m_slopeY, .int m_seen, .ref aM_seenLine, .ref aM_seenIs, .ref aM_rank, .ref aM_stage, .int m_letters, .ref aM_text, .int m_next, .int m_begin, .int m_token, .int m_gain, .int m_bestDot, .int m_bestCell])), (aM_past, .inl (cy.2.1, 10, .inr (.inl (r.2))))] := by
  refine wr_of (by decide +kernel) (Nat.le_of_ble_eq_true rfl) hD0 ?_
  intro p e s m below meth c ls A S hr hlocks hk hl hD hS hA
  obtain ⟨hx, hb, hml, hown, hts⟩ := id S
  have hl : lv_has ls 2 [(0, .ref aM)] := hl
  rw [f_X10_notes] at hf
  have J43 : ∀ (m_undos : Int32) (m_past : Nat → Int64) (H : Heap) (locs : List Loc) (ls : Array Slot), va_P D vwCl [(aM, .inr (10, [.int m_thrown, .ref aM_told, .ref aM_draft, .long m_shut, .long m_dots, .long m_draftShut, .long m_draftDots, .int m_undos, .ref aM_past, .ref aM_kept, .ref aM_isKept, .int m_base, .int m_slopeX, .int m_slopeY, .int m_seen, .ref aM_seenLine, .ref aM_seenIs, .ref aM_rank, .ref aM_stage, .int m_letters, .ref aM_text, .int m_next, .int m_begin, .int m_token, .int m_gain, .int m_bestDot, .int m_bestCell])), (aM_past, .inl (cy.2.1, 10, .inr (.inl m_past)))] H → va_D A [(aM, .inr (10, [.int m_thrown, .ref aM_told, .ref aM_draft, .long m_shut, .long m_dots, .long m_draftShut, .long m_draftDots, .int m_undos, .ref aM_past, .ref aM_kept, .ref aM_isKept, .int m_base, .int m_slopeX, .int m_slopeY, .int m_seen, .ref aM_seenLine, .ref aM_seenIs, .ref aM_rank, .ref aM_stage, .int m_letters, .ref aM_text, .int m_next, .int m_begin, .int m_token, .int m_gain, .int m_bestDot, .int m_bestCell])), (aM_past, .inl (cy.2.1, 10, .inr (.inl m_past)))] → va_S A H0 H locs → lv_has ls 2 [(0, .ref aM)] → j_X10_notes_43 m_dots m_undos m_past = some r → W p l e ({ frames := 0, cells := 0, slots := 0, locals := 0 } : Room) s m ([.ref aM] : List Value).toArray below meth c H locs 0 0 (MQ below (QW none D [(aM, .inr (10, [.int m_thrown, .ref aM_told, .ref aM_draft, .long m_shut, .long m_dots, .long m_draftShut, .long m_draftDots, .int (r.1), .ref aM_past, .ref aM_kept, .ref aM_isKept, .int m_base, .int m_slopeX, .int m_slopeY, .int m_seen, .ref aM_seenLine, .ref aM_seenIs, .ref aM_rank, .ref aM_stage, .int m_letters, .ref aM_text, .int m_next, .int m_begin, .int m_token, .int m_gain, .int m_bestDot, .int m_bestCell])), (aM_past, .inl (cy.2.1, 10, .inr (.inl (r.2))))] H0 A) ([.ref aM] : List Value).toArray s 0 0 A) (F0 m 43 ls []) := by
    intro m_undos m_past H locs ls hP hD hS hl hf
    rw [j_X10_notes_43] at hf
    refine lv_aload_n hx hb dX10_notes_43 rfl (lv_at hl 0 rfl) ?_
    refine va_get (D := D) (ci := 10) (v := .ref aM_past) (C := RX10) (T := TX10) (N := 27) hx hb hts iX10 hown hk.1 hP 0 rfl rfl 8 (by decide) (hts _ tw_791) (fun _ h9 => h9) rfl dX10_notes_44 ?_
    refine lv_aload_n hx hb dX10_notes_47 rfl (lv_at hl 0 rfl) ?_
    refine va_get (D := D) (ci := 10) (v := .int m_undos) (C := RX10) (T := TX10) (N := 27) hx hb hts iX10 hown hk.1 hP 0 rfl rfl 7 (by decide) (hts _ tw_790) (fun _ h9 => h9) rfl dX10_notes_48 ?_
    refine lv_aload_n hx hb dX10_notes_51 rfl (lv_at hl 0 rfl) ?_
    refine va_get (D := D) (ci := 10) (v := .long m_dots) (C := RX10) (T := TX10) (N := 27) hx hb hts iX10 hown hk.1 hP 0 rfl rfl 4 (by decide) (hts _ tw_787) (fun _ h9 => h9) rfl dX10_notes_52 ?_
    obtain ⟨hi, hf⟩ := q_in hf
    refine va_last hx hb hk.1 hP hD hS 1 1 rfl rfl hi dX10_notes_55 (fun H locs hP hD hS => ?_)
    have hP : va_P D vwCl [(aM, .inr (10, [.int m_thrown, .ref aM_told, .ref aM_draft, .long m_shut, .long m_dots, .long m_draftShut, .long m_draftDots, .int m_undos, .ref aM_past, .ref aM_kept, .ref aM_isKept, .int m_base, .int m_slopeX, .int m_slopeY, .int m_seen, .ref aM_seenLine, .ref aM_seenIs, .ref aM_rank, .ref aM_stage, .int m_letters, .ref aM_text, .int m_next, .int m_begin, .int m_token, .int m_gain, .int m_bestDot, .int m_bestCell])), (aM_past, .inl (cy.2.1, 10, .inr (.inl (vp_updL m_past m_undos.toNatClampNeg m_dots))))] H := hP
    have hD : va_D A [(aM, .inr (10, [.int m_thrown, .ref aM_told, .ref aM_draft, .long m_shut, .long m_dots, .long m_draftShut, .long m_draftDots, .int m_undos, .ref aM_past, .ref aM_kept, .ref aM_isKept, .int m_base, .int m_slopeX, .int m_slopeY, .int m_seen, .ref aM_seenLine, .ref aM_seenIs, .ref aM_rank, .ref aM_stage, .int m_letters, .ref aM_text, .int m_next, .int m_begin, .int m_token, .int m_gain, .int m_bestDot, .int m_bestCell])), (aM_past, .inl (cy.2.1, 10, .inr (.inl (vp_updL m_past m_undos.toNatClampNeg m_dots))))] := hD
    refine lv_aload_n hx hb dX10_notes_56 rfl (lv_at hl 0 rfl) ?_
    refine lv_dup hx hb dX10_notes_57 rfl ?_
    refine va_get (D := D) (ci := 10) (v := .int m_undos) (C := RX10) (T := TX10) (N := 27) hx hb hts iX10 hown hk.1 hP 0 rfl rfl 7 (by decide) (hts _ tw_790) (fun _ h9 => h9) rfl dX10_notes_58 ?_
    refine lv_iconst (v := (1 : Int32)) hx hb dX10_notes_61 (by decide) ?_
    refine lv_iadd hx hb dX10_notes_62 ?_
    refine va_put (D := D) (ci := 10) (v := .int (m_undos + (1 : Int32))) (ty := .int) (C := RX10) (T := TX10) (N := 27) hx hb hts iX10 tyX10 tyX10_ok nmX10 hown hk.1 hP hD hS 0 rfl rfl 7 (by decide) (hts _ tw_790) (fun _ h9 => h9) rfl (by decide +kernel) rfl rfl (Nat.le_of_ble_eq_true rfl) dX10_notes_63 (fun H locs hP hD hS => ?_)
    have hP : va_P D vwCl [(aM, .inr (10, [.int m_thrown, .ref aM_told, .ref aM_draft, .long m_shut, .long m_dots, .long m_draftShut, .long m_draftDots, .int (m_undos + (1 : Int32)), .ref aM_past, .ref aM_kept, .ref aM_isKept, .int m_base, .int m_slopeX, .int m_slopeY, .int m_seen, .ref aM_seenLine, .ref aM_seenIs, .ref aM_rank, .ref aM_stage, .int m_letters, .ref aM_text, .int m_next, .int m_begin, .int m_token, .int m_gain, .int m_bestDot, .int m_bestCell])), (aM_past, .inl (cy.2.1, 10, .inr (.inl (vp_updL m_past m_undos.toNatClampNeg m_dots))))] H := hP
    have hD : va_D A [(aM, .inr (10, [.int m_thrown, .ref aM_told, .ref aM_draft, .long m_shut, .long m_dots, .long m_draftShut, .long m_draftDots, .int (m_undos + (1 : Int32)), .ref aM_past, .ref aM_kept, .ref aM_isKept, .int m_base, .int m_slopeX, .int m_slopeY, .int m_seen, .ref aM_seenLine, .ref aM_seenIs, .ref aM_rank, .ref aM_stage, .int m_letters, .ref aM_text, .int m_next, .int m_begin, .int m_token, .int m_gain, .int m_bestDot, .int m_bestCell])), (aM_past, .inl (cy.2.1, 10, .inr (.inl (vp_updL m_past m_undos.toNatClampNeg m_dots))))] := hD
    have hf := Option.some.inj hf
    subst hf
    exact q_rvW hP hS hx hb hr hlocks dX10_notes_66
  have J11 : ∀ (n11 : Nat) (x1 : Int32) (m_undos : Int32) (m_past : Nat → Int64) (H : Heap) (locs : List Loc) (ls : Array Slot), va_P D vwCl [(aM, .inr (10, [.int m_thrown, .ref aM_told, .ref aM_draft, .long m_shut, .long m_dots, .long m_draftShut, .long m_draftDots, .int m_undos, .ref aM_past, .ref aM_kept, .ref aM_isKept, .int m_base, .int m_slopeX, .int m_slopeY, .int m_seen, .ref aM_seenLine, .ref aM_seenIs, .ref aM_rank, .ref aM_stage, .int m_letters, .ref aM_text, .int m_next, .int m_begin, .int m_token, .int m_gain, .int m_bestDot, .int m_bestCell])), (aM_past, .inl (cy.2.1, 10, .inr (.inl m_past)))] H → va_D A [(aM, .inr (10, [.int m_thrown, .ref aM_told, .ref aM_draft, .long m_shut, .long m_dots, .long m_draftShut, .long m_draftDots, .int m_undos, .ref aM_past, .ref aM_kept, .ref aM_isKept, .int m_base, .int m_slopeX, .int m_slopeY, .int m_seen, .ref aM_seenLine, .ref aM_seenIs, .ref aM_rank, .ref aM_stage, .int m_letters, .ref aM_text, .int m_next, .int m_begin, .int m_token, .int m_gain, .int m_bestDot, .int m_bestCell])), (aM_past, .inl (cy.2.1, 10, .inr (.inl m_past)))] → va_S A H0 H locs → lv_has ls 2 [(0, .ref aM), (1, .int x1)] → lp_X10_notes_11 m_dots n11 x1 m_undos m_past = some r → W p l e ({ frames := 0, cells := 0, slots := 0, locals := 0 } : Room) s m ([.ref aM] : List Value).toArray below meth c H locs 0 0 (MQ below (QW none D [(aM, .inr (10, [.int m_thrown, .ref aM_told, .ref aM_draft, .long m_shut, .long m_dots, .long m_draftShut, .long m_draftDots, .int (r.1), .ref aM_past, .ref aM_kept, .ref aM_isKept, .int m_base, .int m_slopeX, .int m_slopeY, .int m_seen, .ref aM_seenLine, .ref aM_seenIs, .ref aM_rank, .ref aM_stage, .int m_letters, .ref aM_text, .int m_next, .int m_begin, .int m_token, .int m_gain, .int m_bestDot, .int m_bestCell])), (aM_past, .inl (cy.2.1, 10, .inr (.inl (r.2))))] H0 A) ([.ref aM] : List Value).toArray s 0 0 A) (F0 m 11 ls []) := by
    intro n11
    induction n11 with
    | zero =>
      intro x1 m_undos m_past H locs ls hP hD hS hl hf
      rw [lp_X10_notes_11_z] at hf
      cases hf
    | succ n11 ih11 =>
      intro x1 m_undos m_past H locs ls hP hD hS hl hf
      rw [lp_X10_notes_11_s] at hf
      refine lv_iload_n hx hb dX10_notes_11 rfl (lv_at hl 1 rfl) ?_
      refine lv_bipush (v := (9 : Int32)) hx hb dX10_notes_12 (by decide) ?_
      refine lv_icmp_ge (tgt := 37) hx hb dX10_notes_14 (by decide) (fun hc => ?_) (fun hc => ?_)
      · have hf := q_t hc hf
        refine lv_aload_n hx hb dX10_notes_37 rfl (lv_at hl 0 rfl) ?_
        refine lv_bipush (v := (9 : Int32)) hx hb dX10_notes_38 (by decide) ?_
        refine va_put (D := D) (ci := 10) (v := .int (9 : Int32)) (ty := .int) (C := RX10) (T := TX10) (N := 27) hx hb hts iX10 tyX10 tyX10_ok nmX10 hown hk.1 hP hD hS 0 rfl rfl 7 (by decide) (hts _ tw_790) (fun _ h9 => h9) rfl (by decide +kernel) rfl rfl (Nat.le_of_ble_eq_true rfl) dX10_notes_40 (fun H locs hP hD hS => ?_)
        have hP : va_P D vwCl [(aM, .inr (10, [.int m_thrown, .ref aM_told, .ref aM_draft, .long m_shut, .long m_dots, .long m_draftShut, .long m_draftDots, .int (9 : Int32), .ref aM_past, .ref aM_kept, .ref aM_isKept, .int m_base, .int m_slopeX, .int m_slopeY, .int m_seen, .ref aM_seenLine, .ref aM_seenIs, .ref aM_rank, .ref aM_stage, .int m_letters, .ref aM_text, .int m_next, .int m_begin, .int m_token, .int m_gain, .int m_bestDot, .int m_bestCell])), (aM_past, .inl (cy.2.1, 10, .inr (.inl m_past)))] H := hP
        have hD : va_D A [(aM, .inr (10, [.int m_thrown, .ref aM_told, .ref aM_draft, .long m_shut, .long m_dots, .long m_draftShut, .long m_draftDots, .int (9 : Int32), .ref aM_past, .ref aM_kept, .ref aM_isKept, .int m_base, .int m_slopeX, .int m_slopeY, .int m_seen, .ref aM_seenLine, .ref aM_seenIs, .ref aM_rank, .ref aM_stage, .int m_letters, .ref aM_text, .int m_next, .int m_begin, .int m_token, .int m_gain, .int m_bestDot, .int m_bestCell])), (aM_past, .inl (cy.2.1, 10, .inr (.inl m_past)))] := hD
        exact J43 (9 : Int32) m_past H locs ls hP hD hS (lv_sub hl [0] rfl) hf
      · have hf := q_f hc hf
        refine lv_aload_n hx hb dX10_notes_17 rfl (lv_at hl 0 rfl) ?_
        refine va_get (D := D) (ci := 10) (v := .ref aM_past) (C := RX10) (T := TX10) (N := 27) hx hb hts iX10 hown hk.1 hP 0 rfl rfl 8 (by decide) (hts _ tw_791) (fun _ h9 => h9) rfl dX10_notes_18 ?_
        refine lv_iload_n hx hb dX10_notes_21 rfl (lv_at hl 1 rfl) ?_
        refine lv_aload_n hx hb dX10_notes_22 rfl (lv_at hl 0 rfl) ?_
        refine va_get (D := D) (ci := 10) (v := .ref aM_past) (C := RX10) (T := TX10) (N := 27) hx hb hts iX10 hown hk.1 hP 0 rfl rfl 8 (by decide) (hts _ tw_791) (fun _ h9 => h9) rfl dX10_notes_23 ?_
        refine lv_iload_n hx hb dX10_notes_26 rfl (lv_at hl 1 rfl) ?_
        refine lv_iconst (v := (1 : Int32)) hx hb dX10_notes_27 (by decide) ?_
        refine lv_iadd hx hb dX10_notes_28 ?_
        obtain ⟨hi, hf⟩ := q_in hf
        refine va_lald hx hb hk.1 hP 1 1 rfl rfl hi dX10_notes_29 ?_
        obtain ⟨hi, hf⟩ := q_in hf
        refine va_last hx hb hk.1 hP hD hS 1 1 rfl rfl hi dX10_notes_30 (fun H locs hP hD hS => ?_)
        have hP : va_P D vwCl [(aM, .inr (10, [.int m_thrown, .ref aM_told, .ref aM_draft, .long m_shut, .long m_dots, .long m_draftShut, .long m_draftDots, .int m_undos, .ref aM_past, .ref aM_kept, .ref aM_isKept, .int m_base, .int m_slopeX, .int m_slopeY, .int m_seen, .ref aM_seenLine, .ref aM_seenIs, .ref aM_rank, .ref aM_stage, .int m_letters, .ref aM_text, .int m_next, .int m_begin, .int m_token, .int m_gain, .int m_bestDot, .int m_bestCell])), (aM_past, .inl (cy.2.1, 10, .inr (.inl (vp_updL m_past x1.toNatClampNeg (m_past (x1 + (1 : Int32)).toNatClampNeg)))))] H := hP
        have hD : va_D A [(aM, .inr (10, [.int m_thrown, .ref aM_told, .ref aM_draft, .long m_shut, .long m_dots, .long m_draftShut, .long m_draftDots, .int m_undos, .ref aM_past, .ref aM_kept, .ref aM_isKept, .int m_base, .int m_slopeX, .int m_slopeY, .int m_seen, .ref aM_seenLine, .ref aM_seenIs, .ref aM_rank, .ref aM_stage, .int m_letters, .ref aM_text, .int m_next, .int m_begin, .int m_token, .int m_gain, .int m_bestDot, .int m_bestCell])), (aM_past, .inl (cy.2.1, 10, .inr (.inl (vp_updL m_past x1.toNatClampNeg (m_past (x1 + (1 : Int32)).toNatClampNeg)))))] := hD
        refine lv_iinc (v := (x1 + 1)) (lv' := [(1, .int (x1 + 1)), (0, .ref aM)]) hx hb dX10_notes_31 hl (k := 1) rfl rfl (by decide) rfl (fun ls hl => ?_)
        refine lv_goto (tgt := 11) hx hb dX10_notes_34 (by decide) ?_
        exact ih11 (x1 + 1) m_undos (vp_updL m_past x1.toNatClampNeg (m_past (x1 + (1 : Int32)).toNatClampNeg)) H locs ls hP hD hS (lv_sub hl [1, 0] rfl) hf
  refine lv_aload_n hx hb dX10_notes_0 rfl (lv_at hl 0 rfl) ?_
  refine va_get (D := D) (ci := 10) (v := .int m_undos) (C := RX10) (T := TX10) (N := 27) hx hb hts iX10 hown hk.1 hP 0 rfl rfl 7 (by decide) (hts _ tw_790) (fun _ h9 => h9) rfl dX10_notes_1 ?_
  refine lv_bipush (v := (10 : Int32)) hx hb dX10_notes_4 (by decide) ?_
  refine lv_icmp_ne (tgt := 43) hx hb dX10_notes_6 (by decide) (fun hc => ?_) (fun hc => ?_)
  · have hf := q_f hc hf
    exact J43 m_undos m_past H0 [] ls hP hD hS (lv_sub hl [0] rfl) hf
  · have hf := q_t hc hf
    refine lv_iconst (v := (0 : Int32)) hx hb dX10_notes_9 (by decide) ?_
    refine lv_istore_n (lv' := [(1, .int (0 : Int32)), (0, .ref aM)]) hx hb dX10_notes_10 rfl hl (by decide) rfl (fun ls hl => ?_)
    exact J11 FU (0 : Int32) m_undos m_past H0 [] ls hP hD hS (lv_sub hl [1, 0] rfl) hf
def f_X10_flips (m_thrown : Int32) (m_shut : Int64) (m_dots : Int64) (m_undos : Int32) (m_told : Nat → Int32) (m_past : Nat → Int64) (x1 : Int32) (x2 : Int32) : Option (Int32 × Int32 × Int64 × Int32 × (Nat → Int64)) := (f_X10_isPlace m_told x1 x2).bind (fun z8 => if z8 = 0 then (some ((-1 : Int32), (0 : Int32), m_dots, m_undos, m_past)) else ((f_X10_at m_told x1 x2).bind (fun z23 => (f_X10_has m_shut z23).bind (fun z26 => if z26 = 0 then ((f_X10_notes m_dots m_undos m_past).bind (fun z36 => (f_X10_at m_told x1 x2).bind (fun z48 => (f_X10_at m_told x1 x2).bind (fun z63 => (f_X10_has (m_dots ^^^ (lsh (1 : Int64) z48)) z63).bind (fun z66 => if z66 = 0 then (some ((0 : Int32), (0 : Int32), (m_dots ^^^ (lsh (1 : Int64) z48)), (z36.1), (z36.2))) else (some ((1 : Int32), (0 : Int32), (m_dots ^^^ (lsh (1 : Int64) z48)), (z36.1), (z36.2)))))))) else (some ((-2 : Int32), (0 : Int32), m_dots, m_undos, m_past))))))
theorem ok_X10_flips : OkV yX10_flips cX10_flips 3 (some Jvm.ClassFile.FieldType.int) 2 := ⟨⟨tw_949, tw_13, by decide +kernel, by decide +kernel, by decide +kernel⟩, tw_947, tw_948⟩
set_option maxHeartbeats 4000000 in
set_option maxRecDepth 100000 in
theorem c_X10_flips (l : Launch) (D : va_G) (cy : ClassId × ClassId × ClassId) (H0 : Heap) (aM aM_told aM_draft aM_past aM_kept aM_isKept aM_seenLine aM_seenIs aM_rank aM_stage aM_text : Nat) (m_thrown : Int32) (m_shut : Int64) (m_dots : Int64) (m_draftShut : Int64) (m_draftDots : Int64) (m_undos : Int32) (m_base : Int32) (m_slopeX : Int32) (m_slopeY : Int32) (m_seen : Int32) (m_letters : Int32) (m_next : Int32) (m_begin : Int32) (m_token : Int32) (m_gain : Int32) (m_bestDot : Int32) (m_bestCell : Int32) (m_told : Nat → Int32) (m_past : Nat → Int64) (x1 : Int32) (x2 : Int32) (r : Int32 × Int32 × Int64 × Int32 × (Nat → Int64)) (hP : va_P D vwCl [(aM, .inr (10, [.int m_thrown, .ref aM_told, .ref aM_draft, .long m_shut, .long m_dots, .long m_draftShut, .long m_draftDots, .int m_undos, .ref aM_past, .ref aM_kept, .ref aM_isKept, .int m_base, .int m_slopeX, .int m_slopeY, .int m_seen, .ref aM_seenLine, .ref aM_seenIs, .ref aM_rank, .ref aM_stage, .int m_letters, .ref aM_text, .int m_next, .int m_begin, .int m_token, .int m_gain, .int m_bestDot, .int m_bestCell])), (aM_told, .inl (cy.1, 7, .inl m_told)), (aM_past, .inl (cy.2.1, 10, .inr (.inl m_past)))] H0) (hD0 : va_D (fun _ => True) [(aM, .inr (10, [.int m_thrown, .ref aM_told, .ref aM_draft, .long m_shut, .long m_dots, .long m_draftShut, .long m_draftDots, .int m_undos, .ref aM_past, .ref aM_kept, .ref aM_isKept, .int m_base, .int m_slopeX, .int m_slopeY, .int m_seen, .ref aM_seenLine, .ref aM_seenIs, .ref aM_rank, .ref aM_stage, .int m_letters, .ref aM_text, .int m_next, .int m_begin, .int m_token, .int m_gain, .int m_bestDot, .int m_bestCell])), (aM_told, .inl (cy.1, 7, .inl m_told)), (aM_past, .inl (cy.2.1, 10, .inr (.inl m_past)))]) (hf : f_X10_flips m_thrown m_shut m_dots m_undos m_told m_past x1 x2 = some r) : Wr l yX10_flips cX10_flips 3 (some Jvm.ClassFile.FieldType.int) ({ frames := 2, cells := 0, slots := 0, locals := 44 } : Room) ([.ref aM, .int x1, .int x2] : List Value) (some (.int (r.1))) D cy H0 [(aM, .inr (10, [.int m_thrown, .ref aM_told, .ref aM_draft, .long m_shut, .long m_dots, .long m_draftShut, .long m_draftDots, .int m_undos, .ref aM_past, .ref aM_kept, .ref aM_isKept, .int m_base, .int m_slopeX, .int m_slopeY, .int m_seen, .ref aM_seenLine, .ref aM_seenIs, .ref aM_rank, .ref aM_stage, .int m_letters, .ref aM_text, .int m_next, .int m_begin, .int m_token, .int m_gain, .int m_bestDot, .int m_bestCell])), (aM_told, .inl (cy.1, 7, .inl m_told)), (aM_past, .inl (cy.2.1, 10, .inr (.inl m_past)))] [(aM, .inr (10, [.int (r.2.1), .ref aM_told, .ref aM_draft, .long m_shut, .long (r.2.2.1), .long m_draftShut, .long m_draftDots, .int (r.2.2.2.1), .ref aM_past, .ref aM_kept, .ref aM_isKept, .int m_base, .int m_slopeX, .int m_slopeY, .int m_seen, .ref aM_seenLine, .ref aM_seenIs, .ref aM_rank, .ref aM_stage, .int m_letters, .ref aM_text, .int m_next, .int m_begin, .int m_token, .int m_gain, .int m_bestDot, .int m_bestCell])), (aM_told, .inl (cy.1, 7, .inl m_told)), (aM_past, .inl (cy.2.1, 10, .inr (.inl (r.2.2.2.2))))] := by
  refine wr_of (by decide +kernel) (Nat.le_of_ble_eq_true rfl) hD0 ?_
  intro p e s m below meth c ls A S hr hlocks hk hl hD hS hA
  obtain ⟨hx, hb, hml, hown, hts⟩ := id S
  have hl : lv_has ls 3 [(0, .ref aM), (1, .int x1), (2, .int x2)] := hl
  rw [f_X10_flips] at hf
  refine lv_aload_n hx hb dX10_flips_0 rfl (lv_at hl 0 rfl) ?_
  refine lv_iconst (v := (0 : Int32)) hx hb dX10_flips_1 (by decide) ?_
  refine va_put (D := D) (ci := 10) (v := .int (0 : Int32)) (ty := .int) (C := RX10) (T := TX10) (N := 27) hx hb hts iX10 tyX10 tyX10_ok nmX10 hown hk.1 hP hD hS 0 rfl rfl 0 (by decide) (hts _ tw_783) (fun _ h9 => h9) rfl (by decide +kernel) rfl rfl (Nat.le_of_ble_eq_true rfl) dX10_flips_2 (fun H locs hP hD hS => ?_)
  have hP : va_P D vwCl [(aM, .inr (10, [.int (0 : Int32), .ref aM_told, .ref aM_draft, .long m_shut, .long m_dots, .long m_draftShut, .long m_draftDots, .int m_undos, .ref aM_past, .ref aM_kept, .ref aM_isKept, .int m_base, .int m_slopeX, .int m_slopeY, .int m_seen, .ref aM_seenLine, .ref aM_seenIs, .ref aM_rank, .ref aM_stage, .int m_letters, .ref aM_text, .int m_next, .int m_begin, .int m_token, .int m_gain, .int m_bestDot, .int m_bestCell])), (aM_told, .inl (cy.1, 7, .inl m_told)), (aM_past, .inl (cy.2.1, 10, .inr (.inl m_past)))] H := hP
  have hD : va_D A [(aM, .inr (10, [.int (0 : Int32), .ref aM_told, .ref aM_draft, .long m_shut, .long m_dots, .long m_draftShut, .long m_draftDots, .int m_undos, .ref aM_past, .ref aM_kept, .ref aM_isKept, .int m_base, .int m_slopeX, .int m_slopeY, .int m_seen, .ref aM_seenLine, .ref aM_seenIs, .ref aM_rank, .ref aM_stage, .int m_letters, .ref aM_text, .int m_next, .int m_begin, .int m_token, .int m_gain, .int m_bestDot, .int m_bestCell])), (aM_told, .inl (cy.1, 7, .inl m_told)), (aM_past, .inl (cy.2.1, 10, .inr (.inl m_past)))] := hD
  refine lv_aload_n hx hb dX10_flips_5 rfl (lv_at hl 0 rfl) ?_
  refine lv_iload_n hx hb dX10_flips_6 rfl (lv_at hl 1 rfl) ?_
  refine lv_iload_n hx hb dX10_flips_7 rfl (lv_at hl 2 rfl) ?_
  obtain ⟨z8, hz8, hf⟩ := q_bind hf
  refine q_rdV (As := [.int x1, .int x2]) (rest := []) (st2 := [.int z8]) S hk (c_X10_isPlace l D cy H aM aM_told aM_draft aM_past aM_kept aM_isKept aM_seenLine aM_seenIs aM_rank aM_stage aM_text (0 : Int32) m_shut m_dots m_draftShut m_draftDots m_undos m_base m_slopeX m_slopeY m_seen m_letters m_next m_begin m_token m_gain m_bestDot m_bestCell m_told x1 x2 z8 (hP.sub [0, 1] rfl) hz8) ok_X10_isPlace tw_915 ⟨rfl, rfl, Nat.le_of_ble_eq_true rfl, Nat.le_of_ble_eq_true rfl⟩ (va_recv hk.1 hP (ci := 10) (q0 := 0) rfl rfl) rfl hl.1 rfl (Nat.le_of_ble_eq_true rfl) dX10_flips_8 ⟨Nat.zero_le _, Nat.zero_le _⟩ rfl ?_
  refine lv_if_ne (tgt := 16) hx hb dX10_flips_11 (by decide) (fun hc => ?_) (fun hc => ?_)
  · have hf := q_f hc hf
    refine lv_aload_n hx hb dX10_flips_16 rfl (lv_at hl 0 rfl) ?_
    refine va_get (D := D) (ci := 10) (v := .long m_shut) (C := RX10) (T := TX10) (N := 27) hx hb hts iX10 hown hk.1 hP 0 rfl rfl 3 (by decide) (hts _ tw_786) (fun _ h9 => h9) rfl dX10_flips_17 ?_
    refine lv_aload_n hx hb dX10_flips_20 rfl (lv_at hl 0 rfl) ?_
    refine lv_iload_n hx hb dX10_flips_21 rfl (lv_at hl 1 rfl) ?_
    refine lv_iload_n hx hb dX10_flips_22 rfl (lv_at hl 2 rfl) ?_
    obtain ⟨z23, hz23, hf⟩ := q_bind hf
    refine q_rdV (As := [.int x1, .int x2]) (rest := [.long m_shut]) (st2 := [.int z23, .long m_shut]) S hk (c_X10_at l D cy H aM aM_told aM_draft aM_past aM_kept aM_isKept aM_seenLine aM_seenIs aM_rank aM_stage aM_text (0 : Int32) m_shut m_dots m_draftShut m_draftDots m_undos m_base m_slopeX m_slopeY m_seen m_letters m_next m_begin m_token m_gain m_bestDot m_bestCell m_told x1 x2 z23 (hP.sub [0, 1] rfl) hz23) ok_X10_at tw_919 ⟨rfl, rfl, Nat.le_of_ble_eq_true rfl, Nat.le_of_ble_eq_true rfl⟩ (va_recv hk.1 hP (ci := 10) (q0 := 0) rfl rfl) rfl hl.1 rfl (Nat.le_of_ble_eq_true rfl) dX10_flips_23 ⟨Nat.zero_le _, Nat.zero_le _⟩ rfl ?_
    obtain ⟨z26, hz26, hf⟩ := q_bind hf
    refine q_rdS (As := [.long m_shut, .int z23]) (rest := []) (st2 := [.int z26]) S hk (c_X10_has l D cy H m_shut z23 z26 hz26) ok_X10_has tw_908 ⟨rfl, rfl, Nat.le_of_ble_eq_true rfl, Nat.le_of_ble_eq_true rfl⟩ rfl hl.1 rfl (Nat.le_of_ble_eq_true rfl) dX10_flips_26 ⟨Nat.zero_le _, Nat.zero_le _⟩ rfl ?_
    refine lv_if_eq (tgt := 35) hx hb dX10_flips_29 (by decide) (fun hc => ?_) (fun hc => ?_)
    · have hf := q_t hc hf
      refine lv_aload_n hx hb dX10_flips_35 rfl (lv_at hl 0 rfl) ?_
      obtain ⟨z36, hz36, hf⟩ := q_bind hf
      refine q_wrV (As := []) (rest := []) (st2 := []) (ws' := [(aM, .inr (10, [.int (0 : Int32), .ref aM_told, .ref aM_draft, .long m_shut, .long m_dots, .long m_draftShut, .long m_draftDots, .int (z36.1), .ref aM_past, .ref aM_kept, .ref aM_isKept, .int m_base, .int m_slopeX, .int m_slopeY, .int m_seen, .ref aM_seenLine, .ref aM_seenIs, .ref aM_rank, .ref aM_stage, .int m_letters, .ref aM_text, .int m_next, .int m_begin, .int m_token, .int m_gain, .int m_bestDot, .int m_bestCell])), (aM_told, .inl (cy.1, 7, .inl m_told)), (aM_past, .inl (cy.2.1, 10, .inr (.inl (z36.2))))]) S hk (c_X10_notes l D cy H aM aM_told aM_draft aM_past aM_kept aM_isKept aM_seenLine aM_seenIs aM_rank aM_stage aM_text (0 : Int32) m_shut m_dots m_draftShut m_draftDots m_undos m_base m_slopeX m_slopeY m_seen m_letters m_next m_begin m_token m_gain m_bestDot m_bestCell m_past z36 (hP.sub [0, 2] rfl) (qD_sub hD [0, 2] (by decide) rfl) hz36) ok_X10_notes tw_950 ⟨rfl, rfl, Nat.le_of_ble_eq_true rfl, Nat.le_of_ble_eq_true rfl⟩ (va_recv hk.1 hP (ci := 10) (q0 := 0) rfl rfl) rfl hl.1 rfl (Nat.le_of_ble_eq_true rfl) dX10_flips_36 ⟨Nat.zero_le _, Nat.zero_le _⟩ rfl hP hD hS hA [0, 2] rfl rfl rfl rfl (fun H locs hP hD hS => ?_)
      refine lv_aload_n hx hb dX10_flips_39 rfl (lv_at hl 0 rfl) ?_
      refine lv_dup hx hb dX10_flips_40 rfl ?_
      refine va_get (D := D) (ci := 10) (v := .long m_dots) (C := RX10) (T := TX10) (N := 27) hx hb hts iX10 hown hk.1 hP 0 rfl rfl 4 (by decide) (hts _ tw_787) (fun _ h9 => h9) rfl dX10_flips_41 ?_
      refine lv_lconst (v := (1 : Int64)) hx hb dX10_flips_44 (by decide) ?_
      refine lv_aload_n hx hb dX10_flips_45 rfl (lv_at hl 0 rfl) ?_
      refine lv_iload_n hx hb dX10_flips_46 rfl (lv_at hl 1 rfl) ?_
      refine lv_iload_n hx hb dX10_flips_47 rfl (lv_at hl 2 rfl) ?_
      obtain ⟨z48, hz48, hf⟩ := q_bind hf
      refine q_rdV (As := [.int x1, .int x2]) (rest := [.long (1 : Int64), .long m_dots, .ref aM]) (st2 := [.int z48, .long (1 : Int64), .long m_dots, .ref aM]) S hk (c_X10_at l D cy H aM aM_told aM_draft aM_past aM_kept aM_isKept aM_seenLine aM_seenIs aM_rank aM_stage aM_text (0 : Int32) m_shut m_dots m_draftShut m_draftDots (z36.1) m_base m_slopeX m_slopeY m_seen m_letters m_next m_begin m_token m_gain m_bestDot m_bestCell m_told x1 x2 z48 (hP.sub [0, 1] rfl) hz48) ok_X10_at tw_919 ⟨rfl, rfl, Nat.le_of_ble_eq_true rfl, Nat.le_of_ble_eq_true rfl⟩ (va_recv hk.1 hP (ci := 10) (q0 := 0) rfl rfl) rfl hl.1 rfl (Nat.le_of_ble_eq_true rfl) dX10_flips_48 ⟨Nat.zero_le _, Nat.zero_le _⟩ rfl ?_
      refine lv_lshl (v := (lsh (1 : Int64) z48)) hx hb dX10_flips_51 rfl ?_
      refine lv_lxor hx hb dX10_flips_52 ?_
      refine va_put (D := D) (ci := 10) (v := .long (m_dots ^^^ (lsh (1 : Int64) z48))) (ty := .long) (C := RX10) (T := TX10) (N := 27) hx hb hts iX10 tyX10 tyX10_ok nmX10 hown hk.1 hP hD hS 0 rfl rfl 4 (by decide) (hts _ tw_787) (fun _ h9 => h9) rfl (by decide +kernel) rfl rfl (Nat.le_of_ble_eq_true rfl) dX10_flips_53 (fun H locs hP hD hS => ?_)
      have hP : va_P D vwCl [(aM, .inr (10, [.int (0 : Int32), .ref aM_told, .ref aM_draft, .long m_shut, .long (m_dots ^^^ (lsh (1 : Int64) z48)), .long m_draftShut, .long m_draftDots, .int (z36.1), .ref aM_past, .ref aM_kept, .ref aM_isKept, .int m_base, .int m_slopeX, .int m_slopeY, .int m_seen, .ref aM_seenLine, .ref aM_seenIs, .ref aM_rank, .ref aM_stage, .int m_letters, .ref aM_text, .int m_next, .int m_begin, .int m_token, .int m_gain, .int m_bestDot, .int m_bestCell])), (aM_told, .inl (cy.1, 7, .inl m_told)), (aM_past, .inl (cy.2.1, 10, .inr (.inl (z36.2))))] H := hP
      have hD : va_D A [(aM, .inr (10, [.int (0 : Int32), .ref aM_told, .ref aM_draft, .long m_shut, .long (m_dots ^^^ (lsh (1 : Int64) z48)), .long m_draftShut, .long m_draftDots, .int (z36.1), .ref aM_past, .ref aM_kept, .ref aM_isKept, .int m_base, .int m_slopeX, .int m_slopeY, .int m_seen, .ref aM_seenLine, .ref aM_seenIs, .ref aM_rank, .ref aM_stage, .int m_letters, .ref aM_text, .int m_next, .int m_begin, .int m_token, .int m_gain, .int m_bestDot, .int m_bestCell])), (aM_told, .inl (cy.1, 7, .inl m_told)), (aM_past, .inl (cy.2.1, 10, .inr (.inl (z36.2))))] := hD
      refine lv_aload_n hx hb dX10_flips_56 rfl (lv_at hl 0 rfl) ?_
      refine va_get (D := D) (ci := 10) (v := .long (m_dots ^^^ (lsh (1 : Int64) z48))) (C := RX10) (T := TX10) (N := 27) hx hb hts iX10 hown hk.1 hP 0 rfl rfl 4 (by decide) (hts _ tw_787) (fun _ h9 => h9) rfl dX10_flips_57 ?_
      refine lv_aload_n hx hb dX10_flips_60 rfl (lv_at hl 0 rfl) ?_
      refine lv_iload_n hx hb dX10_flips_61 rfl (lv_at hl 1 rfl) ?_
      refine lv_iload_n hx hb dX10_flips_62 rfl (lv_at hl 2 rfl) ?_
      obtain ⟨z63, hz63, hf⟩ := q_bind hf
      refine q_rdV (As := [.int x1, .int x2]) (rest := [.long (m_dots ^^^ (lsh (1 : Int64) z48))]) (st2 := [.int z63, .long (m_dots ^^^ (lsh (1 : Int64) z48))]) S hk (c_X10_at l D cy H aM aM_told aM_draft aM_past aM_kept aM_isKept aM_seenLine aM_seenIs aM_rank aM_stage aM_text (0 : Int32) m_shut (m_dots ^^^ (lsh (1 : Int64) z48)) m_draftShut m_draftDots (z36.1) m_base m_slopeX m_slopeY m_seen m_letters m_next m_begin m_token m_gain m_bestDot m_bestCell m_told x1 x2 z63 (hP.sub [0, 1] rfl) hz63) ok_X10_at tw_919 ⟨rfl, rfl, Nat.le_of_ble_eq_true rfl, Nat.le_of_ble_eq_true rfl⟩ (va_recv hk.1 hP (ci := 10) (q0 := 0) rfl rfl) rfl hl.1 rfl (Nat.le_of_ble_eq_true rfl) dX10_flips_63 ⟨Nat.zero_le _, Nat.zero_le _⟩ rfl ?_
      obtain ⟨z66, hz66, hf⟩ := q_bind hf
      refine q_rdS (As := [.long (m_dots ^^^ (lsh (1 : Int64) z48)), .int z63]) (rest := []) (st2 := [.int z66]) S hk (c_X10_has l D cy H (m_dots ^^^ (lsh (1 : Int64) z48)) z63 z66 hz66) ok_X10_has tw_908 ⟨rfl, rfl, Nat.le_of_ble_eq_true rfl, Nat.le_of_ble_eq_true rfl⟩ rfl hl.1 rfl (Nat.le_of_ble_eq_true rfl) dX10_flips_66 ⟨Nat.zero_le _, Nat.zero_le _⟩ rfl ?_
      refine lv_if_eq (tgt := 76) hx hb dX10_flips_69 (by decide) (fun hc => ?_) (fun hc => ?_)
      · have hf := q_t hc hf
        refine lv_iconst (v := (0 : Int32)) hx hb dX10_flips_76 (by decide) ?_
        have hf := Option.some.inj hf
        subst hf
        exact q_riW hP hS hx hb hr hlocks dX10_flips_77
      · have hf := q_f hc hf
        refine lv_iconst (v := (1 : Int32)) hx hb dX10_flips_72 (by decide) ?_
        refine lv_goto (tgt := 77) hx hb dX10_flips_73 (by decide) ?_
        have hf := Option.some.inj hf
        subst hf
        exact q_riW hP hS hx hb hr hlocks dX10_flips_77
    · have hf := q_f hc hf
      refine lv_bipush (v := (-2 : Int32)) hx hb dX10_flips_32 (by decide) ?_
      have hf := Option.some.inj hf
      subst hf
      exact q_riW hP hS hx hb hr hlocks dX10_flips_34
  · have hf := q_t hc hf
    refine lv_iconst (v := (-1 : Int32)) hx hb dX10_flips_14 (by decide) ?_
    have hf := Option.some.inj hf
    subst hf
    exact q_riW hP hS hx hb hr hlocks dX10_flips_15
def j_X10_rests_123 (k40 : Int32 → Int32 → Int32 → Int32 → Int64 → Int32 → (Nat → Int64) → Option (Int32 × Int32 × Int64 × Int32 × (Nat → Int64))) (x3 : Int32) (x4 : Int32) (k0 : Int32) (k1 : Int32) (m_thrown : Int32) (m_dots : Int64) (m_undos : Int32) (m_past : Nat → Int64) : Option (Int32 × Int32 × Int64 × Int32 × (Nat → Int64)) := k40 (k0 + k1) x3 (x4 + 1) m_thrown m_dots m_undos m_past
def j_X10_rests_112 (k40 : Int32 → Int32 → Int32 → Int32 → Int64 → Int32 → (Nat → Int64) → Option (Int32 × Int32 × Int64 × Int32 × (Nat → Int64))) (x2 : Int32) (x4 : Int32) (k0 : Int32) (m_thrown : Int32) (m_dots : Int64) (m_undos : Int32) (m_past : Nat → Int64) : Option (Int32 × Int32 × Int64 × Int32 × (Nat → Int64)) := if k0 = 0 then (j_X10_rests_123 k40 k0 x4 x2 (0 : Int32) m_thrown m_dots m_undos m_past) else (j_X10_rests_123 k40 k0 x4 x2 (1 : Int32) m_thrown m_dots m_undos m_past)
def lp_X10_rests_40 (m_shut : Int64) (m_told : Nat → Int32) (x1 : Int32) : Nat → Int32 → Int32 → Int32 → Int32 → Int64 → Int32 → (Nat → Int64) → Option (Int32 × Int32 × Int64 × Int32 × (Nat → Int64))
  | 0, _, _, _, _, _, _, _ => none
  | n + 1, x2, x3, x4, m_thrown, m_dots, m_undos, m_past => if x1 ≤ x4 then (some (x2, m_thrown, m_dots, m_undos, m_past)) else (if x3 = 0 then (some (x2, m_thrown, m_dots, m_undos, m_past)) else ((f_X10_tightest m_told m_dots).bind (fun z55 => (f_X10_emptiest m_shut m_told (m_dots &&& ((lsh (1 : Int64) z55) ^^^ (-1 : Int64)))).bind (fun z82 => if z82 = z55 then (j_X10_rests_112 (lp_X10_rests_40 m_shut m_told x1 n) x2 x4 (0 : Int32) m_thrown ((m_dots &&& ((lsh (1 : Int64) z55) ^^^ (-1 : Int64))) ||| (lsh (1 : Int64) z82)) m_undos m_past) else (j_X10_rests_112 (lp_X10_rests_40 m_shut m_told x1 n) x2 x4 (1 : Int32) m_thrown ((m_dots &&& ((lsh (1 : Int64) z55) ^^^ (-1 : Int64))) ||| (lsh (1 : Int64) z82)) m_undos m_past)))))
theorem lp_X10_rests_40_s (m_shut : Int64) (m_told : Nat → Int32) (x1 : Int32) (n : Nat) (x2 : Int32) (x3 : Int32) (x4 : Int32) (m_thrown : Int32) (m_dots : Int64) (m_undos : Int32) (m_past : Nat → Int64) : lp_X10_rests_40 m_shut m_told x1 (n + 1) x2 x3 x4 m_thrown m_dots m_undos m_past = (if x1 ≤ x4 then (some (x2, m_thrown, m_dots, m_undos, m_past)) else (if x3 = 0 then (some (x2, m_thrown, m_dots, m_undos, m_past)) else ((f_X10_tightest m_told m_dots).bind (fun z55 => (f_X10_emptiest m_shut m_told (m_dots &&& ((lsh (1 : Int64) z55) ^^^ (-1 : Int64)))).bind (fun z82 => if z82 = z55 then (j_X10_rests_112 (lp_X10_rests_40 m_shut m_told x1 n) x2 x4 (0 : Int32) m_thrown ((m_dots &&& ((lsh (1 : Int64) z55) ^^^ (-1 : Int64))) ||| (lsh (1 : Int64) z82)) m_undos m_past) else (j_X10_rests_112 (lp_X10_rests_40 m_shut m_told x1 n) x2 x4 (1 : Int32) m_thrown ((m_dots &&& ((lsh (1 : Int64) z55) ^^^ (-1 : Int64))) ||| (lsh (1 : Int64) z82)) m_undos m_past)))))) := rfl
theorem lp_X10_rests_40_z (m_shut : Int64) (m_told : Nat → Int32) (x1 : Int32) (x2 : Int32) (x3 : Int32) (x4 : Int32) (m_thrown : Int32) (m_dots : Int64) (m_undos : Int32) (m_past : Nat → Int64) : lp_X10_rests_40 m_shut m_told x1 0 x2 x3 x4 m_thrown m_dots m_undos m_past = none := rfl
def f_X10_rests (m_thrown : Int32) (m_shut : Int64) (m_dots : Int64) (m_undos : Int32) (m_told : Nat → Int32) (m_past : Nat → Int64) (x1 : Int32) : Option (Int32 × Int32 × Int64 × Int32 × (Nat → Int64)) := (f_X10_in x1 (1 : Int32) (64 : Int32)).bind (fun z9 => if z9 = 0 then (some ((-1 : Int32), (0 : Int32), m_dots, m_undos, m_past)) else (if (lg_cmp m_dots (0 : Int64)) = 0 then (some ((-2 : Int32), (0 : Int32), m_dots, m_undos, m_past)) else ((f_X10_notes m_dots m_undos m_past).bind (fun z30 => lp_X10_rests_40 m_shut m_told x1 FU (0 : Int32) (1 : Int32) (0 : Int32) (0 : Int32) m_dots (z30.1) (z30.2)))))
theorem ok_X10_rests : OkV yX10_rests cX10_rests 7 (some Jvm.ClassFile.FieldType.int) 1 := ⟨⟨tw_957, tw_13, by decide +kernel, by decide +kernel, by decide +kernel⟩, tw_955, tw_956⟩
set_option maxHeartbeats 4000000 in
set_option maxRecDepth 100000 in
theorem c_X10_rests (l : Launch) (D : va_G) (cy : ClassId × ClassId × ClassId) (H0 : Heap) (aM aM_told aM_draft aM_past aM_kept aM_isKept aM_seenLine aM_seenIs aM_rank aM_stage aM_text : Nat) (m_thrown : Int32) (m_shut : Int64) (m_dots : Int64) (m_draftShut : Int64) (m_draftDots : Int64) (m_undos : Int32) (m_base : Int32) (m_slopeX : Int32) (m_slopeY : Int32) (m_seen : Int32) (m_letters : Int32) (m_next : Int32) (m_begin : Int32) (m_token : Int32) (m_gain : Int32) (m_bestDot : Int32) (m_bestCell : Int32) (m_told : Nat → Int32) (m_past : Nat → Int64) (x1 : Int32) (r : Int32 × Int32 × Int64 × Int32 × (Nat → Int64)) (hP : va_P D vwCl [(aM, .inr (10, [.int m_thrown, .ref aM_told, .ref aM_draft, .long m_shut, .long m_dots, .long m_draftShut, .long m_draftDots, .int m_undos, .ref aM_past, .ref aM_kept, .ref aM_isKept, .int m_base, .int m_slopeX, .int m_slopeY, .int m_seen, .ref aM_seenLine, .ref aM_seenIs, .ref aM_rank, .ref aM_stage, .int m_letters, .ref aM_text, .int m_next, .int m_begin, .int m_token, .int m_gain, .int m_bestDot, .int m_bestCell])), (aM_told, .inl (cy.1, 7, .inl m_told)), (aM_past, .inl (cy.2.1, 10, .inr (.inl m_past)))] H0) (hD0 : va_D (fun _ => True) [(aM, .inr (10, [.int m_thrown, .ref aM_told, .ref aM_draft, .long m_shut, .long m_dots, .long m_draftShut, .long m_draftDots, .int m_undos, .ref aM_past, .ref aM_kept, .ref aM_isKept, .int m_base, .int m_slopeX, .int m_slopeY, .int m_seen, .ref aM_seenLine, .ref aM_seenIs, .ref aM_rank, .ref aM_stage, .int m_letters, .ref aM_text, .int m_next, .int m_begin, .int m_token, .int m_gain, .int m_bestDot, .int m_bestCell])), (aM_told, .inl (cy.1, 7, .inl m_told)), (aM_past, .inl (cy.2.1, 10, .inr (.inl m_past)))]) (hf : f_X10_rests m_thrown m_shut m_dots m_undos m_told m_past x1 = some r) : Wr l yX10_rests cX10_rests 7 (some Jvm.ClassFile.FieldType.int) ({ frames := 5, cells := 0, slots := 0, locals := 125 } : Room) ([.ref aM, .int x1] : List Value) (some (.int (r.1))) D cy H0 [(aM, .inr (10, [.int m_thrown, .ref aM_told, .ref aM_draft, .long m_shut, .long m_dots, .long m_draftShut, .long m_draftDots, .int m_undos, .ref aM_past, .ref aM_kept, .ref aM_isKept, .int m_base, .int m_slopeX, .int m_slopeY, .int m_seen, .ref aM_seenLine, .ref aM_seenIs, .ref aM_rank, .ref aM_stage, .int m_letters, .ref aM_text, .int m_next, .int m_begin, .int m_token, .int m_gain, .int m_bestDot, .int m_bestCell])), (aM_told, .inl (cy.1, 7, .inl m_told)), (aM_past, .inl (cy.2.1, 10, .inr (.inl m_past)))] [(aM, .inr (10, [.int (r.2.1), .ref aM_told, .ref aM_draft, .long m_shut, .long (r.2.2.1), .long m_draftShut, .long m_draftDots, .int (r.2.2.2.1), .ref aM_past, .ref aM_kept, .ref aM_isKept, .int m_base, .int m_slopeX, .int m_slopeY, .int m_seen, .ref aM_seenLine, .ref aM_seenIs, .ref aM_rank, .ref aM_stage, .int m_letters, .ref aM_text, .int m_next, .int m_begin, .int m_token, .int m_gain, .int m_bestDot, .int m_bestCell])), (aM_told, .inl (cy.1, 7, .inl m_told)), (aM_past, .inl (cy.2.1, 10, .inr (.inl (r.2.2.2.2))))] := by
  refine wr_of (by decide +kernel) (Nat.le_of_ble_eq_true rfl) hD0 ?_
  intro p e s m below meth c ls A S hr hlocks hk hl hD hS hA
  obtain ⟨hx, hb, hml, hown, hts⟩ := id S
  have hl : lv_has ls 7 [(0, .ref aM), (1, .int x1)] := hl
  rw [f_X10_rests] at hf
  have J40 : ∀ (n40 : Nat) (x2 : Int32) (x3 : Int32) (x4 : Int32) (m_thrown : Int32) (m_dots : Int64) (m_undos : Int32) (m_past : Nat → Int64) (H : Heap) (locs : List Loc) (ls : Array Slot), va_P D vwCl [(aM, .inr (10, [.int m_thrown, .ref aM_told, .ref aM_draft, .long m_shut, .long m_dots, .long m_draftShut, .long m_draftDots, .int m_undos, .ref aM_past, .ref aM_kept, .ref aM_isKept, .int m_base, .int m_slopeX, .int m_slopeY, .int m_seen, .ref aM_seenLine, .ref aM_seenIs, .ref aM_rank, .ref aM_stage, .int m_letters, .ref aM_text, .int m_next, .int m_begin, .int m_token, .int m_gain, .int m_bestDot, .int m_bestCell])), (aM_told, .inl (cy.1, 7, .inl m_told)), (aM_past, .inl (cy.2.1, 10, .inr (.inl m_past)))] H → va_D A [(aM, .inr (10, [.int m_thrown, .ref aM_told, .ref aM_draft, .long m_shut, .long m_dots, .long m_draftShut, .long m_draftDots, .int m_undos, .ref aM_past, .ref aM_kept, .ref aM_isKept, .int m_base, .int m_slopeX, .int m_slopeY, .int m_seen, .ref aM_seenLine, .ref aM_seenIs, .ref aM_rank, .ref aM_stage, .int m_letters, .ref aM_text, .int m_next, .int m_begin, .int m_token, .int m_gain, .int m_bestDot, .int m_bestCell])), (aM_told, .inl (cy.1, 7, .inl m_told)), (aM_past, .inl (cy.2.1, 10, .inr (.inl m_past)))] → va_S A H0 H locs → lv_has ls 7 [(0, .ref aM), (1, .int x1), (2, .int x2), (3, .int x3), (4, .int x4)] → lp_X10_rests_40 m_shut m_told x1 n40 x2 x3 x4 m_thrown m_dots m_undos m_past = some r → W p l e ({ frames := 5, cells := 0, slots := 0, locals := 125 } : Room) s m ([.ref aM, .int x1] : List Value).toArray below meth c H locs 0 0 (MQ below (QW (some (.int (r.1))) D [(aM, .inr (10, [.int (r.2.1), .ref aM_told, .ref aM_draft, .long m_shut, .long (r.2.2.1), .long m_draftShut, .long m_draftDots, .int (r.2.2.2.1), .ref aM_past, .ref aM_kept, .ref aM_isKept, .int m_base, .int m_slopeX, .int m_slopeY, .int m_seen, .ref aM_seenLine, .ref aM_seenIs, .ref aM_rank, .ref aM_stage, .int m_letters, .ref aM_text, .int m_next, .int m_begin, .int m_token, .int m_gain, .int m_bestDot, .int m_bestCell])), (aM_told, .inl (cy.1, 7, .inl m_told)), (aM_past, .inl (cy.2.1, 10, .inr (.inl (r.2.2.2.2))))] H0 A) ([.ref aM, .int x1] : List Value).toArray s 0 0 A) (F0 m 40 ls []) := by
    intro n40
    induction n40 with
    | zero =>
      intro x2 x3 x4 m_thrown m_dots m_undos m_past H locs ls hP hD hS hl hf
      rw [lp_X10_rests_40_z] at hf
      cases hf
    | succ n40 ih40 =>
      have J123 : ∀ (x3 : Int32) (x4 : Int32) (k0 : Int32) (k1 : Int32) (m_thrown : Int32) (m_dots : Int64) (m_undos : Int32) (m_past : Nat → Int64) (H : Heap) (locs : List Loc) (ls : Array Slot), va_P D vwCl [(aM, .inr (10, [.int m_thrown, .ref aM_told, .ref aM_draft, .long m_shut, .long m_dots, .long m_draftShut, .long m_draftDots, .int m_undos, .ref aM_past, .ref aM_kept, .ref aM_isKept, .int m_base, .int m_slopeX, .int m_slopeY, .int m_seen, .ref aM_seenLine, .ref aM_seenIs, .ref aM_rank, .ref aM_stage, .int m_letters, .ref aM_text, .int m_next, .int m_begin, .int m_token, .int m_gain, .int m_bestDot, .int m_bestCell])), (aM_told, .inl (cy.1, 7, .inl m_told)), (aM_past, .inl (cy.2.1, 10, .inr (.inl m_past)))] H → va_D A [(aM, .inr (10, [.int m_thrown, .ref aM_told, .ref aM_draft, .long m_shut, .long m_dots, .long m_draftShut, .long m_draftDots, .int m_undos, .ref aM_past, .ref aM_kept, .ref aM_isKept, .int m_base, .int m_slopeX, .int m_slopeY, .int m_seen, .ref aM_seenLine, .ref aM_seenIs, .ref aM_rank, .ref aM_stage, .int m_letters, .ref aM_text, .int m_next, .int m_begin, .int m_token, .int m_gain, .int m_bestDot, .int m_bestCell])), (aM_told, .inl (cy.1, 7, .inl m_told)), (aM_past, .inl (cy.2.1, 10, .inr (.inl m_past)))] → va_S A H0 H locs → lv_has ls 7 [(0, .ref aM), (1, .int x1), (3, .int x3), (4, .int x4)] → j_X10_rests_123 (lp_X10_rests_40 m_shut m_told x1 n40) x3 x4 k0 k1 m_thrown m_dots m_undos m_past = some r → W p l e ({ frames := 5, cells := 0, slots := 0, locals := 125 } : Room) s m ([.ref aM, .int x1] : List Value).toArray below meth c H locs 0 0 (MQ below (QW (some (.int (r.1))) D [(aM, .inr (10, [.int (r.2.1), .ref aM_told, .ref aM_draft, .long m_shut, .long (r.2.2.1), .long m_draftShut, .long m_draftDots, .int (r.2.2.2.1), .ref aM_past, .ref aM_kept, .ref aM_isKept, .int m_base, .int m_slopeX, .int m_slopeY, .int m_seen, .ref aM_seenLine, .ref aM_seenIs, .ref aM_rank, .ref aM_stage, .int m_letters, .ref aM_text, .int m_next, .int m_begin, .int m_token, .int m_gain, .int m_bestDot, .int m_bestCell])), (aM_told, .inl (cy.1, 7, .inl m_told)), (aM_past, .inl (cy.2.1, 10, .inr (.inl (r.2.2.2.2))))] H0 A) ([.ref aM, .int x1] : List Value).toArray s 0 0 A) (F0 m 123 ls [.int k1, .int k0]) := by
        intro x3 x4 k0 k1 m_thrown m_dots m_undos m_past H locs ls hP hD hS hl hf
        rw [j_X10_rests_123] at hf
        refine lv_iadd hx hb dX10_rests_123 ?_
        refine lv_istore_n (lv' := [(2, .int (k0 + k1)), (0, .ref aM), (1, .int x1), (3, .int x3), (4, .int x4)]) hx hb dX10_rests_124 rfl hl (by decide) rfl (fun ls hl => ?_)
        refine lv_iinc (v := (x4 + 1)) (lv' := [(4, .int (x4 + 1)), (2, .int (k0 + k1)), (0, .ref aM), (1, .int x1), (3, .int x3)]) hx hb dX10_rests_125 hl (k := 4) rfl rfl (by decide) rfl (fun ls hl => ?_)
        refine lv_goto (tgt := 40) hx hb dX10_rests_128 (by decide) ?_
        exact ih40 (k0 + k1) x3 (x4 + 1) m_thrown m_dots m_undos m_past H locs ls hP hD hS (lv_sub hl [2, 3, 1, 4, 0] rfl) hf
      have J112 : ∀ (x2 : Int32) (x4 : Int32) (k0 : Int32) (m_thrown : Int32) (m_dots : Int64) (m_undos : Int32) (m_past : Nat → Int64) (H : Heap) (locs : List Loc) (ls : Array Slot), va_P D vwCl [(aM, .inr (10, [.int m_thrown, .ref aM_told, .ref aM_draft, .long m_shut, .long m_dots, .long m_draftShut, .long m_draftDots, .int m_undos, .ref aM_past, .ref aM_kept, .ref aM_isKept, .int m_base, .int m_slopeX, .int m_slopeY, .int m_seen, .ref aM_seenLine, .ref aM_seenIs, .ref aM_rank, .ref aM_stage, .int m_letters, .ref aM_text, .int m_next, .int m_begin, .int m_token, .int m_gain, .int m_bestDot, .int m_bestCell])), (aM_told, .inl (cy.1, 7, .inl m_told)), (aM_past, .inl (cy.2.1, 10, .inr (.inl m_past)))] H → va_D A [(aM, .inr (10, [.int m_thrown, .ref aM_told, .ref aM_draft, .long m_shut, .long m_dots, .long m_draftShut, .long m_draftDots, .int m_undos, .ref aM_past, .ref aM_kept, .ref aM_isKept, .int m_base, .int m_slopeX, .int m_slopeY, .int m_seen, .ref aM_seenLine, .ref aM_seenIs, .ref aM_rank, .ref aM_stage, .int m_letters, .ref aM_text, .int m_next, .int m_begin, .int m_token, .int m_gain, .int m_bestDot, .int m_bestCell])), (aM_told, .inl (cy.1, 7, .inl m_told)), (aM_past, .inl (cy.2.1, 10, .inr (.inl m_past)))] → va_S A H0 H locs → lv_has ls 7 [(0, .ref aM), (1, .int x1), (2, .int x2), (4, .int x4)] → j_X10_rests_112 (lp_X10_rests_40 m_shut m_told x1 n40) x2 x4 k0 m_thrown m_dots m_undos m_past = some r → W p l e ({ frames := 5, cells := 0, slots := 0, locals := 125 } : Room) s m ([.ref aM, .int x1] : List Value).toArray below meth c H locs 0 0 (MQ below (QW (some (.int (r.1))) D [(aM, .inr (10, [.int (r.2.1), .ref aM_told, .ref aM_draft, .long m_shut, .long (r.2.2.1), .long m_draftShut, .long m_draftDots, .int (r.2.2.2.1), .ref aM_past, .ref aM_kept, .ref aM_isKept, .int m_base, .int m_slopeX, .int m_slopeY, .int m_seen, .ref aM_seenLine, .ref aM_seenIs, .ref aM_rank, .ref aM_stage, .int m_letters, .ref aM_text, .int m_next, .int m_begin, .int m_token, .int m_gain, .int m_bestDot, .int m_bestCell])), (aM_told, .inl (cy.1, 7, .inl m_told)), (aM_past, .inl (cy.2.1, 10, .inr (.inl (r.2.2.2.2))))] H0 A) ([.ref aM, .int x1] : List Value).toArray s 0 0 A) (F0 m 112 ls [.int k0]) := by
        intro x2 x4 k0 m_thrown m_dots m_undos m_past H locs ls hP hD hS hl hf
        rw [j_X10_rests_112] at hf
        refine lv_istore_n (lv' := [(3, .int k0), (0, .ref aM), (1, .int x1), (2, .int x2), (4, .int x4)]) hx hb dX10_rests_112 rfl hl (by decide) rfl (fun ls hl => ?_)
        refine lv_iload_n hx hb dX10_rests_113 rfl (lv_at hl 3 rfl) ?_
        refine lv_iload_n hx hb dX10_rests_114 rfl (lv_at hl 0 rfl) ?_
        refine lv_if_eq (tgt := 122) hx hb dX10_rests_115 (by decide) (fun hc => ?_) (fun hc => ?_)
        · have hf := q_t hc hf
          refine lv_iconst (v := (0 : Int32)) hx hb dX10_rests_122 (by decide) ?_
          exact J123 k0 x4 x2 (0 : Int32) m_thrown m_dots m_undos m_past H locs ls hP hD hS (lv_sub hl [1, 2, 0, 4] rfl) hf
        · have hf := q_f hc hf
          refine lv_iconst (v := (1 : Int32)) hx hb dX10_rests_118 (by decide) ?_
          refine lv_goto (tgt := 123) hx hb dX10_rests_119 (by decide) ?_
          exact J123 k0 x4 x2 (1 : Int32) m_thrown m_dots m_undos m_past H locs ls hP hD hS (lv_sub hl [1, 2, 0, 4] rfl) hf
      intro x2 x3 x4 m_thrown m_dots m_undos m_past H locs ls hP hD hS hl hf
      rw [lp_X10_rests_40_s] at hf
      refine lv_iload hx hb dX10_rests_40 (lv_at hl 4 rfl) ?_
      refine lv_iload_n hx hb dX10_rests_42 rfl (lv_at hl 1 rfl) ?_
      refine lv_icmp_ge (tgt := 131) hx hb dX10_rests_43 (by decide) (fun hc => ?_) (fun hc => ?_)
      · have hf := q_t hc hf
        refine lv_iload_n hx hb dX10_rests_131 rfl (lv_at hl 2 rfl) ?_
        have hf := Option.some.inj hf
        subst hf
        exact q_riW hP hS hx hb hr hlocks dX10_rests_132
      · have hf := q_f hc hf
        refine lv_iload_n hx hb dX10_rests_46 rfl (lv_at hl 3 rfl) ?_
        refine lv_if_eq (tgt := 131) hx hb dX10_rests_47 (by decide) (fun hc => ?_) (fun hc => ?_)
        · have hf := q_t hc hf
          refine lv_iload_n hx hb dX10_rests_131 rfl (lv_at hl 2 rfl) ?_
          have hf := Option.some.inj hf
          subst hf
          exact q_riW hP hS hx hb hr hlocks dX10_rests_132
        · have hf := q_f hc hf
          refine lv_aload_n hx hb dX10_rests_50 rfl (lv_at hl 0 rfl) ?_
          refine lv_aload_n hx hb dX10_rests_51 rfl (lv_at hl 0 rfl) ?_
          refine va_get (D := D) (ci := 10) (v := .long m_dots) (C := RX10) (T := TX10) (N := 27) hx hb hts iX10 hown hk.1 hP 0 rfl rfl 4 (by decide) (hts _ tw_787) (fun _ h9 => h9) rfl dX10_rests_52 ?_
          obtain ⟨z55, hz55, hf⟩ := q_bind hf
          refine q_rdV (As := [.long m_dots]) (rest := []) (st2 := [.int z55]) S hk (c_X10_tightest l D cy H aM aM_told aM_draft aM_past aM_kept aM_isKept aM_seenLine aM_seenIs aM_rank aM_stage aM_text m_thrown m_shut m_dots m_draftShut m_draftDots m_undos m_base m_slopeX m_slopeY m_seen m_letters m_next m_begin m_token m_gain m_bestDot m_bestCell m_told m_dots z55 (hP.sub [0, 1] rfl) hz55) ok_X10_tightest tw_958 ⟨rfl, rfl, Nat.le_of_ble_eq_true rfl, Nat.le_of_ble_eq_true rfl⟩ (va_recv hk.1 hP (ci := 10) (q0 := 0) rfl rfl) rfl hl.1 rfl (Nat.le_of_ble_eq_true rfl) dX10_rests_55 ⟨Nat.zero_le _, Nat.zero_le _⟩ rfl ?_
          refine lv_istore (lv' := [(5, .int z55), (0, .ref aM), (1, .int x1), (2, .int x2), (3, .int x3), (4, .int x4)]) hx hb dX10_rests_58 hl (by decide) rfl (fun ls hl => ?_)
          refine lv_aload_n hx hb dX10_rests_60 rfl (lv_at hl 1 rfl) ?_
          refine lv_dup hx hb dX10_rests_61 rfl ?_
          refine va_get (D := D) (ci := 10) (v := .long m_dots) (C := RX10) (T := TX10) (N := 27) hx hb hts iX10 hown hk.1 hP 0 rfl rfl 4 (by decide) (hts _ tw_787) (fun _ h9 => h9) rfl dX10_rests_62 ?_
          refine lv_lconst (v := (1 : Int64)) hx hb dX10_rests_65 (by decide) ?_
          refine lv_iload hx hb dX10_rests_66 (lv_at hl 0 rfl) ?_
          refine lv_lshl (v := (lsh (1 : Int64) z55)) hx hb dX10_rests_68 rfl ?_
          refine lv_ldc2 hx hb hown (hts _ tw_970) dX10_rests_69 ?_
          refine lv_lxor hx hb dX10_rests_72 ?_
          refine lv_land hx hb dX10_rests_73 ?_
          refine va_put (D := D) (ci := 10) (v := .long (m_dots &&& ((lsh (1 : Int64) z55) ^^^ (-1 : Int64)))) (ty := .long) (C := RX10) (T := TX10) (N := 27) hx hb hts iX10 tyX10 tyX10_ok nmX10 hown hk.1 hP hD hS 0 rfl rfl 4 (by decide) (hts _ tw_787) (fun _ h9 => h9) rfl (by decide +kernel) rfl rfl (Nat.le_of_ble_eq_true rfl) dX10_rests_74 (fun H locs hP hD hS => ?_)
          have hP : va_P D vwCl [(aM, .inr (10, [.int m_thrown, .ref aM_told, .ref aM_draft, .long m_shut, .long (m_dots &&& ((lsh (1 : Int64) z55) ^^^ (-1 : Int64))), .long m_draftShut, .long m_draftDots, .int m_undos, .ref aM_past, .ref aM_kept, .ref aM_isKept, .int m_base, .int m_slopeX, .int m_slopeY, .int m_seen, .ref aM_seenLine, .ref aM_seenIs, .ref aM_rank, .ref aM_stage, .int m_letters, .ref aM_text, .int m_next, .int m_begin, .int m_token, .int m_gain, .int m_bestDot, .int m_bestCell])), (aM_told, .inl (cy.1, 7, .inl m_told)), (aM_past, .inl (cy.2.1, 10, .inr (.inl m_past)))] H := hP
          have hD : va_D A [(aM, .inr (10, [.int m_thrown, .ref aM_told, .ref aM_draft, .long m_shut, .long (m_dots &&& ((lsh (1 : Int64) z55) ^^^ (-1 : Int64))), .long m_draftShut, .long m_draftDots, .int m_undos, .ref aM_past, .ref aM_kept, .ref aM_isKept, .int m_base, .int m_slopeX, .int m_slopeY, .int m_seen, .ref aM_seenLine, .ref aM_seenIs, .ref aM_rank, .ref aM_stage, .int m_letters, .ref aM_text, .int m_next, .int m_begin, .int m_token, .int m_gain, .int m_bestDot, .int m_bestCell])), (aM_told, .inl (cy.1, 7, .inl m_told)), (aM_past, .inl (cy.2.1, 10, .inr (.inl m_past)))] := hD
          refine lv_aload_n hx hb dX10_rests_77 rfl (lv_at hl 1 rfl) ?_
          refine lv_aload_n hx hb dX10_rests_78 rfl (lv_at hl 1 rfl) ?_
          refine va_get (D := D) (ci := 10) (v := .long (m_dots &&& ((lsh (1 : Int64) z55) ^^^ (-1 : Int64)))) (C := RX10) (T := TX10) (N := 27) hx hb hts iX10 hown hk.1 hP 0 rfl rfl 4 (by decide) (hts _ tw_787) (fun _ h9 => h9) rfl dX10_rests_79 ?_
          obtain ⟨z82, hz82, hf⟩ := q_bind hf
          refine q_rdV (As := [.long (m_dots &&& ((lsh (1 : Int64) z55) ^^^ (-1 : Int64)))]) (rest := []) (st2 := [.int z82]) S hk (c_X10_emptiest l D cy H aM aM_told aM_draft aM_past aM_kept aM_isKept aM_seenLine aM_seenIs aM_rank aM_stage aM_text m_thrown m_shut (m_dots &&& ((lsh (1 : Int64) z55) ^^^ (-1 : Int64))) m_draftShut m_draftDots m_undos m_base m_slopeX m_slopeY m_seen m_letters m_next m_begin m_token m_gain m_bestDot m_bestCell m_told (m_dots &&& ((lsh (1 : Int64) z55) ^^^ (-1 : Int64))) z82 (hP.sub [0, 1] rfl) hz82) ok_X10_emptiest tw_971 ⟨rfl, rfl, Nat.le_of_ble_eq_true rfl, Nat.le_of_ble_eq_true rfl⟩ (va_recv hk.1 hP (ci := 10) (q0 := 0) rfl rfl) rfl hl.1 rfl (Nat.le_of_ble_eq_true rfl) dX10_rests_82 ⟨Nat.zero_le _, Nat.zero_le _⟩ rfl ?_
          refine lv_istore (lv' := [(6, .int z82), (5, .int z55), (0, .ref aM), (1, .int x1), (2, .int x2), (3, .int x3), (4, .int x4)]) hx hb dX10_rests_85 hl (by decide) rfl (fun ls hl => ?_)
          refine lv_aload_n hx hb dX10_rests_87 rfl (lv_at hl 2 rfl) ?_
          refine lv_dup hx hb dX10_rests_88 rfl ?_
          refine va_get (D := D) (ci := 10) (v := .long (m_dots &&& ((lsh (1 : Int64) z55) ^^^ (-1 : Int64)))) (C := RX10) (T := TX10) (N := 27) hx hb hts iX10 hown hk.1 hP 0 rfl rfl 4 (by decide) (hts _ tw_787) (fun _ h9 => h9) rfl dX10_rests_89 ?_
          refine lv_lconst (v := (1 : Int64)) hx hb dX10_rests_92 (by decide) ?_
          refine lv_iload hx hb dX10_rests_93 (lv_at hl 0 rfl) ?_
          refine lv_lshl (v := (lsh (1 : Int64) z82)) hx hb dX10_rests_95 rfl ?_
          refine lv_lor hx hb dX10_rests_96 ?_
          refine va_put (D := D) (ci := 10) (v := .long ((m_dots &&& ((lsh (1 : Int64) z55) ^^^ (-1 : Int64))) ||| (lsh (1 : Int64) z82))) (ty := .long) (C := RX10) (T := TX10) (N := 27) hx hb hts iX10 tyX10 tyX10_ok nmX10 hown hk.1 hP hD hS 0 rfl rfl 4 (by decide) (hts _ tw_787) (fun _ h9 => h9) rfl (by decide +kernel) rfl rfl (Nat.le_of_ble_eq_true rfl) dX10_rests_97 (fun H locs hP hD hS => ?_)
          have hP : va_P D vwCl [(aM, .inr (10, [.int m_thrown, .ref aM_told, .ref aM_draft, .long m_shut, .long ((m_dots &&& ((lsh (1 : Int64) z55) ^^^ (-1 : Int64))) ||| (lsh (1 : Int64) z82)), .long m_draftShut, .long m_draftDots, .int m_undos, .ref aM_past, .ref aM_kept, .ref aM_isKept, .int m_base, .int m_slopeX, .int m_slopeY, .int m_seen, .ref aM_seenLine, .ref aM_seenIs, .ref aM_rank, .ref aM_stage, .int m_letters, .ref aM_text, .int m_next, .int m_begin, .int m_token, .int m_gain, .int m_bestDot, .int m_bestCell])), (aM_told, .inl (cy.1, 7, .inl m_told)), (aM_past, .inl (cy.2.1, 10, .inr (.inl m_past)))] H := hP
          have hD : va_D A [(aM, .inr (10, [.int m_thrown, .ref aM_told, .ref aM_draft, .long m_shut, .long ((m_dots &&& ((lsh (1 : Int64) z55) ^^^ (-1 : Int64))) ||| (lsh (1 : Int64) z82)), .long m_draftShut, .long m_draftDots, .int m_undos, .ref aM_past, .ref aM_kept, .ref aM_isKept, .int m_base, .int m_slopeX, .int m_slopeY, .int m_seen, .ref aM_seenLine, .ref aM_seenIs, .ref aM_rank, .ref aM_stage, .int m_letters, .ref aM_text, .int m_next, .int m_begin, .int m_token, .int m_gain, .int m_bestDot, .int m_bestCell])), (aM_told, .inl (cy.1, 7, .inl m_told)), (aM_past, .inl (cy.2.1, 10, .inr (.inl m_past)))] := hD
          refine lv_iload hx hb dX10_rests_100 (lv_at hl 0 rfl) ?_
          refine lv_iload hx hb dX10_rests_102 (lv_at hl 1 rfl) ?_
          refine lv_icmp_eq (tgt := 111) hx hb dX10_rests_104 (by decide) (fun hc => ?_) (fun hc => ?_)
          · have hf := q_t hc hf
            refine lv_iconst (v := (0 : Int32)) hx hb dX10_rests_111 (by decide) ?_
            exact J112 x2 x4 (0 : Int32) m_thrown ((m_dots &&& ((lsh (1 : Int64) z55) ^^^ (-1 : Int64))) ||| (lsh (1 : Int64) z82)) m_undos m_past H locs ls hP hD hS (lv_sub hl [2, 3, 4, 6] rfl) hf
          · have hf := q_f hc hf
            refine lv_iconst (v := (1 : Int32)) hx hb dX10_rests_107 (by decide) ?_
            refine lv_goto (tgt := 112) hx hb dX10_rests_108 (by decide) ?_
            exact J112 x2 x4 (1 : Int32) m_thrown ((m_dots &&& ((lsh (1 : Int64) z55) ^^^ (-1 : Int64))) ||| (lsh (1 : Int64) z82)) m_undos m_past H locs ls hP hD hS (lv_sub hl [2, 3, 4, 6] rfl) hf
  refine lv_aload_n hx hb dX10_rests_0 rfl (lv_at hl 0 rfl) ?_
  refine lv_iconst (v := (0 : Int32)) hx hb dX10_rests_1 (by decide) ?_
  refine va_put (D := D) (ci := 10) (v := .int (0 : Int32)) (ty := .int) (C := RX10) (T := TX10) (N := 27) hx hb hts iX10 tyX10 tyX10_ok nmX10 hown hk.1 hP hD hS 0 rfl rfl 0 (by decide) (hts _ tw_783) (fun _ h9 => h9) rfl (by decide +kernel) rfl rfl (Nat.le_of_ble_eq_true rfl) dX10_rests_2 (fun H locs hP hD hS => ?_)
  have hP : va_P D vwCl [(aM, .inr (10, [.int (0 : Int32), .ref aM_told, .ref aM_draft, .long m_shut, .long m_dots, .long m_draftShut, .long m_draftDots, .int m_undos, .ref aM_past, .ref aM_kept, .ref aM_isKept, .int m_base, .int m_slopeX, .int m_slopeY, .int m_seen, .ref aM_seenLine, .ref aM_seenIs, .ref aM_rank, .ref aM_stage, .int m_letters, .ref aM_text, .int m_next, .int m_begin, .int m_token, .int m_gain, .int m_bestDot, .int m_bestCell])), (aM_told, .inl (cy.1, 7, .inl m_told)), (aM_past, .inl (cy.2.1, 10, .inr (.inl m_past)))] H := hP
  have hD : va_D A [(aM, .inr (10, [.int (0 : Int32), .ref aM_told, .ref aM_draft, .long m_shut, .long m_dots, .long m_draftShut, .long m_draftDots, .int m_undos, .ref aM_past, .ref aM_kept, .ref aM_isKept, .int m_base, .int m_slopeX, .int m_slopeY, .int m_seen, .ref aM_seenLine, .ref aM_seenIs, .ref aM_rank, .ref aM_stage, .int m_letters, .ref aM_text, .int m_next, .int m_begin, .int m_token, .int m_gain, .int m_bestDot, .int m_bestCell])), (aM_told, .inl (cy.1, 7, .inl m_told)), (aM_past, .inl (cy.2.1, 10, .inr (.inl m_past)))] := hD
  refine lv_iload_n hx hb dX10_rests_5 rfl (lv_at hl 1 rfl) ?_
  refine lv_iconst (v := (1 : Int32)) hx hb dX10_rests_6 (by decide) ?_
  refine lv_bipush (v := (64 : Int32)) hx hb dX10_rests_7 (by decide) ?_
  obtain ⟨z9, hz9, hf⟩ := q_bind hf
  refine q_rdS (As := [.int x1, .int (1 : Int32), .int (64 : Int32)]) (rest := []) (st2 := [.int z9]) S hk (c_X10_in l D cy H x1 (1 : Int32) (64 : Int32) z9 hz9) ok_X10_in tw_869 ⟨rfl, rfl, Nat.le_of_ble_eq_true rfl, Nat.le_of_ble_eq_true rfl⟩ rfl hl.1 rfl (Nat.le_of_ble_eq_true rfl) dX10_rests_9 ⟨Nat.zero_le _, Nat.zero_le _⟩ rfl ?_
  refine lv_if_ne (tgt := 17) hx hb dX10_rests_12 (by decide) (fun hc => ?_) (fun hc => ?_)
  · have hf := q_f hc hf
    refine lv_aload_n hx hb dX10_rests_17 rfl (lv_at hl 0 rfl) ?_
    refine va_get (D := D) (ci := 10) (v := .long m_dots) (C := RX10) (T := TX10) (N := 27) hx hb hts iX10 hown hk.1 hP 0 rfl rfl 4 (by decide) (hts _ tw_787) (fun _ h9 => h9) rfl dX10_rests_18 ?_
    refine lv_lconst (v := (0 : Int64)) hx hb dX10_rests_21 (by decide) ?_
    refine W.lcmp hx hb dX10_rests_22 ?_
    refine lv_if_ne (tgt := 29) hx hb dX10_rests_23 (by decide) (fun hc => ?_) (fun hc => ?_)
    · have hf := q_f hc hf
      refine lv_aload_n hx hb dX10_rests_29 rfl (lv_at hl 0 rfl) ?_
      obtain ⟨z30, hz30, hf⟩ := q_bind hf
      refine q_wrV (As := []) (rest := []) (st2 := []) (ws' := [(aM, .inr (10, [.int (0 : Int32), .ref aM_told, .ref aM_draft, .long m_shut, .long m_dots, .long m_draftShut, .long m_draftDots, .int (z30.1), .ref aM_past, .ref aM_kept, .ref aM_isKept, .int m_base, .int m_slopeX, .int m_slopeY, .int m_seen, .ref aM_seenLine, .ref aM_seenIs, .ref aM_rank, .ref aM_stage, .int m_letters, .ref aM_text, .int m_next, .int m_begin, .int m_token, .int m_gain, .int m_bestDot, .int m_bestCell])), (aM_told, .inl (cy.1, 7, .inl m_told)), (aM_past, .inl (cy.2.1, 10, .inr (.inl (z30.2))))]) S hk (c_X10_notes l D cy H aM aM_told aM_draft aM_past aM_kept aM_isKept aM_seenLine aM_seenIs aM_rank aM_stage aM_text (0 : Int32) m_shut m_dots m_draftShut m_draftDots m_undos m_base m_slopeX m_slopeY m_seen m_letters m_next m_begin m_token m_gain m_bestDot m_bestCell m_past z30 (hP.sub [0, 2] rfl) (qD_sub hD [0, 2] (by decide) rfl) hz30) ok_X10_notes tw_950 ⟨rfl, rfl, Nat.le_of_ble_eq_true rfl, Nat.le_of_ble_eq_true rfl⟩ (va_recv hk.1 hP (ci := 10) (q0 := 0) rfl rfl) rfl hl.1 rfl (Nat.le_of_ble_eq_true rfl) dX10_rests_30 ⟨Nat.zero_le _, Nat.zero_le _⟩ rfl hP hD hS hA [0, 2] rfl rfl rfl rfl (fun H locs hP hD hS => ?_)
      refine lv_iconst (v := (0 : Int32)) hx hb dX10_rests_33 (by decide) ?_
      refine lv_istore_n (lv' := [(2, .int (0 : Int32)), (0, .ref aM), (1, .int x1)]) hx hb dX10_rests_34 rfl hl (by decide) rfl (fun ls hl => ?_)
      refine lv_iconst (v := (1 : Int32)) hx hb dX10_rests_35 (by decide) ?_
      refine lv_istore_n (lv' := [(3, .int (1 : Int32)), (2, .int (0 : Int32)), (0, .ref aM), (1, .int x1)]) hx hb dX10_rests_36 rfl hl (by decide) rfl (fun ls hl => ?_)
      refine lv_iconst (v := (0 : Int32)) hx hb dX10_rests_37 (by decide) ?_
      refine lv_istore (lv' := [(4, .int (0 : Int32)), (3, .int (1 : Int32)), (2, .int (0 : Int32)), (0, .ref aM), (1, .int x1)]) hx hb dX10_rests_38 hl (by decide) rfl (fun ls hl => ?_)
      exact J40 FU (0 : Int32) (1 : Int32) (0 : Int32) (0 : Int32) m_dots (z30.1) (z30.2) H locs ls hP hD hS (lv_sub hl [3, 4, 2, 1, 0] rfl) hf
    · have hf := q_t hc hf
      refine lv_bipush (v := (-2 : Int32)) hx hb dX10_rests_26 (by decide) ?_
      have hf := Option.some.inj hf
      subst hf
      exact q_riW hP hS hx hb hr hlocks dX10_rests_28
  · have hf := q_t hc hf
    refine lv_iconst (v := (-1 : Int32)) hx hb dX10_rests_15 (by decide) ?_
    have hf := Option.some.inj hf
    subst hf
    exact q_riW hP hS hx hb hr hlocks dX10_rests_16
def j_X10_energyOf_59 (k17 : Int32 → Int32 → Int32 → Option (Int32)) (x4 : Int32) (x5 : Int32) (k0 : Int32) (k1 : Int32) : Option (Int32) := k17 (k0 + k1) x4 (x5 + 1)
def lp_X10_energyOf_17 (m_told : Nat → Int32) (x1 : Int64) (k5 : Int32 → Int32 → Option (Int32)) : Nat → Int32 → Int32 → Int32 → Option (Int32)
  | 0, _, _, _ => none
  | n + 1, x3, x4, x5 => if x4 ≤ x5 then (k5 x3 (x4 + 1)) else ((f_X10_has x1 x4).bind (fun z28 => if z28 = 0 then (j_X10_energyOf_59 (lp_X10_energyOf_17 m_told x1 k5 n) x4 x5 x3 (0 : Int32)) else ((f_X10_has x1 x5).bind (fun z37 => if z37 = 0 then (j_X10_energyOf_59 (lp_X10_energyOf_17 m_told x1 k5 n) x4 x5 x3 (0 : Int32)) else ((f_X10_distance m_told x4 x5).bind (fun z49 => (f_X10_weight m_told z49).bind (fun z52 => j_X10_energyOf_59 (lp_X10_energyOf_17 m_told x1 k5 n) x4 x5 x3 z52)))))))
theorem lp_X10_energyOf_17_s (m_told : Nat → Int32) (x1 : Int64) (k5 : Int32 → Int32 → Option (Int32)) (n : Nat) (x3 : Int32) (x4 : Int32) (x5 : Int32) : lp_X10_energyOf_17 m_told x1 k5 (n + 1) x3 x4 x5 = (if x4 ≤ x5 then (k5 x3 (x4 + 1)) else ((f_X10_has x1 x4).bind (fun z28 => if z28 = 0 then (j_X10_energyOf_59 (lp_X10_energyOf_17 m_told x1 k5 n) x4 x5 x3 (0 : Int32)) else ((f_X10_has x1 x5).bind (fun z37 => if z37 = 0 then (j_X10_energyOf_59 (lp_X10_energyOf_17 m_told x1 k5 n) x4 x5 x3 (0 : Int32)) else ((f_X10_distance m_told x4 x5).bind (fun z49 => (f_X10_weight m_told z49).bind (fun z52 => j_X10_energyOf_59 (lp_X10_energyOf_17 m_told x1 k5 n) x4 x5 x3 z52)))))))) := rfl
theorem lp_X10_energyOf_17_z (m_told : Nat → Int32) (x1 : Int64) (k5 : Int32 → Int32 → Option (Int32)) (x3 : Int32) (x4 : Int32) (x5 : Int32) : lp_X10_energyOf_17 m_told x1 k5 0 x3 x4 x5 = none := rfl
def lp_X10_energyOf_5 (m_told : Nat → Int32) (x1 : Int64) : Nat → Int32 → Int32 → Option (Int32)
  | 0, _, _ => none
  | n + 1, x3, x4 => (f_X10_cells m_told).bind (fun z8 => if z8 ≤ x4 then (some x3) else (lp_X10_energyOf_17 m_told x1 (lp_X10_energyOf_5 m_told x1 n) FU x3 x4 (0 : Int32)))
theorem lp_X10_energyOf_5_s (m_told : Nat → Int32) (x1 : Int64) (n : Nat) (x3 : Int32) (x4 : Int32) : lp_X10_energyOf_5 m_told x1 (n + 1) x3 x4 = ((f_X10_cells m_told).bind (fun z8 => if z8 ≤ x4 then (some x3) else (lp_X10_energyOf_17 m_told x1 (lp_X10_energyOf_5 m_told x1 n) FU x3 x4 (0 : Int32)))) := rfl
theorem lp_X10_energyOf_5_z (m_told : Nat → Int32) (x1 : Int64) (x3 : Int32) (x4 : Int32) : lp_X10_energyOf_5 m_told x1 0 x3 x4 = none := rfl
def f_X10_energyOf (m_told : Nat → Int32) (x1 : Int64) : Option (Int32) := lp_X10_energyOf_5 m_told x1 FU (0 : Int32) (0 : Int32)
theorem ok_X10_energyOf : OkV yX10_energyOf cX10_energyOf 6 (some Jvm.ClassFile.FieldType.int) 1 := ⟨⟨tw_990, tw_13, by decide +kernel, by decide +kernel, by decide +kernel⟩, tw_989, tp_48⟩
set_option maxHeartbeats 4000000 in
set_option maxRecDepth 100000 in
theorem c_X10_energyOf (l : Launch) (D : va_G) (cy : ClassId × ClassId × ClassId) (H0 : Heap) (aM aM_told aM_draft aM_past aM_kept aM_isKept aM_seenLine aM_seenIs aM_rank aM_stage aM_text : Nat) (m_thrown : Int32) (m_shut : Int64) (m_dots : Int64) (m_draftShut : Int64) (m_draftDots : Int64) (m_undos : Int32) (m_base : Int32) (m_slopeX : Int32) (m_slopeY : Int32) (m_seen : Int32) (m_letters : Int32) (m_next : Int32) (m_begin : Int32) (m_token : Int32) (m_gain : Int32) (m_bestDot : Int32) (m_bestCell : Int32) (m_told : Nat → Int32) (x1 : Int64) (r : Int32) (hP : va_P D vwCl [(aM, .inr (10, [.int m_thrown, .ref aM_told, .ref aM_draft, .long m_shut, .long m_dots, .long m_draftShut, .long m_draftDots, .int m_undos, .ref aM_past, .ref aM_kept, .ref aM_isKept, .int m_base, .int m_slopeX, .int m_slopeY, .int m_seen, .ref aM_seenLine, .ref aM_seenIs, .ref aM_rank, .ref aM_stage, .int m_letters, .ref aM_text, .int m_next, .int m_begin, .int m_token, .int m_gain, .int m_bestDot, .int m_bestCell])), (aM_told, .inl (cy.1, 7, .inl m_told))] H0) (hf : f_X10_energyOf m_told x1 = some r) : Rd l yX10_energyOf cX10_energyOf 6 (some Jvm.ClassFile.FieldType.int) ({ frames := 2, cells := 0, slots := 0, locals := 48 } : Room) ([.ref aM, .long x1] : List Value) (some (.int r)) D cy H0 := by
  refine rd_of (by decide +kernel) (Nat.le_of_ble_eq_true rfl) ?_
  intro p e s m below meth c ls S hr hlocks hk hl
  obtain ⟨hx, hb, hml, hown, hts⟩ := id S
  have hl : lv_has ls 6 [(0, .ref aM), (1, .long x1)] := hl
  rw [f_X10_energyOf] at hf
  have J5 : ∀ (n5 : Nat) (x3 : Int32) (x4 : Int32) (ls : Array Slot), lv_has ls 6 [(0, .ref aM), (1, .long x1), (3, .int x3), (4, .int x4)] → lp_X10_energyOf_5 m_told x1 n5 x3 x4 = some r → W p l e ({ frames := 2, cells := 0, slots := 0, locals := 48 } : Room) s m ([.ref aM, .long x1] : List Value).toArray below meth c H0 [] 0 0 (MQ below (QR (some (.int r)) H0) ([.ref aM, .long x1] : List Value).toArray s 0 0 (fun _ => False)) (F0 m 5 ls []) := by
    intro n5
    induction n5 with
    | zero =>
      intro x3 x4 ls hl hf
      rw [lp_X10_energyOf_5_z] at hf
      cases hf
    | succ n5 ih5 =>
      have J17 : ∀ (n17 : Nat) (x3 : Int32) (x4 : Int32) (x5 : Int32) (ls : Array Slot), lv_has ls 6 [(0, .ref aM), (1, .long x1), (3, .int x3), (4, .int x4), (5, .int x5)] → lp_X10_energyOf_17 m_told x1 (lp_X10_energyOf_5 m_told x1 n5) n17 x3 x4 x5 = some r → W p l e ({ frames := 2, cells := 0, slots := 0, locals := 48 } : Room) s m ([.ref aM, .long x1] : List Value).toArray below meth c H0 [] 0 0 (MQ below (QR (some (.int r)) H0) ([.ref aM, .long x1] : List Value).toArray s 0 0 (fun _ => False)) (F0 m 17 ls []) := by
        intro n17
        induction n17 with
        | zero =>
          intro x3 x4 x5 ls hl hf
          rw [lp_X10_energyOf_17_z] at hf
          cases hf
        | succ n17 ih17 =>
          have J59 : ∀ (x4 : Int32) (x5 : Int32) (k0 : Int32) (k1 : Int32) (ls : Array Slot), lv_has ls 6 [(0, .ref aM), (1, .long x1), (4, .int x4), (5, .int x5)] → j_X10_energyOf_59 (lp_X10_energyOf_17 m_told x1 (lp_X10_energyOf_5 m_told x1 n5) n17) x4 x5 k0 k1 = some r → W p l e ({ frames := 2, cells := 0, slots := 0, locals := 48 } : Room) s m ([.ref aM, .long x1] : List Value).toArray below meth c H0 [] 0 0 (MQ below (QR (some (.int r)) H0) ([.ref aM, .long x1] : List Value).toArray s 0 0 (fun _ => False)) (F0 m 59 ls [.int k1, .int k0]) := by
            intro x4 x5 k0 k1 ls hl hf
            rw [j_X10_energyOf_59] at hf
            refine lv_iadd hx hb dX10_energyOf_59 ?_
            refine lv_istore_n (lv' := [(3, .int (k0 + k1)), (0, .ref aM), (1, .long x1), (4, .int x4), (5, .int x5)]) hx hb dX10_energyOf_60 rfl hl (by decide) rfl (fun ls hl => ?_)
            refine lv_iinc (v := (x5 + 1)) (lv' := [(5, .int (x5 + 1)), (3, .int (k0 + k1)), (0, .ref aM), (1, .long x1), (4, .int x4)]) hx hb dX10_energyOf_61 hl (k := 4) rfl rfl (by decide) rfl (fun ls hl => ?_)
            refine lv_goto (tgt := 17) hx hb dX10_energyOf_64 (by decide) ?_
            exact ih17 (k0 + k1) x4 (x5 + 1) ls (lv_sub hl [2, 3, 1, 4, 0] rfl) hf
          intro x3 x4 x5 ls hl hf
          rw [lp_X10_energyOf_17_s] at hf
          refine lv_iload hx hb dX10_energyOf_17 (lv_at hl 4 rfl) ?_
          refine lv_iload hx hb dX10_energyOf_19 (lv_at hl 3 rfl) ?_
          refine lv_icmp_ge (tgt := 67) hx hb dX10_energyOf_21 (by decide) (fun hc => ?_) (fun hc => ?_)
          · have hf := q_t hc hf
            refine lv_iinc (v := (x4 + 1)) (lv' := [(4, .int (x4 + 1)), (0, .ref aM), (1, .long x1), (3, .int x3), (5, .int x5)]) hx hb dX10_energyOf_67 hl (k := 3) rfl rfl (by decide) rfl (fun ls hl => ?_)
            refine lv_goto (tgt := 5) hx hb dX10_energyOf_70 (by decide) ?_
            exact ih5 x3 (x4 + 1) ls (lv_sub hl [1, 2, 3, 0] rfl) hf
          · have hf := q_f hc hf
            refine lv_iload_n hx hb dX10_energyOf_24 rfl (lv_at hl 2 rfl) ?_
            refine lv_lload_n hx hb dX10_energyOf_25 rfl (lv_at hl 1 rfl) ?_
            refine lv_iload hx hb dX10_energyOf_26 (lv_at hl 3 rfl) ?_
            obtain ⟨z28, hz28, hf⟩ := q_bind hf
            refine q_rdS (As := [.long x1, .int x4]) (rest := [.int x3]) (st2 := [.int z28, .int x3]) S hk (c_X10_has l D cy H0 x1 x4 z28 hz28) ok_X10_has tw_908 ⟨rfl, rfl, Nat.le_of_ble_eq_true rfl, Nat.le_of_ble_eq_true rfl⟩ rfl hl.1 rfl (Nat.le_of_ble_eq_true rfl) dX10_energyOf_28 ⟨Nat.zero_le _, Nat.zero_le _⟩ rfl ?_
            refine lv_if_eq (tgt := 58) hx hb dX10_energyOf_31 (by decide) (fun hc => ?_) (fun hc => ?_)
            · have hf := q_t hc hf
              refine lv_iconst (v := (0 : Int32)) hx hb dX10_energyOf_58 (by decide) ?_
              exact J59 x4 x5 x3 (0 : Int32) ls (lv_sub hl [0, 1, 3, 4] rfl) hf
            · have hf := q_f hc hf
              refine lv_lload_n hx hb dX10_energyOf_34 rfl (lv_at hl 1 rfl) ?_
              refine lv_iload hx hb dX10_energyOf_35 (lv_at hl 4 rfl) ?_
              obtain ⟨z37, hz37, hf⟩ := q_bind hf
              refine q_rdS (As := [.long x1, .int x5]) (rest := [.int x3]) (st2 := [.int z37, .int x3]) S hk (c_X10_has l D cy H0 x1 x5 z37 hz37) ok_X10_has tw_908 ⟨rfl, rfl, Nat.le_of_ble_eq_true rfl, Nat.le_of_ble_eq_true rfl⟩ rfl hl.1 rfl (Nat.le_of_ble_eq_true rfl) dX10_energyOf_37 ⟨Nat.zero_le _, Nat.zero_le _⟩ rfl ?_
              refine lv_if_eq (tgt := 58) hx hb dX10_energyOf_40 (by decide) (fun hc => ?_) (fun hc => ?_)
              · have hf := q_t hc hf
                refine lv_iconst (v := (0 : Int32)) hx hb dX10_energyOf_58 (by decide) ?_
                exact J59 x4 x5 x3 (0 : Int32) ls (lv_sub hl [0, 1, 3, 4] rfl) hf
              · have hf := q_f hc hf
                refine lv_aload_n hx hb dX10_energyOf_43 rfl (lv_at hl 0 rfl) ?_
                refine lv_aload_n hx hb dX10_energyOf_44 rfl (lv_at hl 0 rfl) ?_
                refine lv_iload hx hb dX10_energyOf_45 (lv_at hl 3 rfl) ?_
                refine lv_iload hx hb dX10_energyOf_47 (lv_at hl 4 rfl) ?_
                obtain ⟨z49, hz49, hf⟩ := q_bind hf
                refine q_rdV (As := [.int x4, .int x5]) (rest := [.ref aM, .int x3]) (st2 := [.int z49, .ref aM, .int x3]) S hk (c_X10_distance l D cy H0 aM aM_told aM_draft aM_past aM_kept aM_isKept aM_seenLine aM_seenIs aM_rank aM_stage aM_text m_thrown m_shut m_dots m_draftShut m_draftDots m_undos m_base m_slopeX m_slopeY m_seen m_letters m_next m_begin m_token m_gain m_bestDot m_bestCell m_told x4 x5 z49 (hP.sub [0, 1] rfl) hz49) ok_X10_distance tw_935 ⟨rfl, rfl, Nat.le_of_ble_eq_true rfl, Nat.le_of_ble_eq_true rfl⟩ (va_recv hk.1 hP (ci := 10) (q0 := 0) rfl rfl) rfl hl.1 rfl (Nat.le_of_ble_eq_true rfl) dX10_energyOf_49 ⟨Nat.zero_le _, Nat.zero_le _⟩ rfl ?_
                obtain ⟨z52, hz52, hf⟩ := q_bind hf
                refine q_rdV (As := [.int z49]) (rest := [.int x3]) (st2 := [.int z52, .int x3]) S hk (c_X10_weight l D cy H0 aM aM_told aM_draft aM_past aM_kept aM_isKept aM_seenLine aM_seenIs aM_rank aM_stage aM_text m_thrown m_shut m_dots m_draftShut m_draftDots m_undos m_base m_slopeX m_slopeY m_seen m_letters m_next m_begin m_token m_gain m_bestDot m_bestCell m_told z49 z52 (hP.sub [0, 1] rfl) hz52) ok_X10_weight tw_942 ⟨rfl, rfl, Nat.le_of_ble_eq_true rfl, Nat.le_of_ble_eq_true rfl⟩ (va_recv hk.1 hP (ci := 10) (q0 := 0) rfl rfl) rfl hl.1 rfl (Nat.le_of_ble_eq_true rfl) dX10_energyOf_52 ⟨Nat.zero_le _, Nat.zero_le _⟩ rfl ?_
                refine lv_goto (tgt := 59) hx hb dX10_energyOf_55 (by decide) ?_
                exact J59 x4 x5 x3 z52 ls (lv_sub hl [0, 1, 3, 4] rfl) hf
      intro x3 x4 ls hl hf
      rw [lp_X10_energyOf_5_s] at hf
      refine lv_iload hx hb dX10_energyOf_5 (lv_at hl 3 rfl) ?_
      refine lv_aload_n hx hb dX10_energyOf_7 rfl (lv_at hl 0 rfl) ?_
      obtain ⟨z8, hz8, hf⟩ := q_bind hf
      refine q_rdV (As := []) (rest := [.int x4]) (st2 := [.int z8, .int x4]) S hk (c_X10_cells l D cy H0 aM aM_told aM_draft aM_past aM_kept aM_isKept aM_seenLine aM_seenIs aM_rank aM_stage aM_text m_thrown m_shut m_dots m_draftShut m_draftDots m_undos m_base m_slopeX m_slopeY m_seen m_letters m_next m_begin m_token m_gain m_bestDot m_bestCell m_told z8 (hP.sub [0, 1] rfl) hz8) ok_X10_cells tw_931 ⟨rfl, rfl, Nat.le_of_ble_eq_true rfl, Nat.le_of_ble_eq_true rfl⟩ (va_recv hk.1 hP (ci := 10) (q0 := 0) rfl rfl) rfl hl.1 rfl (Nat.le_of_ble_eq_true rfl) dX10_energyOf_8 ⟨Nat.zero_le _, Nat.zero_le _⟩ rfl ?_
      refine lv_icmp_ge (tgt := 73) hx hb dX10_energyOf_11 (by decide) (fun hc => ?_) (fun hc => ?_)
      · have hf := q_t hc hf
        refine lv_iload_n hx hb dX10_energyOf_73 rfl (lv_at hl 2 rfl) ?_
        have hf := Option.some.inj hf
        subst hf
        exact q_riR hx hb hr hlocks dX10_energyOf_74
      · have hf := q_f hc hf
        refine lv_iconst (v := (0 : Int32)) hx hb dX10_energyOf_14 (by decide) ?_
        refine lv_istore (lv' := [(5, .int (0 : Int32)), (0, .ref aM), (1, .long x1), (3, .int x3), (4, .int x4)]) hx hb dX10_energyOf_15 hl (by decide) rfl (fun ls hl => ?_)
        exact J17 FU x3 x4 (0 : Int32) ls (lv_sub hl [1, 2, 3, 4, 0] rfl) hf
  refine lv_iconst (v := (0 : Int32)) hx hb dX10_energyOf_0 (by decide) ?_
  refine lv_istore_n (lv' := [(3, .int (0 : Int32)), (0, .ref aM), (1, .long x1)]) hx hb dX10_energyOf_1 rfl hl (by decide) rfl (fun ls hl => ?_)
  refine lv_iconst (v := (0 : Int32)) hx hb dX10_energyOf_2 (by decide) ?_
  refine lv_istore (lv' := [(4, .int (0 : Int32)), (3, .int (0 : Int32)), (0, .ref aM), (1, .long x1)]) hx hb dX10_energyOf_3 hl (by decide) rfl (fun ls hl => ?_)
  exact J5 FU (0 : Int32) (0 : Int32) ls (lv_sub hl [2, 3, 1, 0] rfl) hf
def f_X10_moved (x0 : Int64) (x2 : Int32) (x3 : Int32) : Option (Int64) := some ((x0 &&& ((lsh (1 : Int64) x2) ^^^ (-1 : Int64))) ||| (lsh (1 : Int64) x3))
theorem ok_X10_moved : OkS yX10_moved cX10_moved 4 (some Jvm.ClassFile.FieldType.long) 3 := ⟨⟨tw_993, tw_13, by decide +kernel, by decide +kernel, by decide +kernel⟩, tw_992⟩
set_option maxHeartbeats 4000000 in
set_option maxRecDepth 100000 in
theorem c_X10_moved (l : Launch) (D : va_G) (cy : ClassId × ClassId × ClassId) (H0 : Heap) (x0 : Int64) (x2 : Int32) (x3 : Int32) (r : Int64) (hf : f_X10_moved x0 x2 x3 = some r) : Rd l yX10_moved cX10_moved 4 (some Jvm.ClassFile.FieldType.long) ({ frames := 0, cells := 0, slots := 0, locals := 0 } : Room) ([.long x0, .int x2, .int x3] : List Value) (some (.long r)) D cy H0 := by
  refine rd_of (by decide +kernel) (Nat.le_of_ble_eq_true rfl) ?_
  intro p e s m below meth c ls S hr hlocks hk hl
  obtain ⟨hx, hb, hml, hown, hts⟩ := id S
  have hl : lv_has ls 4 [(0, .long x0), (2, .int x2), (3, .int x3)] := hl
  rw [f_X10_moved] at hf
  refine lv_lload_n hx hb dX10_moved_0 rfl (lv_at hl 0 rfl) ?_
  refine lv_lconst (v := (1 : Int64)) hx hb dX10_moved_1 (by decide) ?_
  refine lv_iload_n hx hb dX10_moved_2 rfl (lv_at hl 1 rfl) ?_
  refine lv_lshl (v := (lsh (1 : Int64) x2)) hx hb dX10_moved_3 rfl ?_
  refine lv_ldc2 hx hb hown (hts _ tw_970) dX10_moved_4 ?_
  refine lv_lxor hx hb dX10_moved_7 ?_
  refine lv_land hx hb dX10_moved_8 ?_
  refine lv_lconst (v := (1 : Int64)) hx hb dX10_moved_9 (by decide) ?_
  refine lv_iload_n hx hb dX10_moved_10 rfl (lv_at hl 2 rfl) ?_
  refine lv_lshl (v := (lsh (1 : Int64) x3)) hx hb dX10_moved_11 rfl ?_
  refine lv_lor hx hb dX10_moved_12 ?_
  have hf := Option.some.inj hf
  subst hf
  exact q_rlR hx hb hr hlocks dX10_moved_13
def f_X10_moves (m_thrown : Int32) (m_shut : Int64) (m_dots : Int64) (m_undos : Int32) (m_told : Nat → Int32) (m_past : Nat → Int64) (x1 : Int32) (x2 : Int32) : Option (Int32 × Int32 × Int64 × Int32 × (Nat → Int64)) := (f_X10_isCell m_told x1).bind (fun z7 => if z7 = 0 then (some ((-1 : Int32), (0 : Int32), m_dots, m_undos, m_past)) else ((f_X10_isCell m_told x2).bind (fun z15 => if z15 = 0 then (some ((-1 : Int32), (0 : Int32), m_dots, m_undos, m_past)) else ((f_X10_has m_dots x1).bind (fun z28 => if z28 = 0 then (some ((-2 : Int32), (0 : Int32), m_dots, m_undos, m_past)) else ((f_X10_has (m_dots ||| m_shut) x2).bind (fun z44 => if z44 = 0 then ((f_X10_notes m_dots m_undos m_past).bind (fun z54 => (f_X10_energyOf m_told m_dots).bind (fun z62 => (f_X10_moved m_dots x1 x2).bind (fun z73 => (f_X10_energyOf m_told z73).bind (fun z84 => some ((z84 - z62), (0 : Int32), z73, (z54.1), (z54.2))))))) else (some ((-2 : Int32), (0 : Int32), m_dots, m_undos, m_past)))))))))
theorem ok_X10_moves : OkV yX10_moves cX10_moves 4 (some Jvm.ClassFile.FieldType.int) 2 := ⟨⟨tw_986, tw_13, by decide +kernel, by decide +kernel, by decide +kernel⟩, tw_984, tw_985⟩
set_option maxHeartbeats 4000000 in
set_option maxRecDepth 100000 in
theorem c_X10_moves (l : Launch) (D : va_G) (cy : ClassId × ClassId × ClassId) (H0 : Heap) (aM aM_told aM_draft aM_past aM_kept aM_isKept aM_seenLine aM_seenIs aM_rank aM_stage aM_text : Nat) (m_thrown : Int32) (m_shut : Int64) (m_dots : Int64) (m_draftShut : Int64) (m_draftDots : Int64) (m_undos : Int32) (m_base : Int32) (m_slopeX : Int32) (m_slopeY : Int32) (m_seen : Int32) (m_letters : Int32) (m_next : Int32) (m_begin : Int32) (m_token : Int32) (m_gain : Int32) (m_bestDot : Int32) (m_bestCell : Int32) (m_told : Nat → Int32) (m_past : Nat → Int64) (x1 : Int32) (x2 : Int32) (r : Int32 × Int32 × Int64 × Int32 × (Nat → Int64)) (hP : va_P D vwCl [(aM, .inr (10, [.int m_thrown, .ref aM_told, .ref aM_draft, .long m_shut, .long m_dots, .long m_draftShut, .long m_draftDots, .int m_undos, .ref aM_past, .ref aM_kept, .ref aM_isKept, .int m_base, .int m_slopeX, .int m_slopeY, .int m_seen, .ref aM_seenLine, .ref aM_seenIs, .ref aM_rank, .ref aM_stage, .int m_letters, .ref aM_text, .int m_next, .int m_begin, .int m_token, .int m_gain, .int m_bestDot, .int m_bestCell])), (aM_told, .inl (cy.1, 7, .inl m_told)), (aM_past, .inl (cy.2.1, 10, .inr (.inl m_past)))] H0) (hD0 : va_D (fun _ => True) [(aM, .inr (10, [.int m_thrown, .ref aM_told, .ref aM_draft, .long m_shut, .long m_dots, .long m_draftShut, .long m_draftDots, .int m_undos, .ref aM_past, .ref aM_kept, .ref aM_isKept, .int m_base, .int m_slopeX, .int m_slopeY, .int m_seen, .ref aM_seenLine, .ref aM_seenIs, .ref aM_rank, .ref aM_stage, .int m_letters, .ref aM_text, .int m_next, .int m_begin, .int m_token, .int m_gain, .int m_bestDot, .int m_bestCell])), (aM_told, .inl (cy.1, 7, .inl m_told)), (aM_past, .inl (cy.2.1, 10, .inr (.inl m_past)))]) (hf : f_X10_moves m_thrown m_shut m_dots m_undos m_told m_past x1 x2 = some r) : Wr l yX10_moves cX10_moves 4 (some Jvm.ClassFile.FieldType.int) ({ frames := 3, cells := 0, slots := 0, locals := 73 } : Room) ([.ref aM, .int x1, .int x2] : List Value) (some (.int (r.1))) D cy H0 [(aM, .inr (10, [.int m_thrown, .ref aM_told, .ref aM_draft, .long m_shut, .long m_dots, .long m_draftShut, .long m_draftDots, .int m_undos, .ref aM_past, .ref aM_kept, .ref aM_isKept, .int m_base, .int m_slopeX, .int m_slopeY, .int m_seen, .ref aM_seenLine, .ref aM_seenIs, .ref aM_rank, .ref aM_stage, .int m_letters, .ref aM_text, .int m_next, .int m_begin, .int m_token, .int m_gain, .int m_bestDot, .int m_bestCell])), (aM_told, .inl (cy.1, 7, .inl m_told)), (aM_past, .inl (cy.2.1, 10, .inr (.inl m_past)))] [(aM, .inr (10, [.int (r.2.1), .ref aM_told, .ref aM_draft, .long m_shut, .long (r.2.2.1), .long m_draftShut, .long m_draftDots, .int (r.2.2.2.1), .ref aM_past, .ref aM_kept, .ref aM_isKept, .int m_base, .int m_slopeX, .int m_slopeY, .int m_seen, .ref aM_seenLine, .ref aM_seenIs, .ref aM_rank, .ref aM_stage, .int m_letters, .ref aM_text, .int m_next, .int m_begin, .int m_token, .int m_gain, .int m_bestDot, .int m_bestCell])), (aM_told, .inl (cy.1, 7, .inl m_told)), (aM_past, .inl (cy.2.1, 10, .inr (.inl (r.2.2.2.2))))] := by
  refine wr_of (by decide +kernel) (Nat.le_of_ble_eq_true rfl) hD0 ?_
  intro p e s m below meth c ls A S hr hlocks hk hl hD hS hA
  obtain ⟨hx, hb, hml, hown, hts⟩ := id S
  have hl : lv_has ls 4 [(0, .ref aM), (1, .int x1), (2, .int x2)] := hl
  rw [f_X10_moves] at hf
  refine lv_aload_n hx hb dX10_moves_0 rfl (lv_at hl 0 rfl) ?_
  refine lv_iconst (v := (0 : Int32)) hx hb dX10_moves_1 (by decide) ?_
  refine va_put (D := D) (ci := 10) (v := .int (0 : Int32)) (ty := .int) (C := RX10) (T := TX10) (N := 27) hx hb hts iX10 tyX10 tyX10_ok nmX10 hown hk.1 hP hD hS 0 rfl rfl 0 (by decide) (hts _ tw_783) (fun _ h9 => h9) rfl (by decide +kernel) rfl rfl (Nat.le_of_ble_eq_true rfl) dX10_moves_2 (fun H locs hP hD hS => ?_)
  have hP : va_P D vwCl [(aM, .inr (10, [.int (0 : Int32), .ref aM_told, .ref aM_draft, .long m_shut, .long m_dots, .long m_draftShut, .long m_draftDots, .int m_undos, .ref aM_past, .ref aM_kept, .ref aM_isKept, .int m_base, .int m_slopeX, .int m_slopeY, .int m_seen, .ref aM_seenLine, .ref aM_seenIs, .ref aM_rank, .ref aM_stage, .int m_letters, .ref aM_text, .int m_next, .int m_begin, .int m_token, .int m_gain, .int m_bestDot, .int m_bestCell])), (aM_told, .inl (cy.1, 7, .inl m_told)), (aM_past, .inl (cy.2.1, 10, .inr (.inl m_past)))] H := hP
  have hD : va_D A [(aM, .inr (10, [.int (0 : Int32), .ref aM_told, .ref aM_draft, .long m_shut, .long m_dots, .long m_draftShut, .long m_draftDots, .int m_undos, .ref aM_past, .ref aM_kept, .ref aM_isKept, .int m_base, .int m_slopeX, .int m_slopeY, .int m_seen, .ref aM_seenLine, .ref aM_seenIs, .ref aM_rank, .ref aM_stage, .int m_letters, .ref aM_text, .int m_next, .int m_begin, .int m_token, .int m_gain, .int m_bestDot, .int m_bestCell])), (aM_told, .inl (cy.1, 7, .inl m_told)), (aM_past, .inl (cy.2.1, 10, .inr (.inl m_past)))] := hD
  refine lv_aload_n hx hb dX10_moves_5 rfl (lv_at hl 0 rfl) ?_
  refine lv_iload_n hx hb dX10_moves_6 rfl (lv_at hl 1 rfl) ?_
  obtain ⟨z7, hz7, hf⟩ := q_bind hf
  refine q_rdV (As := [.int x1]) (rest := []) (st2 := [.int z7]) S hk (c_X10_isCell l D cy H aM aM_told aM_draft aM_past aM_kept aM_isKept aM_seenLine aM_seenIs aM_rank aM_stage aM_text (0 : Int32) m_shut m_dots m_draftShut m_draftDots m_undos m_base m_slopeX m_slopeY m_seen m_letters m_next m_begin m_token m_gain m_bestDot m_bestCell m_told x1 z7 (hP.sub [0, 1] rfl) hz7) ok_X10_isCell tw_927 ⟨rfl, rfl, Nat.le_of_ble_eq_true rfl, Nat.le_of_ble_eq_true rfl⟩ (va_recv hk.1 hP (ci := 10) (q0 := 0) rfl rfl) rfl hl.1 rfl (Nat.le_of_ble_eq_true rfl) dX10_moves_7 ⟨Nat.zero_le _, Nat.zero_le _⟩ rfl ?_
  refine lv_if_eq (tgt := 21) hx hb dX10_moves_10 (by decide) (fun hc => ?_) (fun hc => ?_)
  · have hf := q_t hc hf
    refine lv_iconst (v := (-1 : Int32)) hx hb dX10_moves_21 (by decide) ?_
    have hf := Option.some.inj hf
    subst hf
    exact q_riW hP hS hx hb hr hlocks dX10_moves_22
  · have hf := q_f hc hf
    refine lv_aload_n hx hb dX10_moves_13 rfl (lv_at hl 0 rfl) ?_
    refine lv_iload_n hx hb dX10_moves_14 rfl (lv_at hl 2 rfl) ?_
    obtain ⟨z15, hz15, hf⟩ := q_bind hf
    refine q_rdV (As := [.int x2]) (rest := []) (st2 := [.int z15]) S hk (c_X10_isCell l D cy H aM aM_told aM_draft aM_past aM_kept aM_isKept aM_seenLine aM_seenIs aM_rank aM_stage aM_text (0 : Int32) m_shut m_dots m_draftShut m_draftDots m_undos m_base m_slopeX m_slopeY m_seen m_letters m_next m_begin m_token m_gain m_bestDot m_bestCell m_told x2 z15 (hP.sub [0, 1] rfl) hz15) ok_X10_isCell tw_927 ⟨rfl, rfl, Nat.le_of_ble_eq_true rfl, Nat.le_of_ble_eq_true rfl⟩ (va_recv hk.1 hP (ci := 10) (q0 := 0) rfl rfl) rfl hl.1 rfl (Nat.le_of_ble_eq_true rfl) dX10_moves_15 ⟨Nat.zero_le _, Nat.zero_le _⟩ rfl ?_
    refine lv_if_ne (tgt := 23) hx hb dX10_moves_18 (by decide) (fun hc => ?_) (fun hc => ?_)
    · have hf := q_f hc hf
      refine lv_aload_n hx hb dX10_moves_23 rfl (lv_at hl 0 rfl) ?_
      refine va_get (D := D) (ci := 10) (v := .long m_dots) (C := RX10) (T := TX10) (N := 27) hx hb hts iX10 hown hk.1 hP 0 rfl rfl 4 (by decide) (hts _ tw_787) (fun _ h9 => h9) rfl dX10_moves_24 ?_
      refine lv_iload_n hx hb dX10_moves_27 rfl (lv_at hl 1 rfl) ?_
      obtain ⟨z28, hz28, hf⟩ := q_bind hf
      refine q_rdS (As := [.long m_dots, .int x1]) (rest := []) (st2 := [.int z28]) S hk (c_X10_has l D cy H m_dots x1 z28 hz28) ok_X10_has tw_908 ⟨rfl, rfl, Nat.le_of_ble_eq_true rfl, Nat.le_of_ble_eq_true rfl⟩ rfl hl.1 rfl (Nat.le_of_ble_eq_true rfl) dX10_moves_28 ⟨Nat.zero_le _, Nat.zero_le _⟩ rfl ?_
      refine lv_if_eq (tgt := 50) hx hb dX10_moves_31 (by decide) (fun hc => ?_) (fun hc => ?_)
      · have hf := q_t hc hf
        refine lv_bipush (v := (-2 : Int32)) hx hb dX10_moves_50 (by decide) ?_
        have hf := Option.some.inj hf
        subst hf
        exact q_riW hP hS hx hb hr hlocks dX10_moves_52
      · have hf := q_f hc hf
        refine lv_aload_n hx hb dX10_moves_34 rfl (lv_at hl 0 rfl) ?_
        refine va_get (D := D) (ci := 10) (v := .long m_dots) (C := RX10) (T := TX10) (N := 27) hx hb hts iX10 hown hk.1 hP 0 rfl rfl 4 (by decide) (hts _ tw_787) (fun _ h9 => h9) rfl dX10_moves_35 ?_
        refine lv_aload_n hx hb dX10_moves_38 rfl (lv_at hl 0 rfl) ?_
        refine va_get (D := D) (ci := 10) (v := .long m_shut) (C := RX10) (T := TX10) (N := 27) hx hb hts iX10 hown hk.1 hP 0 rfl rfl 3 (by decide) (hts _ tw_786) (fun _ h9 => h9) rfl dX10_moves_39 ?_
        refine lv_lor hx hb dX10_moves_42 ?_
        refine lv_iload_n hx hb dX10_moves_43 rfl (lv_at hl 2 rfl) ?_
        obtain ⟨z44, hz44, hf⟩ := q_bind hf
        refine q_rdS (As := [.long (m_dots ||| m_shut), .int x2]) (rest := []) (st2 := [.int z44]) S hk (c_X10_has l D cy H (m_dots ||| m_shut) x2 z44 hz44) ok_X10_has tw_908 ⟨rfl, rfl, Nat.le_of_ble_eq_true rfl, Nat.le_of_ble_eq_true rfl⟩ rfl hl.1 rfl (Nat.le_of_ble_eq_true rfl) dX10_moves_44 ⟨Nat.zero_le _, Nat.zero_le _⟩ rfl ?_
        refine lv_if_eq (tgt := 53) hx hb dX10_moves_47 (by decide) (fun hc => ?_) (fun hc => ?_)
        · have hf := q_t hc hf
          refine lv_aload_n hx hb dX10_moves_53 rfl (lv_at hl 0 rfl) ?_
          obtain ⟨z54, hz54, hf⟩ := q_bind hf
          refine q_wrV (As := []) (rest := []) (st2 := []) (ws' := [(aM, .inr (10, [.int (0 : Int32), .ref aM_told, .ref aM_draft, .long m_shut, .long m_dots, .long m_draftShut, .long m_draftDots, .int (z54.1), .ref aM_past, .ref aM_kept, .ref aM_isKept, .int m_base, .int m_slopeX, .int m_slopeY, .int m_seen, .ref aM_seenLine, .ref aM_seenIs, .ref aM_rank, .ref aM_stage, .int m_letters, .ref aM_text, .int m_next, .int m_begin, .int m_token, .int m_gain, .int m_bestDot, .int m_bestCell])), (aM_told, .inl (cy.1, 7, .inl m_told)), (aM_past, .inl (cy.2.1, 10, .inr (.inl (z54.2))))]) S hk (c_X10_notes l D cy H aM aM_told aM_draft aM_past aM_kept aM_isKept aM_seenLine aM_seenIs aM_rank aM_stage aM_text (0 : Int32) m_shut m_dots m_draftShut m_draftDots m_undos m_base m_slopeX m_slopeY m_seen m_letters m_next m_begin m_token m_gain m_bestDot m_bestCell m_past z54 (hP.sub [0, 2] rfl) (qD_sub hD [0, 2] (by decide) rfl) hz54) ok_X10_notes tw_950 ⟨rfl, rfl, Nat.le_of_ble_eq_true rfl, Nat.le_of_ble_eq_true rfl⟩ (va_recv hk.1 hP (ci := 10) (q0 := 0) rfl rfl) rfl hl.1 rfl (Nat.le_of_ble_eq_true rfl) dX10_moves_54 ⟨Nat.zero_le _, Nat.zero_le _⟩ rfl hP hD hS hA [0, 2] rfl rfl rfl rfl (fun H locs hP hD hS => ?_)
          refine lv_aload_n hx hb dX10_moves_57 rfl (lv_at hl 0 rfl) ?_
          refine lv_aload_n hx hb dX10_moves_58 rfl (lv_at hl 0 rfl) ?_
          refine va_get (D := D) (ci := 10) (v := .long m_dots) (C := RX10) (T := TX10) (N := 27) hx hb hts iX10 hown hk.1 hP 0 rfl rfl 4 (by decide) (hts _ tw_787) (fun _ h9 => h9) rfl dX10_moves_59 ?_
          obtain ⟨z62, hz62, hf⟩ := q_bind hf
          refine q_rdV (As := [.long m_dots]) (rest := []) (st2 := [.int z62]) S hk (c_X10_energyOf l D cy H aM aM_told aM_draft aM_past aM_kept aM_isKept aM_seenLine aM_seenIs aM_rank aM_stage aM_text (0 : Int32) m_shut m_dots m_draftShut m_draftDots (z54.1) m_base m_slopeX m_slopeY m_seen m_letters m_next m_begin m_token m_gain m_bestDot m_bestCell m_told m_dots z62 (hP.sub [0, 1] rfl) hz62) ok_X10_energyOf tw_987 ⟨rfl, rfl, Nat.le_of_ble_eq_true rfl, Nat.le_of_ble_eq_true rfl⟩ (va_recv hk.1 hP (ci := 10) (q0 := 0) rfl rfl) rfl hl.1 rfl (Nat.le_of_ble_eq_true rfl) dX10_moves_62 ⟨Nat.zero_le _, Nat.zero_le _⟩ rfl ?_
          refine lv_istore_n (lv' := [(3, .int z62), (0, .ref aM), (1, .int x1), (2, .int x2)]) hx hb dX10_moves_65 rfl hl (by decide) rfl (fun ls hl => ?_)
          refine lv_aload_n hx hb dX10_moves_66 rfl (lv_at hl 1 rfl) ?_
          refine lv_aload_n hx hb dX10_moves_67 rfl (lv_at hl 1 rfl) ?_
          refine va_get (D := D) (ci := 10) (v := .long m_dots) (C := RX10) (T := TX10) (N := 27) hx hb hts iX10 hown hk.1 hP 0 rfl rfl 4 (by decide) (hts _ tw_787) (fun _ h9 => h9) rfl dX10_moves_68 ?_
          refine lv_iload_n hx hb dX10_moves_71 rfl (lv_at hl 2 rfl) ?_
          refine lv_iload_n hx hb dX10_moves_72 rfl (lv_at hl 3 rfl) ?_
          obtain ⟨z73, hz73, hf⟩ := q_bind hf
          refine q_rdS (As := [.long m_dots, .int x1, .int x2]) (rest := [.ref aM]) (st2 := [.long z73, .ref aM]) S hk (c_X10_moved l D cy H m_dots x1 x2 z73 hz73) ok_X10_moved tw_991 ⟨rfl, rfl, Nat.le_of_ble_eq_true rfl, Nat.le_of_ble_eq_true rfl⟩ rfl hl.1 rfl (Nat.le_of_ble_eq_true rfl) dX10_moves_73 ⟨Nat.zero_le _, Nat.zero_le _⟩ rfl ?_
          refine va_put (D := D) (ci := 10) (v := .long z73) (ty := .long) (C := RX10) (T := TX10) (N := 27) hx hb hts iX10 tyX10 tyX10_ok nmX10 hown hk.1 hP hD hS 0 rfl rfl 4 (by decide) (hts _ tw_787) (fun _ h9 => h9) rfl (by decide +kernel) rfl rfl (Nat.le_of_ble_eq_true rfl) dX10_moves_76 (fun H locs hP hD hS => ?_)
          have hP : va_P D vwCl [(aM, .inr (10, [.int (0 : Int32), .ref aM_told, .ref aM_draft, .long m_shut, .long z73, .long m_draftShut, .long m_draftDots, .int (z54.1), .ref aM_past, .ref aM_kept, .ref aM_isKept, .int m_base, .int m_slopeX, .int m_slopeY, .int m_seen, .ref aM_seenLine, .ref aM_seenIs, .ref aM_rank, .ref aM_stage, .int m_letters, .ref aM_text, .int m_next, .int m_begin, .int m_token, .int m_gain, .int m_bestDot, .int m_bestCell])), (aM_told, .inl (cy.1, 7, .inl m_told)), (aM_past, .inl (cy.2.1, 10, .inr (.inl (z54.2))))] H := hP
          have hD : va_D A [(aM, .inr (10, [.int (0 : Int32), .ref aM_told, .ref aM_draft, .long m_shut, .long z73, .long m_draftShut, .long m_draftDots, .int (z54.1), .ref aM_past, .ref aM_kept, .ref aM_isKept, .int m_base, .int m_slopeX, .int m_slopeY, .int m_seen, .ref aM_seenLine, .ref aM_seenIs, .ref aM_rank, .ref aM_stage, .int m_letters, .ref aM_text, .int m_next, .int m_begin, .int m_token, .int m_gain, .int m_bestDot, .int m_bestCell])), (aM_told, .inl (cy.1, 7, .inl m_told)), (aM_past, .inl (cy.2.1, 10, .inr (.inl (z54.2))))] := hD
          refine lv_aload_n hx hb dX10_moves_79 rfl (lv_at hl 1 rfl) ?_
          refine lv_aload_n hx hb dX10_moves_80 rfl (lv_at hl 1 rfl) ?_
          refine va_get (D := D) (ci := 10) (v := .long z73) (C := RX10) (T := TX10) (N := 27) hx hb hts iX10 hown hk.1 hP 0 rfl rfl 4 (by decide) (hts _ tw_787) (fun _ h9 => h9) rfl dX10_moves_81 ?_
          obtain ⟨z84, hz84, hf⟩ := q_bind hf
          refine q_rdV (As := [.long z73]) (rest := []) (st2 := [.int z84]) S hk (c_X10_energyOf l D cy H aM aM_told aM_draft aM_past aM_kept aM_isKept aM_seenLine aM_seenIs aM_rank aM_stage aM_text (0 : Int32) m_shut z73 m_draftShut m_draftDots (z54.1) m_base m_slopeX m_slopeY m_seen m_letters m_next m_begin m_token m_gain m_bestDot m_bestCell m_told z73 z84 (hP.sub [0, 1] rfl) hz84) ok_X10_energyOf tw_987 ⟨rfl, rfl, Nat.le_of_ble_eq_true rfl, Nat.le_of_ble_eq_true rfl⟩ (va_recv hk.1 hP (ci := 10) (q0 := 0) rfl rfl) rfl hl.1 rfl (Nat.le_of_ble_eq_true rfl) dX10_moves_84 ⟨Nat.zero_le _, Nat.zero_le _⟩ rfl ?_
          refine lv_iload_n hx hb dX10_moves_87 rfl (lv_at hl 0 rfl) ?_
          refine lv_isub hx hb dX10_moves_88 ?_
          have hf := Option.some.inj hf
          subst hf
          exact q_riW hP hS hx hb hr hlocks dX10_moves_89
        · have hf := q_f hc hf
          refine lv_bipush (v := (-2 : Int32)) hx hb dX10_moves_50 (by decide) ?_
          have hf := Option.some.inj hf
          subst hf
          exact q_riW hP hS hx hb hr hlocks dX10_moves_52
    · have hf := q_t hc hf
      refine lv_iconst (v := (-1 : Int32)) hx hb dX10_moves_21 (by decide) ?_
      have hf := Option.some.inj hf
      subst hf
      exact q_riW hP hS hx hb hr hlocks dX10_moves_22
def f_X10_undo (m_thrown : Int32) (m_dots : Int64) (m_undos : Int32) (m_past : Nat → Int64) : Option (Int32 × Int32 × Int64 × Int32) := if m_undos = 0 then (some ((-2 : Int32), (0 : Int32), m_dots, m_undos)) else (if inb (m_undos - (1 : Int32)) 10 = true then (some ((m_undos - (1 : Int32)), (0 : Int32), (m_past (m_undos - (1 : Int32)).toNatClampNeg), (m_undos - (1 : Int32)))) else none)
theorem ok_X10_undo : OkV yX10_undo cX10_undo 1 (some Jvm.ClassFile.FieldType.int) 0 := ⟨⟨tw_997, tw_13, by decide +kernel, by decide +kernel, by decide +kernel⟩, tw_995, tw_996⟩
set_option maxHeartbeats 4000000 in
set_option maxRecDepth 100000 in
theorem c_X10_undo (l : Launch) (D : va_G) (cy : ClassId × ClassId × ClassId) (H0 : Heap) (aM aM_told aM_draft aM_past aM_kept aM_isKept aM_seenLine aM_seenIs aM_rank aM_stage aM_text : Nat) (m_thrown : Int32) (m_shut : Int64) (m_dots : Int64) (m_draftShut : Int64) (m_draftDots : Int64) (m_undos : Int32) (m_base : Int32) (m_slopeX : Int32) (m_slopeY : Int32) (m_seen : Int32) (m_letters : Int32) (m_next : Int32) (m_begin : Int32) (m_token : Int32) (m_gain : Int32) (m_bestDot : Int32) (m_bestCell : Int32) (m_past : Nat → Int64) (r : Int32 × Int32 × Int64 × Int32) (hP : va_P D vwCl [(aM, .inr (10, [.int m_thrown, .ref aM_told, .ref aM_draft, .long m_shut, .long m_dots, .long m_draftShut, .long m_draftDots, .int m_undos, .ref aM_past, .ref aM_kept, .ref aM_isKept, .int m_base, .int m_slopeX, .int m_slopeY, .int m_seen, .ref aM_seenLine, .ref aM_seenIs, .ref aM_rank, .ref aM_stage, .int m_letters, .ref aM_text, .int m_next, .int m_begin, .int m_token, .int m_gain, .int m_bestDot, .int m_bestCell])), (aM_past, .inl (cy.2.1, 10, .inr (.inl m_past)))] H0) (hD0 : va_D (fun _ => True) [(aM, .inr (10, [.int m_thrown, .ref aM_told, .ref aM_draft, .long m_shut, .long m_dots, .long m_draftShut, .long m_draftDots, .int m_undos, .ref aM_past, .ref aM_kept, .ref aM_isKept, .int m_base, .int m_slopeX, .int m_slopeY, .int m_seen, .ref aM_seenLine, .ref aM_seenIs, .ref aM_rank, .ref aM_stage, .int m_letters, .ref aM_text, .int m_next, .int m_begin, .int m_token, .int m_gain, .int m_bestDot, .int m_bestCell])), (aM_past, .inl (cy.2.1, 10, .inr (.inl m_past)))]) (hf : f_X10_undo m_thrown m_dots m_undos m_past = some r) : Wr l yX10_undo cX10_undo 1 (some Jvm.ClassFile.FieldType.int) ({ frames := 0, cells := 0, slots := 0, locals := 0 } : Room) ([.ref aM] : List Value) (some (.int (r.1))) D cy H0 [(aM, .inr (10, [.int m_thrown, .ref aM_told, .ref aM_draft, .long m_shut, .long m_dots, .long m_draftShut, .long m_draftDots, .int m_undos, .ref aM_past, .ref aM_kept, .ref aM_isKept, .int m_base, .int m_slopeX, .int m_slopeY, .int m_seen, .ref aM_seenLine, .ref aM_seenIs, .ref aM_rank, .ref aM_stage, .int m_letters, .ref aM_text, .int m_next, .int m_begin, .int m_token, .int m_gain, .int m_bestDot, .int m_bestCell])), (aM_past, .inl (cy.2.1, 10, .inr (.inl m_past)))] [(aM, .inr (10, [.int (r.2.1), .ref aM_told, .ref aM_draft, .long m_shut, .long (r.2.2.1), .long m_draftShut, .long m_draftDots, .int (r.2.2.2), .ref aM_past, .ref aM_kept, .ref aM_isKept, .int m_base, .int m_slopeX, .int m_slopeY, .int m_seen, .ref aM_seenLine, .ref aM_seenIs, .ref aM_rank, .ref aM_stage, .int m_letters, .ref aM_text, .int m_next, .int m_begin, .int m_token, .int m_gain, .int m_bestDot, .int m_bestCell])), (aM_past, .inl (cy.2.1, 10, .inr (.inl m_past)))] := by
  refine wr_of (by decide +kernel) (Nat.le_of_ble_eq_true rfl) hD0 ?_
  intro p e s m below meth c ls A S hr hlocks hk hl hD hS hA
  obtain ⟨hx, hb, hml, hown, hts⟩ := id S
  have hl : lv_has ls 1 [(0, .ref aM)] := hl
  rw [f_X10_undo] at hf
  refine lv_aload_n hx hb dX10_undo_0 rfl (lv_at hl 0 rfl) ?_
  refine lv_iconst (v := (0 : Int32)) hx hb dX10_undo_1 (by decide) ?_
  refine va_put (D := D) (ci := 10) (v := .int (0 : Int32)) (ty := .int) (C := RX10) (T := TX10) (N := 27) hx hb hts iX10 tyX10 tyX10_ok nmX10 hown hk.1 hP hD hS 0 rfl rfl 0 (by decide) (hts _ tw_783) (fun _ h9 => h9) rfl (by decide +kernel) rfl rfl (Nat.le_of_ble_eq_true rfl) dX10_undo_2 (fun H locs hP hD hS => ?_)
  have hP : va_P D vwCl [(aM, .inr (10, [.int (0 : Int32), .ref aM_told, .ref aM_draft, .long m_shut, .long m_dots, .long m_draftShut, .long m_draftDots, .int m_undos, .ref aM_past, .ref aM_kept, .ref aM_isKept, .int m_base, .int m_slopeX, .int m_slopeY, .int m_seen, .ref aM_seenLine, .ref aM_seenIs, .ref aM_rank, .ref aM_stage, .int m_letters, .ref aM_text, .int m_next, .int m_begin, .int m_token, .int m_gain, .int m_bestDot, .int m_bestCell])), (aM_past, .inl (cy.2.1, 10, .inr (.inl m_past)))] H := hP
  have hD : va_D A [(aM, .inr (10, [.int (0 : Int32), .ref aM_told, .ref aM_draft, .long m_shut, .long m_dots, .long m_draftShut, .long m_draftDots, .int m_undos, .ref aM_past, .ref aM_kept, .ref aM_isKept, .int m_base, .int m_slopeX, .int m_slopeY, .int m_seen, .ref aM_seenLine, .ref aM_seenIs, .ref aM_rank, .ref aM_stage, .int m_letters, .ref aM_text, .int m_next, .int m_begin, .int m_token, .int m_gain, .int m_bestDot, .int m_bestCell])), (aM_past, .inl (cy.2.1, 10, .inr (.inl m_past)))] := hD
  refine lv_aload_n hx hb dX10_undo_5 rfl (lv_at hl 0 rfl) ?_
  refine va_get (D := D) (ci := 10) (v := .int m_undos) (C := RX10) (T := TX10) (N := 27) hx hb hts iX10 hown hk.1 hP 0 rfl rfl 7 (by decide) (hts _ tw_790) (fun _ h9 => h9) rfl dX10_undo_6 ?_
  refine lv_if_ne (tgt := 15) hx hb dX10_undo_9 (by decide) (fun hc => ?_) (fun hc => ?_)
  · have hf := q_f hc hf
    refine lv_aload_n hx hb dX10_undo_15 rfl (lv_at hl 0 rfl) ?_
    refine lv_dup hx hb dX10_undo_16 rfl ?_
    refine va_get (D := D) (ci := 10) (v := .int m_undos) (C := RX10) (T := TX10) (N := 27) hx hb hts iX10 hown hk.1 hP 0 rfl rfl 7 (by decide) (hts _ tw_790) (fun _ h9 => h9) rfl dX10_undo_17 ?_
    refine lv_iconst (v := (1 : Int32)) hx hb dX10_undo_20 (by decide) ?_
    refine lv_isub hx hb dX10_undo_21 ?_
    refine va_put (D := D) (ci := 10) (v := .int (m_undos - (1 : Int32))) (ty := .int) (C := RX10) (T := TX10) (N := 27) hx hb hts iX10 tyX10 tyX10_ok nmX10 hown hk.1 hP hD hS 0 rfl rfl 7 (by decide) (hts _ tw_790) (fun _ h9 => h9) rfl (by decide +kernel) rfl rfl (Nat.le_of_ble_eq_true rfl) dX10_undo_22 (fun H locs hP hD hS => ?_)
    have hP : va_P D vwCl [(aM, .inr (10, [.int (0 : Int32), .ref aM_told, .ref aM_draft, .long m_shut, .long m_dots, .long m_draftShut, .long m_draftDots, .int (m_undos - (1 : Int32)), .ref aM_past, .ref aM_kept, .ref aM_isKept, .int m_base, .int m_slopeX, .int m_slopeY, .int m_seen, .ref aM_seenLine, .ref aM_seenIs, .ref aM_rank, .ref aM_stage, .int m_letters, .ref aM_text, .int m_next, .int m_begin, .int m_token, .int m_gain, .int m_bestDot, .int m_bestCell])), (aM_past, .inl (cy.2.1, 10, .inr (.inl m_past)))] H := hP
    have hD : va_D A [(aM, .inr (10, [.int (0 : Int32), .ref aM_told, .ref aM_draft, .long m_shut, .long m_dots, .long m_draftShut, .long m_draftDots, .int (m_undos - (1 : Int32)), .ref aM_past, .ref aM_kept, .ref aM_isKept, .int m_base, .int m_slopeX, .int m_slopeY, .int m_seen, .ref aM_seenLine, .ref aM_seenIs, .ref aM_rank, .ref aM_stage, .int m_letters, .ref aM_text, .int m_next, .int m_begin, .int m_token, .int m_gain, .int m_bestDot, .int m_bestCell])), (aM_past, .inl (cy.2.1, 10, .inr (.inl m_past)))] := hD
    refine lv_aload_n hx hb dX10_undo_25 rfl (lv_at hl 0 rfl) ?_
    refine lv_aload_n hx hb dX10_undo_26 rfl (lv_at hl 0 rfl) ?_
    refine va_get (D := D) (ci := 10) (v := .ref aM_past) (C := RX10) (T := TX10) (N := 27) hx hb hts iX10 hown hk.1 hP 0 rfl rfl 8 (by decide) (hts _ tw_791) (fun _ h9 => h9) rfl dX10_undo_27 ?_
    refine lv_aload_n hx hb dX10_undo_30 rfl (lv_at hl 0 rfl) ?_
    refine va_get (D := D) (ci := 10) (v := .int (m_undos - (1 : Int32))) (C := RX10) (T := TX10) (N := 27) hx hb hts iX10 hown hk.1 hP 0 rfl rfl 7 (by decide) (hts _ tw_790) (fun _ h9 => h9) rfl dX10_undo_31 ?_
    obtain ⟨hi, hf⟩ := q_in hf
    refine va_lald hx hb hk.1 hP 1 1 rfl rfl hi dX10_undo_34 ?_
    refine va_put (D := D) (ci := 10) (v := .long (m_past (m_undos - (1 : Int32)).toNatClampNeg)) (ty := .long) (C := RX10) (T := TX10) (N := 27) hx hb hts iX10 tyX10 tyX10_ok nmX10 hown hk.1 hP hD hS 0 rfl rfl 4 (by decide) (hts _ tw_787) (fun _ h9 => h9) rfl (by decide +kernel) rfl rfl (Nat.le_of_ble_eq_true rfl) dX10_undo_35 (fun H locs hP hD hS => ?_)
    have hP : va_P D vwCl [(aM, .inr (10, [.int (0 : Int32), .ref aM_told, .ref aM_draft, .long m_shut, .long (m_past (m_undos - (1 : Int32)).toNatClampNeg), .long m_draftShut, .long m_draftDots, .int (m_undos - (1 : Int32)), .ref aM_past, .ref aM_kept, .ref aM_isKept, .int m_base, .int m_slopeX, .int m_slopeY, .int m_seen, .ref aM_seenLine, .ref aM_seenIs, .ref aM_rank, .ref aM_stage, .int m_letters, .ref aM_text, .int m_next, .int m_begin, .int m_token, .int m_gain, .int m_bestDot, .int m_bestCell])), (aM_past, .inl (cy.2.1, 10, .inr (.inl m_past)))] H := hP
    have hD : va_D A [(aM, .inr (10, [.int (0 : Int32), .ref aM_told, .ref aM_draft, .long m_shut, .long (m_past (m_undos - (1 : Int32)).toNatClampNeg), .long m_draftShut, .long m_draftDots, .int (m_undos - (1 : Int32)), .ref aM_past, .ref aM_kept, .ref aM_isKept, .int m_base, .int m_slopeX, .int m_slopeY, .int m_seen, .ref aM_seenLine, .ref aM_seenIs, .ref aM_rank, .ref aM_stage, .int m_letters, .ref aM_text, .int m_next, .int m_begin, .int m_token, .int m_gain, .int m_bestDot, .int m_bestCell])), (aM_past, .inl (cy.2.1, 10, .inr (.inl m_past)))] := hD
    refine lv_aload_n hx hb dX10_undo_38 rfl (lv_at hl 0 rfl) ?_
    refine va_get (D := D) (ci := 10) (v := .int (m_undos - (1 : Int32))) (C := RX10) (T := TX10) (N := 27) hx hb hts iX10 hown hk.1 hP 0 rfl rfl 7 (by decide) (hts _ tw_790) (fun _ h9 => h9) rfl dX10_undo_39 ?_
    have hf := Option.some.inj hf
    subst hf
    exact q_riW hP hS hx hb hr hlocks dX10_undo_42
  · have hf := q_t hc hf
    refine lv_bipush (v := (-2 : Int32)) hx hb dX10_undo_12 (by decide) ?_
    have hf := Option.some.inj hf
    subst hf
    exact q_riW hP hS hx hb hr hlocks dX10_undo_14
def f_X10_held (m_thrown : Int32) (m_dots : Int64) (m_told : Nat → Int32) (x1 : Int32) (x2 : Int32) : Option (Int32 × Int32) := (f_X10_isPlace m_told x1 x2).bind (fun z8 => if z8 = 0 then (some ((-1 : Int32), (0 : Int32))) else ((f_X10_at m_told x1 x2).bind (fun z22 => (f_X10_heldBy m_told m_dots z22).bind (fun z25 => some (z25, (0 : Int32))))))
theorem ok_X10_held : OkV yX10_held cX10_held 3 (some Jvm.ClassFile.FieldType.int) 2 := ⟨⟨tw_1001, tw_13, by decide +kernel, by decide +kernel, by decide +kernel⟩, tw_999, tw_1000⟩
set_option maxHeartbeats 4000000 in
set_option maxRecDepth 100000 in
theorem c_X10_held (l : Launch) (D : va_G) (cy : ClassId × ClassId × ClassId) (H0 : Heap) (aM aM_told aM_draft aM_past aM_kept aM_isKept aM_seenLine aM_seenIs aM_rank aM_stage aM_text : Nat) (m_thrown : Int32) (m_shut : Int64) (m_dots : Int64) (m_draftShut : Int64) (m_draftDots : Int64) (m_undos : Int32) (m_base : Int32) (m_slopeX : Int32) (m_slopeY : Int32) (m_seen : Int32) (m_letters : Int32) (m_next : Int32) (m_begin : Int32) (m_token : Int32) (m_gain : Int32) (m_bestDot : Int32) (m_bestCell : Int32) (m_told : Nat → Int32) (x1 : Int32) (x2 : Int32) (r : Int32 × Int32) (hP : va_P D vwCl [(aM, .inr (10, [.int m_thrown, .ref aM_told, .ref aM_draft, .long m_shut, .long m_dots, .long m_draftShut, .long m_draftDots, .int m_undos, .ref aM_past, .ref aM_kept, .ref aM_isKept, .int m_base, .int m_slopeX, .int m_slopeY, .int m_seen, .ref aM_seenLine, .ref aM_seenIs, .ref aM_rank, .ref aM_stage, .int m_letters, .ref aM_text, .int m_next, .int m_begin, .int m_token, .int m_gain, .int m_bestDot, .int m_bestCell])), (aM_told, .inl (cy.1, 7, .inl m_told))] H0) (hD0 : va_D (fun _ => True) [(aM, .inr (10, [.int m_thrown, .ref aM_told, .ref aM_draft, .long m_shut, .long m_dots, .long m_draftShut, .long m_draftDots, .int m_undos, .ref aM_past, .ref aM_kept, .ref aM_isKept, .int m_base, .int m_slopeX, .int m_slopeY, .int m_seen, .ref aM_seenLine, .ref aM_seenIs, .ref aM_rank, .ref aM_stage, .int m_letters, .ref aM_text, .int m_next, .int m_begin, .int m_token, .int m_gain, .int m_bestDot, .int m_bestCell])), (aM_told, .inl (cy.1, 7, .inl m_told))]) (hf : f_X10_held m_thrown m_dots m_told x1 x2 = some r) : Wr l yX10_held cX10_held 3 (some Jvm.ClassFile.FieldType.int) ({ frames := 3, cells := 0, slots := 0, locals := 73 } : Room) ([.ref aM, .int x1, .int x2] : List Value) (some (.int (r.1))) D cy H0 [(aM, .inr (10, [.int m_thrown, .ref aM_told, .ref aM_draft, .long m_shut, .long m_dots, .long m_draftShut, .long m_draftDots, .int m_undos, .ref aM_past, .ref aM_kept, .ref aM_isKept, .int m_base, .int m_slopeX, .int m_slopeY, .int m_seen, .ref aM_seenLine, .ref aM_seenIs, .ref aM_rank, .ref aM_stage, .int m_letters, .ref aM_text, .int m_next, .int m_begin, .int m_token, .int m_gain, .int m_bestDot, .int m_bestCell])), (aM_told, .inl (cy.1, 7, .inl m_told))] [(aM, .inr (10, [.int (r.2), .ref aM_told, .ref aM_draft, .long m_shut, .long m_dots, .long m_draftShut, .long m_draftDots, .int m_undos, .ref aM_past, .ref aM_kept, .ref aM_isKept, .int m_base, .int m_slopeX, .int m_slopeY, .int m_seen, .ref aM_seenLine, .ref aM_seenIs, .ref aM_rank, .ref aM_stage, .int m_letters, .ref aM_text, .int m_next, .int m_begin, .int m_token, .int m_gain, .int m_bestDot, .int m_bestCell])), (aM_told, .inl (cy.1, 7, .inl m_told))] := by
  refine wr_of (by decide +kernel) (Nat.le_of_ble_eq_true rfl) hD0 ?_
  intro p e s m below meth c ls A S hr hlocks hk hl hD hS hA
  obtain ⟨hx, hb, hml, hown, hts⟩ := id S
  have hl : lv_has ls 3 [(0, .ref aM), (1, .int x1), (2, .int x2)] := hl
  rw [f_X10_held] at hf
  refine lv_aload_n hx hb dX10_held_0 rfl (lv_at hl 0 rfl) ?_
  refine lv_iconst (v := (0 : Int32)) hx hb dX10_held_1 (by decide) ?_
  refine va_put (D := D) (ci := 10) (v := .int (0 : Int32)) (ty := .int) (C := RX10) (T := TX10) (N := 27) hx hb hts iX10 tyX10 tyX10_ok nmX10 hown hk.1 hP hD hS 0 rfl rfl 0 (by decide) (hts _ tw_783) (fun _ h9 => h9) rfl (by decide +kernel) rfl rfl (Nat.le_of_ble_eq_true rfl) dX10_held_2 (fun H locs hP hD hS => ?_)
  have hP : va_P D vwCl [(aM, .inr (10, [.int (0 : Int32), .ref aM_told, .ref aM_draft, .long m_shut, .long m_dots, .long m_draftShut, .long m_draftDots, .int m_undos, .ref aM_past, .ref aM_kept, .ref aM_isKept, .int m_base, .int m_slopeX, .int m_slopeY, .int m_seen, .ref aM_seenLine, .ref aM_seenIs, .ref aM_rank, .ref aM_stage, .int m_letters, .ref aM_text, .int m_next, .int m_begin, .int m_token, .int m_gain, .int m_bestDot, .int m_bestCell])), (aM_told, .inl (cy.1, 7, .inl m_told))] H := hP
  have hD : va_D A [(aM, .inr (10, [.int (0 : Int32), .ref aM_told, .ref aM_draft, .long m_shut, .long m_dots, .long m_draftShut, .long m_draftDots, .int m_undos, .ref aM_past, .ref aM_kept, .ref aM_isKept, .int m_base, .int m_slopeX, .int m_slopeY, .int m_seen, .ref aM_seenLine, .ref aM_seenIs, .ref aM_rank, .ref aM_stage, .int m_letters, .ref aM_text, .int m_next, .int m_begin, .int m_token, .int m_gain, .int m_bestDot, .int m_bestCell])), (aM_told, .inl (cy.1, 7, .inl m_told))] := hD
  refine lv_aload_n hx hb dX10_held_5 rfl (lv_at hl 0 rfl) ?_
  refine lv_iload_n hx hb dX10_held_6 rfl (lv_at hl 1 rfl) ?_
  refine lv_iload_n hx hb dX10_held_7 rfl (lv_at hl 2 rfl) ?_
  obtain ⟨z8, hz8, hf⟩ := q_bind hf
  refine q_rdV (As := [.int x1, .int x2]) (rest := []) (st2 := [.int z8]) S hk (c_X10_isPlace l D cy H aM aM_told aM_draft aM_past aM_kept aM_isKept aM_seenLine aM_seenIs aM_rank aM_stage aM_text (0 : Int32) m_shut m_dots m_draftShut m_draftDots m_undos m_base m_slopeX m_slopeY m_seen m_letters m_next m_begin m_token m_gain m_bestDot m_bestCell m_told x1 x2 z8 (hP.sub [0, 1] rfl) hz8) ok_X10_isPlace tw_915 ⟨rfl, rfl, Nat.le_of_ble_eq_true rfl, Nat.le_of_ble_eq_true rfl⟩ (va_recv hk.1 hP (ci := 10) (q0 := 0) rfl rfl) rfl hl.1 rfl (Nat.le_of_ble_eq_true rfl) dX10_held_8 ⟨Nat.zero_le _, Nat.zero_le _⟩ rfl ?_
  refine lv_if_eq (tgt := 31) hx hb dX10_held_11 (by decide) (fun hc => ?_) (fun hc => ?_)
  · have hf := q_t hc hf
    refine lv_iconst (v := (-1 : Int32)) hx hb dX10_held_31 (by decide) ?_
    have hf := Option.some.inj hf
    subst hf
    exact q_riW hP hS hx hb hr hlocks dX10_held_32
  · have hf := q_f hc hf
    refine lv_aload_n hx hb dX10_held_14 rfl (lv_at hl 0 rfl) ?_
    refine lv_aload_n hx hb dX10_held_15 rfl (lv_at hl 0 rfl) ?_
    refine va_get (D := D) (ci := 10) (v := .long m_dots) (C := RX10) (T := TX10) (N := 27) hx hb hts iX10 hown hk.1 hP 0 rfl rfl 4 (by decide) (hts _ tw_787) (fun _ h9 => h9) rfl dX10_held_16 ?_
    refine lv_aload_n hx hb dX10_held_19 rfl (lv_at hl 0 rfl) ?_
    refine lv_iload_n hx hb dX10_held_20 rfl (lv_at hl 1 rfl) ?_
    refine lv_iload_n hx hb dX10_held_21 rfl (lv_at hl 2 rfl) ?_
    obtain ⟨z22, hz22, hf⟩ := q_bind hf
    refine q_rdV (As := [.int x1, .int x2]) (rest := [.long m_dots, .ref aM]) (st2 := [.int z22, .long m_dots, .ref aM]) S hk (c_X10_at l D cy H aM aM_told aM_draft aM_past aM_kept aM_isKept aM_seenLine aM_seenIs aM_rank aM_stage aM_text (0 : Int32) m_shut m_dots m_draftShut m_draftDots m_undos m_base m_slopeX m_slopeY m_seen m_letters m_next m_begin m_token m_gain m_bestDot m_bestCell m_told x1 x2 z22 (hP.sub [0, 1] rfl) hz22) ok_X10_at tw_919 ⟨rfl, rfl, Nat.le_of_ble_eq_true rfl, Nat.le_of_ble_eq_true rfl⟩ (va_recv hk.1 hP (ci := 10) (q0 := 0) rfl rfl) rfl hl.1 rfl (Nat.le_of_ble_eq_true rfl) dX10_held_22 ⟨Nat.zero_le _, Nat.zero_le _⟩ rfl ?_
    obtain ⟨z25, hz25, hf⟩ := q_bind hf
    refine q_rdV (As := [.long m_dots, .int z22]) (rest := []) (st2 := [.int z25]) S hk (c_X10_heldBy l D cy H aM aM_told aM_draft aM_past aM_kept aM_isKept aM_seenLine aM_seenIs aM_rank aM_stage aM_text (0 : Int32) m_shut m_dots m_draftShut m_draftDots m_undos m_base m_slopeX m_slopeY m_seen m_letters m_next m_begin m_token m_gain m_bestDot m_bestCell m_told m_dots z22 z25 (hP.sub [0, 1] rfl) hz25) ok_X10_heldBy tw_966 ⟨rfl, rfl, Nat.le_of_ble_eq_true rfl, Nat.le_of_ble_eq_true rfl⟩ (va_recv hk.1 hP (ci := 10) (q0 := 0) rfl rfl) rfl hl.1 rfl (Nat.le_of_ble_eq_true rfl) dX10_held_25 ⟨Nat.zero_le _, Nat.zero_le _⟩ rfl ?_
    refine lv_goto (tgt := 32) hx hb dX10_held_28 (by decide) ?_
    have hf := Option.some.inj hf
    subst hf
    exact q_riW hP hS hx hb hr hlocks dX10_held_32
def f_X10_extreme (m_thrown : Int32) (m_shut : Int64) (m_dots : Int64) (m_told : Nat → Int32) (x1 : Int32) : Option (Int32 × Int32) := (f_X10_in x1 (0 : Int32) (1 : Int32)).bind (fun z8 => if z8 = 0 then (some ((-1 : Int32), (0 : Int32))) else (if x1 = 0 then ((f_X10_tightest m_told m_dots).bind (fun z27 => some (z27, (0 : Int32)))) else ((f_X10_emptiest m_shut m_told m_dots).bind (fun z38 => some (z38, (0 : Int32))))))
theorem ok_X10_extreme : OkV yX10_extreme cX10_extreme 2 (some Jvm.ClassFile.FieldType.int) 1 := ⟨⟨tw_1005, tw_13, by decide +kernel, by decide +kernel, by decide +kernel⟩, tw_1003, tw_1004⟩
set_option maxHeartbeats 4000000 in
set_option maxRecDepth 100000 in
theorem c_X10_extreme (l : Launch) (D : va_G) (cy : ClassId × ClassId × ClassId) (H0 : Heap) (aM aM_told aM_draft aM_past aM_kept aM_isKept aM_seenLine aM_seenIs aM_rank aM_stage aM_text : Nat) (m_thrown : Int32) (m_shut : Int64) (m_dots : Int64) (m_draftShut : Int64) (m_draftDots : Int64) (m_undos : Int32) (m_base : Int32) (m_slopeX : Int32) (m_slopeY : Int32) (m_seen : Int32) (m_letters : Int32) (m_next : Int32) (m_begin : Int32) (m_token : Int32) (m_gain : Int32) (m_bestDot : Int32) (m_bestCell : Int32) (m_told : Nat → Int32) (x1 : Int32) (r : Int32 × Int32) (hP : va_P D vwCl [(aM, .inr (10, [.int m_thrown, .ref aM_told, .ref aM_draft, .long m_shut, .long m_dots, .long m_draftShut, .long m_draftDots, .int m_undos, .ref aM_past, .ref aM_kept, .ref aM_isKept, .int m_base, .int m_slopeX, .int m_slopeY, .int m_seen, .ref aM_seenLine, .ref aM_seenIs, .ref aM_rank, .ref aM_stage, .int m_letters, .ref aM_text, .int m_next, .int m_begin, .int m_token, .int m_gain, .int m_bestDot, .int m_bestCell])), (aM_told, .inl (cy.1, 7, .inl m_told))] H0) (hD0 : va_D (fun _ => True) [(aM, .inr (10, [.int m_thrown, .ref aM_told, .ref aM_draft, .long m_shut, .long m_dots, .long m_draftShut, .long m_draftDots, .int m_undos, .ref aM_past, .ref aM_kept, .ref aM_isKept, .int m_base, .int m_slopeX, .int m_slopeY, .int m_seen, .ref aM_seenLine, .ref aM_seenIs, .ref aM_rank, .ref aM_stage, .int m_letters, .ref aM_text, .int m_next, .int m_begin, .int m_token, .int m_gain, .int m_bestDot, .int m_bestCell])), (aM_told, .inl (cy.1, 7, .inl m_told))]) (hf : f_X10_extreme m_thrown m_shut m_dots m_told x1 = some r) : Wr l yX10_extreme cX10_extreme 2 (some Jvm.ClassFile.FieldType.int) ({ frames := 5, cells := 0, slots := 0, locals := 125 } : Room) ([.ref aM, .int x1] : List Value) (some (.int (r.1))) D cy H0 [(aM, .inr (10, [.int m_thrown, .ref aM_told, .ref aM_draft, .long m_shut, .long m_dots, .long m_draftShut, .long m_draftDots, .int m_undos, .ref aM_past, .ref aM_kept, .ref aM_isKept, .int m_base, .int m_slopeX, .int m_slopeY, .int m_seen, .ref aM_seenLine, .ref aM_seenIs, .ref aM_rank, .ref aM_stage, .int m_letters, .ref aM_text, .int m_next, .int m_begin, .int m_token, .int m_gain, .int m_bestDot, .int m_bestCell])), (aM_told, .inl (cy.1, 7, .inl m_told))] [(aM, .inr (10, [.int (r.2), .ref aM_told, .ref aM_draft, .long m_shut, .long m_dots, .long m_draftShut, .long m_draftDots, .int m_undos, .ref aM_past, .ref aM_kept, .ref aM_isKept, .int m_base, .int m_slopeX, .int m_slopeY, .int m_seen, .ref aM_seenLine, .ref aM_seenIs, .ref aM_rank, .ref aM_stage, .int m_letters, .ref aM_text, .int m_next, .int m_begin, .int m_token, .int m_gain, .int m_bestDot, .int m_bestCell])), (aM_told, .inl (cy.1, 7, .inl m_told))] := by
  refine wr_of (by decide +kernel) (Nat.le_of_ble_eq_true rfl) hD0 ?_
  intro p e s m below meth c ls A S hr hlocks hk hl hD hS hA
  obtain ⟨hx, hb, hml, hown, hts⟩ := id S
  have hl : lv_has ls 2 [(0, .ref aM), (1, .int x1)] := hl
  rw [f_X10_extreme] at hf
  refine lv_aload_n hx hb dX10_extreme_0 rfl (lv_at hl 0 rfl) ?_
  refine lv_iconst (v := (0 : Int32)) hx hb dX10_extreme_1 (by decide) ?_
  refine va_put (D := D) (ci := 10) (v := .int (0 : Int32)) (ty := .int) (C := RX10) (T := TX10) (N := 27) hx hb hts iX10 tyX10 tyX10_ok nmX10 hown hk.1 hP hD hS 0 rfl rfl 0 (by decide) (hts _ tw_783) (fun _ h9 => h9) rfl (by decide +kernel) rfl rfl (Nat.le_of_ble_eq_true rfl) dX10_extreme_2 (fun H locs hP hD hS => ?_)
  have hP : va_P D vwCl [(aM, .inr (10, [.int (0 : Int32), .ref aM_told, .ref aM_draft, .long m_shut, .long m_dots, .long m_draftShut, .long m_draftDots, .int m_undos, .ref aM_past, .ref aM_kept, .ref aM_isKept, .int m_base, .int m_slopeX, .int m_slopeY, .int m_seen, .ref aM_seenLine, .ref aM_seenIs, .ref aM_rank, .ref aM_stage, .int m_letters, .ref aM_text, .int m_next, .int m_begin, .int m_token, .int m_gain, .int m_bestDot, .int m_bestCell])), (aM_told, .inl (cy.1, 7, .inl m_told))] H := hP
  have hD : va_D A [(aM, .inr (10, [.int (0 : Int32), .ref aM_told, .ref aM_draft, .long m_shut, .long m_dots, .long m_draftShut, .long m_draftDots, .int m_undos, .ref aM_past, .ref aM_kept, .ref aM_isKept, .int m_base, .int m_slopeX, .int m_slopeY, .int m_seen, .ref aM_seenLine, .ref aM_seenIs, .ref aM_rank, .ref aM_stage, .int m_letters, .ref aM_text, .int m_next, .int m_begin, .int m_token, .int m_gain, .int m_bestDot, .int m_bestCell])), (aM_told, .inl (cy.1, 7, .inl m_told))] := hD
  refine lv_iload_n hx hb dX10_extreme_5 rfl (lv_at hl 1 rfl) ?_
  refine lv_iconst (v := (0 : Int32)) hx hb dX10_extreme_6 (by decide) ?_
  refine lv_iconst (v := (1 : Int32)) hx hb dX10_extreme_7 (by decide) ?_
  obtain ⟨z8, hz8, hf⟩ := q_bind hf
  refine q_rdS (As := [.int x1, .int (0 : Int32), .int (1 : Int32)]) (rest := []) (st2 := [.int z8]) S hk (c_X10_in l D cy H x1 (0 : Int32) (1 : Int32) z8 hz8) ok_X10_in tw_869 ⟨rfl, rfl, Nat.le_of_ble_eq_true rfl, Nat.le_of_ble_eq_true rfl⟩ rfl hl.1 rfl (Nat.le_of_ble_eq_true rfl) dX10_extreme_8 ⟨Nat.zero_le _, Nat.zero_le _⟩ rfl ?_
  refine lv_if_ne (tgt := 18) hx hb dX10_extreme_11 (by decide) (fun hc => ?_) (fun hc => ?_)
  · have hf := q_f hc hf
    refine lv_iload_n hx hb dX10_extreme_18 rfl (lv_at hl 1 rfl) ?_
    refine lv_if_ne (tgt := 33) hx hb dX10_extreme_19 (by decide) (fun hc => ?_) (fun hc => ?_)
    · have hf := q_f hc hf
      refine lv_aload_n hx hb dX10_extreme_33 rfl (lv_at hl 0 rfl) ?_
      refine lv_aload_n hx hb dX10_extreme_34 rfl (lv_at hl 0 rfl) ?_
      refine va_get (D := D) (ci := 10) (v := .long m_dots) (C := RX10) (T := TX10) (N := 27) hx hb hts iX10 hown hk.1 hP 0 rfl rfl 4 (by decide) (hts _ tw_787) (fun _ h9 => h9) rfl dX10_extreme_35 ?_
      obtain ⟨z38, hz38, hf⟩ := q_bind hf
      refine q_rdV (As := [.long m_dots]) (rest := []) (st2 := [.int z38]) S hk (c_X10_emptiest l D cy H aM aM_told aM_draft aM_past aM_kept aM_isKept aM_seenLine aM_seenIs aM_rank aM_stage aM_text (0 : Int32) m_shut m_dots m_draftShut m_draftDots m_undos m_base m_slopeX m_slopeY m_seen m_letters m_next m_begin m_token m_gain m_bestDot m_bestCell m_told m_dots z38 (hP.sub [0, 1] rfl) hz38) ok_X10_emptiest tw_971 ⟨rfl, rfl, Nat.le_of_ble_eq_true rfl, Nat.le_of_ble_eq_true rfl⟩ (va_recv hk.1 hP (ci := 10) (q0 := 0) rfl rfl) rfl hl.1 rfl (Nat.le_of_ble_eq_true rfl) dX10_extreme_38 ⟨Nat.zero_le _, Nat.zero_le _⟩ rfl ?_
      have hf := Option.some.inj hf
      subst hf
      exact q_riW hP hS hx hb hr hlocks dX10_extreme_41
    · have hf := q_t hc hf
      refine lv_aload_n hx hb dX10_extreme_22 rfl (lv_at hl 0 rfl) ?_
      refine lv_aload_n hx hb dX10_extreme_23 rfl (lv_at hl 0 rfl) ?_
      refine va_get (D := D) (ci := 10) (v := .long m_dots) (C := RX10) (T := TX10) (N := 27) hx hb hts iX10 hown hk.1 hP 0 rfl rfl 4 (by decide) (hts _ tw_787) (fun _ h9 => h9) rfl dX10_extreme_24 ?_
      obtain ⟨z27, hz27, hf⟩ := q_bind hf
      refine q_rdV (As := [.long m_dots]) (rest := []) (st2 := [.int z27]) S hk (c_X10_tightest l D cy H aM aM_told aM_draft aM_past aM_kept aM_isKept aM_seenLine aM_seenIs aM_rank aM_stage aM_text (0 : Int32) m_shut m_dots m_draftShut m_draftDots m_undos m_base m_slopeX m_slopeY m_seen m_letters m_next m_begin m_token m_gain m_bestDot m_bestCell m_told m_dots z27 (hP.sub [0, 1] rfl) hz27) ok_X10_tightest tw_958 ⟨rfl, rfl, Nat.le_of_ble_eq_true rfl, Nat.le_of_ble_eq_true rfl⟩ (va_recv hk.1 hP (ci := 10) (q0 := 0) rfl rfl) rfl hl.1 rfl (Nat.le_of_ble_eq_true rfl) dX10_extreme_27 ⟨Nat.zero_le _, Nat.zero_le _⟩ rfl ?_
      refine lv_goto (tgt := 41) hx hb dX10_extreme_30 (by decide) ?_
      have hf := Option.some.inj hf
      subst hf
      exact q_riW hP hS hx hb hr hlocks dX10_extreme_41
  · have hf := q_t hc hf
    refine lv_iconst (v := (-1 : Int32)) hx hb dX10_extreme_14 (by decide) ?_
    refine lv_goto (tgt := 41) hx hb dX10_extreme_15 (by decide) ?_
    have hf := Option.some.inj hf
    subst hf
    exact q_riW hP hS hx hb hr hlocks dX10_extreme_41
def f_X10_energy (m_thrown : Int32) (m_dots : Int64) (m_told : Nat → Int32) : Option (Int32 × Int32) := (f_X10_energyOf m_told m_dots).bind (fun z10 => some (z10, (0 : Int32)))
theorem ok_X10_energy : OkV yX10_energy cX10_energy 1 (some Jvm.ClassFile.FieldType.int) 0 := ⟨⟨tw_1009, tw_13, by decide +kernel, by decide +kernel, by decide +kernel⟩, tw_1007, tw_1008⟩
set_option maxHeartbeats 4000000 in
set_option maxRecDepth 100000 in
theorem c_X10_energy (l : Launch) (D : va_G) (cy : ClassId × ClassId × ClassId) (H0 : Heap) (aM aM_told aM_draft aM_past aM_kept aM_isKept aM_seenLine aM_seenIs aM_rank aM_stage aM_text : Nat) (m_thrown : Int32) (m_shut : Int64) (m_dots : Int64) (m_draftShut : Int64) (m_draftDots : Int64) (m_undos : Int32) (m_base : Int32) (m_slopeX : Int32) (m_slopeY : Int32) (m_seen : Int32) (m_letters : Int32) (m_next : Int32) (m_begin : Int32) (m_token : Int32) (m_gain : Int32) (m_bestDot : Int32) (m_bestCell : Int32) (m_told : Nat → Int32) (r : Int32 × Int32) (hP : va_P D vwCl [(aM, .inr (10, [.int m_thrown, .ref aM_told, .ref aM_draft, .long m_shut, .long m_dots, .long m_draftShut, .long m_draftDots, .int m_undos, .ref aM_past, .ref aM_kept, .ref aM_isKept, .int m_base, .int m_slopeX, .int m_slopeY, .int m_seen, .ref aM_seenLine, .ref aM_seenIs, .ref aM_rank, .ref aM_stage, .int m_letters, .ref aM_text, .int m_next, .int m_begin, .int m_token, .int m_gain, .int m_bestDot, .int m_bestCell])), (aM_told, .inl (cy.1, 7, .inl m_told))] H0) (hD0 : va_D (fun _ => True) [(aM, .inr (10, [.int m_thrown, .ref aM_told, .ref aM_draft, .long m_shut, .long m_dots, .long m_draftShut, .long m_draftDots, .int m_undos, .ref aM_past, .ref aM_kept, .ref aM_isKept, .int m_base, .int m_slopeX, .int m_slopeY, .int m_seen, .ref aM_seenLine, .ref aM_seenIs, .ref aM_rank, .ref aM_stage, .int m_letters, .ref aM_text, .int m_next, .int m_begin, .int m_token, .int m_gain, .int m_bestDot, .int m_bestCell])), (aM_told, .inl (cy.1, 7, .inl m_told))]) (hf : f_X10_energy m_thrown m_dots m_told = some r) : Wr l yX10_energy cX10_energy 1 (some Jvm.ClassFile.FieldType.int) ({ frames := 3, cells := 0, slots := 0, locals := 73 } : Room) ([.ref aM] : List Value) (some (.int (r.1))) D cy H0 [(aM, .inr (10, [.int m_thrown, .ref aM_told, .ref aM_draft, .long m_shut, .long m_dots, .long m_draftShut, .long m_draftDots, .int m_undos, .ref aM_past, .ref aM_kept, .ref aM_isKept, .int m_base, .int m_slopeX, .int m_slopeY, .int m_seen, .ref aM_seenLine, .ref aM_seenIs, .ref aM_rank, .ref aM_stage, .int m_letters, .ref aM_text, .int m_next, .int m_begin, .int m_token, .int m_gain, .int m_bestDot, .int m_bestCell])), (aM_told, .inl (cy.1, 7, .inl m_told))] [(aM, .inr (10, [.int (r.2), .ref aM_told, .ref aM_draft, .long m_shut, .long m_dots, .long m_draftShut, .long m_draftDots, .int m_undos, .ref aM_past, .ref aM_kept, .ref aM_isKept, .int m_base, .int m_slopeX, .int m_slopeY, .int m_seen, .ref aM_seenLine, .ref aM_seenIs, .ref aM_rank, .ref aM_stage, .int m_letters, .ref aM_text, .int m_next, .int m_begin, .int m_token, .int m_gain, .int m_bestDot, .int m_bestCell])), (aM_told, .inl (cy.1, 7, .inl m_told))] := by
  refine wr_of (by decide +kernel) (Nat.le_of_ble_eq_true rfl) hD0 ?_
  intro p e s m below meth c ls A S hr hlocks hk hl hD hS hA
  obtain ⟨hx, hb, hml, hown, hts⟩ := id S
  have hl : lv_has ls 1 [(0, .ref aM)] := hl
  rw [f_X10_energy] at hf
  refine lv_aload_n hx hb dX10_energy_0 rfl (lv_at hl 0 rfl) ?_
  refine lv_iconst (v := (0 : Int32)) hx hb dX10_energy_1 (by decide) ?_
  refine va_put (D := D) (ci := 10) (v := .int (0 : Int32)) (ty := .int) (C := RX10) (T := TX10) (N := 27) hx hb hts iX10 tyX10 tyX10_ok nmX10 hown hk.1 hP hD hS 0 rfl rfl 0 (by decide) (hts _ tw_783) (fun _ h9 => h9) rfl (by decide +kernel) rfl rfl (Nat.le_of_ble_eq_true rfl) dX10_energy_2 (fun H locs hP hD hS => ?_)
  have hP : va_P D vwCl [(aM, .inr (10, [.int (0 : Int32), .ref aM_told, .ref aM_draft, .long m_shut, .long m_dots, .long m_draftShut, .long m_draftDots, .int m_undos, .ref aM_past, .ref aM_kept, .ref aM_isKept, .int m_base, .int m_slopeX, .int m_slopeY, .int m_seen, .ref aM_seenLine, .ref aM_seenIs, .ref aM_rank, .ref aM_stage, .int m_letters, .ref aM_text, .int m_next, .int m_begin, .int m_token, .int m_gain, .int m_bestDot, .int m_bestCell])), (aM_told, .inl (cy.1, 7, .inl m_told))] H := hP
  have hD : va_D A [(aM, .inr (10, [.int (0 : Int32), .ref aM_told, .ref aM_draft, .long m_shut, .long m_dots, .long m_draftShut, .long m_draftDots, .int m_undos, .ref aM_past, .ref aM_kept, .ref aM_isKept, .int m_base, .int m_slopeX, .int m_slopeY, .int m_seen, .ref aM_seenLine, .ref aM_seenIs, .ref aM_rank, .ref aM_stage, .int m_letters, .ref aM_text, .int m_next, .int m_begin, .int m_token, .int m_gain, .int m_bestDot, .int m_bestCell])), (aM_told, .inl (cy.1, 7, .inl m_told))] := hD
  refine lv_aload_n hx hb dX10_energy_5 rfl (lv_at hl 0 rfl) ?_
  refine lv_aload_n hx hb dX10_energy_6 rfl (lv_at hl 0 rfl) ?_
  refine va_get (D := D) (ci := 10) (v := .long m_dots) (C := RX10) (T := TX10) (N := 27) hx hb hts iX10 hown hk.1 hP 0 rfl rfl 4 (by decide) (hts _ tw_787) (fun _ h9 => h9) rfl dX10_energy_7 ?_
  obtain ⟨z10, hz10, hf⟩ := q_bind hf
  refine q_rdV (As := [.long m_dots]) (rest := []) (st2 := [.int z10]) S hk (c_X10_energyOf l D cy H aM aM_told aM_draft aM_past aM_kept aM_isKept aM_seenLine aM_seenIs aM_rank aM_stage aM_text (0 : Int32) m_shut m_dots m_draftShut m_draftDots m_undos m_base m_slopeX m_slopeY m_seen m_letters m_next m_begin m_token m_gain m_bestDot m_bestCell m_told m_dots z10 (hP.sub [0, 1] rfl) hz10) ok_X10_energyOf tw_987 ⟨rfl, rfl, Nat.le_of_ble_eq_true rfl, Nat.le_of_ble_eq_true rfl⟩ (va_recv hk.1 hP (ci := 10) (q0 := 0) rfl rfl) rfl hl.1 rfl (Nat.le_of_ble_eq_true rfl) dX10_energy_10 ⟨Nat.zero_le _, Nat.zero_le _⟩ rfl ?_
  have hf := Option.some.inj hf
  subst hf
  exact q_riW hP hS hx hb hr hlocks dX10_energy_13
def j_X10_tries_171 (k43 : Int32 → Int64 → Int32 → Int32 → Int32 → Int32 → Option (Int32 × Int32 × Int32)) (x1 : Int32) (x2 : Int64) (x4 : Int32) (k1 : Int32) (m_gain : Int32) (m_bestDot : Int32) (m_bestCell : Int32) : Option (Int32 × Int32 × Int32) := k43 x1 x2 (x4 + 1) m_gain m_bestDot k1
def j_X10_tries_153 (k43 : Int32 → Int64 → Int32 → Int32 → Int32 → Int32 → Option (Int32 × Int32 × Int32)) (x1 : Int32) (x2 : Int64) (x4 : Int32) (x6 : Int32) (k1 : Int32) (m_gain : Int32) (m_bestDot : Int32) (m_bestCell : Int32) : Option (Int32 × Int32 × Int32) := if x6 = 0 then (j_X10_tries_171 k43 x1 x2 x4 m_bestCell m_gain k1 m_bestCell) else (j_X10_tries_171 k43 x1 x2 x4 x4 m_gain k1 m_bestCell)
def j_X10_tries_136 (k43 : Int32 → Int64 → Int32 → Int32 → Int32 → Int32 → Option (Int32 × Int32 × Int32)) (x1 : Int32) (x2 : Int64) (x4 : Int32) (x6 : Int32) (k1 : Int32) (m_gain : Int32) (m_bestDot : Int32) (m_bestCell : Int32) : Option (Int32 × Int32 × Int32) := if x6 = 0 then (j_X10_tries_153 k43 x1 x2 x4 x6 m_bestDot k1 m_bestDot m_bestCell) else (j_X10_tries_153 k43 x1 x2 x4 x6 x1 k1 m_bestDot m_bestCell)
def j_X10_tries_119 (k43 : Int32 → Int64 → Int32 → Int32 → Int32 → Int32 → Option (Int32 × Int32 × Int32)) (x1 : Int32) (x2 : Int64) (x4 : Int32) (x5 : Int32) (k0 : Int32) (m_gain : Int32) (m_bestDot : Int32) (m_bestCell : Int32) : Option (Int32 × Int32 × Int32) := if k0 = 0 then (j_X10_tries_136 k43 x1 x2 x4 k0 m_gain m_gain m_bestDot m_bestCell) else (j_X10_tries_136 k43 x1 x2 x4 k0 x5 m_gain m_bestDot m_bestCell)
def lp_X10_tries_43 (m_shut : Int64) (m_dots : Int64) (m_told : Nat → Int32) (k19 : Int32 → Int32 → Int32 → Int32 → Option (Int32 × Int32 × Int32)) : Nat → Int32 → Int64 → Int32 → Int32 → Int32 → Int32 → Option (Int32 × Int32 × Int32)
  | 0, _, _, _, _, _, _ => none
  | n + 1, x1, x2, x4, m_gain, m_bestDot, m_bestCell => (f_X10_cells m_told).bind (fun z46 => if z46 ≤ x4 then (k19 (x1 + 1) m_gain m_bestDot m_bestCell) else ((f_X10_has m_dots x1).bind (fun z57 => if z57 = 0 then (lp_X10_tries_43 m_shut m_dots m_told k19 n x1 x2 (x4 + 1) m_gain m_bestDot m_bestCell) else ((f_X10_has (m_dots ||| m_shut) x4).bind (fun z74 => if z74 = 0 then ((f_X10_heldBy m_told x2 x1).bind (fun z83 => (f_X10_heldBy m_told x2 x4).bind (fun z90 => if m_bestDot = (-9 : Int32) then (j_X10_tries_119 (lp_X10_tries_43 m_shut m_dots m_told k19 n) x1 x2 x4 (z83 - z90) (1 : Int32) m_gain m_bestDot m_bestCell) else (if (z83 - z90) ≤ m_gain then (j_X10_tries_119 (lp_X10_tries_43 m_shut m_dots m_told k19 n) x1 x2 x4 (z83 - z90) (0 : Int32) m_gain m_bestDot m_bestCell) else (j_X10_tries_119 (lp_X10_tries_43 m_shut m_dots m_told k19 n) x1 x2 x4 (z83 - z90) (1 : Int32) m_gain m_bestDot m_bestCell))))) else (lp_X10_tries_43 m_shut m_dots m_told k19 n x1 x2 (x4 + 1) m_gain m_bestDot m_bestCell))))))
theorem lp_X10_tries_43_s (m_shut : Int64) (m_dots : Int64) (m_told : Nat → Int32) (k19 : Int32 → Int32 → Int32 → Int32 → Option (Int32 × Int32 × Int32)) (n : Nat) (x1 : Int32) (x2 : Int64) (x4 : Int32) (m_gain : Int32) (m_bestDot : Int32) (m_bestCell : Int32) : lp_X10_tries_43 m_shut m_dots m_told k19 (n + 1) x1 x2 x4 m_gain m_bestDot m_bestCell = ((f_X10_cells m_told).bind (fun z46 => if z46 ≤ x4 then (k19 (x1 + 1) m_gain m_bestDot m_bestCell) else ((f_X10_has m_dots x1).bind (fun z57 => if z57 = 0 then (lp_X10_tries_43 m_shut m_dots m_told k19 n x1 x2 (x4 + 1) m_gain m_bestDot m_bestCell) else ((f_X10_has (m_dots ||| m_shut) x4).bind (fun z74 => if z74 = 0 then ((f_X10_heldBy m_told x2 x1).bind (fun z83 => (f_X10_heldBy m_told x2 x4).bind (fun z90 => if m_bestDot = (-9 : Int32) then (j_X10_tries_119 (lp_X10_tries_43 m_shut m_dots m_told k19 n) x1 x2 x4 (z83 - z90) (1 : Int32) m_gain m_bestDot m_bestCell) else (if (z83 - z90) ≤ m_gain then (j_X10_tries_119 (lp_X10_tries_43 m_shut m_dots m_told k19 n) x1 x2 x4 (z83 - z90) (0 : Int32) m_gain m_bestDot m_bestCell) else (j_X10_tries_119 (lp_X10_tries_43 m_shut m_dots m_told k19 n) x1 x2 x4 (z83 - z90) (1 : Int32) m_gain m_bestDot m_bestCell))))) else (lp_X10_tries_43 m_shut m_dots m_told k19 n x1 x2 (x4 + 1) m_gain m_bestDot m_bestCell))))))) := rfl
theorem lp_X10_tries_43_z (m_shut : Int64) (m_dots : Int64) (m_told : Nat → Int32) (k19 : Int32 → Int32 → Int32 → Int32 → Option (Int32 × Int32 × Int32)) (x1 : Int32) (x2 : Int64) (x4 : Int32) (m_gain : Int32) (m_bestDot : Int32) (m_bestCell : Int32) : lp_X10_tries_43 m_shut m_dots m_told k19 0 x1 x2 x4 m_gain m_bestDot m_bestCell = none := rfl
def lp_X10_tries_19 (m_shut : Int64) (m_dots : Int64) (m_told : Nat → Int32) : Nat → Int32 → Int32 → Int32 → Int32 → Option (Int32 × Int32 × Int32)
  | 0, _, _, _, _ => none
  | n + 1, x1, m_gain, m_bestDot, m_bestCell => (f_X10_cells m_told).bind (fun z21 => if z21 ≤ x1 then (some (m_gain, m_bestDot, m_bestCell)) else (lp_X10_tries_43 m_shut m_dots m_told (lp_X10_tries_19 m_shut m_dots m_told n) FU x1 (m_dots &&& ((lsh (1 : Int64) x1) ^^^ (-1 : Int64))) (0 : Int32) m_gain m_bestDot m_bestCell))
theorem lp_X10_tries_19_s (m_shut : Int64) (m_dots : Int64) (m_told : Nat → Int32) (n : Nat) (x1 : Int32) (m_gain : Int32) (m_bestDot : Int32) (m_bestCell : Int32) : lp_X10_tries_19 m_shut m_dots m_told (n + 1) x1 m_gain m_bestDot m_bestCell = ((f_X10_cells m_told).bind (fun z21 => if z21 ≤ x1 then (some (m_gain, m_bestDot, m_bestCell)) else (lp_X10_tries_43 m_shut m_dots m_told (lp_X10_tries_19 m_shut m_dots m_told n) FU x1 (m_dots &&& ((lsh (1 : Int64) x1) ^^^ (-1 : Int64))) (0 : Int32) m_gain m_bestDot m_bestCell))) := rfl
theorem lp_X10_tries_19_z (m_shut : Int64) (m_dots : Int64) (m_told : Nat → Int32) (x1 : Int32) (m_gain : Int32) (m_bestDot : Int32) (m_bestCell : Int32) : lp_X10_tries_19 m_shut m_dots m_told 0 x1 m_gain m_bestDot m_bestCell = none := rfl
def f_X10_tries (m_shut : Int64) (m_dots : Int64) (m_gain : Int32) (m_bestDot : Int32) (m_bestCell : Int32) (m_told : Nat → Int32) : Option (Int32 × Int32 × Int32) := lp_X10_tries_19 m_shut m_dots m_told FU (0 : Int32) (0 : Int32) (-9 : Int32) (-9 : Int32)
theorem ok_X10_tries : OkV yX10_tries cX10_tries 7 none 0 := ⟨⟨tw_1017, tw_13, by decide +kernel, by decide +kernel, by decide +kernel⟩, tw_1016, tp_49⟩
set_option maxHeartbeats 4000000 in
set_option maxRecDepth 100000 in
theorem c_X10_tries (l : Launch) (D : va_G) (cy : ClassId × ClassId × ClassId) (H0 : Heap) (aM aM_told aM_draft aM_past aM_kept aM_isKept aM_seenLine aM_seenIs aM_rank aM_stage aM_text : Nat) (m_thrown : Int32) (m_shut : Int64) (m_dots : Int64) (m_draftShut : Int64) (m_draftDots : Int64) (m_undos : Int32) (m_base : Int32) (m_slopeX : Int32) (m_slopeY : Int32) (m_seen : Int32) (m_letters : Int32) (m_next : Int32) (m_begin : Int32) (m_token : Int32) (m_gain : Int32) (m_bestDot : Int32) (m_bestCell : Int32) (m_told : Nat → Int32) (r : Int32 × Int32 × Int32) (hP : va_P D vwCl [(aM, .inr (10, [.int m_thrown, .ref aM_told, .ref aM_draft, .long m_shut, .long m_dots, .long m_draftShut, .long m_draftDots, .int m_undos, .ref aM_past, .ref aM_kept, .ref aM_isKept, .int m_base, .int m_slopeX, .int m_slopeY, .int m_seen, .ref aM_seenLine, .ref aM_seenIs, .ref aM_rank, .ref aM_stage, .int m_letters, .ref aM_text, .int m_next, .int m_begin, .int m_token, .int m_gain, .int m_bestDot, .int m_bestCell])), (aM_told, .inl (cy.1, 7, .inl m_told))] H0) (hD0 : va_D (fun _ => True) [(aM, .inr (10, [.int m_thrown, .ref aM_told, .ref aM_draft, .long m_shut, .long m_dots, .long m_draftShut, .long m_draftDots, .int m_undos, .ref aM_past, .ref aM_kept, .ref aM_isKept, .int m_base, .int m_slopeX, .int m_slopeY, .int m_seen, .ref aM_seenLine, .ref aM_seenIs, .ref aM_rank, .ref aM_stage, .int m_letters, .ref aM_text, .int m_next, .int m_begin, .int m_token, .int m_gain, .int m_bestDot, .int m_bestCell])), (aM_told, .inl (cy.1, 7, .inl m_told))]) (hf : f_X10_tries m_shut m_dots m_gain m_bestDot m_bestCell m_told = some r) : Wr l yX10_tries cX10_tries 7 none ({ frames := 3, cells := 0, slots := 0, locals := 73 } : Room) ([.ref aM] : List Value) none D cy H0 [(aM, .inr (10, [.int m_thrown, .ref aM_told, .ref aM_draft, .long m_shut, .long m_dots, .long m_draftShut, .long m_draftDots, .int m_undos, .ref aM_past, .ref aM_kept, .ref aM_isKept, .int m_base, .int m_slopeX, .int m_slopeY, .int m_seen, .ref aM_seenLine, .ref aM_seenIs, .ref aM_rank, .ref aM_stage, .int m_letters, .ref aM_text, .int m_next, .int m_begin, .int m_token, .int m_gain, .int m_bestDot, .int m_bestCell])), (aM_told, .inl (cy.1, 7, .inl m_told))] [(aM, .inr (10, [.int m_thrown, .ref aM_told, .ref aM_draft, .long m_shut, .long m_dots, .long m_draftShut, .long m_draftDots, .int m_undos, .ref aM_past, .ref aM_kept, .ref aM_isKept, .int m_base, .int m_slopeX, .int m_slopeY, .int m_seen, .ref aM_seenLine, .ref aM_seenIs, .ref aM_rank, .ref aM_stage, .int m_letters, .ref aM_text, .int m_next, .int m_begin, .int m_token, .int (r.1), .int (r.2.1), .int (r.2.2)])), (aM_told, .inl (cy.1, 7, .inl m_told))] := by
  refine wr_of (by decide +kernel) (Nat.le_of_ble_eq_true rfl) hD0 ?_
  intro p e s m below meth c ls A S hr hlocks hk hl hD hS hA
  obtain ⟨hx, hb, hml, hown, hts⟩ := id S
  have hl : lv_has ls 7 [(0, .ref aM)] := hl
  rw [f_X10_tries] at hf
  have J19 : ∀ (n19 : Nat) (x1 : Int32) (m_gain : Int32) (m_bestDot : Int32) (m_bestCell : Int32) (H : Heap) (locs : List Loc) (ls : Array Slot), va_P D vwCl [(aM, .inr (10, [.int m_thrown, .ref aM_told, .ref aM_draft, .long m_shut, .long m_dots, .long m_draftShut, .long m_draftDots, .int m_undos, .ref aM_past, .ref aM_kept, .ref aM_isKept, .int m_base, .int m_slopeX, .int m_slopeY, .int m_seen, .ref aM_seenLine, .ref aM_seenIs, .ref aM_rank, .ref aM_stage, .int m_letters, .ref aM_text, .int m_next, .int m_begin, .int m_token, .int m_gain, .int m_bestDot, .int m_bestCell])), (aM_told, .inl (cy.1, 7, .inl m_told))] H → va_D A [(aM, .inr (10, [.int m_thrown, .ref aM_told, .ref aM_draft, .long m_shut, .long m_dots, .long m_draftShut, .long m_draftDots, .int m_undos, .ref aM_past, .ref aM_kept, .ref aM_isKept, .int m_base, .int m_slopeX, .int m_slopeY, .int m_seen, .ref aM_seenLine, .ref aM_seenIs, .ref aM_rank, .ref aM_stage, .int m_letters, .ref aM_text, .int m_next, .int m_begin, .int m_token, .int m_gain, .int m_bestDot, .int m_bestCell])), (aM_told, .inl (cy.1, 7, .inl m_told))] → va_S A H0 H locs → lv_has ls 7 [(0, .ref aM), (1, .int x1)] → lp_X10_tries_19 m_shut m_dots m_told n19 x1 m_gain m_bestDot m_bestCell = some r → W p l e ({ frames := 3, cells := 0, slots := 0, locals := 73 } : Room) s m ([.ref aM] : List Value).toArray below meth c H locs 0 0 (MQ below (QW none D [(aM, .inr (10, [.int m_thrown, .ref aM_told, .ref aM_draft, .long m_shut, .long m_dots, .long m_draftShut, .long m_draftDots, .int m_undos, .ref aM_past, .ref aM_kept, .ref aM_isKept, .int m_base, .int m_slopeX, .int m_slopeY, .int m_seen, .ref aM_seenLine, .ref aM_seenIs, .ref aM_rank, .ref aM_stage, .int m_letters, .ref aM_text, .int m_next, .int m_begin, .int m_token, .int (r.1), .int (r.2.1), .int (r.2.2)])), (aM_told, .inl (cy.1, 7, .inl m_told))] H0 A) ([.ref aM] : List Value).toArray s 0 0 A) (F0 m 19 ls []) := by
    intro n19
    induction n19 with
    | zero =>
      intro x1 m_gain m_bestDot m_bestCell H locs ls hP hD hS hl hf
      rw [lp_X10_tries_19_z] at hf
      cases hf
    | succ n19 ih19 =>
      have J43 : ∀ (n43 : Nat) (x1 : Int32) (x2 : Int64) (x4 : Int32) (m_gain : Int32) (m_bestDot : Int32) (m_bestCell : Int32) (H : Heap) (locs : List Loc) (ls : Array Slot), va_P D vwCl [(aM, .inr (10, [.int m_thrown, .ref aM_told, .ref aM_draft, .long m_shut, .long m_dots, .long m_draftShut, .long m_draftDots, .int m_undos, .ref aM_past, .ref aM_kept, .ref aM_isKept, .int m_base, .int m_slopeX, .int m_slopeY, .int m_seen, .ref aM_seenLine, .ref aM_seenIs, .ref aM_rank, .ref aM_stage, .int m_letters, .ref aM_text, .int m_next, .int m_begin, .int m_token, .int m_gain, .int m_bestDot, .int m_bestCell])), (aM_told, .inl (cy.1, 7, .inl m_told))] H → va_D A [(aM, .inr (10, [.int m_thrown, .ref aM_told, .ref aM_draft, .long m_shut, .long m_dots, .long m_draftShut, .long m_draftDots, .int m_undos, .ref aM_past, .ref aM_kept, .ref aM_isKept, .int m_base, .int m_slopeX, .int m_slopeY, .int m_seen, .ref aM_seenLine, .ref aM_seenIs, .ref aM_rank, .ref aM_stage, .int m_letters, .ref aM_text, .int m_next, .int m_begin, .int m_token, .int m_gain, .int m_bestDot, .int m_bestCell])), (aM_told, .inl (cy.1, 7, .inl m_told))] → va_S A H0 H locs → lv_has ls 7 [(0, .ref aM), (1, .int x1), (2, .long x2), (4, .int x4)] → lp_X10_tries_43 m_shut m_dots m_told (lp_X10_tries_19 m_shut m_dots m_told n19) n43 x1 x2 x4 m_gain m_bestDot m_bestCell = some r → W p l e ({ frames := 3, cells := 0, slots := 0, locals := 73 } : Room) s m ([.ref aM] : List Value).toArray below meth c H locs 0 0 (MQ below (QW none D [(aM, .inr (10, [.int m_thrown, .ref aM_told, .ref aM_draft, .long m_shut, .long m_dots, .long m_draftShut, .long m_draftDots, .int m_undos, .ref aM_past, .ref aM_kept, .ref aM_isKept, .int m_base, .int m_slopeX, .int m_slopeY, .int m_seen, .ref aM_seenLine, .ref aM_seenIs, .ref aM_rank, .ref aM_stage, .int m_letters, .ref aM_text, .int m_next, .int m_begin, .int m_token, .int (r.1), .int (r.2.1), .int (r.2.2)])), (aM_told, .inl (cy.1, 7, .inl m_told))] H0 A) ([.ref aM] : List Value).toArray s 0 0 A) (F0 m 43 ls []) := by
        intro n43
        induction n43 with
        | zero =>
          intro x1 x2 x4 m_gain m_bestDot m_bestCell H locs ls hP hD hS hl hf
          rw [lp_X10_tries_43_z] at hf
          cases hf
        | succ n43 ih43 =>
          have J171 : ∀ (x1 : Int32) (x2 : Int64) (x4 : Int32) (k1 : Int32) (m_gain : Int32) (m_bestDot : Int32) (m_bestCell : Int32) (H : Heap) (locs : List Loc) (ls : Array Slot), va_P D vwCl [(aM, .inr (10, [.int m_thrown, .ref aM_told, .ref aM_draft, .long m_shut, .long m_dots, .long m_draftShut, .long m_draftDots, .int m_undos, .ref aM_past, .ref aM_kept, .ref aM_isKept, .int m_base, .int m_slopeX, .int m_slopeY, .int m_seen, .ref aM_seenLine, .ref aM_seenIs, .ref aM_rank, .ref aM_stage, .int m_letters, .ref aM_text, .int m_next, .int m_begin, .int m_token, .int m_gain, .int m_bestDot, .int m_bestCell])), (aM_told, .inl (cy.1, 7, .inl m_told))] H → va_D A [(aM, .inr (10, [.int m_thrown, .ref aM_told, .ref aM_draft, .long m_shut, .long m_dots, .long m_draftShut, .long m_draftDots, .int m_undos, .ref aM_past, .ref aM_kept, .ref aM_isKept, .int m_base, .int m_slopeX, .int m_slopeY, .int m_seen, .ref aM_seenLine, .ref aM_seenIs, .ref aM_rank, .ref aM_stage, .int m_letters, .ref aM_text, .int m_next, .int m_begin, .int m_token, .int m_gain, .int m_bestDot, .int m_bestCell])), (aM_told, .inl (cy.1, 7, .inl m_told))] → va_S A H0 H locs → lv_has ls 7 [(0, .ref aM), (1, .int x1), (2, .long x2), (4, .int x4)] → j_X10_tries_171 (lp_X10_tries_43 m_shut m_dots m_told (lp_X10_tries_19 m_shut m_dots m_told n19) n43) x1 x2 x4 k1 m_gain m_bestDot m_bestCell = some r → W p l e ({ frames := 3, cells := 0, slots := 0, locals := 73 } : Room) s m ([.ref aM] : List Value).toArray below meth c H locs 0 0 (MQ below (QW none D [(aM, .inr (10, [.int m_thrown, .ref aM_told, .ref aM_draft, .long m_shut, .long m_dots, .long m_draftShut, .long m_draftDots, .int m_undos, .ref aM_past, .ref aM_kept, .ref aM_isKept, .int m_base, .int m_slopeX, .int m_slopeY, .int m_seen, .ref aM_seenLine, .ref aM_seenIs, .ref aM_rank, .ref aM_stage, .int m_letters, .ref aM_text, .int m_next, .int m_begin, .int m_token, .int (r.1), .int (r.2.1), .int (r.2.2)])), (aM_told, .inl (cy.1, 7, .inl m_told))] H0 A) ([.ref aM] : List Value).toArray s 0 0 A) (F0 m 171 ls [.int k1, .ref aM]) := by
            intro x1 x2 x4 k1 m_gain m_bestDot m_bestCell H locs ls hP hD hS hl hf
            rw [j_X10_tries_171] at hf
            refine va_put (D := D) (ci := 10) (v := .int k1) (ty := .int) (C := RX10) (T := TX10) (N := 27) hx hb hts iX10 tyX10 tyX10_ok nmX10 hown hk.1 hP hD hS 0 rfl rfl 26 (by decide) (hts _ tw_809) (fun _ h9 => h9) rfl (by decide +kernel) rfl rfl (Nat.le_of_ble_eq_true rfl) dX10_tries_171 (fun H locs hP hD hS => ?_)
            have hP : va_P D vwCl [(aM, .inr (10, [.int m_thrown, .ref aM_told, .ref aM_draft, .long m_shut, .long m_dots, .long m_draftShut, .long m_draftDots, .int m_undos, .ref aM_past, .ref aM_kept, .ref aM_isKept, .int m_base, .int m_slopeX, .int m_slopeY, .int m_seen, .ref aM_seenLine, .ref aM_seenIs, .ref aM_rank, .ref aM_stage, .int m_letters, .ref aM_text, .int m_next, .int m_begin, .int m_token, .int m_gain, .int m_bestDot, .int k1])), (aM_told, .inl (cy.1, 7, .inl m_told))] H := hP
            have hD : va_D A [(aM, .inr (10, [.int m_thrown, .ref aM_told, .ref aM_draft, .long m_shut, .long m_dots, .long m_draftShut, .long m_draftDots, .int m_undos, .ref aM_past, .ref aM_kept, .ref aM_isKept, .int m_base, .int m_slopeX, .int m_slopeY, .int m_seen, .ref aM_seenLine, .ref aM_seenIs, .ref aM_rank, .ref aM_stage, .int m_letters, .ref aM_text, .int m_next, .int m_begin, .int m_token, .int m_gain, .int m_bestDot, .int k1])), (aM_told, .inl (cy.1, 7, .inl m_told))] := hD
            refine lv_iinc (v := (x4 + 1)) (lv' := [(4, .int (x4 + 1)), (0, .ref aM), (1, .int x1), (2, .long x2)]) hx hb dX10_tries_174 hl (k := 3) rfl rfl (by decide) rfl (fun ls hl => ?_)
            refine lv_goto (tgt := 43) hx hb dX10_tries_177 (by decide) ?_
            exact ih43 x1 x2 (x4 + 1) m_gain m_bestDot k1 H locs ls hP hD hS (lv_sub hl [1, 2, 3, 0] rfl) hf
          have J153 : ∀ (x1 : Int32) (x2 : Int64) (x4 : Int32) (x6 : Int32) (k1 : Int32) (m_gain : Int32) (m_bestDot : Int32) (m_bestCell : Int32) (H : Heap) (locs : List Loc) (ls : Array Slot), va_P D vwCl [(aM, .inr (10, [.int m_thrown, .ref aM_told, .ref aM_draft, .long m_shut, .long m_dots, .long m_draftShut, .long m_draftDots, .int m_undos, .ref aM_past, .ref aM_kept, .ref aM_isKept, .int m_base, .int m_slopeX, .int m_slopeY, .int m_seen, .ref aM_seenLine, .ref aM_seenIs, .ref aM_rank, .ref aM_stage, .int m_letters, .ref aM_text, .int m_next, .int m_begin, .int m_token, .int m_gain, .int m_bestDot, .int m_bestCell])), (aM_told, .inl (cy.1, 7, .inl m_told))] H → va_D A [(aM, .inr (10, [.int m_thrown, .ref aM_told, .ref aM_draft, .long m_shut, .long m_dots, .long m_draftShut, .long m_draftDots, .int m_undos, .ref aM_past, .ref aM_kept, .ref aM_isKept, .int m_base, .int m_slopeX, .int m_slopeY, .int m_seen, .ref aM_seenLine, .ref aM_seenIs, .ref aM_rank, .ref aM_stage, .int m_letters, .ref aM_text, .int m_next, .int m_begin, .int m_token, .int m_gain, .int m_bestDot, .int m_bestCell])), (aM_told, .inl (cy.1, 7, .inl m_told))] → va_S A H0 H locs → lv_has ls 7 [(0, .ref aM), (1, .int x1), (2, .long x2), (4, .int x4), (6, .int x6)] → j_X10_tries_153 (lp_X10_tries_43 m_shut m_dots m_told (lp_X10_tries_19 m_shut m_dots m_told n19) n43) x1 x2 x4 x6 k1 m_gain m_bestDot m_bestCell = some r → W p l e ({ frames := 3, cells := 0, slots := 0, locals := 73 } : Room) s m ([.ref aM] : List Value).toArray below meth c H locs 0 0 (MQ below (QW none D [(aM, .inr (10, [.int m_thrown, .ref aM_told, .ref aM_draft, .long m_shut, .long m_dots, .long m_draftShut, .long m_draftDots, .int m_undos, .ref aM_past, .ref aM_kept, .ref aM_isKept, .int m_base, .int m_slopeX, .int m_slopeY, .int m_seen, .ref aM_seenLine, .ref aM_seenIs, .ref aM_rank, .ref aM_stage, .int m_letters, .ref aM_text, .int m_next, .int m_begin, .int m_token, .int (r.1), .int (r.2.1), .int (r.2.2)])), (aM_told, .inl (cy.1, 7, .inl m_told))] H0 A) ([.ref aM] : List Value).toArray s 0 0 A) (F0 m 153 ls [.int k1, .ref aM]) := by
            intro x1 x2 x4 x6 k1 m_gain m_bestDot m_bestCell H locs ls hP hD hS hl hf
            rw [j_X10_tries_153] at hf
            refine va_put (D := D) (ci := 10) (v := .int k1) (ty := .int) (C := RX10) (T := TX10) (N := 27) hx hb hts iX10 tyX10 tyX10_ok nmX10 hown hk.1 hP hD hS 0 rfl rfl 25 (by decide) (hts _ tw_808) (fun _ h9 => h9) rfl (by decide +kernel) rfl rfl (Nat.le_of_ble_eq_true rfl) dX10_tries_153 (fun H locs hP hD hS => ?_)
            have hP : va_P D vwCl [(aM, .inr (10, [.int m_thrown, .ref aM_told, .ref aM_draft, .long m_shut, .long m_dots, .long m_draftShut, .long m_draftDots, .int m_undos, .ref aM_past, .ref aM_kept, .ref aM_isKept, .int m_base, .int m_slopeX, .int m_slopeY, .int m_seen, .ref aM_seenLine, .ref aM_seenIs, .ref aM_rank, .ref aM_stage, .int m_letters, .ref aM_text, .int m_next, .int m_begin, .int m_token, .int m_gain, .int k1, .int m_bestCell])), (aM_told, .inl (cy.1, 7, .inl m_told))] H := hP
            have hD : va_D A [(aM, .inr (10, [.int m_thrown, .ref aM_told, .ref aM_draft, .long m_shut, .long m_dots, .long m_draftShut, .long m_draftDots, .int m_undos, .ref aM_past, .ref aM_kept, .ref aM_isKept, .int m_base, .int m_slopeX, .int m_slopeY, .int m_seen, .ref aM_seenLine, .ref aM_seenIs, .ref aM_rank, .ref aM_stage, .int m_letters, .ref aM_text, .int m_next, .int m_begin, .int m_token, .int m_gain, .int k1, .int m_bestCell])), (aM_told, .inl (cy.1, 7, .inl m_told))] := hD
            refine lv_aload_n hx hb dX10_tries_156 rfl (lv_at hl 0 rfl) ?_
            refine lv_iload hx hb dX10_tries_157 (lv_at hl 4 rfl) ?_
            refine lv_if_eq (tgt := 167) hx hb dX10_tries_159 (by decide) (fun hc => ?_) (fun hc => ?_)
            · have hf := q_t hc hf
              refine lv_aload_n hx hb dX10_tries_167 rfl (lv_at hl 0 rfl) ?_
              refine va_get (D := D) (ci := 10) (v := .int m_bestCell) (C := RX10) (T := TX10) (N := 27) hx hb hts iX10 hown hk.1 hP 0 rfl rfl 26 (by decide) (hts _ tw_809) (fun _ h9 => h9) rfl dX10_tries_168 ?_
              exact J171 x1 x2 x4 m_bestCell m_gain k1 m_bestCell H locs ls hP hD hS (lv_sub hl [0, 1, 2, 3] rfl) hf
            · have hf := q_f hc hf
              refine lv_iload hx hb dX10_tries_162 (lv_at hl 3 rfl) ?_
              refine lv_goto (tgt := 171) hx hb dX10_tries_164 (by decide) ?_
              exact J171 x1 x2 x4 x4 m_gain k1 m_bestCell H locs ls hP hD hS (lv_sub hl [0, 1, 2, 3] rfl) hf
          have J136 : ∀ (x1 : Int32) (x2 : Int64) (x4 : Int32) (x6 : Int32) (k1 : Int32) (m_gain : Int32) (m_bestDot : Int32) (m_bestCell : Int32) (H : Heap) (locs : List Loc) (ls : Array Slot), va_P D vwCl [(aM, .inr (10, [.int m_thrown, .ref aM_told, .ref aM_draft, .long m_shut, .long m_dots, .long m_draftShut, .long m_draftDots, .int m_undos, .ref aM_past, .ref aM_kept, .ref aM_isKept, .int m_base, .int m_slopeX, .int m_slopeY, .int m_seen, .ref aM_seenLine, .ref aM_seenIs, .ref aM_rank, .ref aM_stage, .int m_letters, .ref aM_text, .int m_next, .int m_begin, .int m_token, .int m_gain, .int m_bestDot, .int m_bestCell])), (aM_told, .inl (cy.1, 7, .inl m_told))] H → va_D A [(aM, .inr (10, [.int m_thrown, .ref aM_told, .ref aM_draft, .long m_shut, .long m_dots, .long m_draftShut, .long m_draftDots, .int m_undos, .ref aM_past, .ref aM_kept, .ref aM_isKept, .int m_base, .int m_slopeX, .int m_slopeY, .int m_seen, .ref aM_seenLine, .ref aM_seenIs, .ref aM_rank, .ref aM_stage, .int m_letters, .ref aM_text, .int m_next, .int m_begin, .int m_token, .int m_gain, .int m_bestDot, .int m_bestCell])), (aM_told, .inl (cy.1, 7, .inl m_told))] → va_S A H0 H locs → lv_has ls 7 [(0, .ref aM), (1, .int x1), (2, .long x2), (4, .int x4), (6, .int x6)] → j_X10_tries_136 (lp_X10_tries_43 m_shut m_dots m_told (lp_X10_tries_19 m_shut m_dots m_told n19) n43) x1 x2 x4 x6 k1 m_gain m_bestDot m_bestCell = some r → W p l e ({ frames := 3, cells := 0, slots := 0, locals := 73 } : Room) s m ([.ref aM] : List Value).toArray below meth c H locs 0 0 (MQ below (QW none D [(aM, .inr (10, [.int m_thrown, .ref aM_told, .ref aM_draft, .long m_shut, .long m_dots, .long m_draftShut, .long m_draftDots, .int m_undos, .ref aM_past, .ref aM_kept, .ref aM_isKept, .int m_base, .int m_slopeX, .int m_slopeY, .int m_seen, .ref aM_seenLine, .ref aM_seenIs, .ref aM_rank, .ref aM_stage, .int m_letters, .ref aM_text, .int m_next, .int m_begin, .int m_token, .int (r.1), .int (r.2.1), .int (r.2.2)])), (aM_told, .inl (cy.1, 7, .inl m_told))] H0 A) ([.ref aM] : List Value).toArray s 0 0 A) (F0 m 136 ls [.int k1, .ref aM]) := by
            intro x1 x2 x4 x6 k1 m_gain m_bestDot m_bestCell H locs ls hP hD hS hl hf
            rw [j_X10_tries_136] at hf
            refine va_put (D := D) (ci := 10) (v := .int k1) (ty := .int) (C := RX10) (T := TX10) (N := 27) hx hb hts iX10 tyX10 tyX10_ok nmX10 hown hk.1 hP hD hS 0 rfl rfl 24 (by decide) (hts _ tw_807) (fun _ h9 => h9) rfl (by decide +kernel) rfl rfl (Nat.le_of_ble_eq_true rfl) dX10_tries_136 (fun H locs hP hD hS => ?_)
            have hP : va_P D vwCl [(aM, .inr (10, [.int m_thrown, .ref aM_told, .ref aM_draft, .long m_shut, .long m_dots, .long m_draftShut, .long m_draftDots, .int m_undos, .ref aM_past, .ref aM_kept, .ref aM_isKept, .int m_base, .int m_slopeX, .int m_slopeY, .int m_seen, .ref aM_seenLine, .ref aM_seenIs, .ref aM_rank, .ref aM_stage, .int m_letters, .ref aM_text, .int m_next, .int m_begin, .int m_token, .int k1, .int m_bestDot, .int m_bestCell])), (aM_told, .inl (cy.1, 7, .inl m_told))] H := hP
            have hD : va_D A [(aM, .inr (10, [.int m_thrown, .ref aM_told, .ref aM_draft, .long m_shut, .long m_dots, .long m_draftShut, .long m_draftDots, .int m_undos, .ref aM_past, .ref aM_kept, .ref aM_isKept, .int m_base, .int m_slopeX, .int m_slopeY, .int m_seen, .ref aM_seenLine, .ref aM_seenIs, .ref aM_rank, .ref aM_stage, .int m_letters, .ref aM_text, .int m_next, .int m_begin, .int m_token, .int k1, .int m_bestDot, .int m_bestCell])), (aM_told, .inl (cy.1, 7, .inl m_told))] := hD
            refine lv_aload_n hx hb dX10_tries_139 rfl (lv_at hl 0 rfl) ?_
            refine lv_iload hx hb dX10_tries_140 (lv_at hl 4 rfl) ?_
            refine lv_if_eq (tgt := 149) hx hb dX10_tries_142 (by decide) (fun hc => ?_) (fun hc => ?_)
            · have hf := q_t hc hf
              refine lv_aload_n hx hb dX10_tries_149 rfl (lv_at hl 0 rfl) ?_
              refine va_get (D := D) (ci := 10) (v := .int m_bestDot) (C := RX10) (T := TX10) (N := 27) hx hb hts iX10 hown hk.1 hP 0 rfl rfl 25 (by decide) (hts _ tw_808) (fun _ h9 => h9) rfl dX10_tries_150 ?_
              exact J153 x1 x2 x4 x6 m_bestDot k1 m_bestDot m_bestCell H locs ls hP hD hS (lv_sub hl [0, 1, 2, 3, 4] rfl) hf
            · have hf := q_f hc hf
              refine lv_iload_n hx hb dX10_tries_145 rfl (lv_at hl 1 rfl) ?_
              refine lv_goto (tgt := 153) hx hb dX10_tries_146 (by decide) ?_
              exact J153 x1 x2 x4 x6 x1 k1 m_bestDot m_bestCell H locs ls hP hD hS (lv_sub hl [0, 1, 2, 3, 4] rfl) hf
          have J119 : ∀ (x1 : Int32) (x2 : Int64) (x4 : Int32) (x5 : Int32) (k0 : Int32) (m_gain : Int32) (m_bestDot : Int32) (m_bestCell : Int32) (H : Heap) (locs : List Loc) (ls : Array Slot), va_P D vwCl [(aM, .inr (10, [.int m_thrown, .ref aM_told, .ref aM_draft, .long m_shut, .long m_dots, .long m_draftShut, .long m_draftDots, .int m_undos, .ref aM_past, .ref aM_kept, .ref aM_isKept, .int m_base, .int m_slopeX, .int m_slopeY, .int m_seen, .ref aM_seenLine, .ref aM_seenIs, .ref aM_rank, .ref aM_stage, .int m_letters, .ref aM_text, .int m_next, .int m_begin, .int m_token, .int m_gain, .int m_bestDot, .int m_bestCell])), (aM_told, .inl (cy.1, 7, .inl m_told))] H → va_D A [(aM, .inr (10, [.int m_thrown, .ref aM_told, .ref aM_draft, .long m_shut, .long m_dots, .long m_draftShut, .long m_draftDots, .int m_undos, .ref aM_past, .ref aM_kept, .ref aM_isKept, .int m_base, .int m_slopeX, .int m_slopeY, .int m_seen, .ref aM_seenLine, .ref aM_seenIs, .ref aM_rank, .ref aM_stage, .int m_letters, .ref aM_text, .int m_next, .int m_begin, .int m_token, .int m_gain, .int m_bestDot, .int m_bestCell])), (aM_told, .inl (cy.1, 7, .inl m_told))] → va_S A H0 H locs → lv_has ls 7 [(0, .ref aM), (1, .int x1), (2, .long x2), (4, .int x4), (5, .int x5)] → j_X10_tries_119 (lp_X10_tries_43 m_shut m_dots m_told (lp_X10_tries_19 m_shut m_dots m_told n19) n43) x1 x2 x4 x5 k0 m_gain m_bestDot m_bestCell = some r → W p l e ({ frames := 3, cells := 0, slots := 0, locals := 73 } : Room) s m ([.ref aM] : List Value).toArray below meth c H locs 0 0 (MQ below (QW none D [(aM, .inr (10, [.int m_thrown, .ref aM_told, .ref aM_draft, .long m_shut, .long m_dots, .long m_draftShut, .long m_draftDots, .int m_undos, .ref aM_past, .ref aM_kept, .ref aM_isKept, .int m_base, .int m_slopeX, .int m_slopeY, .int m_seen, .ref aM_seenLine, .ref aM_seenIs, .ref aM_rank, .ref aM_stage, .int m_letters, .ref aM_text, .int m_next, .int m_begin, .int m_token, .int (r.1), .int (r.2.1), .int (r.2.2)])), (aM_told, .inl (cy.1, 7, .inl m_told))] H0 A) ([.ref aM] : List Value).toArray s 0 0 A) (F0 m 119 ls [.int k0]) := by
            intro x1 x2 x4 x5 k0 m_gain m_bestDot m_bestCell H locs ls hP hD hS hl hf
            rw [j_X10_tries_119] at hf
            refine lv_istore (lv' := [(6, .int k0), (0, .ref aM), (1, .int x1), (2, .long x2), (4, .int x4), (5, .int x5)]) hx hb dX10_tries_119 hl (by decide) rfl (fun ls hl => ?_)
            refine lv_aload_n hx hb dX10_tries_121 rfl (lv_at hl 1 rfl) ?_
            refine lv_iload hx hb dX10_tries_122 (lv_at hl 0 rfl) ?_
            refine lv_if_eq (tgt := 132) hx hb dX10_tries_124 (by decide) (fun hc => ?_) (fun hc => ?_)
            · have hf := q_t hc hf
              refine lv_aload_n hx hb dX10_tries_132 rfl (lv_at hl 1 rfl) ?_
              refine va_get (D := D) (ci := 10) (v := .int m_gain) (C := RX10) (T := TX10) (N := 27) hx hb hts iX10 hown hk.1 hP 0 rfl rfl 24 (by decide) (hts _ tw_807) (fun _ h9 => h9) rfl dX10_tries_133 ?_
              exact J136 x1 x2 x4 k0 m_gain m_gain m_bestDot m_bestCell H locs ls hP hD hS (lv_sub hl [1, 2, 3, 4, 0] rfl) hf
            · have hf := q_f hc hf
              refine lv_iload hx hb dX10_tries_127 (lv_at hl 5 rfl) ?_
              refine lv_goto (tgt := 136) hx hb dX10_tries_129 (by decide) ?_
              exact J136 x1 x2 x4 k0 x5 m_gain m_bestDot m_bestCell H locs ls hP hD hS (lv_sub hl [1, 2, 3, 4, 0] rfl) hf
          intro x1 x2 x4 m_gain m_bestDot m_bestCell H locs ls hP hD hS hl hf
          rw [lp_X10_tries_43_s] at hf
          refine lv_iload hx hb dX10_tries_43 (lv_at hl 3 rfl) ?_
          refine lv_aload_n hx hb dX10_tries_45 rfl (lv_at hl 0 rfl) ?_
          obtain ⟨z46, hz46, hf⟩ := q_bind hf
          refine q_rdV (As := []) (rest := [.int x4]) (st2 := [.int z46, .int x4]) S hk (c_X10_cells l D cy H aM aM_told aM_draft aM_past aM_kept aM_isKept aM_seenLine aM_seenIs aM_rank aM_stage aM_text m_thrown m_shut m_dots m_draftShut m_draftDots m_undos m_base m_slopeX m_slopeY m_seen m_letters m_next m_begin m_token m_gain m_bestDot m_bestCell m_told z46 (hP.sub [0, 1] rfl) hz46) ok_X10_cells tw_931 ⟨rfl, rfl, Nat.le_of_ble_eq_true rfl, Nat.le_of_ble_eq_true rfl⟩ (va_recv hk.1 hP (ci := 10) (q0 := 0) rfl rfl) rfl hl.1 rfl (Nat.le_of_ble_eq_true rfl) dX10_tries_46 ⟨Nat.zero_le _, Nat.zero_le _⟩ rfl ?_
          refine lv_icmp_ge (tgt := 180) hx hb dX10_tries_49 (by decide) (fun hc => ?_) (fun hc => ?_)
          · have hf := q_t hc hf
            refine lv_iinc (v := (x1 + 1)) (lv' := [(1, .int (x1 + 1)), (0, .ref aM), (2, .long x2), (4, .int x4)]) hx hb dX10_tries_180 hl (k := 1) rfl rfl (by decide) rfl (fun ls hl => ?_)
            refine lv_goto (tgt := 19) hx hb dX10_tries_183 (by decide) ?_
            exact ih19 (x1 + 1) m_gain m_bestDot m_bestCell H locs ls hP hD hS (lv_sub hl [1, 0] rfl) hf
          · have hf := q_f hc hf
            refine lv_aload_n hx hb dX10_tries_52 rfl (lv_at hl 0 rfl) ?_
            refine va_get (D := D) (ci := 10) (v := .long m_dots) (C := RX10) (T := TX10) (N := 27) hx hb hts iX10 hown hk.1 hP 0 rfl rfl 4 (by decide) (hts _ tw_787) (fun _ h9 => h9) rfl dX10_tries_53 ?_
            refine lv_iload_n hx hb dX10_tries_56 rfl (lv_at hl 1 rfl) ?_
            obtain ⟨z57, hz57, hf⟩ := q_bind hf
            refine q_rdS (As := [.long m_dots, .int x1]) (rest := []) (st2 := [.int z57]) S hk (c_X10_has l D cy H m_dots x1 z57 hz57) ok_X10_has tw_908 ⟨rfl, rfl, Nat.le_of_ble_eq_true rfl, Nat.le_of_ble_eq_true rfl⟩ rfl hl.1 rfl (Nat.le_of_ble_eq_true rfl) dX10_tries_57 ⟨Nat.zero_le _, Nat.zero_le _⟩ rfl ?_
            refine lv_if_eq (tgt := 174) hx hb dX10_tries_60 (by decide) (fun hc => ?_) (fun hc => ?_)
            · have hf := q_t hc hf
              refine lv_iinc (v := (x4 + 1)) (lv' := [(4, .int (x4 + 1)), (0, .ref aM), (1, .int x1), (2, .long x2)]) hx hb dX10_tries_174 hl (k := 3) rfl rfl (by decide) rfl (fun ls hl => ?_)
              refine lv_goto (tgt := 43) hx hb dX10_tries_177 (by decide) ?_
              exact ih43 x1 x2 (x4 + 1) m_gain m_bestDot m_bestCell H locs ls hP hD hS (lv_sub hl [1, 2, 3, 0] rfl) hf
            · have hf := q_f hc hf
              refine lv_aload_n hx hb dX10_tries_63 rfl (lv_at hl 0 rfl) ?_
              refine va_get (D := D) (ci := 10) (v := .long m_dots) (C := RX10) (T := TX10) (N := 27) hx hb hts iX10 hown hk.1 hP 0 rfl rfl 4 (by decide) (hts _ tw_787) (fun _ h9 => h9) rfl dX10_tries_64 ?_
              refine lv_aload_n hx hb dX10_tries_67 rfl (lv_at hl 0 rfl) ?_
              refine va_get (D := D) (ci := 10) (v := .long m_shut) (C := RX10) (T := TX10) (N := 27) hx hb hts iX10 hown hk.1 hP 0 rfl rfl 3 (by decide) (hts _ tw_786) (fun _ h9 => h9) rfl dX10_tries_68 ?_
              refine lv_lor hx hb dX10_tries_71 ?_
              refine lv_iload hx hb dX10_tries_72 (lv_at hl 3 rfl) ?_
              obtain ⟨z74, hz74, hf⟩ := q_bind hf
              refine q_rdS (As := [.long (m_dots ||| m_shut), .int x4]) (rest := []) (st2 := [.int z74]) S hk (c_X10_has l D cy H (m_dots ||| m_shut) x4 z74 hz74) ok_X10_has tw_908 ⟨rfl, rfl, Nat.le_of_ble_eq_true rfl, Nat.le_of_ble_eq_true rfl⟩ rfl hl.1 rfl (Nat.le_of_ble_eq_true rfl) dX10_tries_74 ⟨Nat.zero_le _, Nat.zero_le _⟩ rfl ?_
              refine lv_if_ne (tgt := 174) hx hb dX10_tries_77 (by decide) (fun hc => ?_) (fun hc => ?_)
              · have hf := q_f hc hf
                refine lv_iinc (v := (x4 + 1)) (lv' := [(4, .int (x4 + 1)), (0, .ref aM), (1, .int x1), (2, .long x2)]) hx hb dX10_tries_174 hl (k := 3) rfl rfl (by decide) rfl (fun ls hl => ?_)
                refine lv_goto (tgt := 43) hx hb dX10_tries_177 (by decide) ?_
                exact ih43 x1 x2 (x4 + 1) m_gain m_bestDot m_bestCell H locs ls hP hD hS (lv_sub hl [1, 2, 3, 0] rfl) hf
              · have hf := q_t hc hf
                refine lv_aload_n hx hb dX10_tries_80 rfl (lv_at hl 0 rfl) ?_
                refine lv_lload_n hx hb dX10_tries_81 rfl (lv_at hl 2 rfl) ?_
                refine lv_iload_n hx hb dX10_tries_82 rfl (lv_at hl 1 rfl) ?_
                obtain ⟨z83, hz83, hf⟩ := q_bind hf
                refine q_rdV (As := [.long x2, .int x1]) (rest := []) (st2 := [.int z83]) S hk (c_X10_heldBy l D cy H aM aM_told aM_draft aM_past aM_kept aM_isKept aM_seenLine aM_seenIs aM_rank aM_stage aM_text m_thrown m_shut m_dots m_draftShut m_draftDots m_undos m_base m_slopeX m_slopeY m_seen m_letters m_next m_begin m_token m_gain m_bestDot m_bestCell m_told x2 x1 z83 (hP.sub [0, 1] rfl) hz83) ok_X10_heldBy tw_966 ⟨rfl, rfl, Nat.le_of_ble_eq_true rfl, Nat.le_of_ble_eq_true rfl⟩ (va_recv hk.1 hP (ci := 10) (q0 := 0) rfl rfl) rfl hl.1 rfl (Nat.le_of_ble_eq_true rfl) dX10_tries_83 ⟨Nat.zero_le _, Nat.zero_le _⟩ rfl ?_
                refine lv_aload_n hx hb dX10_tries_86 rfl (lv_at hl 0 rfl) ?_
                refine lv_lload_n hx hb dX10_tries_87 rfl (lv_at hl 2 rfl) ?_
                refine lv_iload hx hb dX10_tries_88 (lv_at hl 3 rfl) ?_
                obtain ⟨z90, hz90, hf⟩ := q_bind hf
                refine q_rdV (As := [.long x2, .int x4]) (rest := [.int z83]) (st2 := [.int z90, .int z83]) S hk (c_X10_heldBy l D cy H aM aM_told aM_draft aM_past aM_kept aM_isKept aM_seenLine aM_seenIs aM_rank aM_stage aM_text m_thrown m_shut m_dots m_draftShut m_draftDots m_undos m_base m_slopeX m_slopeY m_seen m_letters m_next m_begin m_token m_gain m_bestDot m_bestCell m_told x2 x4 z90 (hP.sub [0, 1] rfl) hz90) ok_X10_heldBy tw_966 ⟨rfl, rfl, Nat.le_of_ble_eq_true rfl, Nat.le_of_ble_eq_true rfl⟩ (va_recv hk.1 hP (ci := 10) (q0 := 0) rfl rfl) rfl hl.1 rfl (Nat.le_of_ble_eq_true rfl) dX10_tries_90 ⟨Nat.zero_le _, Nat.zero_le _⟩ rfl ?_
                refine lv_isub hx hb dX10_tries_93 ?_
                refine lv_istore (lv' := [(5, .int (z83 - z90)), (0, .ref aM), (1, .int x1), (2, .long x2), (4, .int x4)]) hx hb dX10_tries_94 hl (by decide) rfl (fun ls hl => ?_)
                refine lv_aload_n hx hb dX10_tries_96 rfl (lv_at hl 1 rfl) ?_
                refine va_get (D := D) (ci := 10) (v := .int m_bestDot) (C := RX10) (T := TX10) (N := 27) hx hb hts iX10 hown hk.1 hP 0 rfl rfl 25 (by decide) (hts _ tw_808) (fun _ h9 => h9) rfl dX10_tries_97 ?_
                refine lv_bipush (v := (-9 : Int32)) hx hb dX10_tries_100 (by decide) ?_
                refine lv_icmp_eq (tgt := 114) hx hb dX10_tries_102 (by decide) (fun hc => ?_) (fun hc => ?_)
                · have hf := q_t hc hf
                  refine lv_iconst (v := (1 : Int32)) hx hb dX10_tries_114 (by decide) ?_
                  refine lv_goto (tgt := 119) hx hb dX10_tries_115 (by decide) ?_
                  exact J119 x1 x2 x4 (z83 - z90) (1 : Int32) m_gain m_bestDot m_bestCell H locs ls hP hD hS (lv_sub hl [1, 2, 3, 4, 0] rfl) hf
                · have hf := q_f hc hf
                  refine lv_iload hx hb dX10_tries_105 (lv_at hl 0 rfl) ?_
                  refine lv_aload_n hx hb dX10_tries_107 rfl (lv_at hl 1 rfl) ?_
                  refine va_get (D := D) (ci := 10) (v := .int m_gain) (C := RX10) (T := TX10) (N := 27) hx hb hts iX10 hown hk.1 hP 0 rfl rfl 24 (by decide) (hts _ tw_807) (fun _ h9 => h9) rfl dX10_tries_108 ?_
                  refine lv_icmp_le (tgt := 118) hx hb dX10_tries_111 (by decide) (fun hc => ?_) (fun hc => ?_)
                  · have hf := q_t hc hf
                    refine lv_iconst (v := (0 : Int32)) hx hb dX10_tries_118 (by decide) ?_
                    exact J119 x1 x2 x4 (z83 - z90) (0 : Int32) m_gain m_bestDot m_bestCell H locs ls hP hD hS (lv_sub hl [1, 2, 3, 4, 0] rfl) hf
                  · have hf := q_f hc hf
                    refine lv_iconst (v := (1 : Int32)) hx hb dX10_tries_114 (by decide) ?_
                    refine lv_goto (tgt := 119) hx hb dX10_tries_115 (by decide) ?_
                    exact J119 x1 x2 x4 (z83 - z90) (1 : Int32) m_gain m_bestDot m_bestCell H locs ls hP hD hS (lv_sub hl [1, 2, 3, 4, 0] rfl) hf
      intro x1 m_gain m_bestDot m_bestCell H locs ls hP hD hS hl hf
      rw [lp_X10_tries_19_s] at hf
      refine lv_iload_n hx hb dX10_tries_19 rfl (lv_at hl 1 rfl) ?_
      refine lv_aload_n hx hb dX10_tries_20 rfl (lv_at hl 0 rfl) ?_
      obtain ⟨z21, hz21, hf⟩ := q_bind hf
      refine q_rdV (As := []) (rest := [.int x1]) (st2 := [.int z21, .int x1]) S hk (c_X10_cells l D cy H aM aM_told aM_draft aM_past aM_kept aM_isKept aM_seenLine aM_seenIs aM_rank aM_stage aM_text m_thrown m_shut m_dots m_draftShut m_draftDots m_undos m_base m_slopeX m_slopeY m_seen m_letters m_next m_begin m_token m_gain m_bestDot m_bestCell m_told z21 (hP.sub [0, 1] rfl) hz21) ok_X10_cells tw_931 ⟨rfl, rfl, Nat.le_of_ble_eq_true rfl, Nat.le_of_ble_eq_true rfl⟩ (va_recv hk.1 hP (ci := 10) (q0 := 0) rfl rfl) rfl hl.1 rfl (Nat.le_of_ble_eq_true rfl) dX10_tries_21 ⟨Nat.zero_le _, Nat.zero_le _⟩ rfl ?_
      refine lv_icmp_ge (tgt := 186) hx hb dX10_tries_24 (by decide) (fun hc => ?_) (fun hc => ?_)
      · have hf := q_t hc hf
        have hf := Option.some.inj hf
        subst hf
        exact q_rvW hP hS hx hb hr hlocks dX10_tries_186
      · have hf := q_f hc hf
        refine lv_aload_n hx hb dX10_tries_27 rfl (lv_at hl 0 rfl) ?_
        refine va_get (D := D) (ci := 10) (v := .long m_dots) (C := RX10) (T := TX10) (N := 27) hx hb hts iX10 hown hk.1 hP 0 rfl rfl 4 (by decide) (hts _ tw_787) (fun _ h9 => h9) rfl dX10_tries_28 ?_
        refine lv_lconst (v := (1 : Int64)) hx hb dX10_tries_31 (by decide) ?_
        refine lv_iload_n hx hb dX10_tries_32 rfl (lv_at hl 1 rfl) ?_
        refine lv_lshl (v := (lsh (1 : Int64) x1)) hx hb dX10_tries_33 rfl ?_
        refine lv_ldc2 hx hb hown (hts _ tw_970) dX10_tries_34 ?_
        refine lv_lxor hx hb dX10_tries_37 ?_
        refine lv_land hx hb dX10_tries_38 ?_
        refine lv_lstore_n (lv' := [(2, .long (m_dots &&& ((lsh (1 : Int64) x1) ^^^ (-1 : Int64)))), (0, .ref aM), (1, .int x1)]) hx hb dX10_tries_39 rfl hl (by decide) rfl (fun ls hl => ?_)
        refine lv_iconst (v := (0 : Int32)) hx hb dX10_tries_40 (by decide) ?_
        refine lv_istore (lv' := [(4, .int (0 : Int32)), (2, .long (m_dots &&& ((lsh (1 : Int64) x1) ^^^ (-1 : Int64)))), (0, .ref aM), (1, .int x1)]) hx hb dX10_tries_41 hl (by decide) rfl (fun ls hl => ?_)
        exact J43 FU x1 (m_dots &&& ((lsh (1 : Int64) x1) ^^^ (-1 : Int64))) (0 : Int32) m_gain m_bestDot m_bestCell H locs ls hP hD hS (lv_sub hl [2, 3, 1, 0] rfl) hf
  refine lv_aload_n hx hb dX10_tries_0 rfl (lv_at hl 0 rfl) ?_
  refine lv_iconst (v := (0 : Int32)) hx hb dX10_tries_1 (by decide) ?_
  refine va_put (D := D) (ci := 10) (v := .int (0 : Int32)) (ty := .int) (C := RX10) (T := TX10) (N := 27) hx hb hts iX10 tyX10 tyX10_ok nmX10 hown hk.1 hP hD hS 0 rfl rfl 24 (by decide) (hts _ tw_807) (fun _ h9 => h9) rfl (by decide +kernel) rfl rfl (Nat.le_of_ble_eq_true rfl) dX10_tries_2 (fun H locs hP hD hS => ?_)
  have hP : va_P D vwCl [(aM, .inr (10, [.int m_thrown, .ref aM_told, .ref aM_draft, .long m_shut, .long m_dots, .long m_draftShut, .long m_draftDots, .int m_undos, .ref aM_past, .ref aM_kept, .ref aM_isKept, .int m_base, .int m_slopeX, .int m_slopeY, .int m_seen, .ref aM_seenLine, .ref aM_seenIs, .ref aM_rank, .ref aM_stage, .int m_letters, .ref aM_text, .int m_next, .int m_begin, .int m_token, .int (0 : Int32), .int m_bestDot, .int m_bestCell])), (aM_told, .inl (cy.1, 7, .inl m_told))] H := hP
  have hD : va_D A [(aM, .inr (10, [.int m_thrown, .ref aM_told, .ref aM_draft, .long m_shut, .long m_dots, .long m_draftShut, .long m_draftDots, .int m_undos, .ref aM_past, .ref aM_kept, .ref aM_isKept, .int m_base, .int m_slopeX, .int m_slopeY, .int m_seen, .ref aM_seenLine, .ref aM_seenIs, .ref aM_rank, .ref aM_stage, .int m_letters, .ref aM_text, .int m_next, .int m_begin, .int m_token, .int (0 : Int32), .int m_bestDot, .int m_bestCell])), (aM_told, .inl (cy.1, 7, .inl m_told))] := hD
  refine lv_aload_n hx hb dX10_tries_5 rfl (lv_at hl 0 rfl) ?_
  refine lv_bipush (v := (-9 : Int32)) hx hb dX10_tries_6 (by decide) ?_
  refine va_put (D := D) (ci := 10) (v := .int (-9 : Int32)) (ty := .int) (C := RX10) (T := TX10) (N := 27) hx hb hts iX10 tyX10 tyX10_ok nmX10 hown hk.1 hP hD hS 0 rfl rfl 25 (by decide) (hts _ tw_808) (fun _ h9 => h9) rfl (by decide +kernel) rfl rfl (Nat.le_of_ble_eq_true rfl) dX10_tries_8 (fun H locs hP hD hS => ?_)
  have hP : va_P D vwCl [(aM, .inr (10, [.int m_thrown, .ref aM_told, .ref aM_draft, .long m_shut, .long m_dots, .long m_draftShut, .long m_draftDots, .int m_undos, .ref aM_past, .ref aM_kept, .ref aM_isKept, .int m_base, .int m_slopeX, .int m_slopeY, .int m_seen, .ref aM_seenLine, .ref aM_seenIs, .ref aM_rank, .ref aM_stage, .int m_letters, .ref aM_text, .int m_next, .int m_begin, .int m_token, .int (0 : Int32), .int (-9 : Int32), .int m_bestCell])), (aM_told, .inl (cy.1, 7, .inl m_told))] H := hP
  have hD : va_D A [(aM, .inr (10, [.int m_thrown, .ref aM_told, .ref aM_draft, .long m_shut, .long m_dots, .long m_draftShut, .long m_draftDots, .int m_undos, .ref aM_past, .ref aM_kept, .ref aM_isKept, .int m_base, .int m_slopeX, .int m_slopeY, .int m_seen, .ref aM_seenLine, .ref aM_seenIs, .ref aM_rank, .ref aM_stage, .int m_letters, .ref aM_text, .int m_next, .int m_begin, .int m_token, .int (0 : Int32), .int (-9 : Int32), .int m_bestCell])), (aM_told, .inl (cy.1, 7, .inl m_told))] := hD
  refine lv_aload_n hx hb dX10_tries_11 rfl (lv_at hl 0 rfl) ?_
  refine lv_bipush (v := (-9 : Int32)) hx hb dX10_tries_12 (by decide) ?_
  refine va_put (D := D) (ci := 10) (v := .int (-9 : Int32)) (ty := .int) (C := RX10) (T := TX10) (N := 27) hx hb hts iX10 tyX10 tyX10_ok nmX10 hown hk.1 hP hD hS 0 rfl rfl 26 (by decide) (hts _ tw_809) (fun _ h9 => h9) rfl (by decide +kernel) rfl rfl (Nat.le_of_ble_eq_true rfl) dX10_tries_14 (fun H locs hP hD hS => ?_)
  have hP : va_P D vwCl [(aM, .inr (10, [.int m_thrown, .ref aM_told, .ref aM_draft, .long m_shut, .long m_dots, .long m_draftShut, .long m_draftDots, .int m_undos, .ref aM_past, .ref aM_kept, .ref aM_isKept, .int m_base, .int m_slopeX, .int m_slopeY, .int m_seen, .ref aM_seenLine, .ref aM_seenIs, .ref aM_rank, .ref aM_stage, .int m_letters, .ref aM_text, .int m_next, .int m_begin, .int m_token, .int (0 : Int32), .int (-9 : Int32), .int (-9 : Int32)])), (aM_told, .inl (cy.1, 7, .inl m_told))] H := hP
  have hD : va_D A [(aM, .inr (10, [.int m_thrown, .ref aM_told, .ref aM_draft, .long m_shut, .long m_dots, .long m_draftShut, .long m_draftDots, .int m_undos, .ref aM_past, .ref aM_kept, .ref aM_isKept, .int m_base, .int m_slopeX, .int m_slopeY, .int m_seen, .ref aM_seenLine, .ref aM_seenIs, .ref aM_rank, .ref aM_stage, .int m_letters, .ref aM_text, .int m_next, .int m_begin, .int m_token, .int (0 : Int32), .int (-9 : Int32), .int (-9 : Int32)])), (aM_told, .inl (cy.1, 7, .inl m_told))] := hD
  refine lv_iconst (v := (0 : Int32)) hx hb dX10_tries_17 (by decide) ?_
  refine lv_istore_n (lv' := [(1, .int (0 : Int32)), (0, .ref aM)]) hx hb dX10_tries_18 rfl hl (by decide) rfl (fun ls hl => ?_)
  exact J19 FU (0 : Int32) (0 : Int32) (-9 : Int32) (-9 : Int32) H locs ls hP hD hS (lv_sub hl [1, 0] rfl) hf
def f_X10_better (m_thrown : Int32) (m_shut : Int64) (m_dots : Int64) (m_gain : Int32) (m_bestDot : Int32) (m_bestCell : Int32) (m_told : Nat → Int32) (x1 : Int32) : Option (Int32 × Int32 × Int32 × Int32 × Int32) := (f_X10_in x1 (0 : Int32) (2 : Int32)).bind (fun z8 => if z8 = 0 then (some ((-1 : Int32), (0 : Int32), m_gain, m_bestDot, m_bestCell)) else ((f_X10_tries m_shut m_dots m_gain m_bestDot m_bestCell m_told).bind (fun z17 => if x1 = 0 then (some ((z17.1), (0 : Int32), (z17.1), (z17.2.1), (z17.2.2))) else (if x1 = (1 : Int32) then (some ((z17.2.1), (0 : Int32), (z17.1), (z17.2.1), (z17.2.2))) else (some ((z17.2.2), (0 : Int32), (z17.1), (z17.2.1), (z17.2.2)))))))
theorem ok_X10_better : OkV yX10_better cX10_better 2 (some Jvm.ClassFile.FieldType.int) 1 := ⟨⟨tw_1013, tw_13, by decide +kernel, by decide +kernel, by decide +kernel⟩, tw_1011, tw_1012⟩
set_option maxHeartbeats 4000000 in
set_option maxRecDepth 100000 in
theorem c_X10_better (l : Launch) (D : va_G) (cy : ClassId × ClassId × ClassId) (H0 : Heap) (aM aM_told aM_draft aM_past aM_kept aM_isKept aM_seenLine aM_seenIs aM_rank aM_stage aM_text : Nat) (m_thrown : Int32) (m_shut : Int64) (m_dots : Int64) (m_draftShut : Int64) (m_draftDots : Int64) (m_undos : Int32) (m_base : Int32) (m_slopeX : Int32) (m_slopeY : Int32) (m_seen : Int32) (m_letters : Int32) (m_next : Int32) (m_begin : Int32) (m_token : Int32) (m_gain : Int32) (m_bestDot : Int32) (m_bestCell : Int32) (m_told : Nat → Int32) (x1 : Int32) (r : Int32 × Int32 × Int32 × Int32 × Int32) (hP : va_P D vwCl [(aM, .inr (10, [.int m_thrown, .ref aM_told, .ref aM_draft, .long m_shut, .long m_dots, .long m_draftShut, .long m_draftDots, .int m_undos, .ref aM_past, .ref aM_kept, .ref aM_isKept, .int m_base, .int m_slopeX, .int m_slopeY, .int m_seen, .ref aM_seenLine, .ref aM_seenIs, .ref aM_rank, .ref aM_stage, .int m_letters, .ref aM_text, .int m_next, .int m_begin, .int m_token, .int m_gain, .int m_bestDot, .int m_bestCell])), (aM_told, .inl (cy.1, 7, .inl m_told))] H0) (hD0 : va_D (fun _ => True) [(aM, .inr (10, [.int m_thrown, .ref aM_told, .ref aM_draft, .long m_shut, .long m_dots, .long m_draftShut, .long m_draftDots, .int m_undos, .ref aM_past, .ref aM_kept, .ref aM_isKept, .int m_base, .int m_slopeX, .int m_slopeY, .int m_seen, .ref aM_seenLine, .ref aM_seenIs, .ref aM_rank, .ref aM_stage, .int m_letters, .ref aM_text, .int m_next, .int m_begin, .int m_token, .int m_gain, .int m_bestDot, .int m_bestCell])), (aM_told, .inl (cy.1, 7, .inl m_told))]) (hf : f_X10_better m_thrown m_shut m_dots m_gain m_bestDot m_bestCell m_told x1 = some r) : Wr l yX10_better cX10_better 2 (some Jvm.ClassFile.FieldType.int) ({ frames := 4, cells := 0, slots := 0, locals := 99 } : Room) ([.ref aM, .int x1] : List Value) (some (.int (r.1))) D cy H0 [(aM, .inr (10, [.int m_thrown, .ref aM_told, .ref aM_draft, .long m_shut, .long m_dots, .long m_draftShut, .long m_draftDots, .int m_undos, .ref aM_past, .ref aM_kept, .ref aM_isKept, .int m_base, .int m_slopeX, .int m_slopeY, .int m_seen, .ref aM_seenLine, .ref aM_seenIs, .ref aM_rank, .ref aM_stage, .int m_letters, .ref aM_text, .int m_next, .int m_begin, .int m_token, .int m_gain, .int m_bestDot, .int m_bestCell])), (aM_told, .inl (cy.1, 7, .inl m_told))] [(aM, .inr (10, [.int (r.2.1), .ref aM_told, .ref aM_draft, .long m_shut, .long m_dots, .long m_draftShut, .long m_draftDots, .int m_undos, .ref aM_past, .ref aM_kept, .ref aM_isKept, .int m_base, .int m_slopeX, .int m_slopeY, .int m_seen, .ref aM_seenLine, .ref aM_seenIs, .ref aM_rank, .ref aM_stage, .int m_letters, .ref aM_text, .int m_next, .int m_begin, .int m_token, .int (r.2.2.1), .int (r.2.2.2.1), .int (r.2.2.2.2)])), (aM_told, .inl (cy.1, 7, .inl m_told))] := by
  refine wr_of (by decide +kernel) (Nat.le_of_ble_eq_true rfl) hD0 ?_
  intro p e s m below meth c ls A S hr hlocks hk hl hD hS hA
  obtain ⟨hx, hb, hml, hown, hts⟩ := id S
  have hl : lv_has ls 2 [(0, .ref aM), (1, .int x1)] := hl
  rw [f_X10_better] at hf
  refine lv_aload_n hx hb dX10_better_0 rfl (lv_at hl 0 rfl) ?_
  refine lv_iconst (v := (0 : Int32)) hx hb dX10_better_1 (by decide) ?_
  refine va_put (D := D) (ci := 10) (v := .int (0 : Int32)) (ty := .int) (C := RX10) (T := TX10) (N := 27) hx hb hts iX10 tyX10 tyX10_ok nmX10 hown hk.1 hP hD hS 0 rfl rfl 0 (by decide) (hts _ tw_783) (fun _ h9 => h9) rfl (by decide +kernel) rfl rfl (Nat.le_of_ble_eq_true rfl) dX10_better_2 (fun H locs hP hD hS => ?_)
  have hP : va_P D vwCl [(aM, .inr (10, [.int (0 : Int32), .ref aM_told, .ref aM_draft, .long m_shut, .long m_dots, .long m_draftShut, .long m_draftDots, .int m_undos, .ref aM_past, .ref aM_kept, .ref aM_isKept, .int m_base, .int m_slopeX, .int m_slopeY, .int m_seen, .ref aM_seenLine, .ref aM_seenIs, .ref aM_rank, .ref aM_stage, .int m_letters, .ref aM_text, .int m_next, .int m_begin, .int m_token, .int m_gain, .int m_bestDot, .int m_bestCell])), (aM_told, .inl (cy.1, 7, .inl m_told))] H := hP
  have hD : va_D A [(aM, .inr (10, [.int (0 : Int32), .ref aM_told, .ref aM_draft, .long m_shut, .long m_dots, .long m_draftShut, .long m_draftDots, .int m_undos, .ref aM_past, .ref aM_kept, .ref aM_isKept, .int m_base, .int m_slopeX, .int m_slopeY, .int m_seen, .ref aM_seenLine, .ref aM_seenIs, .ref aM_rank, .ref aM_stage, .int m_letters, .ref aM_text, .int m_next, .int m_begin, .int m_token, .int m_gain, .int m_bestDot, .int m_bestCell])), (aM_told, .inl (cy.1, 7, .inl m_told))] := hD
  refine lv_iload_n hx hb dX10_better_5 rfl (lv_at hl 1 rfl) ?_
  refine lv_iconst (v := (0 : Int32)) hx hb dX10_better_6 (by decide) ?_
  refine lv_iconst (v := (2 : Int32)) hx hb dX10_better_7 (by decide) ?_
  obtain ⟨z8, hz8, hf⟩ := q_bind hf
  refine q_rdS (As := [.int x1, .int (0 : Int32), .int (2 : Int32)]) (rest := []) (st2 := [.int z8]) S hk (c_X10_in l D cy H x1 (0 : Int32) (2 : Int32) z8 hz8) ok_X10_in tw_869 ⟨rfl, rfl, Nat.le_of_ble_eq_true rfl, Nat.le_of_ble_eq_true rfl⟩ rfl hl.1 rfl (Nat.le_of_ble_eq_true rfl) dX10_better_8 ⟨Nat.zero_le _, Nat.zero_le _⟩ rfl ?_
  refine lv_if_ne (tgt := 16) hx hb dX10_better_11 (by decide) (fun hc => ?_) (fun hc => ?_)
  · have hf := q_f hc hf
    refine lv_aload_n hx hb dX10_better_16 rfl (lv_at hl 0 rfl) ?_
    obtain ⟨z17, hz17, hf⟩ := q_bind hf
    refine q_wrV (As := []) (rest := []) (st2 := []) (ws' := [(aM, .inr (10, [.int (0 : Int32), .ref aM_told, .ref aM_draft, .long m_shut, .long m_dots, .long m_draftShut, .long m_draftDots, .int m_undos, .ref aM_past, .ref aM_kept, .ref aM_isKept, .int m_base, .int m_slopeX, .int m_slopeY, .int m_seen, .ref aM_seenLine, .ref aM_seenIs, .ref aM_rank, .ref aM_stage, .int m_letters, .ref aM_text, .int m_next, .int m_begin, .int m_token, .int (z17.1), .int (z17.2.1), .int (z17.2.2)])), (aM_told, .inl (cy.1, 7, .inl m_told))]) S hk (c_X10_tries l D cy H aM aM_told aM_draft aM_past aM_kept aM_isKept aM_seenLine aM_seenIs aM_rank aM_stage aM_text (0 : Int32) m_shut m_dots m_draftShut m_draftDots m_undos m_base m_slopeX m_slopeY m_seen m_letters m_next m_begin m_token m_gain m_bestDot m_bestCell m_told z17 (hP.sub [0, 1] rfl) (qD_sub hD [0, 1] (by decide) rfl) hz17) ok_X10_tries tw_1014 ⟨rfl, rfl, Nat.le_of_ble_eq_true rfl, Nat.le_of_ble_eq_true rfl⟩ (va_recv hk.1 hP (ci := 10) (q0 := 0) rfl rfl) rfl hl.1 rfl (Nat.le_of_ble_eq_true rfl) dX10_better_17 ⟨Nat.zero_le _, Nat.zero_le _⟩ rfl hP hD hS hA [0, 1] rfl rfl rfl rfl (fun H locs hP hD hS => ?_)
    refine lv_iload_n hx hb dX10_better_20 rfl (lv_at hl 1 rfl) ?_
    refine lv_if_ne (tgt := 31) hx hb dX10_better_21 (by decide) (fun hc => ?_) (fun hc => ?_)
    · have hf := q_f hc hf
      refine lv_iload_n hx hb dX10_better_31 rfl (lv_at hl 1 rfl) ?_
      refine lv_iconst (v := (1 : Int32)) hx hb dX10_better_32 (by decide) ?_
      refine lv_icmp_ne (tgt := 43) hx hb dX10_better_33 (by decide) (fun hc => ?_) (fun hc => ?_)
      · have hf := q_f hc hf
        refine lv_aload_n hx hb dX10_better_43 rfl (lv_at hl 0 rfl) ?_
        refine va_get (D := D) (ci := 10) (v := .int (z17.2.2)) (C := RX10) (T := TX10) (N := 27) hx hb hts iX10 hown hk.1 hP 0 rfl rfl 26 (by decide) (hts _ tw_809) (fun _ h9 => h9) rfl dX10_better_44 ?_
        have hf := Option.some.inj hf
        subst hf
        exact q_riW hP hS hx hb hr hlocks dX10_better_47
      · have hf := q_t hc hf
        refine lv_aload_n hx hb dX10_better_36 rfl (lv_at hl 0 rfl) ?_
        refine va_get (D := D) (ci := 10) (v := .int (z17.2.1)) (C := RX10) (T := TX10) (N := 27) hx hb hts iX10 hown hk.1 hP 0 rfl rfl 25 (by decide) (hts _ tw_808) (fun _ h9 => h9) rfl dX10_better_37 ?_
        refine lv_goto (tgt := 47) hx hb dX10_better_40 (by decide) ?_
        have hf := Option.some.inj hf
        subst hf
        exact q_riW hP hS hx hb hr hlocks dX10_better_47
    · have hf := q_t hc hf
      refine lv_aload_n hx hb dX10_better_24 rfl (lv_at hl 0 rfl) ?_
      refine va_get (D := D) (ci := 10) (v := .int (z17.1)) (C := RX10) (T := TX10) (N := 27) hx hb hts iX10 hown hk.1 hP 0 rfl rfl 24 (by decide) (hts _ tw_807) (fun _ h9 => h9) rfl dX10_better_25 ?_
      refine lv_goto (tgt := 47) hx hb dX10_better_28 (by decide) ?_
      have hf := Option.some.inj hf
      subst hf
      exact q_riW hP hS hx hb hr hlocks dX10_better_47
  · have hf := q_t hc hf
    refine lv_iconst (v := (-1 : Int32)) hx hb dX10_better_14 (by decide) ?_
    have hf := Option.some.inj hf
    subst hf
    exact q_riW hP hS hx hb hr hlocks dX10_better_15
def j_X10_shifted_81 (k6 : Int64 → Int32 → Option (Int64)) (x7 : Int32) (k0 : Int64) (k1 : Int64) : Option (Int64) := k6 (k0 ||| k1) (x7 + 1)
def lp_X10_shifted_6 (m_told : Nat → Int32) (x1 : Int64) (x3 : Int32) (x4 : Int32) : Nat → Int64 → Int32 → Option (Int64)
  | 0, _, _ => none
  | n + 1, x5, x7 => (f_X10_cells m_told).bind (fun z9 => if z9 ≤ x7 then (some x5) else (if inb (0 : Int32) 7 = true then (if (m_told (0 : Int32).toNatClampNeg) = 0 then none else (if inb (0 : Int32) 7 = true then (if (m_told (0 : Int32).toNatClampNeg) = 0 then none else (if inb (0 : Int32) 7 = true then (if (m_told (0 : Int32).toNatClampNeg) = 0 then none else (if inb (1 : Int32) 7 = true then (if (m_told (1 : Int32).toNatClampNeg) = 0 then none else ((f_X10_has x1 x7).bind (fun z61 => if z61 = 0 then (j_X10_shifted_81 (lp_X10_shifted_6 m_told x1 x3 x4 n) x7 x5 (0 : Int64)) else ((f_X10_at m_told (((x7 - x7 / (m_told (0 : Int32).toNatClampNeg) * (m_told (0 : Int32).toNatClampNeg)) + x3) - ((x7 - x7 / (m_told (0 : Int32).toNatClampNeg) * (m_told (0 : Int32).toNatClampNeg)) + x3) / (m_told (0 : Int32).toNatClampNeg) * (m_told (0 : Int32).toNatClampNeg)) (((x7 / (m_told (0 : Int32).toNatClampNeg)) + x4) - ((x7 / (m_told (0 : Int32).toNatClampNeg)) + x4) / (m_told (1 : Int32).toNatClampNeg) * (m_told (1 : Int32).toNatClampNeg))).bind (fun z73 => j_X10_shifted_81 (lp_X10_shifted_6 m_told x1 x3 x4 n) x7 x5 (lsh (1 : Int64) z73)))))) else none)) else none)) else none)) else none))
theorem lp_X10_shifted_6_s (m_told : Nat → Int32) (x1 : Int64) (x3 : Int32) (x4 : Int32) (n : Nat) (x5 : Int64) (x7 : Int32) : lp_X10_shifted_6 m_told x1 x3 x4 (n + 1) x5 x7 = ((f_X10_cells m_told).bind (fun z9 => if z9 ≤ x7 then (some x5) else (if inb (0 : Int32) 7 = true then (if (m_told (0 : Int32).toNatClampNeg) = 0 then none else (if inb (0 : Int32) 7 = true then (if (m_told (0 : Int32).toNatClampNeg) = 0 then none else (if inb (0 : Int32) 7 = true then (if (m_told (0 : Int32).toNatClampNeg) = 0 then none else (if inb (1 : Int32) 7 = true then (if (m_told (1 : Int32).toNatClampNeg) = 0 then none else ((f_X10_has x1 x7).bind (fun z61 => if z61 = 0 then (j_X10_shifted_81 (lp_X10_shifted_6 m_told x1 x3 x4 n) x7 x5 (0 : Int64)) else ((f_X10_at m_told (((x7 - x7 / (m_told (0 : Int32).toNatClampNeg) * (m_told (0 : Int32).toNatClampNeg)) + x3) - ((x7 - x7 / (m_told (0 : Int32).toNatClampNeg) * (m_told (0 : Int32).toNatClampNeg)) + x3) / (m_told (0 : Int32).toNatClampNeg) * (m_told (0 : Int32).toNatClampNeg)) (((x7 / (m_told (0 : Int32).toNatClampNeg)) + x4) - ((x7 / (m_told (0 : Int32).toNatClampNeg)) + x4) / (m_told (1 : Int32).toNatClampNeg) * (m_told (1 : Int32).toNatClampNeg))).bind (fun z73 => j_X10_shifted_81 (lp_X10_shifted_6 m_told x1 x3 x4 n) x7 x5 (lsh (1 : Int64) z73)))))) else none)) else none)) else none)) else none))) := rfl
theorem lp_X10_shifted_6_z (m_told : Nat → Int32) (x1 : Int64) (x3 : Int32) (x4 : Int32) (x5 : Int64) (x7 : Int32) : lp_X10_shifted_6 m_told x1 x3 x4 0 x5 x7 = none := rfl
def f_X10_shifted (m_told : Nat → Int32) (x1 : Int64) (x3 : Int32) (x4 : Int32) : Option (Int64) := lp_X10_shifted_6 m_told x1 x3 x4 FU (0 : Int64) (0 : Int32)
theorem ok_X10_shifted : OkV yX10_shifted cX10_shifted 10 (some Jvm.ClassFile.FieldType.long) 3 := ⟨⟨tw_1025, tw_13, by decide +kernel, by decide +kernel, by decide +kernel⟩, tw_1024, tp_50⟩
set_option maxHeartbeats 4000000 in
set_option maxRecDepth 100000 in
theorem c_X10_shifted (l : Launch) (D : va_G) (cy : ClassId × ClassId × ClassId) (H0 : Heap) (aM aM_told aM_draft aM_past aM_kept aM_isKept aM_seenLine aM_seenIs aM_rank aM_stage aM_text : Nat) (m_thrown : Int32) (m_shut : Int64) (m_dots : Int64) (m_draftShut : Int64) (m_draftDots : Int64) (m_undos : Int32) (m_base : Int32) (m_slopeX : Int32) (m_slopeY : Int32) (m_seen : Int32) (m_letters : Int32) (m_next : Int32) (m_begin : Int32) (m_token : Int32) (m_gain : Int32) (m_bestDot : Int32) (m_bestCell : Int32) (m_told : Nat → Int32) (x1 : Int64) (x3 : Int32) (x4 : Int32) (r : Int64) (hP : va_P D vwCl [(aM, .inr (10, [.int m_thrown, .ref aM_told, .ref aM_draft, .long m_shut, .long m_dots, .long m_draftShut, .long m_draftDots, .int m_undos, .ref aM_past, .ref aM_kept, .ref aM_isKept, .int m_base, .int m_slopeX, .int m_slopeY, .int m_seen, .ref aM_seenLine, .ref aM_seenIs, .ref aM_rank, .ref aM_stage, .int m_letters, .ref aM_text, .int m_next, .int m_begin, .int m_token, .int m_gain, .int m_bestDot, .int m_bestCell])), (aM_told, .inl (cy.1, 7, .inl m_told))] H0) (hf : f_X10_shifted m_told x1 x3 x4 = some r) : Rd l yX10_shifted cX10_shifted 10 (some Jvm.ClassFile.FieldType.long) ({ frames := 1, cells := 0, slots := 0, locals := 22 } : Room) ([.ref aM, .long x1, .int x3, .int x4] : List Value) (some (.long r)) D cy H0 := by
  refine rd_of (by decide +kernel) (Nat.le_of_ble_eq_true rfl) ?_
  intro p e s m below meth c ls S hr hlocks hk hl
  obtain ⟨hx, hb, hml, hown, hts⟩ := id S
  have hl : lv_has ls 10 [(0, .ref aM), (1, .long x1), (3, .int x3), (4, .int x4)] := hl
  rw [f_X10_shifted] at hf
  have J6 : ∀ (n6 : Nat) (x5 : Int64) (x7 : Int32) (ls : Array Slot), lv_has ls 10 [(0, .ref aM), (1, .long x1), (3, .int x3), (4, .int x4), (5, .long x5), (7, .int x7)] → lp_X10_shifted_6 m_told x1 x3 x4 n6 x5 x7 = some r → W p l e ({ frames := 1, cells := 0, slots := 0, locals := 22 } : Room) s m ([.ref aM, .long x1, .int x3, .int x4] : List Value).toArray below meth c H0 [] 0 0 (MQ below (QR (some (.long r)) H0) ([.ref aM, .long x1, .int x3, .int x4] : List Value).toArray s 0 0 (fun _ => False)) (F0 m 6 ls []) := by
    intro n6
    induction n6 with
    | zero =>
      intro x5 x7 ls hl hf
      rw [lp_X10_shifted_6_z] at hf
      cases hf
    | succ n6 ih6 =>
      have J81 : ∀ (x7 : Int32) (k0 : Int64) (k1 : Int64) (ls : Array Slot), lv_has ls 10 [(0, .ref aM), (1, .long x1), (3, .int x3), (4, .int x4), (7, .int x7)] → j_X10_shifted_81 (lp_X10_shifted_6 m_told x1 x3 x4 n6) x7 k0 k1 = some r → W p l e ({ frames := 1, cells := 0, slots := 0, locals := 22 } : Room) s m ([.ref aM, .long x1, .int x3, .int x4] : List Value).toArray below meth c H0 [] 0 0 (MQ below (QR (some (.long r)) H0) ([.ref aM, .long x1, .int x3, .int x4] : List Value).toArray s 0 0 (fun _ => False)) (F0 m 81 ls [.long k1, .long k0]) := by
        intro x7 k0 k1 ls hl hf
        rw [j_X10_shifted_81] at hf
        refine lv_lor hx hb dX10_shifted_81 ?_
        refine lv_lstore (lv' := [(5, .long (k0 ||| k1)), (0, .ref aM), (1, .long x1), (3, .int x3), (4, .int x4), (7, .int x7)]) hx hb dX10_shifted_82 hl (by decide) rfl (fun ls hl => ?_)
        refine lv_iinc (v := (x7 + 1)) (lv' := [(7, .int (x7 + 1)), (5, .long (k0 ||| k1)), (0, .ref aM), (1, .long x1), (3, .int x3), (4, .int x4)]) hx hb dX10_shifted_84 hl (k := 5) rfl rfl (by decide) rfl (fun ls hl => ?_)
        refine lv_goto (tgt := 6) hx hb dX10_shifted_87 (by decide) ?_
        exact ih6 (k0 ||| k1) (x7 + 1) ls (lv_sub hl [2, 3, 4, 5, 1, 0] rfl) hf
      intro x5 x7 ls hl hf
      rw [lp_X10_shifted_6_s] at hf
      refine lv_iload hx hb dX10_shifted_6 (lv_at hl 5 rfl) ?_
      refine lv_aload_n hx hb dX10_shifted_8 rfl (lv_at hl 0 rfl) ?_
      obtain ⟨z9, hz9, hf⟩ := q_bind hf
      refine q_rdV (As := []) (rest := [.int x7]) (st2 := [.int z9, .int x7]) S hk (c_X10_cells l D cy H0 aM aM_told aM_draft aM_past aM_kept aM_isKept aM_seenLine aM_seenIs aM_rank aM_stage aM_text m_thrown m_shut m_dots m_draftShut m_draftDots m_undos m_base m_slopeX m_slopeY m_seen m_letters m_next m_begin m_token m_gain m_bestDot m_bestCell m_told z9 (hP.sub [0, 1] rfl) hz9) ok_X10_cells tw_931 ⟨rfl, rfl, Nat.le_of_ble_eq_true rfl, Nat.le_of_ble_eq_true rfl⟩ (va_recv hk.1 hP (ci := 10) (q0 := 0) rfl rfl) rfl hl.1 rfl (Nat.le_of_ble_eq_true rfl) dX10_shifted_9 ⟨Nat.zero_le _, Nat.zero_le _⟩ rfl ?_
      refine lv_icmp_ge (tgt := 90) hx hb dX10_shifted_12 (by decide) (fun hc => ?_) (fun hc => ?_)
      · have hf := q_t hc hf
        refine lv_lload hx hb dX10_shifted_90 (lv_at hl 4 rfl) ?_
        have hf := Option.some.inj hf
        subst hf
        exact q_rlR hx hb hr hlocks dX10_shifted_92
      · have hf := q_f hc hf
        refine lv_iload hx hb dX10_shifted_15 (lv_at hl 5 rfl) ?_
        refine lv_aload_n hx hb dX10_shifted_17 rfl (lv_at hl 0 rfl) ?_
        refine va_get (D := D) (ci := 10) (v := .ref aM_told) (C := RX10) (T := TX10) (N := 27) hx hb hts iX10 hown hk.1 hP 0 rfl rfl 1 (by decide) (hts _ tw_784) (fun _ h9 => h9) rfl dX10_shifted_18 ?_
        refine lv_iconst (v := (0 : Int32)) hx hb dX10_shifted_21 (by decide) ?_
        obtain ⟨hi, hf⟩ := q_in hf
        refine va_iald hx hb hk.1 hP 1 0 rfl rfl hi dX10_shifted_22 ?_
        obtain ⟨hne, hf⟩ := q_nz hf
        refine lv_irem hx hb dX10_shifted_23 hne ?_
        refine lv_iload_n hx hb dX10_shifted_24 rfl (lv_at hl 2 rfl) ?_
        refine lv_iadd hx hb dX10_shifted_25 ?_
        refine lv_aload_n hx hb dX10_shifted_26 rfl (lv_at hl 0 rfl) ?_
        refine va_get (D := D) (ci := 10) (v := .ref aM_told) (C := RX10) (T := TX10) (N := 27) hx hb hts iX10 hown hk.1 hP 0 rfl rfl 1 (by decide) (hts _ tw_784) (fun _ h9 => h9) rfl dX10_shifted_27 ?_
        refine lv_iconst (v := (0 : Int32)) hx hb dX10_shifted_30 (by decide) ?_
        obtain ⟨hi, hf⟩ := q_in hf
        refine va_iald hx hb hk.1 hP 1 0 rfl rfl hi dX10_shifted_31 ?_
        obtain ⟨hne, hf⟩ := q_nz hf
        refine lv_irem hx hb dX10_shifted_32 hne ?_
        refine lv_istore (lv' := [(8, .int (((x7 - x7 / (m_told (0 : Int32).toNatClampNeg) * (m_told (0 : Int32).toNatClampNeg)) + x3) - ((x7 - x7 / (m_told (0 : Int32).toNatClampNeg) * (m_told (0 : Int32).toNatClampNeg)) + x3) / (m_told (0 : Int32).toNatClampNeg) * (m_told (0 : Int32).toNatClampNeg))), (0, .ref aM), (1, .long x1), (3, .int x3), (4, .int x4), (5, .long x5), (7, .int x7)]) hx hb dX10_shifted_33 hl (by decide) rfl (fun ls hl => ?_)
        refine lv_iload hx hb dX10_shifted_35 (lv_at hl 6 rfl) ?_
        refine lv_aload_n hx hb dX10_shifted_37 rfl (lv_at hl 1 rfl) ?_
        refine va_get (D := D) (ci := 10) (v := .ref aM_told) (C := RX10) (T := TX10) (N := 27) hx hb hts iX10 hown hk.1 hP 0 rfl rfl 1 (by decide) (hts _ tw_784) (fun _ h9 => h9) rfl dX10_shifted_38 ?_
        refine lv_iconst (v := (0 : Int32)) hx hb dX10_shifted_41 (by decide) ?_
        obtain ⟨hi, hf⟩ := q_in hf
        refine va_iald hx hb hk.1 hP 1 0 rfl rfl hi dX10_shifted_42 ?_
        obtain ⟨hne, hf⟩ := q_nz hf
        refine lv_idiv hx hb dX10_shifted_43 hne ?_
        refine lv_iload hx hb dX10_shifted_44 (lv_at hl 4 rfl) ?_
        refine lv_iadd hx hb dX10_shifted_46 ?_
        refine lv_aload_n hx hb dX10_shifted_47 rfl (lv_at hl 1 rfl) ?_
        refine va_get (D := D) (ci := 10) (v := .ref aM_told) (C := RX10) (T := TX10) (N := 27) hx hb hts iX10 hown hk.1 hP 0 rfl rfl 1 (by decide) (hts _ tw_784) (fun _ h9 => h9) rfl dX10_shifted_48 ?_
        refine lv_iconst (v := (1 : Int32)) hx hb dX10_shifted_51 (by decide) ?_
        obtain ⟨hi, hf⟩ := q_in hf
        refine va_iald hx hb hk.1 hP 1 0 rfl rfl hi dX10_shifted_52 ?_
        obtain ⟨hne, hf⟩ := q_nz hf
        refine lv_irem hx hb dX10_shifted_53 hne ?_
        refine lv_istore (lv' := [(9, .int (((x7 / (m_told (0 : Int32).toNatClampNeg)) + x4) - ((x7 / (m_told (0 : Int32).toNatClampNeg)) + x4) / (m_told (1 : Int32).toNatClampNeg) * (m_told (1 : Int32).toNatClampNeg))), (8, .int (((x7 - x7 / (m_told (0 : Int32).toNatClampNeg) * (m_told (0 : Int32).toNatClampNeg)) + x3) - ((x7 - x7 / (m_told (0 : Int32).toNatClampNeg) * (m_told (0 : Int32).toNatClampNeg)) + x3) / (m_told (0 : Int32).toNatClampNeg) * (m_told (0 : Int32).toNatClampNeg))), (0, .ref aM), (1, .long x1), (3, .int x3), (4, .int x4), (5, .long x5), (7, .int x7)]) hx hb dX10_shifted_54 hl (by decide) rfl (fun ls hl => ?_)
        refine lv_lload hx hb dX10_shifted_56 (lv_at hl 6 rfl) ?_
        refine lv_lload_n hx hb dX10_shifted_58 rfl (lv_at hl 3 rfl) ?_
        refine lv_iload hx hb dX10_shifted_59 (lv_at hl 7 rfl) ?_
        obtain ⟨z61, hz61, hf⟩ := q_bind hf
        refine q_rdS (As := [.long x1, .int x7]) (rest := [.long x5]) (st2 := [.int z61, .long x5]) S hk (c_X10_has l D cy H0 x1 x7 z61 hz61) ok_X10_has tw_908 ⟨rfl, rfl, Nat.le_of_ble_eq_true rfl, Nat.le_of_ble_eq_true rfl⟩ rfl hl.1 rfl (Nat.le_of_ble_eq_true rfl) dX10_shifted_61 ⟨Nat.zero_le _, Nat.zero_le _⟩ rfl ?_
        refine lv_if_eq (tgt := 80) hx hb dX10_shifted_64 (by decide) (fun hc => ?_) (fun hc => ?_)
        · have hf := q_t hc hf
          refine lv_lconst (v := (0 : Int64)) hx hb dX10_shifted_80 (by decide) ?_
          exact J81 x7 x5 (0 : Int64) ls (lv_sub hl [2, 3, 4, 5, 7] rfl) hf
        · have hf := q_f hc hf
          refine lv_lconst (v := (1 : Int64)) hx hb dX10_shifted_67 (by decide) ?_
          refine lv_aload_n hx hb dX10_shifted_68 rfl (lv_at hl 2 rfl) ?_
          refine lv_iload hx hb dX10_shifted_69 (lv_at hl 1 rfl) ?_
          refine lv_iload hx hb dX10_shifted_71 (lv_at hl 0 rfl) ?_
          obtain ⟨z73, hz73, hf⟩ := q_bind hf
          refine q_rdV (As := [.int (((x7 - x7 / (m_told (0 : Int32).toNatClampNeg) * (m_told (0 : Int32).toNatClampNeg)) + x3) - ((x7 - x7 / (m_told (0 : Int32).toNatClampNeg) * (m_told (0 : Int32).toNatClampNeg)) + x3) / (m_told (0 : Int32).toNatClampNeg) * (m_told (0 : Int32).toNatClampNeg)), .int (((x7 / (m_told (0 : Int32).toNatClampNeg)) + x4) - ((x7 / (m_told (0 : Int32).toNatClampNeg)) + x4) / (m_told (1 : Int32).toNatClampNeg) * (m_told (1 : Int32).toNatClampNeg))]) (rest := [.long (1 : Int64), .long x5]) (st2 := [.int z73, .long (1 : Int64), .long x5]) S hk (c_X10_at l D cy H0 aM aM_told aM_draft aM_past aM_kept aM_isKept aM_seenLine aM_seenIs aM_rank aM_stage aM_text m_thrown m_shut m_dots m_draftShut m_draftDots m_undos m_base m_slopeX m_slopeY m_seen m_letters m_next m_begin m_token m_gain m_bestDot m_bestCell m_told (((x7 - x7 / (m_told (0 : Int32).toNatClampNeg) * (m_told (0 : Int32).toNatClampNeg)) + x3) - ((x7 - x7 / (m_told (0 : Int32).toNatClampNeg) * (m_told (0 : Int32).toNatClampNeg)) + x3) / (m_told (0 : Int32).toNatClampNeg) * (m_told (0 : Int32).toNatClampNeg)) (((x7 / (m_told (0 : Int32).toNatClampNeg)) + x4) - ((x7 / (m_told (0 : Int32).toNatClampNeg)) + x4) / (m_told (1 : Int32).toNatClampNeg) * (m_told (1 : Int32).toNatClampNeg)) z73 (hP.sub [0, 1] rfl) hz73) ok_X10_at tw_919 ⟨rfl, rfl, Nat.le_of_ble_eq_true rfl, Nat.le_of_ble_eq_true rfl⟩ (va_recv hk.1 hP (ci := 10) (q0 := 0) rfl rfl) rfl hl.1 rfl (Nat.le_of_ble_eq_true rfl) dX10_shifted_73 ⟨Nat.zero_le _, Nat.zero_le _⟩ rfl ?_
          refine lv_lshl (v := (lsh (1 : Int64) z73)) hx hb dX10_shifted_76 rfl ?_
          refine lv_goto (tgt := 81) hx hb dX10_shifted_77 (by decide) ?_
          exact J81 x7 x5 (lsh (1 : Int64) z73) ls (lv_sub hl [2, 3, 4, 5, 7] rfl) hf
  refine lv_lconst (v := (0 : Int64)) hx hb dX10_shifted_0 (by decide) ?_
  refine lv_lstore (lv' := [(5, .long (0 : Int64)), (0, .ref aM), (1, .long x1), (3, .int x3), (4, .int x4)]) hx hb dX10_shifted_1 hl (by decide) rfl (fun ls hl => ?_)
  refine lv_iconst (v := (0 : Int32)) hx hb dX10_shifted_3 (by decide) ?_
  refine lv_istore (lv' := [(7, .int (0 : Int32)), (5, .long (0 : Int64)), (0, .ref aM), (1, .long x1), (3, .int x3), (4, .int x4)]) hx hb dX10_shifted_4 hl (by decide) rfl (fun ls hl => ?_)
  exact J6 FU (0 : Int64) (0 : Int32) ls (lv_sub hl [2, 3, 4, 5, 1, 0] rfl) hf
def j_X10_shifts_73 (k21 : Int32 → Int32 → Int32 → Int32 → Option (Int32 × Int32)) (x2 : Int32) (x3 : Int32) (k0 : Int32) (k1 : Int32) (m_thrown : Int32) : Option (Int32 × Int32) := k21 (k0 + k1) x2 (x3 + 1) m_thrown
def lp_X10_shifts_21 (m_shut : Int64) (m_dots : Int64) (m_told : Nat → Int32) (k9 : Int32 → Int32 → Int32 → Option (Int32 × Int32)) : Nat → Int32 → Int32 → Int32 → Int32 → Option (Int32 × Int32)
  | 0, _, _, _, _ => none
  | n + 1, x1, x2, x3, m_thrown => if inb (0 : Int32) 7 = true then (if (m_told (0 : Int32).toNatClampNeg) ≤ x3 then (k9 x1 (x2 + 1) m_thrown) else ((f_X10_shifted m_told m_dots x3 x2).bind (fun z39 => if (lg_cmp z39 m_dots) = 0 then ((f_X10_shifted m_told m_shut x3 x2).bind (fun z57 => if (lg_cmp z57 m_shut) = 0 then (j_X10_shifts_73 (lp_X10_shifts_21 m_shut m_dots m_told k9 n) x2 x3 x1 (1 : Int32) m_thrown) else (j_X10_shifts_73 (lp_X10_shifts_21 m_shut m_dots m_told k9 n) x2 x3 x1 (0 : Int32) m_thrown))) else (j_X10_shifts_73 (lp_X10_shifts_21 m_shut m_dots m_told k9 n) x2 x3 x1 (0 : Int32) m_thrown)))) else none
theorem lp_X10_shifts_21_s (m_shut : Int64) (m_dots : Int64) (m_told : Nat → Int32) (k9 : Int32 → Int32 → Int32 → Option (Int32 × Int32)) (n : Nat) (x1 : Int32) (x2 : Int32) (x3 : Int32) (m_thrown : Int32) : lp_X10_shifts_21 m_shut m_dots m_told k9 (n + 1) x1 x2 x3 m_thrown = (if inb (0 : Int32) 7 = true then (if (m_told (0 : Int32).toNatClampNeg) ≤ x3 then (k9 x1 (x2 + 1) m_thrown) else ((f_X10_shifted m_told m_dots x3 x2).bind (fun z39 => if (lg_cmp z39 m_dots) = 0 then ((f_X10_shifted m_told m_shut x3 x2).bind (fun z57 => if (lg_cmp z57 m_shut) = 0 then (j_X10_shifts_73 (lp_X10_shifts_21 m_shut m_dots m_told k9 n) x2 x3 x1 (1 : Int32) m_thrown) else (j_X10_shifts_73 (lp_X10_shifts_21 m_shut m_dots m_told k9 n) x2 x3 x1 (0 : Int32) m_thrown))) else (j_X10_shifts_73 (lp_X10_shifts_21 m_shut m_dots m_told k9 n) x2 x3 x1 (0 : Int32) m_thrown)))) else none) := rfl
theorem lp_X10_shifts_21_z (m_shut : Int64) (m_dots : Int64) (m_told : Nat → Int32) (k9 : Int32 → Int32 → Int32 → Option (Int32 × Int32)) (x1 : Int32) (x2 : Int32) (x3 : Int32) (m_thrown : Int32) : lp_X10_shifts_21 m_shut m_dots m_told k9 0 x1 x2 x3 m_thrown = none := rfl
def lp_X10_shifts_9 (m_shut : Int64) (m_dots : Int64) (m_told : Nat → Int32) : Nat → Int32 → Int32 → Int32 → Option (Int32 × Int32)
  | 0, _, _, _ => none
  | n + 1, x1, x2, m_thrown => if inb (1 : Int32) 7 = true then (if (m_told (1 : Int32).toNatClampNeg) ≤ x2 then (some (x1, m_thrown)) else (lp_X10_shifts_21 m_shut m_dots m_told (lp_X10_shifts_9 m_shut m_dots m_told n) FU x1 x2 (0 : Int32) m_thrown)) else none
theorem lp_X10_shifts_9_s (m_shut : Int64) (m_dots : Int64) (m_told : Nat → Int32) (n : Nat) (x1 : Int32) (x2 : Int32) (m_thrown : Int32) : lp_X10_shifts_9 m_shut m_dots m_told (n + 1) x1 x2 m_thrown = (if inb (1 : Int32) 7 = true then (if (m_told (1 : Int32).toNatClampNeg) ≤ x2 then (some (x1, m_thrown)) else (lp_X10_shifts_21 m_shut m_dots m_told (lp_X10_shifts_9 m_shut m_dots m_told n) FU x1 x2 (0 : Int32) m_thrown)) else none) := rfl
theorem lp_X10_shifts_9_z (m_shut : Int64) (m_dots : Int64) (m_told : Nat → Int32) (x1 : Int32) (x2 : Int32) (m_thrown : Int32) : lp_X10_shifts_9 m_shut m_dots m_told 0 x1 x2 m_thrown = none := rfl
def f_X10_shifts (m_thrown : Int32) (m_shut : Int64) (m_dots : Int64) (m_told : Nat → Int32) : Option (Int32 × Int32) := lp_X10_shifts_9 m_shut m_dots m_told FU (0 : Int32) (0 : Int32) (0 : Int32)
theorem ok_X10_shifts : OkV yX10_shifts cX10_shifts 4 (some Jvm.ClassFile.FieldType.int) 0 := ⟨⟨tw_1021, tw_13, by decide +kernel, by decide +kernel, by decide +kernel⟩, tw_1019, tw_1020⟩
set_option maxHeartbeats 4000000 in
set_option maxRecDepth 100000 in
theorem c_X10_shifts (l : Launch) (D : va_G) (cy : ClassId × ClassId × ClassId) (H0 : Heap) (aM aM_told aM_draft aM_past aM_kept aM_isKept aM_seenLine aM_seenIs aM_rank aM_stage aM_text : Nat) (m_thrown : Int32) (m_shut : Int64) (m_dots : Int64) (m_draftShut : Int64) (m_draftDots : Int64) (m_undos : Int32) (m_base : Int32) (m_slopeX : Int32) (m_slopeY : Int32) (m_seen : Int32) (m_letters : Int32) (m_next : Int32) (m_begin : Int32) (m_token : Int32) (m_gain : Int32) (m_bestDot : Int32) (m_bestCell : Int32) (m_told : Nat → Int32) (r : Int32 × Int32) (hP : va_P D vwCl [(aM, .inr (10, [.int m_thrown, .ref aM_told, .ref aM_draft, .long m_shut, .long m_dots, .long m_draftShut, .long m_draftDots, .int m_undos, .ref aM_past, .ref aM_kept, .ref aM_isKept, .int m_base, .int m_slopeX, .int m_slopeY, .int m_seen, .ref aM_seenLine, .ref aM_seenIs, .ref aM_rank, .ref aM_stage, .int m_letters, .ref aM_text, .int m_next, .int m_begin, .int m_token, .int m_gain, .int m_bestDot, .int m_bestCell])), (aM_told, .inl (cy.1, 7, .inl m_told))] H0) (hD0 : va_D (fun _ => True) [(aM, .inr (10, [.int m_thrown, .ref aM_told, .ref aM_draft, .long m_shut, .long m_dots, .long m_draftShut, .long m_draftDots, .int m_undos, .ref aM_past, .ref aM_kept, .ref aM_isKept, .int m_base, .int m_slopeX, .int m_slopeY, .int m_seen, .ref aM_seenLine, .ref aM_seenIs, .ref aM_rank, .ref aM_stage, .int m_letters, .ref aM_text, .int m_next, .int m_begin, .int m_token, .int m_gain, .int m_bestDot, .int m_bestCell])), (aM_told, .inl (cy.1, 7, .inl m_told))]) (hf : f_X10_shifts m_thrown m_shut m_dots m_told = some r) : Wr l yX10_shifts cX10_shifts 4 (some Jvm.ClassFile.FieldType.int) ({ frames := 2, cells := 0, slots := 0, locals := 51 } : Room) ([.ref aM] : List Value) (some (.int (r.1))) D cy H0 [(aM, .inr (10, [.int m_thrown, .ref aM_told, .ref aM_draft, .long m_shut, .long m_dots, .long m_draftShut, .long m_draftDots, .int m_undos, .ref aM_past, .ref aM_kept, .ref aM_isKept, .int m_base, .int m_slopeX, .int m_slopeY, .int m_seen, .ref aM_seenLine, .ref aM_seenIs, .ref aM_rank, .ref aM_stage, .int m_letters, .ref aM_text, .int m_next, .int m_begin, .int m_token, .int m_gain, .int m_bestDot, .int m_bestCell])), (aM_told, .inl (cy.1, 7, .inl m_told))] [(aM, .inr (10, [.int (r.2), .ref aM_told, .ref aM_draft, .long m_shut, .long m_dots, .long m_draftShut, .long m_draftDots, .int m_undos, .ref aM_past, .ref aM_kept, .ref aM_isKept, .int m_base, .int m_slopeX, .int m_slopeY, .int m_seen, .ref aM_seenLine, .ref aM_seenIs, .ref aM_rank, .ref aM_stage, .int m_letters, .ref aM_text, .int m_next, .int m_begin, .int m_token, .int m_gain, .int m_bestDot, .int m_bestCell])), (aM_told, .inl (cy.1, 7, .inl m_told))] := by
  refine wr_of (by decide +kernel) (Nat.le_of_ble_eq_true rfl) hD0 ?_
  intro p e s m below meth c ls A S hr hlocks hk hl hD hS hA
  obtain ⟨hx, hb, hml, hown, hts⟩ := id S
  have hl : lv_has ls 4 [(0, .ref aM)] := hl
  rw [f_X10_shifts] at hf
  have J9 : ∀ (n9 : Nat) (x1 : Int32) (x2 : Int32) (m_thrown : Int32) (H : Heap) (locs : List Loc) (ls : Array Slot), va_P D vwCl [(aM, .inr (10, [.int m_thrown, .ref aM_told, .ref aM_draft, .long m_shut, .long m_dots, .long m_draftShut, .long m_draftDots, .int m_undos, .ref aM_past, .ref aM_kept, .ref aM_isKept, .int m_base, .int m_slopeX, .int m_slopeY, .int m_seen, .ref aM_seenLine, .ref aM_seenIs, .ref aM_rank, .ref aM_stage, .int m_letters, .ref aM_text, .int m_next, .int m_begin, .int m_token, .int m_gain, .int m_bestDot, .int m_bestCell])), (aM_told, .inl (cy.1, 7, .inl m_told))] H → va_D A [(aM, .inr (10, [.int m_thrown, .ref aM_told, .ref aM_draft, .long m_shut, .long m_dots, .long m_draftShut, .long m_draftDots, .int m_undos, .ref aM_past, .ref aM_kept, .ref aM_isKept, .int m_base, .int m_slopeX, .int m_slopeY, .int m_seen, .ref aM_seenLine, .ref aM_seenIs, .ref aM_rank, .ref aM_stage, .int m_letters, .ref aM_text, .int m_next, .int m_begin, .int m_token, .int m_gain, .int m_bestDot, .int m_bestCell])), (aM_told, .inl (cy.1, 7, .inl m_told))] → va_S A H0 H locs → lv_has ls 4 [(0, .ref aM), (1, .int x1), (2, .int x2)] → lp_X10_shifts_9 m_shut m_dots m_told n9 x1 x2 m_thrown = some r → W p l e ({ frames := 2, cells := 0, slots := 0, locals := 51 } : Room) s m ([.ref aM] : List Value).toArray below meth c H locs 0 0 (MQ below (QW (some (.int (r.1))) D [(aM, .inr (10, [.int (r.2), .ref aM_told, .ref aM_draft, .long m_shut, .long m_dots, .long m_draftShut, .long m_draftDots, .int m_undos, .ref aM_past, .ref aM_kept, .ref aM_isKept, .int m_base, .int m_slopeX, .int m_slopeY, .int m_seen, .ref aM_seenLine, .ref aM_seenIs, .ref aM_rank, .ref aM_stage, .int m_letters, .ref aM_text, .int m_next, .int m_begin, .int m_token, .int m_gain, .int m_bestDot, .int m_bestCell])), (aM_told, .inl (cy.1, 7, .inl m_told))] H0 A) ([.ref aM] : List Value).toArray s 0 0 A) (F0 m 9 ls []) := by
    intro n9
    induction n9 with
    | zero =>
      intro x1 x2 m_thrown H locs ls hP hD hS hl hf
      rw [lp_X10_shifts_9_z] at hf
      cases hf
    | succ n9 ih9 =>
      have J21 : ∀ (n21 : Nat) (x1 : Int32) (x2 : Int32) (x3 : Int32) (m_thrown : Int32) (H : Heap) (locs : List Loc) (ls : Array Slot), va_P D vwCl [(aM, .inr (10, [.int m_thrown, .ref aM_told, .ref aM_draft, .long m_shut, .long m_dots, .long m_draftShut, .long m_draftDots, .int m_undos, .ref aM_past, .ref aM_kept, .ref aM_isKept, .int m_base, .int m_slopeX, .int m_slopeY, .int m_seen, .ref aM_seenLine, .ref aM_seenIs, .ref aM_rank, .ref aM_stage, .int m_letters, .ref aM_text, .int m_next, .int m_begin, .int m_token, .int m_gain, .int m_bestDot, .int m_bestCell])), (aM_told, .inl (cy.1, 7, .inl m_told))] H → va_D A [(aM, .inr (10, [.int m_thrown, .ref aM_told, .ref aM_draft, .long m_shut, .long m_dots, .long m_draftShut, .long m_draftDots, .int m_undos, .ref aM_past, .ref aM_kept, .ref aM_isKept, .int m_base, .int m_slopeX, .int m_slopeY, .int m_seen, .ref aM_seenLine, .ref aM_seenIs, .ref aM_rank, .ref aM_stage, .int m_letters, .ref aM_text, .int m_next, .int m_begin, .int m_token, .int m_gain, .int m_bestDot, .int m_bestCell])), (aM_told, .inl (cy.1, 7, .inl m_told))] → va_S A H0 H locs → lv_has ls 4 [(0, .ref aM), (1, .int x1), (2, .int x2), (3, .int x3)] → lp_X10_shifts_21 m_shut m_dots m_told (lp_X10_shifts_9 m_shut m_dots m_told n9) n21 x1 x2 x3 m_thrown = some r → W p l e ({ frames := 2, cells := 0, slots := 0, locals := 51 } : Room) s m ([.ref aM] : List Value).toArray below meth c H locs 0 0 (MQ below (QW (some (.int (r.1))) D [(aM, .inr (10, [.int (r.2), .ref aM_told, .ref aM_draft, .long m_shut, .long m_dots, .long m_draftShut, .long m_draftDots, .int m_undos, .ref aM_past, .ref aM_kept, .ref aM_isKept, .int m_base, .int m_slopeX, .int m_slopeY, .int m_seen, .ref aM_seenLine, .ref aM_seenIs, .ref aM_rank, .ref aM_stage, .int m_letters, .ref aM_text, .int m_next, .int m_begin, .int m_token, .int m_gain, .int m_bestDot, .int m_bestCell])), (aM_told, .inl (cy.1, 7, .inl m_told))] H0 A) ([.ref aM] : List Value).toArray s 0 0 A) (F0 m 21 ls []) := by
        intro n21
        induction n21 with
        | zero =>
          intro x1 x2 x3 m_thrown H locs ls hP hD hS hl hf
          rw [lp_X10_shifts_21_z] at hf
          cases hf
        | succ n21 ih21 =>
          have J73 : ∀ (x2 : Int32) (x3 : Int32) (k0 : Int32) (k1 : Int32) (m_thrown : Int32) (H : Heap) (locs : List Loc) (ls : Array Slot), va_P D vwCl [(aM, .inr (10, [.int m_thrown, .ref aM_told, .ref aM_draft, .long m_shut, .long m_dots, .long m_draftShut, .long m_draftDots, .int m_undos, .ref aM_past, .ref aM_kept, .ref aM_isKept, .int m_base, .int m_slopeX, .int m_slopeY, .int m_seen, .ref aM_seenLine, .ref aM_seenIs, .ref aM_rank, .ref aM_stage, .int m_letters, .ref aM_text, .int m_next, .int m_begin, .int m_token, .int m_gain, .int m_bestDot, .int m_bestCell])), (aM_told, .inl (cy.1, 7, .inl m_told))] H → va_D A [(aM, .inr (10, [.int m_thrown, .ref aM_told, .ref aM_draft, .long m_shut, .long m_dots, .long m_draftShut, .long m_draftDots, .int m_undos, .ref aM_past, .ref aM_kept, .ref aM_isKept, .int m_base, .int m_slopeX, .int m_slopeY, .int m_seen, .ref aM_seenLine, .ref aM_seenIs, .ref aM_rank, .ref aM_stage, .int m_letters, .ref aM_text, .int m_next, .int m_begin, .int m_token, .int m_gain, .int m_bestDot, .int m_bestCell])), (aM_told, .inl (cy.1, 7, .inl m_told))] → va_S A H0 H locs → lv_has ls 4 [(0, .ref aM), (2, .int x2), (3, .int x3)] → j_X10_shifts_73 (lp_X10_shifts_21 m_shut m_dots m_told (lp_X10_shifts_9 m_shut m_dots m_told n9) n21) x2 x3 k0 k1 m_thrown = some r → W p l e ({ frames := 2, cells := 0, slots := 0, locals := 51 } : Room) s m ([.ref aM] : List Value).toArray below meth c H locs 0 0 (MQ below (QW (some (.int (r.1))) D [(aM, .inr (10, [.int (r.2), .ref aM_told, .ref aM_draft, .long m_shut, .long m_dots, .long m_draftShut, .long m_draftDots, .int m_undos, .ref aM_past, .ref aM_kept, .ref aM_isKept, .int m_base, .int m_slopeX, .int m_slopeY, .int m_seen, .ref aM_seenLine, .ref aM_seenIs, .ref aM_rank, .ref aM_stage, .int m_letters, .ref aM_text, .int m_next, .int m_begin, .int m_token, .int m_gain, .int m_bestDot, .int m_bestCell])), (aM_told, .inl (cy.1, 7, .inl m_told))] H0 A) ([.ref aM] : List Value).toArray s 0 0 A) (F0 m 73 ls [.int k1, .int k0]) := by
            intro x2 x3 k0 k1 m_thrown H locs ls hP hD hS hl hf
            rw [j_X10_shifts_73] at hf
            refine lv_iadd hx hb dX10_shifts_73 ?_
            refine lv_istore_n (lv' := [(1, .int (k0 + k1)), (0, .ref aM), (2, .int x2), (3, .int x3)]) hx hb dX10_shifts_74 rfl hl (by decide) rfl (fun ls hl => ?_)
            refine lv_iinc (v := (x3 + 1)) (lv' := [(3, .int (x3 + 1)), (1, .int (k0 + k1)), (0, .ref aM), (2, .int x2)]) hx hb dX10_shifts_75 hl (k := 3) rfl rfl (by decide) rfl (fun ls hl => ?_)
            refine lv_goto (tgt := 21) hx hb dX10_shifts_78 (by decide) ?_
            exact ih21 (k0 + k1) x2 (x3 + 1) m_thrown H locs ls hP hD hS (lv_sub hl [2, 1, 3, 0] rfl) hf
          intro x1 x2 x3 m_thrown H locs ls hP hD hS hl hf
          rw [lp_X10_shifts_21_s] at hf
          refine lv_iload_n hx hb dX10_shifts_21 rfl (lv_at hl 3 rfl) ?_
          refine lv_aload_n hx hb dX10_shifts_22 rfl (lv_at hl 0 rfl) ?_
          refine va_get (D := D) (ci := 10) (v := .ref aM_told) (C := RX10) (T := TX10) (N := 27) hx hb hts iX10 hown hk.1 hP 0 rfl rfl 1 (by decide) (hts _ tw_784) (fun _ h9 => h9) rfl dX10_shifts_23 ?_
          refine lv_iconst (v := (0 : Int32)) hx hb dX10_shifts_26 (by decide) ?_
          obtain ⟨hi, hf⟩ := q_in hf
          refine va_iald hx hb hk.1 hP 1 0 rfl rfl hi dX10_shifts_27 ?_
          refine lv_icmp_ge (tgt := 81) hx hb dX10_shifts_28 (by decide) (fun hc => ?_) (fun hc => ?_)
          · have hf := q_t hc hf
            refine lv_iinc (v := (x2 + 1)) (lv' := [(2, .int (x2 + 1)), (0, .ref aM), (1, .int x1), (3, .int x3)]) hx hb dX10_shifts_81 hl (k := 2) rfl rfl (by decide) rfl (fun ls hl => ?_)
            refine lv_goto (tgt := 9) hx hb dX10_shifts_84 (by decide) ?_
            exact ih9 x1 (x2 + 1) m_thrown H locs ls hP hD hS (lv_sub hl [1, 2, 0] rfl) hf
          · have hf := q_f hc hf
            refine lv_iload_n hx hb dX10_shifts_31 rfl (lv_at hl 1 rfl) ?_
            refine lv_aload_n hx hb dX10_shifts_32 rfl (lv_at hl 0 rfl) ?_
            refine lv_aload_n hx hb dX10_shifts_33 rfl (lv_at hl 0 rfl) ?_
            refine va_get (D := D) (ci := 10) (v := .long m_dots) (C := RX10) (T := TX10) (N := 27) hx hb hts iX10 hown hk.1 hP 0 rfl rfl 4 (by decide) (hts _ tw_787) (fun _ h9 => h9) rfl dX10_shifts_34 ?_
            refine lv_iload_n hx hb dX10_shifts_37 rfl (lv_at hl 3 rfl) ?_
            refine lv_iload_n hx hb dX10_shifts_38 rfl (lv_at hl 2 rfl) ?_
            obtain ⟨z39, hz39, hf⟩ := q_bind hf
            refine q_rdV (As := [.long m_dots, .int x3, .int x2]) (rest := [.int x1]) (st2 := [.long z39, .int x1]) S hk (c_X10_shifted l D cy H aM aM_told aM_draft aM_past aM_kept aM_isKept aM_seenLine aM_seenIs aM_rank aM_stage aM_text m_thrown m_shut m_dots m_draftShut m_draftDots m_undos m_base m_slopeX m_slopeY m_seen m_letters m_next m_begin m_token m_gain m_bestDot m_bestCell m_told m_dots x3 x2 z39 (hP.sub [0, 1] rfl) hz39) ok_X10_shifted tw_1022 ⟨rfl, rfl, Nat.le_of_ble_eq_true rfl, Nat.le_of_ble_eq_true rfl⟩ (va_recv hk.1 hP (ci := 10) (q0 := 0) rfl rfl) rfl hl.1 rfl (Nat.le_of_ble_eq_true rfl) dX10_shifts_39 ⟨Nat.zero_le _, Nat.zero_le _⟩ rfl ?_
            refine lv_aload_n hx hb dX10_shifts_42 rfl (lv_at hl 0 rfl) ?_
            refine va_get (D := D) (ci := 10) (v := .long m_dots) (C := RX10) (T := TX10) (N := 27) hx hb hts iX10 hown hk.1 hP 0 rfl rfl 4 (by decide) (hts _ tw_787) (fun _ h9 => h9) rfl dX10_shifts_43 ?_
            refine W.lcmp hx hb dX10_shifts_46 ?_
            refine lv_if_ne (tgt := 72) hx hb dX10_shifts_47 (by decide) (fun hc => ?_) (fun hc => ?_)
            · have hf := q_f hc hf
              refine lv_iconst (v := (0 : Int32)) hx hb dX10_shifts_72 (by decide) ?_
              exact J73 x2 x3 x1 (0 : Int32) m_thrown H locs ls hP hD hS (lv_sub hl [0, 2, 3] rfl) hf
            · have hf := q_t hc hf
              refine lv_aload_n hx hb dX10_shifts_50 rfl (lv_at hl 0 rfl) ?_
              refine lv_aload_n hx hb dX10_shifts_51 rfl (lv_at hl 0 rfl) ?_
              refine va_get (D := D) (ci := 10) (v := .long m_shut) (C := RX10) (T := TX10) (N := 27) hx hb hts iX10 hown hk.1 hP 0 rfl rfl 3 (by decide) (hts _ tw_786) (fun _ h9 => h9) rfl dX10_shifts_52 ?_
              refine lv_iload_n hx hb dX10_shifts_55 rfl (lv_at hl 3 rfl) ?_
              refine lv_iload_n hx hb dX10_shifts_56 rfl (lv_at hl 2 rfl) ?_
              obtain ⟨z57, hz57, hf⟩ := q_bind hf
              refine q_rdV (As := [.long m_shut, .int x3, .int x2]) (rest := [.int x1]) (st2 := [.long z57, .int x1]) S hk (c_X10_shifted l D cy H aM aM_told aM_draft aM_past aM_kept aM_isKept aM_seenLine aM_seenIs aM_rank aM_stage aM_text m_thrown m_shut m_dots m_draftShut m_draftDots m_undos m_base m_slopeX m_slopeY m_seen m_letters m_next m_begin m_token m_gain m_bestDot m_bestCell m_told m_shut x3 x2 z57 (hP.sub [0, 1] rfl) hz57) ok_X10_shifted tw_1022 ⟨rfl, rfl, Nat.le_of_ble_eq_true rfl, Nat.le_of_ble_eq_true rfl⟩ (va_recv hk.1 hP (ci := 10) (q0 := 0) rfl rfl) rfl hl.1 rfl (Nat.le_of_ble_eq_true rfl) dX10_shifts_57 ⟨Nat.zero_le _, Nat.zero_le _⟩ rfl ?_
              refine lv_aload_n hx hb dX10_shifts_60 rfl (lv_at hl 0 rfl) ?_
              refine va_get (D := D) (ci := 10) (v := .long m_shut) (C := RX10) (T := TX10) (N := 27) hx hb hts iX10 hown hk.1 hP 0 rfl rfl 3 (by decide) (hts _ tw_786) (fun _ h9 => h9) rfl dX10_shifts_61 ?_
              refine W.lcmp hx hb dX10_shifts_64 ?_
              refine lv_if_ne (tgt := 72) hx hb dX10_shifts_65 (by decide) (fun hc => ?_) (fun hc => ?_)
              · have hf := q_f hc hf
                refine lv_iconst (v := (0 : Int32)) hx hb dX10_shifts_72 (by decide) ?_
                exact J73 x2 x3 x1 (0 : Int32) m_thrown H locs ls hP hD hS (lv_sub hl [0, 2, 3] rfl) hf
              · have hf := q_t hc hf
                refine lv_iconst (v := (1 : Int32)) hx hb dX10_shifts_68 (by decide) ?_
                refine lv_goto (tgt := 73) hx hb dX10_shifts_69 (by decide) ?_
                exact J73 x2 x3 x1 (1 : Int32) m_thrown H locs ls hP hD hS (lv_sub hl [0, 2, 3] rfl) hf
      intro x1 x2 m_thrown H locs ls hP hD hS hl hf
      rw [lp_X10_shifts_9_s] at hf
      refine lv_iload_n hx hb dX10_shifts_9 rfl (lv_at hl 2 rfl) ?_
      refine lv_aload_n hx hb dX10_shifts_10 rfl (lv_at hl 0 rfl) ?_
      refine va_get (D := D) (ci := 10) (v := .ref aM_told) (C := RX10) (T := TX10) (N := 27) hx hb hts iX10 hown hk.1 hP 0 rfl rfl 1 (by decide) (hts _ tw_784) (fun _ h9 => h9) rfl dX10_shifts_11 ?_
      refine lv_iconst (v := (1 : Int32)) hx hb dX10_shifts_14 (by decide) ?_
      obtain ⟨hi, hf⟩ := q_in hf
      refine va_iald hx hb hk.1 hP 1 0 rfl rfl hi dX10_shifts_15 ?_
      refine lv_icmp_ge (tgt := 87) hx hb dX10_shifts_16 (by decide) (fun hc => ?_) (fun hc => ?_)
      · have hf := q_t hc hf
        refine lv_iload_n hx hb dX10_shifts_87 rfl (lv_at hl 1 rfl) ?_
        have hf := Option.some.inj hf
        subst hf
        exact q_riW hP hS hx hb hr hlocks dX10_shifts_88
      · have hf := q_f hc hf
        refine lv_iconst (v := (0 : Int32)) hx hb dX10_shifts_19 (by decide) ?_
        refine lv_istore_n (lv' := [(3, .int (0 : Int32)), (0, .ref aM), (1, .int x1), (2, .int x2)]) hx hb dX10_shifts_20 rfl hl (by decide) rfl (fun ls hl => ?_)
        exact J21 FU x1 x2 (0 : Int32) m_thrown H locs ls hP hD hS (lv_sub hl [1, 2, 3, 0] rfl) hf
  refine lv_aload_n hx hb dX10_shifts_0 rfl (lv_at hl 0 rfl) ?_
  refine lv_iconst (v := (0 : Int32)) hx hb dX10_shifts_1 (by decide) ?_
  refine va_put (D := D) (ci := 10) (v := .int (0 : Int32)) (ty := .int) (C := RX10) (T := TX10) (N := 27) hx hb hts iX10 tyX10 tyX10_ok nmX10 hown hk.1 hP hD hS 0 rfl rfl 0 (by decide) (hts _ tw_783) (fun _ h9 => h9) rfl (by decide +kernel) rfl rfl (Nat.le_of_ble_eq_true rfl) dX10_shifts_2 (fun H locs hP hD hS => ?_)
  have hP : va_P D vwCl [(aM, .inr (10, [.int (0 : Int32), .ref aM_told, .ref aM_draft, .long m_shut, .long m_dots, .long m_draftShut, .long m_draftDots, .int m_undos, .ref aM_past, .ref aM_kept, .ref aM_isKept, .int m_base, .int m_slopeX, .int m_slopeY, .int m_seen, .ref aM_seenLine, .ref aM_seenIs, .ref aM_rank, .ref aM_stage, .int m_letters, .ref aM_text, .int m_next, .int m_begin, .int m_token, .int m_gain, .int m_bestDot, .int m_bestCell])), (aM_told, .inl (cy.1, 7, .inl m_told))] H := hP
  have hD : va_D A [(aM, .inr (10, [.int (0 : Int32), .ref aM_told, .ref aM_draft, .long m_shut, .long m_dots, .long m_draftShut, .long m_draftDots, .int m_undos, .ref aM_past, .ref aM_kept, .ref aM_isKept, .int m_base, .int m_slopeX, .int m_slopeY, .int m_seen, .ref aM_seenLine, .ref aM_seenIs, .ref aM_rank, .ref aM_stage, .int m_letters, .ref aM_text, .int m_next, .int m_begin, .int m_token, .int m_gain, .int m_bestDot, .int m_bestCell])), (aM_told, .inl (cy.1, 7, .inl m_told))] := hD
  refine lv_iconst (v := (0 : Int32)) hx hb dX10_shifts_5 (by decide) ?_
  refine lv_istore_n (lv' := [(1, .int (0 : Int32)), (0, .ref aM)]) hx hb dX10_shifts_6 rfl hl (by decide) rfl (fun ls hl => ?_)
  refine lv_iconst (v := (0 : Int32)) hx hb dX10_shifts_7 (by decide) ?_
  refine lv_istore_n (lv' := [(2, .int (0 : Int32)), (1, .int (0 : Int32)), (0, .ref aM)]) hx hb dX10_shifts_8 rfl hl (by decide) rfl (fun ls hl => ?_)
  exact J9 FU (0 : Int32) (0 : Int32) (0 : Int32) H locs ls hP hD hS (lv_sub hl [2, 1, 0] rfl) hf
