def f_X9_type (t_length : Int32) (t_letters : Nat → Int32) (x1 : Int32) : Option (Int32 × Int32 × (Nat → Int32)) := if x1 < 0 then (some ((-1 : Int32), t_length, t_letters)) else (if x1 ≤ (255 : Int32) then ((f_X8_append t_length t_letters x1).bind (fun z18 => if (z18.1) = 0 then (some ((-3 : Int32), (z18.2.1), (z18.2.2))) else (some ((z18.2.1), (z18.2.1), (z18.2.2))))) else (some ((-1 : Int32), t_length, t_letters)))
theorem ok_X9_type : OkV yX9_type cX9_type 2 (some Jvm.ClassFile.FieldType.int) 1 := ⟨⟨tw_333, tw_1, by decide +kernel, by decide +kernel, by decide +kernel⟩, tw_331, tw_332⟩
set_option maxHeartbeats 4000000 in
set_option maxRecDepth 100000 in
theorem c_X9_type (l : Launch) (D : va_G) (cy : ClassId × ClassId × ClassId) (H0 : Heap) (aD aT aT_letters aP aQ aG aHd aR aPi aS aPa aI : Nat) (t_length : Int32) (t_place : Int32) (t_next : Int32) (t_token : Int32) (t_value : Int32) (t_letters : Nat → Int32) (x1 : Int32) (r : Int32 × Int32 × (Nat → Int32)) (hP : va_P D vwCl [(aD, .inr (9, [.ref aT, .ref aP, .ref aQ, .ref aG, .ref aHd, .ref aR, .ref aPi, .ref aS, .ref aPa, .ref aI])), (aT, .inr (8, [.ref aT_letters, .int t_length, .int t_place, .int t_next, .int t_token, .int t_value])), (aT_letters, .inl (cy.1, 150, .inl t_letters))] H0) (hD0 : va_D (fun _ => True) [(aD, .inr (9, [.ref aT, .ref aP, .ref aQ, .ref aG, .ref aHd, .ref aR, .ref aPi, .ref aS, .ref aPa, .ref aI])), (aT, .inr (8, [.ref aT_letters, .int t_length, .int t_place, .int t_next, .int t_token, .int t_value])), (aT_letters, .inl (cy.1, 150, .inl t_letters))]) (hf : f_X9_type t_length t_letters x1 = some r) : Wr l yX9_type cX9_type 2 (some Jvm.ClassFile.FieldType.int) ({ frames := 1, cells := 0, slots := 0, locals := 21 } : Room) ([.ref aD, .int x1] : List Value) (some (.int (r.1))) D cy H0 [(aD, .inr (9, [.ref aT, .ref aP, .ref aQ, .ref aG, .ref aHd, .ref aR, .ref aPi, .ref aS, .ref aPa, .ref aI])), (aT, .inr (8, [.ref aT_letters, .int t_length, .int t_place, .int t_next, .int t_token, .int t_value])), (aT_letters, .inl (cy.1, 150, .inl t_letters))] [(aD, .inr (9, [.ref aT, .ref aP, .ref aQ, .ref aG, .ref aHd, .ref aR, .ref aPi, .ref aS, .ref aPa, .ref aI])), (aT, .inr (8, [.ref aT_letters, .int (r.2.1), .int t_place, .int t_next, .int t_token, .int t_value])), (aT_letters, .inl (cy.1, 150, .inl (r.2.2)))] := by
  refine wr_of (by decide +kernel) (Nat.le_of_ble_eq_true rfl) hD0 ?_
  intro p e s m below meth c ls A S hr hlocks hk hl hD hS hA
  obtain ⟨hx, hb, hml, hown, hts⟩ := id S
  have hl : lv_has ls 2 [(0, .ref aD), (1, .int x1)] := hl
  rw [f_X9_type] at hf
  refine lv_iload_n hx hb dX9_type_0 rfl (lv_at hl 1 rfl) ?_
  refine lv_if_lt (tgt := 11) hx hb dX9_type_1 (by decide) (fun hc => ?_) (fun hc => ?_)
  · have hf := q_t hc hf
    refine lv_iconst (v := (-1 : Int32)) hx hb dX9_type_11 (by decide) ?_
    have hf := Option.some.inj hf
    subst hf
    exact q_riW hP hS hx hb hr hlocks dX9_type_12
  · have hf := q_f hc hf
    refine lv_iload_n hx hb dX9_type_4 rfl (lv_at hl 1 rfl) ?_
    refine lv_sipush (v := (255 : Int32)) hx hb dX9_type_5 (by decide) ?_
    refine lv_icmp_le (tgt := 13) hx hb dX9_type_8 (by decide) (fun hc => ?_) (fun hc => ?_)
    · have hf := q_t hc hf
      refine lv_aload_n hx hb dX9_type_13 rfl (lv_at hl 0 rfl) ?_
      refine va_get (D := D) (ci := 9) (v := .ref aT) (C := RX9) (T := TX9) (N := 10) hx hb hts iX9 hown hk.1 hP 0 rfl rfl 0 (by decide) (hts _ tw_299) (fun _ h9 => h9) rfl dX9_type_14 ?_
      refine lv_iload_n hx hb dX9_type_17 rfl (lv_at hl 1 rfl) ?_
      obtain ⟨z18, hz18, hf⟩ := q_bind hf
      refine q_wrV (As := [.int x1]) (rest := []) (st2 := [.int (z18.1)]) (ws' := [(aD, .inr (9, [.ref aT, .ref aP, .ref aQ, .ref aG, .ref aHd, .ref aR, .ref aPi, .ref aS, .ref aPa, .ref aI])), (aT, .inr (8, [.ref aT_letters, .int (z18.2.1), .int t_place, .int t_next, .int t_token, .int t_value])), (aT_letters, .inl (cy.1, 150, .inl (z18.2.2)))]) S hk (c_X8_append l D cy H0 aT aT_letters t_length t_place t_next t_token t_value t_letters x1 z18 (hP.sub [1, 2] rfl) (qD_sub hD [1, 2] (by decide) rfl) hz18) ok_X8_append tw_334 ⟨rfl, rfl, Nat.le_of_ble_eq_true rfl, Nat.le_of_ble_eq_true rfl⟩ (va_recv hk.1 hP (ci := 8) (q0 := 1) rfl rfl) rfl hl.1 rfl (Nat.le_of_ble_eq_true rfl) dX9_type_18 ⟨Nat.zero_le _, Nat.zero_le _⟩ rfl hP hD hS hA [1, 2] rfl rfl rfl rfl (fun H locs hP hD hS => ?_)
      refine lv_if_eq (tgt := 34) hx hb dX9_type_21 (by decide) (fun hc => ?_) (fun hc => ?_)
      · have hf := q_t hc hf
        refine lv_bipush (v := (-3 : Int32)) hx hb dX9_type_34 (by decide) ?_
        have hf := Option.some.inj hf
        subst hf
        exact q_riW hP hS hx hb hr hlocks dX9_type_36
      · have hf := q_f hc hf
        refine lv_aload_n hx hb dX9_type_24 rfl (lv_at hl 0 rfl) ?_
        refine va_get (D := D) (ci := 9) (v := .ref aT) (C := RX9) (T := TX9) (N := 10) hx hb hts iX9 hown hk.1 hP 0 rfl rfl 0 (by decide) (hts _ tw_299) (fun _ h9 => h9) rfl dX9_type_25 ?_
        refine va_get (D := D) (ci := 8) (v := .int (z18.2.1)) (C := RX8) (T := TX8) (N := 6) hx hb hts iX8 hown hk.1 hP 1 rfl rfl 1 (by decide) (hts _ tw_32) (fun _ h9 => h9) rfl dX9_type_28 ?_
        refine lv_goto (tgt := 36) hx hb dX9_type_31 (by decide) ?_
        have hf := Option.some.inj hf
        subst hf
        exact q_riW hP hS hx hb hr hlocks dX9_type_36
    · have hf := q_f hc hf
      refine lv_iconst (v := (-1 : Int32)) hx hb dX9_type_11 (by decide) ?_
      have hf := Option.some.inj hf
      subst hf
      exact q_riW hP hS hx hb hr hlocks dX9_type_12
def f_X9_clear (t_length : Int32) : Option (Int32 × Int32) := some (t_length, (0 : Int32))
theorem ok_X9_clear : OkV yX9_clear cX9_clear 2 (some Jvm.ClassFile.FieldType.int) 0 := ⟨⟨tw_341, tw_1, by decide +kernel, by decide +kernel, by decide +kernel⟩, tw_339, tw_340⟩
set_option maxHeartbeats 4000000 in
set_option maxRecDepth 100000 in
theorem c_X9_clear (l : Launch) (D : va_G) (cy : ClassId × ClassId × ClassId) (H0 : Heap) (aD aT aT_letters aP aQ aG aHd aR aPi aS aPa aI : Nat) (t_length : Int32) (t_place : Int32) (t_next : Int32) (t_token : Int32) (t_value : Int32) (r : Int32 × Int32) (hP : va_P D vwCl [(aD, .inr (9, [.ref aT, .ref aP, .ref aQ, .ref aG, .ref aHd, .ref aR, .ref aPi, .ref aS, .ref aPa, .ref aI])), (aT, .inr (8, [.ref aT_letters, .int t_length, .int t_place, .int t_next, .int t_token, .int t_value]))] H0) (hD0 : va_D (fun _ => True) [(aD, .inr (9, [.ref aT, .ref aP, .ref aQ, .ref aG, .ref aHd, .ref aR, .ref aPi, .ref aS, .ref aPa, .ref aI])), (aT, .inr (8, [.ref aT_letters, .int t_length, .int t_place, .int t_next, .int t_token, .int t_value]))]) (hf : f_X9_clear t_length = some r) : Wr l yX9_clear cX9_clear 2 (some Jvm.ClassFile.FieldType.int) ({ frames := 0, cells := 0, slots := 0, locals := 0 } : Room) ([.ref aD] : List Value) (some (.int (r.1))) D cy H0 [(aD, .inr (9, [.ref aT, .ref aP, .ref aQ, .ref aG, .ref aHd, .ref aR, .ref aPi, .ref aS, .ref aPa, .ref aI])), (aT, .inr (8, [.ref aT_letters, .int t_length, .int t_place, .int t_next, .int t_token, .int t_value]))] [(aD, .inr (9, [.ref aT, .ref aP, .ref aQ, .ref aG, .ref aHd, .ref aR, .ref aPi, .ref aS, .ref aPa, .ref aI])), (aT, .inr (8, [.ref aT_letters, .int (r.2), .int t_place, .int t_next, .int t_token, .int t_value]))] := by
  refine wr_of (by decide +kernel) (Nat.le_of_ble_eq_true rfl) hD0 ?_
  intro p e s m below meth c ls A S hr hlocks hk hl hD hS hA
  obtain ⟨hx, hb, hml, hown, hts⟩ := id S
  have hl : lv_has ls 2 [(0, .ref aD)] := hl
  rw [f_X9_clear] at hf
  refine lv_aload_n hx hb dX9_clear_0 rfl (lv_at hl 0 rfl) ?_
  refine va_get (D := D) (ci := 9) (v := .ref aT) (C := RX9) (T := TX9) (N := 10) hx hb hts iX9 hown hk.1 hP 0 rfl rfl 0 (by decide) (hts _ tw_299) (fun _ h9 => h9) rfl dX9_clear_1 ?_
  refine va_get (D := D) (ci := 8) (v := .int t_length) (C := RX8) (T := TX8) (N := 6) hx hb hts iX8 hown hk.1 hP 1 rfl rfl 1 (by decide) (hts _ tw_32) (fun _ h9 => h9) rfl dX9_clear_4 ?_
  refine lv_istore_n (lv' := [(1, .int t_length), (0, .ref aD)]) hx hb dX9_clear_7 rfl hl (by decide) rfl (fun ls hl => ?_)
  refine lv_aload_n hx hb dX9_clear_8 rfl (lv_at hl 1 rfl) ?_
  refine va_get (D := D) (ci := 9) (v := .ref aT) (C := RX9) (T := TX9) (N := 10) hx hb hts iX9 hown hk.1 hP 0 rfl rfl 0 (by decide) (hts _ tw_299) (fun _ h9 => h9) rfl dX9_clear_9 ?_
  refine lv_iconst (v := (0 : Int32)) hx hb dX9_clear_12 (by decide) ?_
  refine va_put (D := D) (ci := 8) (v := .int (0 : Int32)) (ty := .int) (C := RX8) (T := TX8) (N := 6) hx hb hts iX8 tyX8 tyX8_ok nmX8 hown hk.1 hP hD hS 1 rfl rfl 1 (by decide) (hts _ tw_32) (fun _ h9 => h9) rfl (by decide +kernel) rfl rfl (Nat.le_of_ble_eq_true rfl) dX9_clear_13 (fun H locs hP hD hS => ?_)
  have hP : va_P D vwCl [(aD, .inr (9, [.ref aT, .ref aP, .ref aQ, .ref aG, .ref aHd, .ref aR, .ref aPi, .ref aS, .ref aPa, .ref aI])), (aT, .inr (8, [.ref aT_letters, .int (0 : Int32), .int t_place, .int t_next, .int t_token, .int t_value]))] H := hP
  have hD : va_D A [(aD, .inr (9, [.ref aT, .ref aP, .ref aQ, .ref aG, .ref aHd, .ref aR, .ref aPi, .ref aS, .ref aPa, .ref aI])), (aT, .inr (8, [.ref aT_letters, .int (0 : Int32), .int t_place, .int t_next, .int t_token, .int t_value]))] := hD
  refine lv_iload_n hx hb dX9_clear_16 rfl (lv_at hl 0 rfl) ?_
  have hf := Option.some.inj hf
  subst hf
  exact q_riW hP hS hx hb hr hlocks dX9_clear_17
def f_X9_cell (p_width : Int32) (p_height : Int32) (p_shut : Int64) (hd_holders : Int64) (x1 : Int32) (x2 : Int32) : Option (Int32) := (f_X5_numberOf p_width p_height x1 x2).bind (fun z6 => if z6 = (-1 : Int32) then (some (-1 : Int32)) else ((f_X9_has p_shut z6).bind (fun z25 => if z25 = 0 then ((f_X9_has hd_holders z6).bind (fun z41 => if z41 = 0 then (some (0 : Int32)) else (some (1 : Int32)))) else (some (2 : Int32)))))
theorem ok_X9_cell : OkV yX9_cell cX9_cell 4 (some Jvm.ClassFile.FieldType.int) 2 := ⟨⟨tw_442, tw_1, by decide +kernel, by decide +kernel, by decide +kernel⟩, tw_440, tw_441⟩
set_option maxHeartbeats 4000000 in
set_option maxRecDepth 100000 in
theorem c_X9_cell (l : Launch) (D : va_G) (cy : ClassId × ClassId × ClassId) (H0 : Heap) (aD aT aP aQ aG aHd aHd_sums aR aPi aS aPa aI : Nat) (p_width : Int32) (p_height : Int32) (p_kernel : Int32) (p_power : Int32) (p_fall : Int32) (p_ax : Int32) (p_ay : Int32) (p_shut : Int64) (p_dots : Int64) (hd_holders : Int64) (x1 : Int32) (x2 : Int32) (r : Int32) (hP : va_P D vwCl [(aD, .inr (9, [.ref aT, .ref aP, .ref aQ, .ref aG, .ref aHd, .ref aR, .ref aPi, .ref aS, .ref aPa, .ref aI])), (aP, .inr (5, [.int p_width, .int p_height, .int p_kernel, .int p_power, .int p_fall, .int p_ax, .int p_ay, .long p_shut, .long p_dots])), (aHd, .inr (1, [.ref aG, .ref aHd_sums, .long hd_holders]))] H0) (hf : f_X9_cell p_width p_height p_shut hd_holders x1 x2 = some r) : Rd l yX9_cell cX9_cell 4 (some Jvm.ClassFile.FieldType.int) ({ frames := 1, cells := 0, slots := 0, locals := 22 } : Room) ([.ref aD, .int x1, .int x2] : List Value) (some (.int r)) D cy H0 := by
  refine rd_of (by decide +kernel) (Nat.le_of_ble_eq_true rfl) ?_
  intro p e s m below meth c ls S hr hlocks hk hl
  obtain ⟨hx, hb, hml, hown, hts⟩ := id S
  have hl : lv_has ls 4 [(0, .ref aD), (1, .int x1), (2, .int x2)] := hl
  rw [f_X9_cell] at hf
  refine lv_aload_n hx hb dX9_cell_0 rfl (lv_at hl 0 rfl) ?_
  refine va_get (D := D) (ci := 9) (v := .ref aP) (C := RX9) (T := TX9) (N := 10) hx hb hts iX9 hown hk.1 hP 0 rfl rfl 1 (by decide) (hts _ tw_300) (fun _ h9 => h9) rfl dX9_cell_1 ?_
  refine lv_iload_n hx hb dX9_cell_4 rfl (lv_at hl 1 rfl) ?_
  refine lv_iload_n hx hb dX9_cell_5 rfl (lv_at hl 2 rfl) ?_
  obtain ⟨z6, hz6, hf⟩ := q_bind hf
  refine q_rdV (As := [.int x1, .int x2]) (rest := []) (st2 := [.int z6]) S hk (c_X5_numberOf l D cy H0 aP p_width p_height p_kernel p_power p_fall p_ax p_ay p_shut p_dots x1 x2 z6 (hP.sub [1] rfl) hz6) ok_X5_numberOf tw_443 ⟨rfl, rfl, Nat.le_of_ble_eq_true rfl, Nat.le_of_ble_eq_true rfl⟩ (va_recv hk.1 hP (ci := 5) (q0 := 1) rfl rfl) rfl hl.1 rfl (Nat.le_of_ble_eq_true rfl) dX9_cell_6 ⟨Nat.zero_le _, Nat.zero_le _⟩ rfl ?_
  refine lv_istore_n (lv' := [(3, .int z6), (0, .ref aD), (1, .int x1), (2, .int x2)]) hx hb dX9_cell_9 rfl hl (by decide) rfl (fun ls hl => ?_)
  refine lv_iload_n hx hb dX9_cell_10 rfl (lv_at hl 0 rfl) ?_
  refine lv_iconst (v := (-1 : Int32)) hx hb dX9_cell_11 (by decide) ?_
  refine lv_icmp_ne (tgt := 17) hx hb dX9_cell_12 (by decide) (fun hc => ?_) (fun hc => ?_)
  · have hf := q_f hc hf
    refine lv_aload_n hx hb dX9_cell_17 rfl (lv_at hl 1 rfl) ?_
    refine va_get (D := D) (ci := 9) (v := .ref aP) (C := RX9) (T := TX9) (N := 10) hx hb hts iX9 hown hk.1 hP 0 rfl rfl 1 (by decide) (hts _ tw_300) (fun _ h9 => h9) rfl dX9_cell_18 ?_
    refine va_get (D := D) (ci := 5) (v := .long p_shut) (C := RX5) (T := TX5) (N := 9) hx hb hts iX5 hown hk.1 hP 1 rfl rfl 7 (by decide) (hts _ tw_86) (fun _ h9 => h9) rfl dX9_cell_21 ?_
    refine lv_iload_n hx hb dX9_cell_24 rfl (lv_at hl 0 rfl) ?_
    obtain ⟨z25, hz25, hf⟩ := q_bind hf
    refine q_rdS (As := [.long p_shut, .int z6]) (rest := []) (st2 := [.int z25]) S hk (c_X9_has l D cy H0 p_shut z6 z25 hz25) ok_X9_has tw_444 ⟨rfl, rfl, Nat.le_of_ble_eq_true rfl, Nat.le_of_ble_eq_true rfl⟩ rfl hl.1 rfl (Nat.le_of_ble_eq_true rfl) dX9_cell_25 ⟨Nat.zero_le _, Nat.zero_le _⟩ rfl ?_
    refine lv_if_eq (tgt := 33) hx hb dX9_cell_28 (by decide) (fun hc => ?_) (fun hc => ?_)
    · have hf := q_t hc hf
      refine lv_aload_n hx hb dX9_cell_33 rfl (lv_at hl 1 rfl) ?_
      refine va_get (D := D) (ci := 9) (v := .ref aHd) (C := RX9) (T := TX9) (N := 10) hx hb hts iX9 hown hk.1 hP 0 rfl rfl 4 (by decide) (hts _ tw_303) (fun _ h9 => h9) rfl dX9_cell_34 ?_
      refine va_get (D := D) (ci := 1) (v := .long hd_holders) (C := RX1) (T := TX1) (N := 3) hx hb hts iX1 hown hk.1 hP 2 rfl rfl 2 (by decide) (hts _ tw_187) (fun _ h9 => h9) rfl dX9_cell_37 ?_
      refine lv_iload_n hx hb dX9_cell_40 rfl (lv_at hl 0 rfl) ?_
      obtain ⟨z41, hz41, hf⟩ := q_bind hf
      refine q_rdS (As := [.long hd_holders, .int z6]) (rest := []) (st2 := [.int z41]) S hk (c_X9_has l D cy H0 hd_holders z6 z41 hz41) ok_X9_has tw_444 ⟨rfl, rfl, Nat.le_of_ble_eq_true rfl, Nat.le_of_ble_eq_true rfl⟩ rfl hl.1 rfl (Nat.le_of_ble_eq_true rfl) dX9_cell_41 ⟨Nat.zero_le _, Nat.zero_le _⟩ rfl ?_
      refine lv_if_eq (tgt := 51) hx hb dX9_cell_44 (by decide) (fun hc => ?_) (fun hc => ?_)
      · have hf := q_t hc hf
        refine lv_iconst (v := (0 : Int32)) hx hb dX9_cell_51 (by decide) ?_
        have hf := Option.some.inj hf
        subst hf
        exact q_riR hx hb hr hlocks dX9_cell_52
      · have hf := q_f hc hf
        refine lv_iconst (v := (1 : Int32)) hx hb dX9_cell_47 (by decide) ?_
        refine lv_goto (tgt := 52) hx hb dX9_cell_48 (by decide) ?_
        have hf := Option.some.inj hf
        subst hf
        exact q_riR hx hb hr hlocks dX9_cell_52
    · have hf := q_f hc hf
      refine lv_iconst (v := (2 : Int32)) hx hb dX9_cell_31 (by decide) ?_
      have hf := Option.some.inj hf
      subst hf
      exact q_riR hx hb hr hlocks dX9_cell_32
  · have hf := q_t hc hf
    refine lv_iconst (v := (-1 : Int32)) hx hb dX9_cell_15 (by decide) ?_
    have hf := Option.some.inj hf
    subst hf
    exact q_riR hx hb hr hlocks dX9_cell_16
def f_X9_near (g_cells : Int32) (g_columns : Nat → Int32) (g_lines : Nat → Int32) (g_distances : Nat → Int32) (g_weights : Nat → Int32) (x1 : Int32) (x2 : Int32) (x3 : Int32) : Option (Int32) := (f_X0_isCell g_cells x1).bind (fun z5 => if z5 = 0 then (some (-1 : Int32)) else ((f_X0_isCell g_cells x2).bind (fun z16 => if z16 = 0 then (some (-1 : Int32)) else (if x3 < 0 then (some (-1 : Int32)) else (if x3 ≤ (1 : Int32) then (if x3 = 0 then ((f_X0_distance g_cells g_columns g_lines g_distances x1 x2).bind (fun z43 => some z43)) else ((f_X0_weight g_cells g_columns g_lines g_weights x1 x2).bind (fun z55 => some z55))) else (some (-1 : Int32)))))))
theorem ok_X9_near : OkV yX9_near cX9_near 4 (some Jvm.ClassFile.FieldType.int) 3 := ⟨⟨tw_448, tw_1, by decide +kernel, by decide +kernel, by decide +kernel⟩, tw_446, tw_447⟩
set_option maxHeartbeats 4000000 in
set_option maxRecDepth 100000 in
theorem c_X9_near (l : Launch) (D : va_G) (cy : ClassId × ClassId × ClassId) (H0 : Heap) (aD aT aP aQ aG aG_columns aG_lines aG_distances aG_weights aHd aR aPi aS aPa aI : Nat) (g_cells : Int32) (g_free : Int64) (g_freeCount : Int32) (g_columns : Nat → Int32) (g_lines : Nat → Int32) (g_distances : Nat → Int32) (g_weights : Nat → Int32) (x1 : Int32) (x2 : Int32) (x3 : Int32) (r : Int32) (hP : va_P D vwCl [(aD, .inr (9, [.ref aT, .ref aP, .ref aQ, .ref aG, .ref aHd, .ref aR, .ref aPi, .ref aS, .ref aPa, .ref aI])), (aG, .inr (0, [.ref aP, .ref aG_columns, .ref aG_lines, .ref aG_distances, .ref aG_weights, .int g_cells, .long g_free, .int g_freeCount])), (aG_columns, .inl (cy.1, 64, .inl g_columns)), (aG_lines, .inl (cy.1, 64, .inl g_lines)), (aG_distances, .inl (cy.1, 64, .inl g_distances)), (aG_weights, .inl (cy.1, 64, .inl g_weights))] H0) (hf : f_X9_near g_cells g_columns g_lines g_distances g_weights x1 x2 x3 = some r) : Rd l yX9_near cX9_near 4 (some Jvm.ClassFile.FieldType.int) ({ frames := 2, cells := 0, slots := 0, locals := 43 } : Room) ([.ref aD, .int x1, .int x2, .int x3] : List Value) (some (.int r)) D cy H0 := by
  refine rd_of (by decide +kernel) (Nat.le_of_ble_eq_true rfl) ?_
  intro p e s m below meth c ls S hr hlocks hk hl
  obtain ⟨hx, hb, hml, hown, hts⟩ := id S
  have hl : lv_has ls 4 [(0, .ref aD), (1, .int x1), (2, .int x2), (3, .int x3)] := hl
  rw [f_X9_near] at hf
  refine lv_aload_n hx hb dX9_near_0 rfl (lv_at hl 0 rfl) ?_
  refine va_get (D := D) (ci := 9) (v := .ref aG) (C := RX9) (T := TX9) (N := 10) hx hb hts iX9 hown hk.1 hP 0 rfl rfl 3 (by decide) (hts _ tw_302) (fun _ h9 => h9) rfl dX9_near_1 ?_
  refine lv_iload_n hx hb dX9_near_4 rfl (lv_at hl 1 rfl) ?_
  obtain ⟨z5, hz5, hf⟩ := q_bind hf
  refine q_rdV (As := [.int x1]) (rest := []) (st2 := [.int z5]) S hk (c_X0_isCell l D cy H0 aP aG aG_columns aG_lines aG_distances aG_weights g_cells g_free g_freeCount x1 z5 (hP.sub [1] rfl) hz5) ok_X0_isCell tw_449 ⟨rfl, rfl, Nat.le_of_ble_eq_true rfl, Nat.le_of_ble_eq_true rfl⟩ (va_recv hk.1 hP (ci := 0) (q0 := 1) rfl rfl) rfl hl.1 rfl (Nat.le_of_ble_eq_true rfl) dX9_near_5 ⟨Nat.zero_le _, Nat.zero_le _⟩ rfl ?_
  refine lv_if_eq (tgt := 31) hx hb dX9_near_8 (by decide) (fun hc => ?_) (fun hc => ?_)
  · have hf := q_t hc hf
    refine lv_iconst (v := (-1 : Int32)) hx hb dX9_near_31 (by decide) ?_
    have hf := Option.some.inj hf
    subst hf
    exact q_riR hx hb hr hlocks dX9_near_32
  · have hf := q_f hc hf
    refine lv_aload_n hx hb dX9_near_11 rfl (lv_at hl 0 rfl) ?_
    refine va_get (D := D) (ci := 9) (v := .ref aG) (C := RX9) (T := TX9) (N := 10) hx hb hts iX9 hown hk.1 hP 0 rfl rfl 3 (by decide) (hts _ tw_302) (fun _ h9 => h9) rfl dX9_near_12 ?_
    refine lv_iload_n hx hb dX9_near_15 rfl (lv_at hl 2 rfl) ?_
    obtain ⟨z16, hz16, hf⟩ := q_bind hf
    refine q_rdV (As := [.int x2]) (rest := []) (st2 := [.int z16]) S hk (c_X0_isCell l D cy H0 aP aG aG_columns aG_lines aG_distances aG_weights g_cells g_free g_freeCount x2 z16 (hP.sub [1] rfl) hz16) ok_X0_isCell tw_449 ⟨rfl, rfl, Nat.le_of_ble_eq_true rfl, Nat.le_of_ble_eq_true rfl⟩ (va_recv hk.1 hP (ci := 0) (q0 := 1) rfl rfl) rfl hl.1 rfl (Nat.le_of_ble_eq_true rfl) dX9_near_16 ⟨Nat.zero_le _, Nat.zero_le _⟩ rfl ?_
    refine lv_if_eq (tgt := 31) hx hb dX9_near_19 (by decide) (fun hc => ?_) (fun hc => ?_)
    · have hf := q_t hc hf
      refine lv_iconst (v := (-1 : Int32)) hx hb dX9_near_31 (by decide) ?_
      have hf := Option.some.inj hf
      subst hf
      exact q_riR hx hb hr hlocks dX9_near_32
    · have hf := q_f hc hf
      refine lv_iload_n hx hb dX9_near_22 rfl (lv_at hl 3 rfl) ?_
      refine lv_if_lt (tgt := 31) hx hb dX9_near_23 (by decide) (fun hc => ?_) (fun hc => ?_)
      · have hf := q_t hc hf
        refine lv_iconst (v := (-1 : Int32)) hx hb dX9_near_31 (by decide) ?_
        have hf := Option.some.inj hf
        subst hf
        exact q_riR hx hb hr hlocks dX9_near_32
      · have hf := q_f hc hf
        refine lv_iload_n hx hb dX9_near_26 rfl (lv_at hl 3 rfl) ?_
        refine lv_iconst (v := (1 : Int32)) hx hb dX9_near_27 (by decide) ?_
        refine lv_icmp_le (tgt := 33) hx hb dX9_near_28 (by decide) (fun hc => ?_) (fun hc => ?_)
        · have hf := q_t hc hf
          refine lv_iload_n hx hb dX9_near_33 rfl (lv_at hl 3 rfl) ?_
          refine lv_if_ne (tgt := 49) hx hb dX9_near_34 (by decide) (fun hc => ?_) (fun hc => ?_)
          · have hf := q_f hc hf
            refine lv_aload_n hx hb dX9_near_49 rfl (lv_at hl 0 rfl) ?_
            refine va_get (D := D) (ci := 9) (v := .ref aG) (C := RX9) (T := TX9) (N := 10) hx hb hts iX9 hown hk.1 hP 0 rfl rfl 3 (by decide) (hts _ tw_302) (fun _ h9 => h9) rfl dX9_near_50 ?_
            refine lv_iload_n hx hb dX9_near_53 rfl (lv_at hl 1 rfl) ?_
            refine lv_iload_n hx hb dX9_near_54 rfl (lv_at hl 2 rfl) ?_
            obtain ⟨z55, hz55, hf⟩ := q_bind hf
            refine q_rdV (As := [.int x1, .int x2]) (rest := []) (st2 := [.int z55]) S hk (c_X0_weight l D cy H0 aP aG aG_columns aG_lines aG_distances aG_weights g_cells g_free g_freeCount g_columns g_lines g_weights x1 x2 z55 (hP.sub [1, 2, 3, 5] rfl) hz55) ok_X0_weight tw_454 ⟨rfl, rfl, Nat.le_of_ble_eq_true rfl, Nat.le_of_ble_eq_true rfl⟩ (va_recv hk.1 hP (ci := 0) (q0 := 1) rfl rfl) rfl hl.1 rfl (Nat.le_of_ble_eq_true rfl) dX9_near_55 ⟨Nat.zero_le _, Nat.zero_le _⟩ rfl ?_
            have hf := Option.some.inj hf
            subst hf
            exact q_riR hx hb hr hlocks dX9_near_58
          · have hf := q_t hc hf
            refine lv_aload_n hx hb dX9_near_37 rfl (lv_at hl 0 rfl) ?_
            refine va_get (D := D) (ci := 9) (v := .ref aG) (C := RX9) (T := TX9) (N := 10) hx hb hts iX9 hown hk.1 hP 0 rfl rfl 3 (by decide) (hts _ tw_302) (fun _ h9 => h9) rfl dX9_near_38 ?_
            refine lv_iload_n hx hb dX9_near_41 rfl (lv_at hl 1 rfl) ?_
            refine lv_iload_n hx hb dX9_near_42 rfl (lv_at hl 2 rfl) ?_
            obtain ⟨z43, hz43, hf⟩ := q_bind hf
            refine q_rdV (As := [.int x1, .int x2]) (rest := []) (st2 := [.int z43]) S hk (c_X0_distance l D cy H0 aP aG aG_columns aG_lines aG_distances aG_weights g_cells g_free g_freeCount g_columns g_lines g_distances x1 x2 z43 (hP.sub [1, 2, 3, 4] rfl) hz43) ok_X0_distance tw_450 ⟨rfl, rfl, Nat.le_of_ble_eq_true rfl, Nat.le_of_ble_eq_true rfl⟩ (va_recv hk.1 hP (ci := 0) (q0 := 1) rfl rfl) rfl hl.1 rfl (Nat.le_of_ble_eq_true rfl) dX9_near_43 ⟨Nat.zero_le _, Nat.zero_le _⟩ rfl ?_
            refine lv_goto (tgt := 58) hx hb dX9_near_46 (by decide) ?_
            have hf := Option.some.inj hf
            subst hf
            exact q_riR hx hb hr hlocks dX9_near_58
        · have hf := q_f hc hf
          refine lv_iconst (v := (-1 : Int32)) hx hb dX9_near_31 (by decide) ?_
          have hf := Option.some.inj hf
          subst hf
          exact q_riR hx hb hr hlocks dX9_near_32
def f_X9_flips (p_width : Int32) (p_height : Int32) (p_shut : Int64) (g_cells : Int32) (g_columns : Nat → Int32) (g_lines : Nat → Int32) (g_weights : Nat → Int32) (hd_holders : Int64) (hd_sums : Nat → Int32) (pa_size : Int32) (pa_known : Nat → Int64) (x1 : Int32) (x2 : Int32) : Option (Int32 × Int64 × (Nat → Int32) × Int32 × (Nat → Int64)) := (f_X5_numberOf p_width p_height x1 x2).bind (fun z6 => if z6 = (-1 : Int32) then (some ((-1 : Int32), hd_holders, hd_sums, pa_size, pa_known)) else ((f_X9_has p_shut z6).bind (fun z25 => if z25 = 0 then ((f_X3_remember pa_size pa_known hd_holders).bind (fun z45 => (f_X1_flip g_cells g_columns g_lines g_weights hd_holders hd_sums z6).bind (fun z53 => (f_X9_has (z53.1) z6).bind (fun z64 => if z64 = 0 then (some ((0 : Int32), (z53.1), (z53.2), (z45.1), (z45.2))) else (some ((1 : Int32), (z53.1), (z53.2), (z45.1), (z45.2))))))) else (some ((-2 : Int32), hd_holders, hd_sums, pa_size, pa_known)))))
theorem ok_X9_flips : OkV yX9_flips cX9_flips 4 (some Jvm.ClassFile.FieldType.int) 2 := ⟨⟨tw_458, tw_1, by decide +kernel, by decide +kernel, by decide +kernel⟩, tw_456, tw_457⟩
set_option maxHeartbeats 4000000 in
set_option maxRecDepth 100000 in
theorem c_X9_flips (l : Launch) (D : va_G) (cy : ClassId × ClassId × ClassId) (H0 : Heap) (aD aT aP aQ aG aG_columns aG_lines aG_distances aG_weights aHd aHd_sums aR aPi aS aPa aPa_known aI : Nat) (p_width : Int32) (p_height : Int32) (p_kernel : Int32) (p_power : Int32) (p_fall : Int32) (p_ax : Int32) (p_ay : Int32) (p_shut : Int64) (p_dots : Int64) (g_cells : Int32) (g_free : Int64) (g_freeCount : Int32) (g_columns : Nat → Int32) (g_lines : Nat → Int32) (g_weights : Nat → Int32) (hd_holders : Int64) (hd_sums : Nat → Int32) (pa_size : Int32) (pa_known : Nat → Int64) (x1 : Int32) (x2 : Int32) (r : Int32 × Int64 × (Nat → Int32) × Int32 × (Nat → Int64)) (hP : va_P D vwCl [(aD, .inr (9, [.ref aT, .ref aP, .ref aQ, .ref aG, .ref aHd, .ref aR, .ref aPi, .ref aS, .ref aPa, .ref aI])), (aP, .inr (5, [.int p_width, .int p_height, .int p_kernel, .int p_power, .int p_fall, .int p_ax, .int p_ay, .long p_shut, .long p_dots])), (aG, .inr (0, [.ref aP, .ref aG_columns, .ref aG_lines, .ref aG_distances, .ref aG_weights, .int g_cells, .long g_free, .int g_freeCount])), (aG_columns, .inl (cy.1, 64, .inl g_columns)), (aG_lines, .inl (cy.1, 64, .inl g_lines)), (aG_weights, .inl (cy.1, 64, .inl g_weights)), (aHd, .inr (1, [.ref aG, .ref aHd_sums, .long hd_holders])), (aHd_sums, .inl (cy.1, 64, .inl hd_sums)), (aPa, .inr (3, [.ref aPa_known, .int pa_size])), (aPa_known, .inl (cy.2.1, 10, .inr (.inl pa_known)))] H0) (hD0 : va_D (fun _ => True) [(aD, .inr (9, [.ref aT, .ref aP, .ref aQ, .ref aG, .ref aHd, .ref aR, .ref aPi, .ref aS, .ref aPa, .ref aI])), (aP, .inr (5, [.int p_width, .int p_height, .int p_kernel, .int p_power, .int p_fall, .int p_ax, .int p_ay, .long p_shut, .long p_dots])), (aG, .inr (0, [.ref aP, .ref aG_columns, .ref aG_lines, .ref aG_distances, .ref aG_weights, .int g_cells, .long g_free, .int g_freeCount])), (aG_columns, .inl (cy.1, 64, .inl g_columns)), (aG_lines, .inl (cy.1, 64, .inl g_lines)), (aG_weights, .inl (cy.1, 64, .inl g_weights)), (aHd, .inr (1, [.ref aG, .ref aHd_sums, .long hd_holders])), (aHd_sums, .inl (cy.1, 64, .inl hd_sums)), (aPa, .inr (3, [.ref aPa_known, .int pa_size])), (aPa_known, .inl (cy.2.1, 10, .inr (.inl pa_known)))]) (hf : f_X9_flips p_width p_height p_shut g_cells g_columns g_lines g_weights hd_holders hd_sums pa_size pa_known x1 x2 = some r) : Wr l yX9_flips cX9_flips 4 (some Jvm.ClassFile.FieldType.int) ({ frames := 3, cells := 0, slots := 0, locals := 66 } : Room) ([.ref aD, .int x1, .int x2] : List Value) (some (.int (r.1))) D cy H0 [(aD, .inr (9, [.ref aT, .ref aP, .ref aQ, .ref aG, .ref aHd, .ref aR, .ref aPi, .ref aS, .ref aPa, .ref aI])), (aP, .inr (5, [.int p_width, .int p_height, .int p_kernel, .int p_power, .int p_fall, .int p_ax, .int p_ay, .long p_shut, .long p_dots])), (aG, .inr (0, [.ref aP, .ref aG_columns, .ref aG_lines, .ref aG_distances, .ref aG_weights, .int g_cells, .long g_free, .int g_freeCount])), (aG_columns, .inl (cy.1, 64, .inl g_columns)), (aG_lines, .inl (cy.1, 64, .inl g_lines)), (aG_weights, .inl (cy.1, 64, .inl g_weights)), (aHd, .inr (1, [.ref aG, .ref aHd_sums, .long hd_holders])), (aHd_sums, .inl (cy.1, 64, .inl hd_sums)), (aPa, .inr (3, [.ref aPa_known, .int pa_size])), (aPa_known, .inl (cy.2.1, 10, .inr (.inl pa_known)))] [(aD, .inr (9, [.ref aT, .ref aP, .ref aQ, .ref aG, .ref aHd, .ref aR, .ref aPi, .ref aS, .ref aPa, .ref aI])), (aP, .inr (5, [.int p_width, .int p_height, .int p_kernel, .int p_power, .int p_fall, .int p_ax, .int p_ay, .long p_shut, .long p_dots])), (aG, .inr (0, [.ref aP, .ref aG_columns, .ref aG_lines, .ref aG_distances, .ref aG_weights, .int g_cells, .long g_free, .int g_freeCount])), (aG_columns, .inl (cy.1, 64, .inl g_columns)), (aG_lines, .inl (cy.1, 64, .inl g_lines)), (aG_weights, .inl (cy.1, 64, .inl g_weights)), (aHd, .inr (1, [.ref aG, .ref aHd_sums, .long (r.2.1)])), (aHd_sums, .inl (cy.1, 64, .inl (r.2.2.1))), (aPa, .inr (3, [.ref aPa_known, .int (r.2.2.2.1)])), (aPa_known, .inl (cy.2.1, 10, .inr (.inl (r.2.2.2.2))))] := by
  refine wr_of (by decide +kernel) (Nat.le_of_ble_eq_true rfl) hD0 ?_
  intro p e s m below meth c ls A S hr hlocks hk hl hD hS hA
  obtain ⟨hx, hb, hml, hown, hts⟩ := id S
  have hl : lv_has ls 4 [(0, .ref aD), (1, .int x1), (2, .int x2)] := hl
  rw [f_X9_flips] at hf
  refine lv_aload_n hx hb dX9_flips_0 rfl (lv_at hl 0 rfl) ?_
  refine va_get (D := D) (ci := 9) (v := .ref aP) (C := RX9) (T := TX9) (N := 10) hx hb hts iX9 hown hk.1 hP 0 rfl rfl 1 (by decide) (hts _ tw_300) (fun _ h9 => h9) rfl dX9_flips_1 ?_
  refine lv_iload_n hx hb dX9_flips_4 rfl (lv_at hl 1 rfl) ?_
  refine lv_iload_n hx hb dX9_flips_5 rfl (lv_at hl 2 rfl) ?_
  obtain ⟨z6, hz6, hf⟩ := q_bind hf
  refine q_rdV (As := [.int x1, .int x2]) (rest := []) (st2 := [.int z6]) S hk (c_X5_numberOf l D cy H0 aP p_width p_height p_kernel p_power p_fall p_ax p_ay p_shut p_dots x1 x2 z6 (hP.sub [1] rfl) hz6) ok_X5_numberOf tw_443 ⟨rfl, rfl, Nat.le_of_ble_eq_true rfl, Nat.le_of_ble_eq_true rfl⟩ (va_recv hk.1 hP (ci := 5) (q0 := 1) rfl rfl) rfl hl.1 rfl (Nat.le_of_ble_eq_true rfl) dX9_flips_6 ⟨Nat.zero_le _, Nat.zero_le _⟩ rfl ?_
  refine lv_istore_n (lv' := [(3, .int z6), (0, .ref aD), (1, .int x1), (2, .int x2)]) hx hb dX9_flips_9 rfl hl (by decide) rfl (fun ls hl => ?_)
  refine lv_iload_n hx hb dX9_flips_10 rfl (lv_at hl 0 rfl) ?_
  refine lv_iconst (v := (-1 : Int32)) hx hb dX9_flips_11 (by decide) ?_
  refine lv_icmp_ne (tgt := 17) hx hb dX9_flips_12 (by decide) (fun hc => ?_) (fun hc => ?_)
  · have hf := q_f hc hf
    refine lv_aload_n hx hb dX9_flips_17 rfl (lv_at hl 1 rfl) ?_
    refine va_get (D := D) (ci := 9) (v := .ref aP) (C := RX9) (T := TX9) (N := 10) hx hb hts iX9 hown hk.1 hP 0 rfl rfl 1 (by decide) (hts _ tw_300) (fun _ h9 => h9) rfl dX9_flips_18 ?_
    refine va_get (D := D) (ci := 5) (v := .long p_shut) (C := RX5) (T := TX5) (N := 9) hx hb hts iX5 hown hk.1 hP 1 rfl rfl 7 (by decide) (hts _ tw_86) (fun _ h9 => h9) rfl dX9_flips_21 ?_
    refine lv_iload_n hx hb dX9_flips_24 rfl (lv_at hl 0 rfl) ?_
    obtain ⟨z25, hz25, hf⟩ := q_bind hf
    refine q_rdS (As := [.long p_shut, .int z6]) (rest := []) (st2 := [.int z25]) S hk (c_X9_has l D cy H0 p_shut z6 z25 hz25) ok_X9_has tw_444 ⟨rfl, rfl, Nat.le_of_ble_eq_true rfl, Nat.le_of_ble_eq_true rfl⟩ rfl hl.1 rfl (Nat.le_of_ble_eq_true rfl) dX9_flips_25 ⟨Nat.zero_le _, Nat.zero_le _⟩ rfl ?_
    refine lv_if_eq (tgt := 34) hx hb dX9_flips_28 (by decide) (fun hc => ?_) (fun hc => ?_)
    · have hf := q_t hc hf
      refine lv_aload_n hx hb dX9_flips_34 rfl (lv_at hl 1 rfl) ?_
      refine va_get (D := D) (ci := 9) (v := .ref aPa) (C := RX9) (T := TX9) (N := 10) hx hb hts iX9 hown hk.1 hP 0 rfl rfl 8 (by decide) (hts _ tw_307) (fun _ h9 => h9) rfl dX9_flips_35 ?_
      refine lv_aload_n hx hb dX9_flips_38 rfl (lv_at hl 1 rfl) ?_
      refine va_get (D := D) (ci := 9) (v := .ref aHd) (C := RX9) (T := TX9) (N := 10) hx hb hts iX9 hown hk.1 hP 0 rfl rfl 4 (by decide) (hts _ tw_303) (fun _ h9 => h9) rfl dX9_flips_39 ?_
      refine va_get (D := D) (ci := 1) (v := .long hd_holders) (C := RX1) (T := TX1) (N := 3) hx hb hts iX1 hown hk.1 hP 6 rfl rfl 2 (by decide) (hts _ tw_187) (fun _ h9 => h9) rfl dX9_flips_42 ?_
      obtain ⟨z45, hz45, hf⟩ := q_bind hf
      refine q_wrV (As := [.long hd_holders]) (rest := []) (st2 := []) (ws' := [(aD, .inr (9, [.ref aT, .ref aP, .ref aQ, .ref aG, .ref aHd, .ref aR, .ref aPi, .ref aS, .ref aPa, .ref aI])), (aP, .inr (5, [.int p_width, .int p_height, .int p_kernel, .int p_power, .int p_fall, .int p_ax, .int p_ay, .long p_shut, .long p_dots])), (aG, .inr (0, [.ref aP, .ref aG_columns, .ref aG_lines, .ref aG_distances, .ref aG_weights, .int g_cells, .long g_free, .int g_freeCount])), (aG_columns, .inl (cy.1, 64, .inl g_columns)), (aG_lines, .inl (cy.1, 64, .inl g_lines)), (aG_weights, .inl (cy.1, 64, .inl g_weights)), (aHd, .inr (1, [.ref aG, .ref aHd_sums, .long hd_holders])), (aHd_sums, .inl (cy.1, 64, .inl hd_sums)), (aPa, .inr (3, [.ref aPa_known, .int (z45.1)])), (aPa_known, .inl (cy.2.1, 10, .inr (.inl (z45.2))))]) S hk (c_X3_remember l D cy H0 aPa aPa_known pa_size pa_known hd_holders z45 (hP.sub [8, 9] rfl) (qD_sub hD [8, 9] (by decide) rfl) hz45) ok_X3_remember tw_459 ⟨rfl, rfl, Nat.le_of_ble_eq_true rfl, Nat.le_of_ble_eq_true rfl⟩ (va_recv hk.1 hP (ci := 3) (q0 := 8) rfl rfl) rfl hl.1 rfl (Nat.le_of_ble_eq_true rfl) dX9_flips_45 ⟨Nat.zero_le _, Nat.zero_le _⟩ rfl hP hD hS hA [8, 9] rfl rfl rfl rfl (fun H locs hP hD hS => ?_)
      refine lv_aload_n hx hb dX9_flips_48 rfl (lv_at hl 1 rfl) ?_
      refine va_get (D := D) (ci := 9) (v := .ref aHd) (C := RX9) (T := TX9) (N := 10) hx hb hts iX9 hown hk.1 hP 0 rfl rfl 4 (by decide) (hts _ tw_303) (fun _ h9 => h9) rfl dX9_flips_49 ?_
      refine lv_iload_n hx hb dX9_flips_52 rfl (lv_at hl 0 rfl) ?_
      obtain ⟨z53, hz53, hf⟩ := q_bind hf
      refine q_wrV (As := [.int z6]) (rest := []) (st2 := []) (ws' := [(aD, .inr (9, [.ref aT, .ref aP, .ref aQ, .ref aG, .ref aHd, .ref aR, .ref aPi, .ref aS, .ref aPa, .ref aI])), (aP, .inr (5, [.int p_width, .int p_height, .int p_kernel, .int p_power, .int p_fall, .int p_ax, .int p_ay, .long p_shut, .long p_dots])), (aG, .inr (0, [.ref aP, .ref aG_columns, .ref aG_lines, .ref aG_distances, .ref aG_weights, .int g_cells, .long g_free, .int g_freeCount])), (aG_columns, .inl (cy.1, 64, .inl g_columns)), (aG_lines, .inl (cy.1, 64, .inl g_lines)), (aG_weights, .inl (cy.1, 64, .inl g_weights)), (aHd, .inr (1, [.ref aG, .ref aHd_sums, .long (z53.1)])), (aHd_sums, .inl (cy.1, 64, .inl (z53.2))), (aPa, .inr (3, [.ref aPa_known, .int (z45.1)])), (aPa_known, .inl (cy.2.1, 10, .inr (.inl (z45.2))))]) S hk (c_X1_flip l D cy H aP aG aG_columns aG_lines aG_distances aG_weights aHd aHd_sums g_cells g_free g_freeCount g_columns g_lines g_weights hd_holders hd_sums z6 z53 (hP.sub [2, 3, 4, 5, 6, 7] rfl) (qD_sub hD [2, 3, 4, 5, 6, 7] (by decide) rfl) hz53) ok_X1_flip tw_466 ⟨rfl, rfl, Nat.le_of_ble_eq_true rfl, Nat.le_of_ble_eq_true rfl⟩ (va_recv hk.1 hP (ci := 1) (q0 := 6) rfl rfl) rfl hl.1 rfl (Nat.le_of_ble_eq_true rfl) dX9_flips_53 ⟨Nat.zero_le _, Nat.zero_le _⟩ rfl hP hD hS hA [2, 3, 4, 5, 6, 7] rfl rfl rfl rfl (fun H locs hP hD hS => ?_)
      refine lv_aload_n hx hb dX9_flips_56 rfl (lv_at hl 1 rfl) ?_
      refine va_get (D := D) (ci := 9) (v := .ref aHd) (C := RX9) (T := TX9) (N := 10) hx hb hts iX9 hown hk.1 hP 0 rfl rfl 4 (by decide) (hts _ tw_303) (fun _ h9 => h9) rfl dX9_flips_57 ?_
      refine va_get (D := D) (ci := 1) (v := .long (z53.1)) (C := RX1) (T := TX1) (N := 3) hx hb hts iX1 hown hk.1 hP 6 rfl rfl 2 (by decide) (hts _ tw_187) (fun _ h9 => h9) rfl dX9_flips_60 ?_
      refine lv_iload_n hx hb dX9_flips_63 rfl (lv_at hl 0 rfl) ?_
      obtain ⟨z64, hz64, hf⟩ := q_bind hf
      refine q_rdS (As := [.long (z53.1), .int z6]) (rest := []) (st2 := [.int z64]) S hk (c_X9_has l D cy H (z53.1) z6 z64 hz64) ok_X9_has tw_444 ⟨rfl, rfl, Nat.le_of_ble_eq_true rfl, Nat.le_of_ble_eq_true rfl⟩ rfl hl.1 rfl (Nat.le_of_ble_eq_true rfl) dX9_flips_64 ⟨Nat.zero_le _, Nat.zero_le _⟩ rfl ?_
      refine lv_if_eq (tgt := 74) hx hb dX9_flips_67 (by decide) (fun hc => ?_) (fun hc => ?_)
      · have hf := q_t hc hf
        refine lv_iconst (v := (0 : Int32)) hx hb dX9_flips_74 (by decide) ?_
        have hf := Option.some.inj hf
        subst hf
        exact q_riW hP hS hx hb hr hlocks dX9_flips_75
      · have hf := q_f hc hf
        refine lv_iconst (v := (1 : Int32)) hx hb dX9_flips_70 (by decide) ?_
        refine lv_goto (tgt := 75) hx hb dX9_flips_71 (by decide) ?_
        have hf := Option.some.inj hf
        subst hf
        exact q_riW hP hS hx hb hr hlocks dX9_flips_75
    · have hf := q_f hc hf
      refine lv_bipush (v := (-2 : Int32)) hx hb dX9_flips_31 (by decide) ?_
      have hf := Option.some.inj hf
      subst hf
      exact q_riW hP hS hx hb hr hlocks dX9_flips_33
  · have hf := q_t hc hf
    refine lv_iconst (v := (-1 : Int32)) hx hb dX9_flips_15 (by decide) ?_
    have hf := Option.some.inj hf
    subst hf
    exact q_riW hP hS hx hb hr hlocks dX9_flips_16
def f_X9_noDots (hd_holders : Int64) : Option (Int32) := if (lg_cmp hd_holders (0 : Int64)) = 0 then (some (1 : Int32)) else (some (0 : Int32))
theorem ok_X9_noDots : OkV yX9_noDots cX9_noDots 1 (some Jvm.ClassFile.FieldType.boolean) 0 := ⟨⟨tw_474, tw_1, by decide +kernel, by decide +kernel, by decide +kernel⟩, tw_473, tp_8⟩
set_option maxHeartbeats 4000000 in
set_option maxRecDepth 100000 in
theorem c_X9_noDots (l : Launch) (D : va_G) (cy : ClassId × ClassId × ClassId) (H0 : Heap) (aD aT aP aQ aG aHd aHd_sums aR aPi aS aPa aI : Nat) (hd_holders : Int64) (r : Int32) (hP : va_P D vwCl [(aD, .inr (9, [.ref aT, .ref aP, .ref aQ, .ref aG, .ref aHd, .ref aR, .ref aPi, .ref aS, .ref aPa, .ref aI])), (aHd, .inr (1, [.ref aG, .ref aHd_sums, .long hd_holders]))] H0) (hf : f_X9_noDots hd_holders = some r) : Rd l yX9_noDots cX9_noDots 1 (some Jvm.ClassFile.FieldType.boolean) ({ frames := 0, cells := 0, slots := 0, locals := 0 } : Room) ([.ref aD] : List Value) (some (.int r)) D cy H0 := by
  refine rd_of (by decide +kernel) (Nat.le_of_ble_eq_true rfl) ?_
  intro p e s m below meth c ls S hr hlocks hk hl
  obtain ⟨hx, hb, hml, hown, hts⟩ := id S
  have hl : lv_has ls 1 [(0, .ref aD)] := hl
  rw [f_X9_noDots] at hf
  refine lv_aload_n hx hb dX9_noDots_0 rfl (lv_at hl 0 rfl) ?_
  refine va_get (D := D) (ci := 9) (v := .ref aHd) (C := RX9) (T := TX9) (N := 10) hx hb hts iX9 hown hk.1 hP 0 rfl rfl 4 (by decide) (hts _ tw_303) (fun _ h9 => h9) rfl dX9_noDots_1 ?_
  refine va_get (D := D) (ci := 1) (v := .long hd_holders) (C := RX1) (T := TX1) (N := 3) hx hb hts iX1 hown hk.1 hP 1 rfl rfl 2 (by decide) (hts _ tw_187) (fun _ h9 => h9) rfl dX9_noDots_4 ?_
  refine lv_lconst (v := (0 : Int64)) hx hb dX9_noDots_7 (by decide) ?_
  refine W.lcmp hx hb dX9_noDots_8 ?_
  refine lv_if_ne (tgt := 16) hx hb dX9_noDots_9 (by decide) (fun hc => ?_) (fun hc => ?_)
  · have hf := q_f hc hf
    refine lv_iconst (v := (0 : Int32)) hx hb dX9_noDots_16 (by decide) ?_
    have hf := Option.some.inj hf
    subst hf
    exact q_rzR (Or.inl rfl) hx hb hr hlocks dX9_noDots_17
  · have hf := q_t hc hf
    refine lv_iconst (v := (1 : Int32)) hx hb dX9_noDots_12 (by decide) ?_
    refine lv_goto (tgt := 17) hx hb dX9_noDots_13 (by decide) ?_
    have hf := Option.some.inj hf
    subst hf
    exact q_rzR (Or.inr rfl) hx hb hr hlocks dX9_noDots_17
def f_X9_emptyCells (g_free : Int64) (hd_holders : Int64) : Option (Int64) := some (g_free &&& (hd_holders ^^^ (-1 : Int64)))
theorem ok_X9_emptyCells : OkV yX9_emptyCells cX9_emptyCells 1 (some Jvm.ClassFile.FieldType.long) 0 := ⟨⟨tw_490, tw_1, by decide +kernel, by decide +kernel, by decide +kernel⟩, tw_489, tp_11⟩
set_option maxHeartbeats 4000000 in
set_option maxRecDepth 100000 in
theorem c_X9_emptyCells (l : Launch) (D : va_G) (cy : ClassId × ClassId × ClassId) (H0 : Heap) (aD aT aP aQ aG aG_columns aG_lines aG_distances aG_weights aHd aHd_sums aR aPi aS aPa aI : Nat) (g_cells : Int32) (g_free : Int64) (g_freeCount : Int32) (hd_holders : Int64) (r : Int64) (hP : va_P D vwCl [(aD, .inr (9, [.ref aT, .ref aP, .ref aQ, .ref aG, .ref aHd, .ref aR, .ref aPi, .ref aS, .ref aPa, .ref aI])), (aG, .inr (0, [.ref aP, .ref aG_columns, .ref aG_lines, .ref aG_distances, .ref aG_weights, .int g_cells, .long g_free, .int g_freeCount])), (aHd, .inr (1, [.ref aG, .ref aHd_sums, .long hd_holders]))] H0) (hf : f_X9_emptyCells g_free hd_holders = some r) : Rd l yX9_emptyCells cX9_emptyCells 1 (some Jvm.ClassFile.FieldType.long) ({ frames := 0, cells := 0, slots := 0, locals := 0 } : Room) ([.ref aD] : List Value) (some (.long r)) D cy H0 := by
  refine rd_of (by decide +kernel) (Nat.le_of_ble_eq_true rfl) ?_
  intro p e s m below meth c ls S hr hlocks hk hl
  obtain ⟨hx, hb, hml, hown, hts⟩ := id S
  have hl : lv_has ls 1 [(0, .ref aD)] := hl
  rw [f_X9_emptyCells] at hf
  refine lv_aload_n hx hb dX9_emptyCells_0 rfl (lv_at hl 0 rfl) ?_
  refine va_get (D := D) (ci := 9) (v := .ref aG) (C := RX9) (T := TX9) (N := 10) hx hb hts iX9 hown hk.1 hP 0 rfl rfl 3 (by decide) (hts _ tw_302) (fun _ h9 => h9) rfl dX9_emptyCells_1 ?_
  refine va_get (D := D) (ci := 0) (v := .long g_free) (C := RX0) (T := TX0) (N := 8) hx hb hts iX0 hown hk.1 hP 1 rfl rfl 6 (by decide) (hts _ tw_154) (fun _ h9 => h9) rfl dX9_emptyCells_4 ?_
  refine lv_aload_n hx hb dX9_emptyCells_7 rfl (lv_at hl 0 rfl) ?_
  refine va_get (D := D) (ci := 9) (v := .ref aHd) (C := RX9) (T := TX9) (N := 10) hx hb hts iX9 hown hk.1 hP 0 rfl rfl 4 (by decide) (hts _ tw_303) (fun _ h9 => h9) rfl dX9_emptyCells_8 ?_
  refine va_get (D := D) (ci := 1) (v := .long hd_holders) (C := RX1) (T := TX1) (N := 3) hx hb hts iX1 hown hk.1 hP 2 rfl rfl 2 (by decide) (hts _ tw_187) (fun _ h9 => h9) rfl dX9_emptyCells_11 ?_
  refine lv_ldc2 hx hb hown (hts _ tw_491) dX9_emptyCells_14 ?_
  refine lv_lxor hx hb dX9_emptyCells_17 ?_
  refine lv_land hx hb dX9_emptyCells_18 ?_
  have hf := Option.some.inj hf
  subst hf
  exact q_rlR hx hb hr hlocks dX9_emptyCells_19
def f_X9_restStep (g_cells : Int32) (g_free : Int64) (g_columns : Nat → Int32) (g_lines : Nat → Int32) (g_weights : Nat → Int32) (hd_holders : Int64) (hd_sums : Nat → Int32) : Option (Int32 × Int64 × (Nat → Int32)) := (f_X1_most g_cells hd_sums hd_holders).bind (fun z11 => (f_X1_flip g_cells g_columns g_lines g_weights hd_holders hd_sums z11).bind (fun z20 => (f_X9_emptyCells g_free (z20.1)).bind (fun z28 => (f_X1_least g_cells (z20.2) z28).bind (fun z31 => (f_X1_flip g_cells g_columns g_lines g_weights (z20.1) (z20.2) z31).bind (fun z40 => if z11 = z31 then (some ((0 : Int32), (z40.1), (z40.2))) else (some ((1 : Int32), (z40.1), (z40.2))))))))
theorem ok_X9_restStep : OkV yX9_restStep cX9_restStep 3 (some Jvm.ClassFile.FieldType.boolean) 0 := ⟨⟨tw_478, tw_1, by decide +kernel, by decide +kernel, by decide +kernel⟩, tw_477, tp_9⟩
set_option maxHeartbeats 4000000 in
set_option maxRecDepth 100000 in
theorem c_X9_restStep (l : Launch) (D : va_G) (cy : ClassId × ClassId × ClassId) (H0 : Heap) (aD aT aP aQ aG aG_columns aG_lines aG_distances aG_weights aHd aHd_sums aR aPi aS aPa aI : Nat) (g_cells : Int32) (g_free : Int64) (g_freeCount : Int32) (g_columns : Nat → Int32) (g_lines : Nat → Int32) (g_weights : Nat → Int32) (hd_holders : Int64) (hd_sums : Nat → Int32) (r : Int32 × Int64 × (Nat → Int32)) (hP : va_P D vwCl [(aD, .inr (9, [.ref aT, .ref aP, .ref aQ, .ref aG, .ref aHd, .ref aR, .ref aPi, .ref aS, .ref aPa, .ref aI])), (aG, .inr (0, [.ref aP, .ref aG_columns, .ref aG_lines, .ref aG_distances, .ref aG_weights, .int g_cells, .long g_free, .int g_freeCount])), (aG_columns, .inl (cy.1, 64, .inl g_columns)), (aG_lines, .inl (cy.1, 64, .inl g_lines)), (aG_weights, .inl (cy.1, 64, .inl g_weights)), (aHd, .inr (1, [.ref aG, .ref aHd_sums, .long hd_holders])), (aHd_sums, .inl (cy.1, 64, .inl hd_sums))] H0) (hD0 : va_D (fun _ => True) [(aD, .inr (9, [.ref aT, .ref aP, .ref aQ, .ref aG, .ref aHd, .ref aR, .ref aPi, .ref aS, .ref aPa, .ref aI])), (aG, .inr (0, [.ref aP, .ref aG_columns, .ref aG_lines, .ref aG_distances, .ref aG_weights, .int g_cells, .long g_free, .int g_freeCount])), (aG_columns, .inl (cy.1, 64, .inl g_columns)), (aG_lines, .inl (cy.1, 64, .inl g_lines)), (aG_weights, .inl (cy.1, 64, .inl g_weights)), (aHd, .inr (1, [.ref aG, .ref aHd_sums, .long hd_holders])), (aHd_sums, .inl (cy.1, 64, .inl hd_sums))]) (hf : f_X9_restStep g_cells g_free g_columns g_lines g_weights hd_holders hd_sums = some r) : Wr l yX9_restStep cX9_restStep 3 (some Jvm.ClassFile.FieldType.boolean) ({ frames := 3, cells := 0, slots := 0, locals := 71 } : Room) ([.ref aD] : List Value) (some (.int (r.1))) D cy H0 [(aD, .inr (9, [.ref aT, .ref aP, .ref aQ, .ref aG, .ref aHd, .ref aR, .ref aPi, .ref aS, .ref aPa, .ref aI])), (aG, .inr (0, [.ref aP, .ref aG_columns, .ref aG_lines, .ref aG_distances, .ref aG_weights, .int g_cells, .long g_free, .int g_freeCount])), (aG_columns, .inl (cy.1, 64, .inl g_columns)), (aG_lines, .inl (cy.1, 64, .inl g_lines)), (aG_weights, .inl (cy.1, 64, .inl g_weights)), (aHd, .inr (1, [.ref aG, .ref aHd_sums, .long hd_holders])), (aHd_sums, .inl (cy.1, 64, .inl hd_sums))] [(aD, .inr (9, [.ref aT, .ref aP, .ref aQ, .ref aG, .ref aHd, .ref aR, .ref aPi, .ref aS, .ref aPa, .ref aI])), (aG, .inr (0, [.ref aP, .ref aG_columns, .ref aG_lines, .ref aG_distances, .ref aG_weights, .int g_cells, .long g_free, .int g_freeCount])), (aG_columns, .inl (cy.1, 64, .inl g_columns)), (aG_lines, .inl (cy.1, 64, .inl g_lines)), (aG_weights, .inl (cy.1, 64, .inl g_weights)), (aHd, .inr (1, [.ref aG, .ref aHd_sums, .long (r.2.1)])), (aHd_sums, .inl (cy.1, 64, .inl (r.2.2)))] := by
  refine wr_of (by decide +kernel) (Nat.le_of_ble_eq_true rfl) hD0 ?_
  intro p e s m below meth c ls A S hr hlocks hk hl hD hS hA
  obtain ⟨hx, hb, hml, hown, hts⟩ := id S
  have hl : lv_has ls 3 [(0, .ref aD)] := hl
  rw [f_X9_restStep] at hf
  refine lv_aload_n hx hb dX9_restStep_0 rfl (lv_at hl 0 rfl) ?_
  refine va_get (D := D) (ci := 9) (v := .ref aHd) (C := RX9) (T := TX9) (N := 10) hx hb hts iX9 hown hk.1 hP 0 rfl rfl 4 (by decide) (hts _ tw_303) (fun _ h9 => h9) rfl dX9_restStep_1 ?_
  refine lv_aload_n hx hb dX9_restStep_4 rfl (lv_at hl 0 rfl) ?_
  refine va_get (D := D) (ci := 9) (v := .ref aHd) (C := RX9) (T := TX9) (N := 10) hx hb hts iX9 hown hk.1 hP 0 rfl rfl 4 (by decide) (hts _ tw_303) (fun _ h9 => h9) rfl dX9_restStep_5 ?_
  refine va_get (D := D) (ci := 1) (v := .long hd_holders) (C := RX1) (T := TX1) (N := 3) hx hb hts iX1 hown hk.1 hP 5 rfl rfl 2 (by decide) (hts _ tw_187) (fun _ h9 => h9) rfl dX9_restStep_8 ?_
  obtain ⟨z11, hz11, hf⟩ := q_bind hf
  refine q_rdV (As := [.long hd_holders]) (rest := []) (st2 := [.int z11]) S hk (c_X1_most l D cy H0 aP aG aG_columns aG_lines aG_distances aG_weights aHd aHd_sums g_cells g_free g_freeCount hd_holders hd_sums hd_holders z11 (hP.sub [1, 5, 6] rfl) hz11) ok_X1_most tw_479 ⟨rfl, rfl, Nat.le_of_ble_eq_true rfl, Nat.le_of_ble_eq_true rfl⟩ (va_recv hk.1 hP (ci := 1) (q0 := 5) rfl rfl) rfl hl.1 rfl (Nat.le_of_ble_eq_true rfl) dX9_restStep_11 ⟨Nat.zero_le _, Nat.zero_le _⟩ rfl ?_
  refine lv_istore_n (lv' := [(1, .int z11), (0, .ref aD)]) hx hb dX9_restStep_14 rfl hl (by decide) rfl (fun ls hl => ?_)
  refine lv_aload_n hx hb dX9_restStep_15 rfl (lv_at hl 1 rfl) ?_
  refine va_get (D := D) (ci := 9) (v := .ref aHd) (C := RX9) (T := TX9) (N := 10) hx hb hts iX9 hown hk.1 hP 0 rfl rfl 4 (by decide) (hts _ tw_303) (fun _ h9 => h9) rfl dX9_restStep_16 ?_
  refine lv_iload_n hx hb dX9_restStep_19 rfl (lv_at hl 0 rfl) ?_
  obtain ⟨z20, hz20, hf⟩ := q_bind hf
  refine q_wrV (As := [.int z11]) (rest := []) (st2 := []) (ws' := [(aD, .inr (9, [.ref aT, .ref aP, .ref aQ, .ref aG, .ref aHd, .ref aR, .ref aPi, .ref aS, .ref aPa, .ref aI])), (aG, .inr (0, [.ref aP, .ref aG_columns, .ref aG_lines, .ref aG_distances, .ref aG_weights, .int g_cells, .long g_free, .int g_freeCount])), (aG_columns, .inl (cy.1, 64, .inl g_columns)), (aG_lines, .inl (cy.1, 64, .inl g_lines)), (aG_weights, .inl (cy.1, 64, .inl g_weights)), (aHd, .inr (1, [.ref aG, .ref aHd_sums, .long (z20.1)])), (aHd_sums, .inl (cy.1, 64, .inl (z20.2)))]) S hk (c_X1_flip l D cy H0 aP aG aG_columns aG_lines aG_distances aG_weights aHd aHd_sums g_cells g_free g_freeCount g_columns g_lines g_weights hd_holders hd_sums z11 z20 (hP.sub [1, 2, 3, 4, 5, 6] rfl) (qD_sub hD [1, 2, 3, 4, 5, 6] (by decide) rfl) hz20) ok_X1_flip tw_466 ⟨rfl, rfl, Nat.le_of_ble_eq_true rfl, Nat.le_of_ble_eq_true rfl⟩ (va_recv hk.1 hP (ci := 1) (q0 := 5) rfl rfl) rfl hl.1 rfl (Nat.le_of_ble_eq_true rfl) dX9_restStep_20 ⟨Nat.zero_le _, Nat.zero_le _⟩ rfl hP hD hS hA [1, 2, 3, 4, 5, 6] rfl rfl rfl rfl (fun H locs hP hD hS => ?_)
  refine lv_aload_n hx hb dX9_restStep_23 rfl (lv_at hl 1 rfl) ?_
  refine va_get (D := D) (ci := 9) (v := .ref aHd) (C := RX9) (T := TX9) (N := 10) hx hb hts iX9 hown hk.1 hP 0 rfl rfl 4 (by decide) (hts _ tw_303) (fun _ h9 => h9) rfl dX9_restStep_24 ?_
  refine lv_aload_n hx hb dX9_restStep_27 rfl (lv_at hl 1 rfl) ?_
  obtain ⟨z28, hz28, hf⟩ := q_bind hf
  refine q_rdV (As := []) (rest := [.ref aHd]) (st2 := [.long z28, .ref aHd]) S hk (c_X9_emptyCells l D cy H aD aT aP aQ aG aG_columns aG_lines aG_distances aG_weights aHd aHd_sums aR aPi aS aPa aI g_cells g_free g_freeCount (z20.1) z28 (hP.sub [0, 1, 5] rfl) hz28) ok_X9_emptyCells tw_487 ⟨rfl, rfl, Nat.le_of_ble_eq_true rfl, Nat.le_of_ble_eq_true rfl⟩ (va_recv hk.1 hP (ci := 9) (q0 := 0) rfl rfl) rfl hl.1 rfl (Nat.le_of_ble_eq_true rfl) dX9_restStep_28 ⟨Nat.zero_le _, Nat.zero_le _⟩ rfl ?_
  obtain ⟨z31, hz31, hf⟩ := q_bind hf
  refine q_rdV (As := [.long z28]) (rest := []) (st2 := [.int z31]) S hk (c_X1_least l D cy H aP aG aG_columns aG_lines aG_distances aG_weights aHd aHd_sums g_cells g_free g_freeCount (z20.1) (z20.2) z28 z31 (hP.sub [1, 5, 6] rfl) hz31) ok_X1_least tw_492 ⟨rfl, rfl, Nat.le_of_ble_eq_true rfl, Nat.le_of_ble_eq_true rfl⟩ (va_recv hk.1 hP (ci := 1) (q0 := 5) rfl rfl) rfl hl.1 rfl (Nat.le_of_ble_eq_true rfl) dX9_restStep_31 ⟨Nat.zero_le _, Nat.zero_le _⟩ rfl ?_
  refine lv_istore_n (lv' := [(2, .int z31), (1, .int z11), (0, .ref aD)]) hx hb dX9_restStep_34 rfl hl (by decide) rfl (fun ls hl => ?_)
  refine lv_aload_n hx hb dX9_restStep_35 rfl (lv_at hl 2 rfl) ?_
  refine va_get (D := D) (ci := 9) (v := .ref aHd) (C := RX9) (T := TX9) (N := 10) hx hb hts iX9 hown hk.1 hP 0 rfl rfl 4 (by decide) (hts _ tw_303) (fun _ h9 => h9) rfl dX9_restStep_36 ?_
  refine lv_iload_n hx hb dX9_restStep_39 rfl (lv_at hl 0 rfl) ?_
  obtain ⟨z40, hz40, hf⟩ := q_bind hf
  refine q_wrV (As := [.int z31]) (rest := []) (st2 := []) (ws' := [(aD, .inr (9, [.ref aT, .ref aP, .ref aQ, .ref aG, .ref aHd, .ref aR, .ref aPi, .ref aS, .ref aPa, .ref aI])), (aG, .inr (0, [.ref aP, .ref aG_columns, .ref aG_lines, .ref aG_distances, .ref aG_weights, .int g_cells, .long g_free, .int g_freeCount])), (aG_columns, .inl (cy.1, 64, .inl g_columns)), (aG_lines, .inl (cy.1, 64, .inl g_lines)), (aG_weights, .inl (cy.1, 64, .inl g_weights)), (aHd, .inr (1, [.ref aG, .ref aHd_sums, .long (z40.1)])), (aHd_sums, .inl (cy.1, 64, .inl (z40.2)))]) S hk (c_X1_flip l D cy H aP aG aG_columns aG_lines aG_distances aG_weights aHd aHd_sums g_cells g_free g_freeCount g_columns g_lines g_weights (z20.1) (z20.2) z31 z40 (hP.sub [1, 2, 3, 4, 5, 6] rfl) (qD_sub hD [1, 2, 3, 4, 5, 6] (by decide) rfl) hz40) ok_X1_flip tw_466 ⟨rfl, rfl, Nat.le_of_ble_eq_true rfl, Nat.le_of_ble_eq_true rfl⟩ (va_recv hk.1 hP (ci := 1) (q0 := 5) rfl rfl) rfl hl.1 rfl (Nat.le_of_ble_eq_true rfl) dX9_restStep_40 ⟨Nat.zero_le _, Nat.zero_le _⟩ rfl hP hD hS hA [1, 2, 3, 4, 5, 6] rfl rfl rfl rfl (fun H locs hP hD hS => ?_)
  refine lv_iload_n hx hb dX9_restStep_43 rfl (lv_at hl 1 rfl) ?_
  refine lv_iload_n hx hb dX9_restStep_44 rfl (lv_at hl 0 rfl) ?_
  refine lv_icmp_eq (tgt := 52) hx hb dX9_restStep_45 (by decide) (fun hc => ?_) (fun hc => ?_)
  · have hf := q_t hc hf
    refine lv_iconst (v := (0 : Int32)) hx hb dX9_restStep_52 (by decide) ?_
    have hf := Option.some.inj hf
    subst hf
    exact q_rzW (Or.inl rfl) hP hS hx hb hr hlocks dX9_restStep_53
  · have hf := q_f hc hf
    refine lv_iconst (v := (1 : Int32)) hx hb dX9_restStep_48 (by decide) ?_
    refine lv_goto (tgt := 53) hx hb dX9_restStep_49 (by decide) ?_
    have hf := Option.some.inj hf
    subst hf
    exact q_rzW (Or.inr rfl) hP hS hx hb hr hlocks dX9_restStep_53
def lp_X9_rests_39 (g_cells : Int32) (g_free : Int64) (g_columns : Nat → Int32) (g_lines : Nat → Int32) (g_weights : Nat → Int32) (x1 : Int32) : Nat → Int32 → Int64 → (Nat → Int32) → Int32 → (Nat → Int64) → Option (Int32 × Int64 × (Nat → Int32) × Int32 × (Nat → Int64))
  | 0, _, _, _, _, _ => none
  | n + 1, x2, hd_holders, hd_sums, pa_size, pa_known => if x1 ≤ x2 then (some (x2, hd_holders, hd_sums, pa_size, pa_known)) else ((f_X9_restStep g_cells g_free g_columns g_lines g_weights hd_holders hd_sums).bind (fun z45 => if (z45.1) = 0 then (some (x2, (z45.2.1), (z45.2.2), pa_size, pa_known)) else (lp_X9_rests_39 g_cells g_free g_columns g_lines g_weights x1 n (x2 + 1) (z45.2.1) (z45.2.2) pa_size pa_known)))
theorem lp_X9_rests_39_s (g_cells : Int32) (g_free : Int64) (g_columns : Nat → Int32) (g_lines : Nat → Int32) (g_weights : Nat → Int32) (x1 : Int32) (n : Nat) (x2 : Int32) (hd_holders : Int64) (hd_sums : Nat → Int32) (pa_size : Int32) (pa_known : Nat → Int64) : lp_X9_rests_39 g_cells g_free g_columns g_lines g_weights x1 (n + 1) x2 hd_holders hd_sums pa_size pa_known = (if x1 ≤ x2 then (some (x2, hd_holders, hd_sums, pa_size, pa_known)) else ((f_X9_restStep g_cells g_free g_columns g_lines g_weights hd_holders hd_sums).bind (fun z45 => if (z45.1) = 0 then (some (x2, (z45.2.1), (z45.2.2), pa_size, pa_known)) else (lp_X9_rests_39 g_cells g_free g_columns g_lines g_weights x1 n (x2 + 1) (z45.2.1) (z45.2.2) pa_size pa_known)))) := rfl
theorem lp_X9_rests_39_z (g_cells : Int32) (g_free : Int64) (g_columns : Nat → Int32) (g_lines : Nat → Int32) (g_weights : Nat → Int32) (x1 : Int32) (x2 : Int32) (hd_holders : Int64) (hd_sums : Nat → Int32) (pa_size : Int32) (pa_known : Nat → Int64) : lp_X9_rests_39 g_cells g_free g_columns g_lines g_weights x1 0 x2 hd_holders hd_sums pa_size pa_known = none := rfl
def f_X9_rests (g_cells : Int32) (g_free : Int64) (g_columns : Nat → Int32) (g_lines : Nat → Int32) (g_weights : Nat → Int32) (hd_holders : Int64) (hd_sums : Nat → Int32) (pa_size : Int32) (pa_known : Nat → Int64) (x1 : Int32) : Option (Int32 × Int64 × (Nat → Int32) × Int32 × (Nat → Int64)) := if x1 < (1 : Int32) then (some ((-1 : Int32), hd_holders, hd_sums, pa_size, pa_known)) else (if x1 ≤ (64 : Int32) then ((f_X9_noDots hd_holders).bind (fun z14 => if z14 = 0 then ((f_X3_remember pa_size pa_known hd_holders).bind (fun z34 => lp_X9_rests_39 g_cells g_free g_columns g_lines g_weights x1 FU (0 : Int32) hd_holders hd_sums (z34.1) (z34.2))) else (some ((-2 : Int32), hd_holders, hd_sums, pa_size, pa_known)))) else (some ((-1 : Int32), hd_holders, hd_sums, pa_size, pa_known)))
theorem ok_X9_rests : OkV yX9_rests cX9_rests 3 (some Jvm.ClassFile.FieldType.int) 1 := ⟨⟨tw_470, tw_1, by decide +kernel, by decide +kernel, by decide +kernel⟩, tw_468, tw_469⟩
set_option maxHeartbeats 4000000 in
set_option maxRecDepth 100000 in
theorem c_X9_rests (l : Launch) (D : va_G) (cy : ClassId × ClassId × ClassId) (H0 : Heap) (aD aT aP aQ aG aG_columns aG_lines aG_distances aG_weights aHd aHd_sums aR aPi aS aPa aPa_known aI : Nat) (g_cells : Int32) (g_free : Int64) (g_freeCount : Int32) (g_columns : Nat → Int32) (g_lines : Nat → Int32) (g_weights : Nat → Int32) (hd_holders : Int64) (hd_sums : Nat → Int32) (pa_size : Int32) (pa_known : Nat → Int64) (x1 : Int32) (r : Int32 × Int64 × (Nat → Int32) × Int32 × (Nat → Int64)) (hP : va_P D vwCl [(aD, .inr (9, [.ref aT, .ref aP, .ref aQ, .ref aG, .ref aHd, .ref aR, .ref aPi, .ref aS, .ref aPa, .ref aI])), (aG, .inr (0, [.ref aP, .ref aG_columns, .ref aG_lines, .ref aG_distances, .ref aG_weights, .int g_cells, .long g_free, .int g_freeCount])), (aG_columns, .inl (cy.1, 64, .inl g_columns)), (aG_lines, .inl (cy.1, 64, .inl g_lines)), (aG_weights, .inl (cy.1, 64, .inl g_weights)), (aHd, .inr (1, [.ref aG, .ref aHd_sums, .long hd_holders])), (aHd_sums, .inl (cy.1, 64, .inl hd_sums)), (aPa, .inr (3, [.ref aPa_known, .int pa_size])), (aPa_known, .inl (cy.2.1, 10, .inr (.inl pa_known)))] H0) (hD0 : va_D (fun _ => True) [(aD, .inr (9, [.ref aT, .ref aP, .ref aQ, .ref aG, .ref aHd, .ref aR, .ref aPi, .ref aS, .ref aPa, .ref aI])), (aG, .inr (0, [.ref aP, .ref aG_columns, .ref aG_lines, .ref aG_distances, .ref aG_weights, .int g_cells, .long g_free, .int g_freeCount])), (aG_columns, .inl (cy.1, 64, .inl g_columns)), (aG_lines, .inl (cy.1, 64, .inl g_lines)), (aG_weights, .inl (cy.1, 64, .inl g_weights)), (aHd, .inr (1, [.ref aG, .ref aHd_sums, .long hd_holders])), (aHd_sums, .inl (cy.1, 64, .inl hd_sums)), (aPa, .inr (3, [.ref aPa_known, .int pa_size])), (aPa_known, .inl (cy.2.1, 10, .inr (.inl pa_known)))]) (hf : f_X9_rests g_cells g_free g_columns g_lines g_weights hd_holders hd_sums pa_size pa_known x1 = some r) : Wr l yX9_rests cX9_rests 3 (some Jvm.ClassFile.FieldType.int) ({ frames := 4, cells := 0, slots := 0, locals := 93 } : Room) ([.ref aD, .int x1] : List Value) (some (.int (r.1))) D cy H0 [(aD, .inr (9, [.ref aT, .ref aP, .ref aQ, .ref aG, .ref aHd, .ref aR, .ref aPi, .ref aS, .ref aPa, .ref aI])), (aG, .inr (0, [.ref aP, .ref aG_columns, .ref aG_lines, .ref aG_distances, .ref aG_weights, .int g_cells, .long g_free, .int g_freeCount])), (aG_columns, .inl (cy.1, 64, .inl g_columns)), (aG_lines, .inl (cy.1, 64, .inl g_lines)), (aG_weights, .inl (cy.1, 64, .inl g_weights)), (aHd, .inr (1, [.ref aG, .ref aHd_sums, .long hd_holders])), (aHd_sums, .inl (cy.1, 64, .inl hd_sums)), (aPa, .inr (3, [.ref aPa_known, .int pa_size])), (aPa_known, .inl (cy.2.1, 10, .inr (.inl pa_known)))] [(aD, .inr (9, [.ref aT, .ref aP, .ref aQ, .ref aG, .ref aHd, .ref aR, .ref aPi, .ref aS, .ref aPa, .ref aI])), (aG, .inr (0, [.ref aP, .ref aG_columns, .ref aG_lines, .ref aG_distances, .ref aG_weights, .int g_cells, .long g_free, .int g_freeCount])), (aG_columns, .inl (cy.1, 64, .inl g_columns)), (aG_lines, .inl (cy.1, 64, .inl g_lines)), (aG_weights, .inl (cy.1, 64, .inl g_weights)), (aHd, .inr (1, [.ref aG, .ref aHd_sums, .long (r.2.1)])), (aHd_sums, .inl (cy.1, 64, .inl (r.2.2.1))), (aPa, .inr (3, [.ref aPa_known, .int (r.2.2.2.1)])), (aPa_known, .inl (cy.2.1, 10, .inr (.inl (r.2.2.2.2))))] := by
  refine wr_of (by decide +kernel) (Nat.le_of_ble_eq_true rfl) hD0 ?_
  intro p e s m below meth c ls A S hr hlocks hk hl hD hS hA
  obtain ⟨hx, hb, hml, hown, hts⟩ := id S
  have hl : lv_has ls 3 [(0, .ref aD), (1, .int x1)] := hl
  rw [f_X9_rests] at hf
  have J39 : ∀ (n39 : Nat) (x2 : Int32) (hd_holders : Int64) (hd_sums : Nat → Int32) (pa_size : Int32) (pa_known : Nat → Int64) (H : Heap) (locs : List Loc) (ls : Array Slot), va_P D vwCl [(aD, .inr (9, [.ref aT, .ref aP, .ref aQ, .ref aG, .ref aHd, .ref aR, .ref aPi, .ref aS, .ref aPa, .ref aI])), (aG, .inr (0, [.ref aP, .ref aG_columns, .ref aG_lines, .ref aG_distances, .ref aG_weights, .int g_cells, .long g_free, .int g_freeCount])), (aG_columns, .inl (cy.1, 64, .inl g_columns)), (aG_lines, .inl (cy.1, 64, .inl g_lines)), (aG_weights, .inl (cy.1, 64, .inl g_weights)), (aHd, .inr (1, [.ref aG, .ref aHd_sums, .long hd_holders])), (aHd_sums, .inl (cy.1, 64, .inl hd_sums)), (aPa, .inr (3, [.ref aPa_known, .int pa_size])), (aPa_known, .inl (cy.2.1, 10, .inr (.inl pa_known)))] H → va_D A [(aD, .inr (9, [.ref aT, .ref aP, .ref aQ, .ref aG, .ref aHd, .ref aR, .ref aPi, .ref aS, .ref aPa, .ref aI])), (aG, .inr (0, [.ref aP, .ref aG_columns, .ref aG_lines, .ref aG_distances, .ref aG_weights, .int g_cells, .long g_free, .int g_freeCount])), (aG_columns, .inl (cy.1, 64, .inl g_columns)), (aG_lines, .inl (cy.1, 64, .inl g_lines)), (aG_weights, .inl (cy.1, 64, .inl g_weights)), (aHd, .inr (1, [.ref aG, .ref aHd_sums, .long hd_holders])), (aHd_sums, .inl (cy.1, 64, .inl hd_sums)), (aPa, .inr (3, [.ref aPa_known, .int pa_size])), (aPa_known, .inl (cy.2.1, 10, .inr (.inl pa_known)))] → va_S A H0 H locs → lv_has ls 3 [(0, .ref aD), (1, .int x1), (2, .int x2)] → lp_X9_rests_39 g_cells g_free g_columns g_lines g_weights x1 n39 x2 hd_holders hd_sums pa_size pa_known = some r → W p l e ({ frames := 4, cells := 0, slots := 0, locals := 93 } : Room) s m ([.ref aD, .int x1] : List Value).toArray below meth c H locs 0 0 (MQ below (QW (some (.int (r.1))) D [(aD, .inr (9, [.ref aT, .ref aP, .ref aQ, .ref aG, .ref aHd, .ref aR, .ref aPi, .ref aS, .ref aPa, .ref aI])), (aG, .inr (0, [.ref aP, .ref aG_columns, .ref aG_lines, .ref aG_distances, .ref aG_weights, .int g_cells, .long g_free, .int g_freeCount])), (aG_columns, .inl (cy.1, 64, .inl g_columns)), (aG_lines, .inl (cy.1, 64, .inl g_lines)), (aG_weights, .inl (cy.1, 64, .inl g_weights)), (aHd, .inr (1, [.ref aG, .ref aHd_sums, .long (r.2.1)])), (aHd_sums, .inl (cy.1, 64, .inl (r.2.2.1))), (aPa, .inr (3, [.ref aPa_known, .int (r.2.2.2.1)])), (aPa_known, .inl (cy.2.1, 10, .inr (.inl (r.2.2.2.2))))] H0 A) ([.ref aD, .int x1] : List Value).toArray s 0 0 A) (F0 m 39 ls []) := by
    intro n39
    induction n39 with
    | zero =>
      intro x2 hd_holders hd_sums pa_size pa_known H locs ls hP hD hS hl hf
      rw [lp_X9_rests_39_z] at hf
      cases hf
    | succ n39 ih39 =>
      intro x2 hd_holders hd_sums pa_size pa_known H locs ls hP hD hS hl hf
      rw [lp_X9_rests_39_s] at hf
      refine lv_iload_n hx hb dX9_rests_39 rfl (lv_at hl 2 rfl) ?_
      refine lv_iload_n hx hb dX9_rests_40 rfl (lv_at hl 1 rfl) ?_
      refine lv_icmp_ge (tgt := 57) hx hb dX9_rests_41 (by decide) (fun hc => ?_) (fun hc => ?_)
      · have hf := q_t hc hf
        refine lv_iload_n hx hb dX9_rests_57 rfl (lv_at hl 2 rfl) ?_
        have hf := Option.some.inj hf
        subst hf
        exact q_riW hP hS hx hb hr hlocks dX9_rests_58
      · have hf := q_f hc hf
        refine lv_aload_n hx hb dX9_rests_44 rfl (lv_at hl 0 rfl) ?_
        obtain ⟨z45, hz45, hf⟩ := q_bind hf
        refine q_wrV (As := []) (rest := []) (st2 := [.int (z45.1)]) (ws' := [(aD, .inr (9, [.ref aT, .ref aP, .ref aQ, .ref aG, .ref aHd, .ref aR, .ref aPi, .ref aS, .ref aPa, .ref aI])), (aG, .inr (0, [.ref aP, .ref aG_columns, .ref aG_lines, .ref aG_distances, .ref aG_weights, .int g_cells, .long g_free, .int g_freeCount])), (aG_columns, .inl (cy.1, 64, .inl g_columns)), (aG_lines, .inl (cy.1, 64, .inl g_lines)), (aG_weights, .inl (cy.1, 64, .inl g_weights)), (aHd, .inr (1, [.ref aG, .ref aHd_sums, .long (z45.2.1)])), (aHd_sums, .inl (cy.1, 64, .inl (z45.2.2))), (aPa, .inr (3, [.ref aPa_known, .int pa_size])), (aPa_known, .inl (cy.2.1, 10, .inr (.inl pa_known)))]) S hk (c_X9_restStep l D cy H aD aT aP aQ aG aG_columns aG_lines aG_distances aG_weights aHd aHd_sums aR aPi aS aPa aI g_cells g_free g_freeCount g_columns g_lines g_weights hd_holders hd_sums z45 (hP.sub [0, 1, 2, 3, 4, 5, 6] rfl) (qD_sub hD [0, 1, 2, 3, 4, 5, 6] (by decide) rfl) hz45) ok_X9_restStep tw_475 ⟨rfl, rfl, Nat.le_of_ble_eq_true rfl, Nat.le_of_ble_eq_true rfl⟩ (va_recv hk.1 hP (ci := 9) (q0 := 0) rfl rfl) rfl hl.1 rfl (Nat.le_of_ble_eq_true rfl) dX9_rests_45 ⟨Nat.zero_le _, Nat.zero_le _⟩ rfl hP hD hS hA [0, 1, 2, 3, 4, 5, 6] rfl rfl rfl rfl (fun H locs hP hD hS => ?_)
        refine lv_if_eq (tgt := 57) hx hb dX9_rests_48 (by decide) (fun hc => ?_) (fun hc => ?_)
        · have hf := q_t hc hf
          refine lv_iload_n hx hb dX9_rests_57 rfl (lv_at hl 2 rfl) ?_
          have hf := Option.some.inj hf
          subst hf
          exact q_riW hP hS hx hb hr hlocks dX9_rests_58
        · have hf := q_f hc hf
          refine lv_iinc (v := (x2 + 1)) (lv' := [(2, .int (x2 + 1)), (0, .ref aD), (1, .int x1)]) hx hb dX9_rests_51 hl (k := 2) rfl rfl (by decide) rfl (fun ls hl => ?_)
          refine lv_goto (tgt := 39) hx hb dX9_rests_54 (by decide) ?_
          exact ih39 (x2 + 1) (z45.2.1) (z45.2.2) pa_size pa_known H locs ls hP hD hS (lv_sub hl [1, 2, 0] rfl) hf
  refine lv_iload_n hx hb dX9_rests_0 rfl (lv_at hl 1 rfl) ?_
  refine lv_iconst (v := (1 : Int32)) hx hb dX9_rests_1 (by decide) ?_
  refine lv_icmp_lt (tgt := 11) hx hb dX9_rests_2 (by decide) (fun hc => ?_) (fun hc => ?_)
  · have hf := q_t hc hf
    refine lv_iconst (v := (-1 : Int32)) hx hb dX9_rests_11 (by decide) ?_
    have hf := Option.some.inj hf
    subst hf
    exact q_riW hP hS hx hb hr hlocks dX9_rests_12
  · have hf := q_f hc hf
    refine lv_iload_n hx hb dX9_rests_5 rfl (lv_at hl 1 rfl) ?_
    refine lv_bipush (v := (64 : Int32)) hx hb dX9_rests_6 (by decide) ?_
    refine lv_icmp_le (tgt := 13) hx hb dX9_rests_8 (by decide) (fun hc => ?_) (fun hc => ?_)
    · have hf := q_t hc hf
      refine lv_aload_n hx hb dX9_rests_13 rfl (lv_at hl 0 rfl) ?_
      obtain ⟨z14, hz14, hf⟩ := q_bind hf
      refine q_rdV (As := []) (rest := []) (st2 := [.int z14]) S hk (c_X9_noDots l D cy H0 aD aT aP aQ aG aHd aHd_sums aR aPi aS aPa aI hd_holders z14 (hP.sub [0, 5] rfl) hz14) ok_X9_noDots tw_471 ⟨rfl, rfl, Nat.le_of_ble_eq_true rfl, Nat.le_of_ble_eq_true rfl⟩ (va_recv hk.1 hP (ci := 9) (q0 := 0) rfl rfl) rfl hl.1 rfl (Nat.le_of_ble_eq_true rfl) dX9_rests_14 ⟨Nat.zero_le _, Nat.zero_le _⟩ rfl ?_
      refine lv_if_eq (tgt := 23) hx hb dX9_rests_17 (by decide) (fun hc => ?_) (fun hc => ?_)
      · have hf := q_t hc hf
        refine lv_aload_n hx hb dX9_rests_23 rfl (lv_at hl 0 rfl) ?_
        refine va_get (D := D) (ci := 9) (v := .ref aPa) (C := RX9) (T := TX9) (N := 10) hx hb hts iX9 hown hk.1 hP 0 rfl rfl 8 (by decide) (hts _ tw_307) (fun _ h9 => h9) rfl dX9_rests_24 ?_
        refine lv_aload_n hx hb dX9_rests_27 rfl (lv_at hl 0 rfl) ?_
        refine va_get (D := D) (ci := 9) (v := .ref aHd) (C := RX9) (T := TX9) (N := 10) hx hb hts iX9 hown hk.1 hP 0 rfl rfl 4 (by decide) (hts _ tw_303) (fun _ h9 => h9) rfl dX9_rests_28 ?_
        refine va_get (D := D) (ci := 1) (v := .long hd_holders) (C := RX1) (T := TX1) (N := 3) hx hb hts iX1 hown hk.1 hP 5 rfl rfl 2 (by decide) (hts _ tw_187) (fun _ h9 => h9) rfl dX9_rests_31 ?_
        obtain ⟨z34, hz34, hf⟩ := q_bind hf
        refine q_wrV (As := [.long hd_holders]) (rest := []) (st2 := []) (ws' := [(aD, .inr (9, [.ref aT, .ref aP, .ref aQ, .ref aG, .ref aHd, .ref aR, .ref aPi, .ref aS, .ref aPa, .ref aI])), (aG, .inr (0, [.ref aP, .ref aG_columns, .ref aG_lines, .ref aG_distances, .ref aG_weights, .int g_cells, .long g_free, .int g_freeCount])), (aG_columns, .inl (cy.1, 64, .inl g_columns)), (aG_lines, .inl (cy.1, 64, .inl g_lines)), (aG_weights, .inl (cy.1, 64, .inl g_weights)), (aHd, .inr (1, [.ref aG, .ref aHd_sums, .long hd_holders])), (aHd_sums, .inl (cy.1, 64, .inl hd_sums)), (aPa, .inr (3, [.ref aPa_known, .int (z34.1)])), (aPa_known, .inl (cy.2.1, 10, .inr (.inl (z34.2))))]) S hk (c_X3_remember l D cy H0 aPa aPa_known pa_size pa_known hd_holders z34 (hP.sub [7, 8] rfl) (qD_sub hD [7, 8] (by decide) rfl) hz34) ok_X3_remember tw_459 ⟨rfl, rfl, Nat.le_of_ble_eq_true rfl, Nat.le_of_ble_eq_true rfl⟩ (va_recv hk.1 hP (ci := 3) (q0 := 7) rfl rfl) rfl hl.1 rfl (Nat.le_of_ble_eq_true rfl) dX9_rests_34 ⟨Nat.zero_le _, Nat.zero_le _⟩ rfl hP hD hS hA [7, 8] rfl rfl rfl rfl (fun H locs hP hD hS => ?_)
        refine lv_iconst (v := (0 : Int32)) hx hb dX9_rests_37 (by decide) ?_
        refine lv_istore_n (lv' := [(2, .int (0 : Int32)), (0, .ref aD), (1, .int x1)]) hx hb dX9_rests_38 rfl hl (by decide) rfl (fun ls hl => ?_)
        exact J39 FU (0 : Int32) hd_holders hd_sums (z34.1) (z34.2) H locs ls hP hD hS (lv_sub hl [1, 2, 0] rfl) hf
      · have hf := q_f hc hf
        refine lv_bipush (v := (-2 : Int32)) hx hb dX9_rests_20 (by decide) ?_
        have hf := Option.some.inj hf
        subst hf
        exact q_riW hP hS hx hb hr hlocks dX9_rests_22
    · have hf := q_f hc hf
      refine lv_iconst (v := (-1 : Int32)) hx hb dX9_rests_11 (by decide) ?_
      have hf := Option.some.inj hf
      subst hf
      exact q_riW hP hS hx hb hr hlocks dX9_rests_12
def f_X9_moves (g_cells : Int32) (g_free : Int64) (g_columns : Nat → Int32) (g_lines : Nat → Int32) (g_weights : Nat → Int32) (hd_holders : Int64) (hd_sums : Nat → Int32) (pa_size : Int32) (pa_known : Nat → Int64) (x1 : Int32) (x2 : Int32) : Option (Int32 × Int64 × (Nat → Int32) × Int32 × (Nat → Int64)) := (f_X0_isCell g_cells x1).bind (fun z5 => if z5 = 0 then (some ((-1 : Int32), hd_holders, hd_sums, pa_size, pa_known)) else ((f_X0_isCell g_cells x2).bind (fun z16 => if z16 = 0 then (some ((-1 : Int32), hd_holders, hd_sums, pa_size, pa_known)) else ((f_X9_has hd_holders x1).bind (fun z32 => if z32 = 0 then (some ((-2 : Int32), hd_holders, hd_sums, pa_size, pa_known)) else ((f_X9_emptyCells g_free hd_holders).bind (fun z39 => (f_X9_has z39 x2).bind (fun z43 => if z43 = 0 then (some ((-2 : Int32), hd_holders, hd_sums, pa_size, pa_known)) else ((f_X3_remember pa_size pa_known hd_holders).bind (fun z63 => (f_X1_pairs g_cells g_columns g_lines g_weights hd_holders hd_sums).bind (fun z70 => (f_X1_flip g_cells g_columns g_lines g_weights hd_holders hd_sums x1).bind (fun z79 => (f_X1_flip g_cells g_columns g_lines g_weights (z79.1) (z79.2) x2).bind (fun z87 => (f_X1_pairs g_cells g_columns g_lines g_weights (z87.1) (z87.2)).bind (fun z94 => some ((z94 - z70), (z87.1), (z87.2), (z63.1), (z63.2))))))))))))))))
theorem ok_X9_moves : OkV yX9_moves cX9_moves 4 (some Jvm.ClassFile.FieldType.int) 2 := ⟨⟨tw_499, tw_1, by decide +kernel, by decide +kernel, by decide +kernel⟩, tw_497, tw_498⟩
set_option maxHeartbeats 4000000 in
set_option maxRecDepth 100000 in
theorem c_X9_moves (l : Launch) (D : va_G) (cy : ClassId × ClassId × ClassId) (H0 : Heap) (aD aT aP aQ aG aG_columns aG_lines aG_distances aG_weights aHd aHd_sums aR aPi aS aPa aPa_known aI : Nat) (g_cells : Int32) (g_free : Int64) (g_freeCount : Int32) (g_columns : Nat → Int32) (g_lines : Nat → Int32) (g_weights : Nat → Int32) (hd_holders : Int64) (hd_sums : Nat → Int32) (pa_size : Int32) (pa_known : Nat → Int64) (x1 : Int32) (x2 : Int32) (r : Int32 × Int64 × (Nat → Int32) × Int32 × (Nat → Int64)) (hP : va_P D vwCl [(aD, .inr (9, [.ref aT, .ref aP, .ref aQ, .ref aG, .ref aHd, .ref aR, .ref aPi, .ref aS, .ref aPa, .ref aI])), (aG, .inr (0, [.ref aP, .ref aG_columns, .ref aG_lines, .ref aG_distances, .ref aG_weights, .int g_cells, .long g_free, .int g_freeCount])), (aG_columns, .inl (cy.1, 64, .inl g_columns)), (aG_lines, .inl (cy.1, 64, .inl g_lines)), (aG_weights, .inl (cy.1, 64, .inl g_weights)), (aHd, .inr (1, [.ref aG, .ref aHd_sums, .long hd_holders])), (aHd_sums, .inl (cy.1, 64, .inl hd_sums)), (aPa, .inr (3, [.ref aPa_known, .int pa_size])), (aPa_known, .inl (cy.2.1, 10, .inr (.inl pa_known)))] H0) (hD0 : va_D (fun _ => True) [(aD, .inr (9, [.ref aT, .ref aP, .ref aQ, .ref aG, .ref aHd, .ref aR, .ref aPi, .ref aS, .ref aPa, .ref aI])), (aG, .inr (0, [.ref aP, .ref aG_columns, .ref aG_lines, .ref aG_distances, .ref aG_weights, .int g_cells, .long g_free, .int g_freeCount])), (aG_columns, .inl (cy.1, 64, .inl g_columns)), (aG_lines, .inl (cy.1, 64, .inl g_lines)), (aG_weights, .inl (cy.1, 64, .inl g_weights)), (aHd, .inr (1, [.ref aG, .ref aHd_sums, .long hd_holders])), (aHd_sums, .inl (cy.1, 64, .inl hd_sums)), (aPa, .inr (3, [.ref aPa_known, .int pa_size])), (aPa_known, .inl (cy.2.1, 10, .inr (.inl pa_known)))]) (hf : f_X9_moves g_cells g_free g_columns g_lines g_weights hd_holders hd_sums pa_size pa_known x1 x2 = some r) : Wr l yX9_moves cX9_moves 4 (some Jvm.ClassFile.FieldType.int) ({ frames := 3, cells := 0, slots := 0, locals := 66 } : Room) ([.ref aD, .int x1, .int x2] : List Value) (some (.int (r.1))) D cy H0 [(aD, .inr (9, [.ref aT, .ref aP, .ref aQ, .ref aG, .ref aHd, .ref aR, .ref aPi, .ref aS, .ref aPa, .ref aI])), (aG, .inr (0, [.ref aP, .ref aG_columns, .ref aG_lines, .ref aG_distances, .ref aG_weights, .int g_cells, .long g_free, .int g_freeCount])), (aG_columns, .inl (cy.1, 64, .inl g_columns)), (aG_lines, .inl (cy.1, 64, .inl g_lines)), (aG_weights, .inl (cy.1, 64, .inl g_weights)), (aHd, .inr (1, [.ref aG, .ref aHd_sums, .long hd_holders])), (aHd_sums, .inl (cy.1, 64, .inl hd_sums)), (aPa, .inr (3, [.ref aPa_known, .int pa_size])), (aPa_known, .inl (cy.2.1, 10, .inr (.inl pa_known)))] [(aD, .inr (9, [.ref aT, .ref aP, .ref aQ, .ref aG, .ref aHd, .ref aR, .ref aPi, .ref aS, .ref aPa, .ref aI])), (aG, .inr (0, [.ref aP, .ref aG_columns, .ref aG_lines, .ref aG_distances, .ref aG_weights, .int g_cells, .long g_free, .int g_freeCount])), (aG_columns, .inl (cy.1, 64, .inl g_columns)), (aG_lines, .inl (cy.1, 64, .inl g_lines)), (aG_weights, .inl (cy.1, 64, .inl g_weights)), (aHd, .inr (1, [.ref aG, .ref aHd_sums, .long (r.2.1)])), (aHd_sums, .inl (cy.1, 64, .inl (r.2.2.1))), (aPa, .inr (3, [.ref aPa_known, .int (r.2.2.2.1)])), (aPa_known, .inl (cy.2.1, 10, .inr (.inl (r.2.2.2.2))))] := by
  refine wr_of (by decide +kernel) (Nat.le_of_ble_eq_true rfl) hD0 ?_
  intro p e s m below meth c ls A S hr hlocks hk hl hD hS hA
  obtain ⟨hx, hb, hml, hown, hts⟩ := id S
  have hl : lv_has ls 4 [(0, .ref aD), (1, .int x1), (2, .int x2)] := hl
  rw [f_X9_moves] at hf
  refine lv_aload_n hx hb dX9_moves_0 rfl (lv_at hl 0 rfl) ?_
  refine va_get (D := D) (ci := 9) (v := .ref aG) (C := RX9) (T := TX9) (N := 10) hx hb hts iX9 hown hk.1 hP 0 rfl rfl 3 (by decide) (hts _ tw_302) (fun _ h9 => h9) rfl dX9_moves_1 ?_
  refine lv_iload_n hx hb dX9_moves_4 rfl (lv_at hl 1 rfl) ?_
  obtain ⟨z5, hz5, hf⟩ := q_bind hf
  refine q_rdV (As := [.int x1]) (rest := []) (st2 := [.int z5]) S hk (c_X0_isCell l D cy H0 aP aG aG_columns aG_lines aG_distances aG_weights g_cells g_free g_freeCount x1 z5 (hP.sub [1] rfl) hz5) ok_X0_isCell tw_449 ⟨rfl, rfl, Nat.le_of_ble_eq_true rfl, Nat.le_of_ble_eq_true rfl⟩ (va_recv hk.1 hP (ci := 0) (q0 := 1) rfl rfl) rfl hl.1 rfl (Nat.le_of_ble_eq_true rfl) dX9_moves_5 ⟨Nat.zero_le _, Nat.zero_le _⟩ rfl ?_
  refine lv_if_eq (tgt := 22) hx hb dX9_moves_8 (by decide) (fun hc => ?_) (fun hc => ?_)
  · have hf := q_t hc hf
    refine lv_iconst (v := (-1 : Int32)) hx hb dX9_moves_22 (by decide) ?_
    have hf := Option.some.inj hf
    subst hf
    exact q_riW hP hS hx hb hr hlocks dX9_moves_23
  · have hf := q_f hc hf
    refine lv_aload_n hx hb dX9_moves_11 rfl (lv_at hl 0 rfl) ?_
    refine va_get (D := D) (ci := 9) (v := .ref aG) (C := RX9) (T := TX9) (N := 10) hx hb hts iX9 hown hk.1 hP 0 rfl rfl 3 (by decide) (hts _ tw_302) (fun _ h9 => h9) rfl dX9_moves_12 ?_
    refine lv_iload_n hx hb dX9_moves_15 rfl (lv_at hl 2 rfl) ?_
    obtain ⟨z16, hz16, hf⟩ := q_bind hf
    refine q_rdV (As := [.int x2]) (rest := []) (st2 := [.int z16]) S hk (c_X0_isCell l D cy H0 aP aG aG_columns aG_lines aG_distances aG_weights g_cells g_free g_freeCount x2 z16 (hP.sub [1] rfl) hz16) ok_X0_isCell tw_449 ⟨rfl, rfl, Nat.le_of_ble_eq_true rfl, Nat.le_of_ble_eq_true rfl⟩ (va_recv hk.1 hP (ci := 0) (q0 := 1) rfl rfl) rfl hl.1 rfl (Nat.le_of_ble_eq_true rfl) dX9_moves_16 ⟨Nat.zero_le _, Nat.zero_le _⟩ rfl ?_
    refine lv_if_ne (tgt := 24) hx hb dX9_moves_19 (by decide) (fun hc => ?_) (fun hc => ?_)
    · have hf := q_f hc hf
      refine lv_aload_n hx hb dX9_moves_24 rfl (lv_at hl 0 rfl) ?_
      refine va_get (D := D) (ci := 9) (v := .ref aHd) (C := RX9) (T := TX9) (N := 10) hx hb hts iX9 hown hk.1 hP 0 rfl rfl 4 (by decide) (hts _ tw_303) (fun _ h9 => h9) rfl dX9_moves_25 ?_
      refine va_get (D := D) (ci := 1) (v := .long hd_holders) (C := RX1) (T := TX1) (N := 3) hx hb hts iX1 hown hk.1 hP 5 rfl rfl 2 (by decide) (hts _ tw_187) (fun _ h9 => h9) rfl dX9_moves_28 ?_
      refine lv_iload_n hx hb dX9_moves_31 rfl (lv_at hl 1 rfl) ?_
      obtain ⟨z32, hz32, hf⟩ := q_bind hf
      refine q_rdS (As := [.long hd_holders, .int x1]) (rest := []) (st2 := [.int z32]) S hk (c_X9_has l D cy H0 hd_holders x1 z32 hz32) ok_X9_has tw_444 ⟨rfl, rfl, Nat.le_of_ble_eq_true rfl, Nat.le_of_ble_eq_true rfl⟩ rfl hl.1 rfl (Nat.le_of_ble_eq_true rfl) dX9_moves_32 ⟨Nat.zero_le _, Nat.zero_le _⟩ rfl ?_
      refine lv_if_eq (tgt := 49) hx hb dX9_moves_35 (by decide) (fun hc => ?_) (fun hc => ?_)
      · have hf := q_t hc hf
        refine lv_bipush (v := (-2 : Int32)) hx hb dX9_moves_49 (by decide) ?_
        have hf := Option.some.inj hf
        subst hf
        exact q_riW hP hS hx hb hr hlocks dX9_moves_51
      · have hf := q_f hc hf
        refine lv_aload_n hx hb dX9_moves_38 rfl (lv_at hl 0 rfl) ?_
        obtain ⟨z39, hz39, hf⟩ := q_bind hf
        refine q_rdV (As := []) (rest := []) (st2 := [.long z39]) S hk (c_X9_emptyCells l D cy H0 aD aT aP aQ aG aG_columns aG_lines aG_distances aG_weights aHd aHd_sums aR aPi aS aPa aI g_cells g_free g_freeCount hd_holders z39 (hP.sub [0, 1, 5] rfl) hz39) ok_X9_emptyCells tw_487 ⟨rfl, rfl, Nat.le_of_ble_eq_true rfl, Nat.le_of_ble_eq_true rfl⟩ (va_recv hk.1 hP (ci := 9) (q0 := 0) rfl rfl) rfl hl.1 rfl (Nat.le_of_ble_eq_true rfl) dX9_moves_39 ⟨Nat.zero_le _, Nat.zero_le _⟩ rfl ?_
        refine lv_iload_n hx hb dX9_moves_42 rfl (lv_at hl 2 rfl) ?_
        obtain ⟨z43, hz43, hf⟩ := q_bind hf
        refine q_rdS (As := [.long z39, .int x2]) (rest := []) (st2 := [.int z43]) S hk (c_X9_has l D cy H0 z39 x2 z43 hz43) ok_X9_has tw_444 ⟨rfl, rfl, Nat.le_of_ble_eq_true rfl, Nat.le_of_ble_eq_true rfl⟩ rfl hl.1 rfl (Nat.le_of_ble_eq_true rfl) dX9_moves_43 ⟨Nat.zero_le _, Nat.zero_le _⟩ rfl ?_
        refine lv_if_ne (tgt := 52) hx hb dX9_moves_46 (by decide) (fun hc => ?_) (fun hc => ?_)
        · have hf := q_f hc hf
          refine lv_aload_n hx hb dX9_moves_52 rfl (lv_at hl 0 rfl) ?_
          refine va_get (D := D) (ci := 9) (v := .ref aPa) (C := RX9) (T := TX9) (N := 10) hx hb hts iX9 hown hk.1 hP 0 rfl rfl 8 (by decide) (hts _ tw_307) (fun _ h9 => h9) rfl dX9_moves_53 ?_
          refine lv_aload_n hx hb dX9_moves_56 rfl (lv_at hl 0 rfl) ?_
          refine va_get (D := D) (ci := 9) (v := .ref aHd) (C := RX9) (T := TX9) (N := 10) hx hb hts iX9 hown hk.1 hP 0 rfl rfl 4 (by decide) (hts _ tw_303) (fun _ h9 => h9) rfl dX9_moves_57 ?_
          refine va_get (D := D) (ci := 1) (v := .long hd_holders) (C := RX1) (T := TX1) (N := 3) hx hb hts iX1 hown hk.1 hP 5 rfl rfl 2 (by decide) (hts _ tw_187) (fun _ h9 => h9) rfl dX9_moves_60 ?_
          obtain ⟨z63, hz63, hf⟩ := q_bind hf
          refine q_wrV (As := [.long hd_holders]) (rest := []) (st2 := []) (ws' := [(aD, .inr (9, [.ref aT, .ref aP, .ref aQ, .ref aG, .ref aHd, .ref aR, .ref aPi, .ref aS, .ref aPa, .ref aI])), (aG, .inr (0, [.ref aP, .ref aG_columns, .ref aG_lines, .ref aG_distances, .ref aG_weights, .int g_cells, .long g_free, .int g_freeCount])), (aG_columns, .inl (cy.1, 64, .inl g_columns)), (aG_lines, .inl (cy.1, 64, .inl g_lines)), (aG_weights, .inl (cy.1, 64, .inl g_weights)), (aHd, .inr (1, [.ref aG, .ref aHd_sums, .long hd_holders])), (aHd_sums, .inl (cy.1, 64, .inl hd_sums)), (aPa, .inr (3, [.ref aPa_known, .int (z63.1)])), (aPa_known, .inl (cy.2.1, 10, .inr (.inl (z63.2))))]) S hk (c_X3_remember l D cy H0 aPa aPa_known pa_size pa_known hd_holders z63 (hP.sub [7, 8] rfl) (qD_sub hD [7, 8] (by decide) rfl) hz63) ok_X3_remember tw_459 ⟨rfl, rfl, Nat.le_of_ble_eq_true rfl, Nat.le_of_ble_eq_true rfl⟩ (va_recv hk.1 hP (ci := 3) (q0 := 7) rfl rfl) rfl hl.1 rfl (Nat.le_of_ble_eq_true rfl) dX9_moves_63 ⟨Nat.zero_le _, Nat.zero_le _⟩ rfl hP hD hS hA [7, 8] rfl rfl rfl rfl (fun H locs hP hD hS => ?_)
          refine lv_aload_n hx hb dX9_moves_66 rfl (lv_at hl 0 rfl) ?_
          refine va_get (D := D) (ci := 9) (v := .ref aHd) (C := RX9) (T := TX9) (N := 10) hx hb hts iX9 hown hk.1 hP 0 rfl rfl 4 (by decide) (hts _ tw_303) (fun _ h9 => h9) rfl dX9_moves_67 ?_
          obtain ⟨z70, hz70, hf⟩ := q_bind hf
          refine q_rdV (As := []) (rest := []) (st2 := [.int z70]) S hk (c_X1_pairs l D cy H aP aG aG_columns aG_lines aG_distances aG_weights aHd aHd_sums g_cells g_free g_freeCount g_columns g_lines g_weights hd_holders hd_sums z70 (hP.sub [1, 2, 3, 4, 5, 6] rfl) hz70) ok_X1_pairs tw_500 ⟨rfl, rfl, Nat.le_of_ble_eq_true rfl, Nat.le_of_ble_eq_true rfl⟩ (va_recv hk.1 hP (ci := 1) (q0 := 5) rfl rfl) rfl hl.1 rfl (Nat.le_of_ble_eq_true rfl) dX9_moves_70 ⟨Nat.zero_le _, Nat.zero_le _⟩ rfl ?_
          refine lv_istore_n (lv' := [(3, .int z70), (0, .ref aD), (1, .int x1), (2, .int x2)]) hx hb dX9_moves_73 rfl hl (by decide) rfl (fun ls hl => ?_)
          refine lv_aload_n hx hb dX9_moves_74 rfl (lv_at hl 1 rfl) ?_
          refine va_get (D := D) (ci := 9) (v := .ref aHd) (C := RX9) (T := TX9) (N := 10) hx hb hts iX9 hown hk.1 hP 0 rfl rfl 4 (by decide) (hts _ tw_303) (fun _ h9 => h9) rfl dX9_moves_75 ?_
          refine lv_iload_n hx hb dX9_moves_78 rfl (lv_at hl 2 rfl) ?_
          obtain ⟨z79, hz79, hf⟩ := q_bind hf
          refine q_wrV (As := [.int x1]) (rest := []) (st2 := []) (ws' := [(aD, .inr (9, [.ref aT, .ref aP, .ref aQ, .ref aG, .ref aHd, .ref aR, .ref aPi, .ref aS, .ref aPa, .ref aI])), (aG, .inr (0, [.ref aP, .ref aG_columns, .ref aG_lines, .ref aG_distances, .ref aG_weights, .int g_cells, .long g_free, .int g_freeCount])), (aG_columns, .inl (cy.1, 64, .inl g_columns)), (aG_lines, .inl (cy.1, 64, .inl g_lines)), (aG_weights, .inl (cy.1, 64, .inl g_weights)), (aHd, .inr (1, [.ref aG, .ref aHd_sums, .long (z79.1)])), (aHd_sums, .inl (cy.1, 64, .inl (z79.2))), (aPa, .inr (3, [.ref aPa_known, .int (z63.1)])), (aPa_known, .inl (cy.2.1, 10, .inr (.inl (z63.2))))]) S hk (c_X1_flip l D cy H aP aG aG_columns aG_lines aG_distances aG_weights aHd aHd_sums g_cells g_free g_freeCount g_columns g_lines g_weights hd_holders hd_sums x1 z79 (hP.sub [1, 2, 3, 4, 5, 6] rfl) (qD_sub hD [1, 2, 3, 4, 5, 6] (by decide) rfl) hz79) ok_X1_flip tw_466 ⟨rfl, rfl, Nat.le_of_ble_eq_true rfl, Nat.le_of_ble_eq_true rfl⟩ (va_recv hk.1 hP (ci := 1) (q0 := 5) rfl rfl) rfl hl.1 rfl (Nat.le_of_ble_eq_true rfl) dX9_moves_79 ⟨Nat.zero_le _, Nat.zero_le _⟩ rfl hP hD hS hA [1, 2, 3, 4, 5, 6] rfl rfl rfl rfl (fun H locs hP hD hS => ?_)
          refine lv_aload_n hx hb dX9_moves_82 rfl (lv_at hl 1 rfl) ?_
          refine va_get (D := D) (ci := 9) (v := .ref aHd) (C := RX9) (T := TX9) (N := 10) hx hb hts iX9 hown hk.1 hP 0 rfl rfl 4 (by decide) (hts _ tw_303) (fun _ h9 => h9) rfl dX9_moves_83 ?_
          refine lv_iload_n hx hb dX9_moves_86 rfl (lv_at hl 3 rfl) ?_
          obtain ⟨z87, hz87, hf⟩ := q_bind hf
          refine q_wrV (As := [.int x2]) (rest := []) (st2 := []) (ws' := [(aD, .inr (9, [.ref aT, .ref aP, .ref aQ, .ref aG, .ref aHd, .ref aR, .ref aPi, .ref aS, .ref aPa, .ref aI])), (aG, .inr (0, [.ref aP, .ref aG_columns, .ref aG_lines, .ref aG_distances, .ref aG_weights, .int g_cells, .long g_free, .int g_freeCount])), (aG_columns, .inl (cy.1, 64, .inl g_columns)), (aG_lines, .inl (cy.1, 64, .inl g_lines)), (aG_weights, .inl (cy.1, 64, .inl g_weights)), (aHd, .inr (1, [.ref aG, .ref aHd_sums, .long (z87.1)])), (aHd_sums, .inl (cy.1, 64, .inl (z87.2))), (aPa, .inr (3, [.ref aPa_known, .int (z63.1)])), (aPa_known, .inl (cy.2.1, 10, .inr (.inl (z63.2))))]) S hk (c_X1_flip l D cy H aP aG aG_columns aG_lines aG_distances aG_weights aHd aHd_sums g_cells g_free g_freeCount g_columns g_lines g_weights (z79.1) (z79.2) x2 z87 (hP.sub [1, 2, 3, 4, 5, 6] rfl) (qD_sub hD [1, 2, 3, 4, 5, 6] (by decide) rfl) hz87) ok_X1_flip tw_466 ⟨rfl, rfl, Nat.le_of_ble_eq_true rfl, Nat.le_of_ble_eq_true rfl⟩ (va_recv hk.1 hP (ci := 1) (q0 := 5) rfl rfl) rfl hl.1 rfl (Nat.le_of_ble_eq_true rfl) dX9_moves_87 ⟨Nat.zero_le _, Nat.zero_le _⟩ rfl hP hD hS hA [1, 2, 3, 4, 5, 6] rfl rfl rfl rfl (fun H locs hP hD hS => ?_)
          refine lv_aload_n hx hb dX9_moves_90 rfl (lv_at hl 1 rfl) ?_
          refine va_get (D := D) (ci := 9) (v := .ref aHd) (C := RX9) (T := TX9) (N := 10) hx hb hts iX9 hown hk.1 hP 0 rfl rfl 4 (by decide) (hts _ tw_303) (fun _ h9 => h9) rfl dX9_moves_91 ?_
          obtain ⟨z94, hz94, hf⟩ := q_bind hf
          refine q_rdV (As := []) (rest := []) (st2 := [.int z94]) S hk (c_X1_pairs l D cy H aP aG aG_columns aG_lines aG_distances aG_weights aHd aHd_sums g_cells g_free g_freeCount g_columns g_lines g_weights (z87.1) (z87.2) z94 (hP.sub [1, 2, 3, 4, 5, 6] rfl) hz94) ok_X1_pairs tw_500 ⟨rfl, rfl, Nat.le_of_ble_eq_true rfl, Nat.le_of_ble_eq_true rfl⟩ (va_recv hk.1 hP (ci := 1) (q0 := 5) rfl rfl) rfl hl.1 rfl (Nat.le_of_ble_eq_true rfl) dX9_moves_94 ⟨Nat.zero_le _, Nat.zero_le _⟩ rfl ?_
          refine lv_iload_n hx hb dX9_moves_97 rfl (lv_at hl 0 rfl) ?_
          refine lv_isub hx hb dX9_moves_98 ?_
          have hf := Option.some.inj hf
          subst hf
          exact q_riW hP hS hx hb hr hlocks dX9_moves_99
        · have hf := q_t hc hf
          refine lv_bipush (v := (-2 : Int32)) hx hb dX9_moves_49 (by decide) ?_
          have hf := Option.some.inj hf
          subst hf
          exact q_riW hP hS hx hb hr hlocks dX9_moves_51
    · have hf := q_t hc hf
      refine lv_iconst (v := (-1 : Int32)) hx hb dX9_moves_22 (by decide) ?_
      have hf := Option.some.inj hf
      subst hf
      exact q_riW hP hS hx hb hr hlocks dX9_moves_23
def f_X9_undo (g_cells : Int32) (g_columns : Nat → Int32) (g_lines : Nat → Int32) (g_weights : Nat → Int32) (hd_holders : Int64) (hd_sums : Nat → Int32) (pa_size : Int32) (pa_known : Nat → Int64) : Option (Int32 × Int64 × (Nat → Int32) × Int32) := if pa_size = 0 then (some ((-2 : Int32), hd_holders, hd_sums, pa_size)) else ((f_X3_latest pa_size pa_known).bind (fun z21 => (f_X1_become g_cells g_columns g_lines g_weights hd_holders hd_sums (z21.1)).bind (fun z24 => some ((z21.2), (z24.1), (z24.2), (z21.2)))))
theorem ok_X9_undo : OkV yX9_undo cX9_undo 1 (some Jvm.ClassFile.FieldType.int) 0 := ⟨⟨tw_507, tw_1, by decide +kernel, by decide +kernel, by decide +kernel⟩, tw_505, tw_506⟩
set_option maxHeartbeats 4000000 in
set_option maxRecDepth 100000 in
theorem c_X9_undo (l : Launch) (D : va_G) (cy : ClassId × ClassId × ClassId) (H0 : Heap) (aD aT aP aQ aG aG_columns aG_lines aG_distances aG_weights aHd aHd_sums aR aPi aS aPa aPa_known aI : Nat) (g_cells : Int32) (g_free : Int64) (g_freeCount : Int32) (g_columns : Nat → Int32) (g_lines : Nat → Int32) (g_weights : Nat → Int32) (hd_holders : Int64) (hd_sums : Nat → Int32) (pa_size : Int32) (pa_known : Nat → Int64) (r : Int32 × Int64 × (Nat → Int32) × Int32) (hP : va_P D vwCl [(aD, .inr (9, [.ref aT, .ref aP, .ref aQ, .ref aG, .ref aHd, .ref aR, .ref aPi, .ref aS, .ref aPa, .ref aI])), (aG, .inr (0, [.ref aP, .ref aG_columns, .ref aG_lines, .ref aG_distances, .ref aG_weights, .int g_cells, .long g_free, .int g_freeCount])), (aG_columns, .inl (cy.1, 64, .inl g_columns)), (aG_lines, .inl (cy.1, 64, .inl g_lines)), (aG_weights, .inl (cy.1, 64, .inl g_weights)), (aHd, .inr (1, [.ref aG, .ref aHd_sums, .long hd_holders])), (aHd_sums, .inl (cy.1, 64, .inl hd_sums)), (aPa, .inr (3, [.ref aPa_known, .int pa_size])), (aPa_known, .inl (cy.2.1, 10, .inr (.inl pa_known)))] H0) (hD0 : va_D (fun _ => True) [(aD, .inr (9, [.ref aT, .ref aP, .ref aQ, .ref aG, .ref aHd, .ref aR, .ref aPi, .ref aS, .ref aPa, .ref aI])), (aG, .inr (0, [.ref aP, .ref aG_columns, .ref aG_lines, .ref aG_distances, .ref aG_weights, .int g_cells, .long g_free, .int g_freeCount])), (aG_columns, .inl (cy.1, 64, .inl g_columns)), (aG_lines, .inl (cy.1, 64, .inl g_lines)), (aG_weights, .inl (cy.1, 64, .inl g_weights)), (aHd, .inr (1, [.ref aG, .ref aHd_sums, .long hd_holders])), (aHd_sums, .inl (cy.1, 64, .inl hd_sums)), (aPa, .inr (3, [.ref aPa_known, .int pa_size])), (aPa_known, .inl (cy.2.1, 10, .inr (.inl pa_known)))]) (hf : f_X9_undo g_cells g_columns g_lines g_weights hd_holders hd_sums pa_size pa_known = some r) : Wr l yX9_undo cX9_undo 1 (some Jvm.ClassFile.FieldType.int) ({ frames := 4, cells := 0, slots := 0, locals := 91 } : Room) ([.ref aD] : List Value) (some (.int (r.1))) D cy H0 [(aD, .inr (9, [.ref aT, .ref aP, .ref aQ, .ref aG, .ref aHd, .ref aR, .ref aPi, .ref aS, .ref aPa, .ref aI])), (aG, .inr (0, [.ref aP, .ref aG_columns, .ref aG_lines, .ref aG_distances, .ref aG_weights, .int g_cells, .long g_free, .int g_freeCount])), (aG_columns, .inl (cy.1, 64, .inl g_columns)), (aG_lines, .inl (cy.1, 64, .inl g_lines)), (aG_weights, .inl (cy.1, 64, .inl g_weights)), (aHd, .inr (1, [.ref aG, .ref aHd_sums, .long hd_holders])), (aHd_sums, .inl (cy.1, 64, .inl hd_sums)), (aPa, .inr (3, [.ref aPa_known, .int pa_size])), (aPa_known, .inl (cy.2.1, 10, .inr (.inl pa_known)))] [(aD, .inr (9, [.ref aT, .ref aP, .ref aQ, .ref aG, .ref aHd, .ref aR, .ref aPi, .ref aS, .ref aPa, .ref aI])), (aG, .inr (0, [.ref aP, .ref aG_columns, .ref aG_lines, .ref aG_distances, .ref aG_weights, .int g_cells, .long g_free, .int g_freeCount])), (aG_columns, .inl (cy.1, 64, .inl g_columns)), (aG_lines, .inl (cy.1, 64, .inl g_lines)), (aG_weights, .inl (cy.1, 64, .inl g_weights)), (aHd, .inr (1, [.ref aG, .ref aHd_sums, .long (r.2.1)])), (aHd_sums, .inl (cy.1, 64, .inl (r.2.2.1))), (aPa, .inr (3, [.ref aPa_known, .int (r.2.2.2)])), (aPa_known, .inl (cy.2.1, 10, .inr (.inl pa_known)))] := by
  refine wr_of (by decide +kernel) (Nat.le_of_ble_eq_true rfl) hD0 ?_
  intro p e s m below meth c ls A S hr hlocks hk hl hD hS hA
  obtain ⟨hx, hb, hml, hown, hts⟩ := id S
  have hl : lv_has ls 1 [(0, .ref aD)] := hl
  rw [f_X9_undo] at hf
  refine lv_aload_n hx hb dX9_undo_0 rfl (lv_at hl 0 rfl) ?_
  refine va_get (D := D) (ci := 9) (v := .ref aPa) (C := RX9) (T := TX9) (N := 10) hx hb hts iX9 hown hk.1 hP 0 rfl rfl 8 (by decide) (hts _ tw_307) (fun _ h9 => h9) rfl dX9_undo_1 ?_
  refine va_get (D := D) (ci := 3) (v := .int pa_size) (C := RX3) (T := TX3) (N := 2) hx hb hts iX3 hown hk.1 hP 7 rfl rfl 1 (by decide) (hts _ tw_278) (fun _ h9 => h9) rfl dX9_undo_4 ?_
  refine lv_if_ne (tgt := 13) hx hb dX9_undo_7 (by decide) (fun hc => ?_) (fun hc => ?_)
  · have hf := q_f hc hf
    refine lv_aload_n hx hb dX9_undo_13 rfl (lv_at hl 0 rfl) ?_
    refine va_get (D := D) (ci := 9) (v := .ref aHd) (C := RX9) (T := TX9) (N := 10) hx hb hts iX9 hown hk.1 hP 0 rfl rfl 4 (by decide) (hts _ tw_303) (fun _ h9 => h9) rfl dX9_undo_14 ?_
    refine lv_aload_n hx hb dX9_undo_17 rfl (lv_at hl 0 rfl) ?_
    refine va_get (D := D) (ci := 9) (v := .ref aPa) (C := RX9) (T := TX9) (N := 10) hx hb hts iX9 hown hk.1 hP 0 rfl rfl 8 (by decide) (hts _ tw_307) (fun _ h9 => h9) rfl dX9_undo_18 ?_
    obtain ⟨z21, hz21, hf⟩ := q_bind hf
    refine q_wrV (As := []) (rest := [.ref aHd]) (st2 := [.long (z21.1), .ref aHd]) (ws' := [(aD, .inr (9, [.ref aT, .ref aP, .ref aQ, .ref aG, .ref aHd, .ref aR, .ref aPi, .ref aS, .ref aPa, .ref aI])), (aG, .inr (0, [.ref aP, .ref aG_columns, .ref aG_lines, .ref aG_distances, .ref aG_weights, .int g_cells, .long g_free, .int g_freeCount])), (aG_columns, .inl (cy.1, 64, .inl g_columns)), (aG_lines, .inl (cy.1, 64, .inl g_lines)), (aG_weights, .inl (cy.1, 64, .inl g_weights)), (aHd, .inr (1, [.ref aG, .ref aHd_sums, .long hd_holders])), (aHd_sums, .inl (cy.1, 64, .inl hd_sums)), (aPa, .inr (3, [.ref aPa_known, .int (z21.2)])), (aPa_known, .inl (cy.2.1, 10, .inr (.inl pa_known)))]) S hk (c_X3_latest l D cy H0 aPa aPa_known pa_size pa_known z21 (hP.sub [7, 8] rfl) (qD_sub hD [7, 8] (by decide) rfl) hz21) ok_X3_latest tw_508 ⟨rfl, rfl, Nat.le_of_ble_eq_true rfl, Nat.le_of_ble_eq_true rfl⟩ (va_recv hk.1 hP (ci := 3) (q0 := 7) rfl rfl) rfl hl.1 rfl (Nat.le_of_ble_eq_true rfl) dX9_undo_21 ⟨Nat.zero_le _, Nat.zero_le _⟩ rfl hP hD hS hA [7, 8] rfl rfl rfl rfl (fun H locs hP hD hS => ?_)
    obtain ⟨z24, hz24, hf⟩ := q_bind hf
    refine q_wrV (As := [.long (z21.1)]) (rest := []) (st2 := []) (ws' := [(aD, .inr (9, [.ref aT, .ref aP, .ref aQ, .ref aG, .ref aHd, .ref aR, .ref aPi, .ref aS, .ref aPa, .ref aI])), (aG, .inr (0, [.ref aP, .ref aG_columns, .ref aG_lines, .ref aG_distances, .ref aG_weights, .int g_cells, .long g_free, .int g_freeCount])), (aG_columns, .inl (cy.1, 64, .inl g_columns)), (aG_lines, .inl (cy.1, 64, .inl g_lines)), (aG_weights, .inl (cy.1, 64, .inl g_weights)), (aHd, .inr (1, [.ref aG, .ref aHd_sums, .long (z24.1)])), (aHd_sums, .inl (cy.1, 64, .inl (z24.2))), (aPa, .inr (3, [.ref aPa_known, .int (z21.2)])), (aPa_known, .inl (cy.2.1, 10, .inr (.inl pa_known)))]) S hk (c_X1_become l D cy H aP aG aG_columns aG_lines aG_distances aG_weights aHd aHd_sums g_cells g_free g_freeCount g_columns g_lines g_weights hd_holders hd_sums (z21.1) z24 (hP.sub [1, 2, 3, 4, 5, 6] rfl) (qD_sub hD [1, 2, 3, 4, 5, 6] (by decide) rfl) hz24) ok_X1_become tw_512 ⟨rfl, rfl, Nat.le_of_ble_eq_true rfl, Nat.le_of_ble_eq_true rfl⟩ (va_recv hk.1 hP (ci := 1) (q0 := 5) rfl rfl) rfl hl.1 rfl (Nat.le_of_ble_eq_true rfl) dX9_undo_24 ⟨Nat.zero_le _, Nat.zero_le _⟩ rfl hP hD hS hA [1, 2, 3, 4, 5, 6] rfl rfl rfl rfl (fun H locs hP hD hS => ?_)
    refine lv_aload_n hx hb dX9_undo_27 rfl (lv_at hl 0 rfl) ?_
    refine va_get (D := D) (ci := 9) (v := .ref aPa) (C := RX9) (T := TX9) (N := 10) hx hb hts iX9 hown hk.1 hP 0 rfl rfl 8 (by decide) (hts _ tw_307) (fun _ h9 => h9) rfl dX9_undo_28 ?_
    refine va_get (D := D) (ci := 3) (v := .int (z21.2)) (C := RX3) (T := TX3) (N := 2) hx hb hts iX3 hown hk.1 hP 7 rfl rfl 1 (by decide) (hts _ tw_278) (fun _ h9 => h9) rfl dX9_undo_31 ?_
    have hf := Option.some.inj hf
    subst hf
    exact q_riW hP hS hx hb hr hlocks dX9_undo_34
  · have hf := q_t hc hf
    refine lv_bipush (v := (-2 : Int32)) hx hb dX9_undo_10 (by decide) ?_
    have hf := Option.some.inj hf
    subst hf
    exact q_riW hP hS hx hb hr hlocks dX9_undo_12
def f_X9_held (p_width : Int32) (p_height : Int32) (g_cells : Int32) (hd_sums : Nat → Int32) (x1 : Int32) (x2 : Int32) : Option (Int32) := (f_X5_numberOf p_width p_height x1 x2).bind (fun z6 => if z6 = (-1 : Int32) then (some (-1 : Int32)) else ((f_X1_sumAt g_cells hd_sums z6).bind (fun z24 => some z24)))
theorem ok_X9_held : OkV yX9_held cX9_held 4 (some Jvm.ClassFile.FieldType.int) 2 := ⟨⟨tw_516, tw_1, by decide +kernel, by decide +kernel, by decide +kernel⟩, tw_514, tw_515⟩
set_option maxHeartbeats 4000000 in
set_option maxRecDepth 100000 in
theorem c_X9_held (l : Launch) (D : va_G) (cy : ClassId × ClassId × ClassId) (H0 : Heap) (aD aT aP aQ aG aG_columns aG_lines aG_distances aG_weights aHd aHd_sums aR aPi aS aPa aI : Nat) (p_width : Int32) (p_height : Int32) (p_kernel : Int32) (p_power : Int32) (p_fall : Int32) (p_ax : Int32) (p_ay : Int32) (p_shut : Int64) (p_dots : Int64) (g_cells : Int32) (g_free : Int64) (g_freeCount : Int32) (hd_holders : Int64) (hd_sums : Nat → Int32) (x1 : Int32) (x2 : Int32) (r : Int32) (hP : va_P D vwCl [(aD, .inr (9, [.ref aT, .ref aP, .ref aQ, .ref aG, .ref aHd, .ref aR, .ref aPi, .ref aS, .ref aPa, .ref aI])), (aP, .inr (5, [.int p_width, .int p_height, .int p_kernel, .int p_power, .int p_fall, .int p_ax, .int p_ay, .long p_shut, .long p_dots])), (aG, .inr (0, [.ref aP, .ref aG_columns, .ref aG_lines, .ref aG_distances, .ref aG_weights, .int g_cells, .long g_free, .int g_freeCount])), (aHd, .inr (1, [.ref aG, .ref aHd_sums, .long hd_holders])), (aHd_sums, .inl (cy.1, 64, .inl hd_sums))] H0) (hf : f_X9_held p_width p_height g_cells hd_sums x1 x2 = some r) : Rd l yX9_held cX9_held 4 (some Jvm.ClassFile.FieldType.int) ({ frames := 2, cells := 0, slots := 0, locals := 42 } : Room) ([.ref aD, .int x1, .int x2] : List Value) (some (.int r)) D cy H0 := by
  refine rd_of (by decide +kernel) (Nat.le_of_ble_eq_true rfl) ?_
  intro p e s m below meth c ls S hr hlocks hk hl
  obtain ⟨hx, hb, hml, hown, hts⟩ := id S
  have hl : lv_has ls 4 [(0, .ref aD), (1, .int x1), (2, .int x2)] := hl
  rw [f_X9_held] at hf
  refine lv_aload_n hx hb dX9_held_0 rfl (lv_at hl 0 rfl) ?_
  refine va_get (D := D) (ci := 9) (v := .ref aP) (C := RX9) (T := TX9) (N := 10) hx hb hts iX9 hown hk.1 hP 0 rfl rfl 1 (by decide) (hts _ tw_300) (fun _ h9 => h9) rfl dX9_held_1 ?_
  refine lv_iload_n hx hb dX9_held_4 rfl (lv_at hl 1 rfl) ?_
  refine lv_iload_n hx hb dX9_held_5 rfl (lv_at hl 2 rfl) ?_
  obtain ⟨z6, hz6, hf⟩ := q_bind hf
  refine q_rdV (As := [.int x1, .int x2]) (rest := []) (st2 := [.int z6]) S hk (c_X5_numberOf l D cy H0 aP p_width p_height p_kernel p_power p_fall p_ax p_ay p_shut p_dots x1 x2 z6 (hP.sub [1] rfl) hz6) ok_X5_numberOf tw_443 ⟨rfl, rfl, Nat.le_of_ble_eq_true rfl, Nat.le_of_ble_eq_true rfl⟩ (va_recv hk.1 hP (ci := 5) (q0 := 1) rfl rfl) rfl hl.1 rfl (Nat.le_of_ble_eq_true rfl) dX9_held_6 ⟨Nat.zero_le _, Nat.zero_le _⟩ rfl ?_
  refine lv_istore_n (lv' := [(3, .int z6), (0, .ref aD), (1, .int x1), (2, .int x2)]) hx hb dX9_held_9 rfl hl (by decide) rfl (fun ls hl => ?_)
  refine lv_iload_n hx hb dX9_held_10 rfl (lv_at hl 0 rfl) ?_
  refine lv_iconst (v := (-1 : Int32)) hx hb dX9_held_11 (by decide) ?_
  refine lv_icmp_ne (tgt := 19) hx hb dX9_held_12 (by decide) (fun hc => ?_) (fun hc => ?_)
  · have hf := q_f hc hf
    refine lv_aload_n hx hb dX9_held_19 rfl (lv_at hl 1 rfl) ?_
    refine va_get (D := D) (ci := 9) (v := .ref aHd) (C := RX9) (T := TX9) (N := 10) hx hb hts iX9 hown hk.1 hP 0 rfl rfl 4 (by decide) (hts _ tw_303) (fun _ h9 => h9) rfl dX9_held_20 ?_
    refine lv_iload_n hx hb dX9_held_23 rfl (lv_at hl 0 rfl) ?_
    obtain ⟨z24, hz24, hf⟩ := q_bind hf
    refine q_rdV (As := [.int z6]) (rest := []) (st2 := [.int z24]) S hk (c_X1_sumAt l D cy H0 aP aG aG_columns aG_lines aG_distances aG_weights aHd aHd_sums g_cells g_free g_freeCount hd_holders hd_sums z6 z24 (hP.sub [2, 3, 4] rfl) hz24) ok_X1_sumAt tw_517 ⟨rfl, rfl, Nat.le_of_ble_eq_true rfl, Nat.le_of_ble_eq_true rfl⟩ (va_recv hk.1 hP (ci := 1) (q0 := 3) rfl rfl) rfl hl.1 rfl (Nat.le_of_ble_eq_true rfl) dX9_held_24 ⟨Nat.zero_le _, Nat.zero_le _⟩ rfl ?_
    have hf := Option.some.inj hf
    subst hf
    exact q_riR hx hb hr hlocks dX9_held_27
  · have hf := q_t hc hf
    refine lv_iconst (v := (-1 : Int32)) hx hb dX9_held_15 (by decide) ?_
    refine lv_goto (tgt := 27) hx hb dX9_held_16 (by decide) ?_
    have hf := Option.some.inj hf
    subst hf
    exact q_riR hx hb hr hlocks dX9_held_27
def j_X9_extreme_43 (k0 : Int32) : Option (Int32) := if k0 = (-1 : Int32) then (some (-9 : Int32)) else (some k0)
def f_X9_extreme (g_cells : Int32) (g_free : Int64) (hd_holders : Int64) (hd_sums : Nat → Int32) (x1 : Int32) : Option (Int32) := if x1 < 0 then (some (-1 : Int32)) else (if x1 ≤ (1 : Int32) then (if x1 = 0 then ((f_X1_most g_cells hd_sums hd_holders).bind (fun z26 => j_X9_extreme_43 z26)) else ((f_X9_emptyCells g_free hd_holders).bind (fun z37 => (f_X1_least g_cells hd_sums z37).bind (fun z40 => j_X9_extreme_43 z40)))) else (some (-1 : Int32)))
theorem ok_X9_extreme : OkV yX9_extreme cX9_extreme 3 (some Jvm.ClassFile.FieldType.int) 1 := ⟨⟨tw_524, tw_1, by decide +kernel, by decide +kernel, by decide +kernel⟩, tw_522, tw_523⟩
set_option maxHeartbeats 4000000 in
set_option maxRecDepth 100000 in
theorem c_X9_extreme (l : Launch) (D : va_G) (cy : ClassId × ClassId × ClassId) (H0 : Heap) (aD aT aP aQ aG aG_columns aG_lines aG_distances aG_weights aHd aHd_sums aR aPi aS aPa aI : Nat) (g_cells : Int32) (g_free : Int64) (g_freeCount : Int32) (hd_holders : Int64) (hd_sums : Nat → Int32) (x1 : Int32) (r : Int32) (hP : va_P D vwCl [(aD, .inr (9, [.ref aT, .ref aP, .ref aQ, .ref aG, .ref aHd, .ref aR, .ref aPi, .ref aS, .ref aPa, .ref aI])), (aG, .inr (0, [.ref aP, .ref aG_columns, .ref aG_lines, .ref aG_distances, .ref aG_weights, .int g_cells, .long g_free, .int g_freeCount])), (aHd, .inr (1, [.ref aG, .ref aHd_sums, .long hd_holders])), (aHd_sums, .inl (cy.1, 64, .inl hd_sums))] H0) (hf : f_X9_extreme g_cells g_free hd_holders hd_sums x1 = some r) : Rd l yX9_extreme cX9_extreme 3 (some Jvm.ClassFile.FieldType.int) ({ frames := 3, cells := 0, slots := 0, locals := 71 } : Room) ([.ref aD, .int x1] : List Value) (some (.int r)) D cy H0 := by
  refine rd_of (by decide +kernel) (Nat.le_of_ble_eq_true rfl) ?_
  intro p e s m below meth c ls S hr hlocks hk hl
  obtain ⟨hx, hb, hml, hown, hts⟩ := id S
  have hl : lv_has ls 3 [(0, .ref aD), (1, .int x1)] := hl
  rw [f_X9_extreme] at hf
  have J43 : ∀ (k0 : Int32) (ls : Array Slot), lv_has ls 3 [] → j_X9_extreme_43 k0 = some r → W p l e ({ frames := 3, cells := 0, slots := 0, locals := 71 } : Room) s m ([.ref aD, .int x1] : List Value).toArray below meth c H0 [] 0 0 (MQ below (QR (some (.int r)) H0) ([.ref aD, .int x1] : List Value).toArray s 0 0 (fun _ => False)) (F0 m 43 ls [.int k0]) := by
    intro k0 ls hl hf
    rw [j_X9_extreme_43] at hf
    refine lv_istore_n (lv' := [(2, .int k0)]) hx hb dX9_extreme_43 rfl hl (by decide) rfl (fun ls hl => ?_)
    refine lv_iload_n hx hb dX9_extreme_44 rfl (lv_at hl 0 rfl) ?_
    refine lv_iconst (v := (-1 : Int32)) hx hb dX9_extreme_45 (by decide) ?_
    refine lv_icmp_ne (tgt := 54) hx hb dX9_extreme_46 (by decide) (fun hc => ?_) (fun hc => ?_)
    · have hf := q_f hc hf
      refine lv_iload_n hx hb dX9_extreme_54 rfl (lv_at hl 0 rfl) ?_
      have hf := Option.some.inj hf
      subst hf
      exact q_riR hx hb hr hlocks dX9_extreme_55
    · have hf := q_t hc hf
      refine lv_bipush (v := (-9 : Int32)) hx hb dX9_extreme_49 (by decide) ?_
      refine lv_goto (tgt := 55) hx hb dX9_extreme_51 (by decide) ?_
      have hf := Option.some.inj hf
      subst hf
      exact q_riR hx hb hr hlocks dX9_extreme_55
  refine lv_iload_n hx hb dX9_extreme_0 rfl (lv_at hl 1 rfl) ?_
  refine lv_if_lt (tgt := 9) hx hb dX9_extreme_1 (by decide) (fun hc => ?_) (fun hc => ?_)
  · have hf := q_t hc hf
    refine lv_iconst (v := (-1 : Int32)) hx hb dX9_extreme_9 (by decide) ?_
    have hf := Option.some.inj hf
    subst hf
    exact q_riR hx hb hr hlocks dX9_extreme_10
  · have hf := q_f hc hf
    refine lv_iload_n hx hb dX9_extreme_4 rfl (lv_at hl 1 rfl) ?_
    refine lv_iconst (v := (1 : Int32)) hx hb dX9_extreme_5 (by decide) ?_
    refine lv_icmp_le (tgt := 11) hx hb dX9_extreme_6 (by decide) (fun hc => ?_) (fun hc => ?_)
    · have hf := q_t hc hf
      refine lv_iload_n hx hb dX9_extreme_11 rfl (lv_at hl 1 rfl) ?_
      refine lv_if_ne (tgt := 32) hx hb dX9_extreme_12 (by decide) (fun hc => ?_) (fun hc => ?_)
      · have hf := q_f hc hf
        refine lv_aload_n hx hb dX9_extreme_32 rfl (lv_at hl 0 rfl) ?_
        refine va_get (D := D) (ci := 9) (v := .ref aHd) (C := RX9) (T := TX9) (N := 10) hx hb hts iX9 hown hk.1 hP 0 rfl rfl 4 (by decide) (hts _ tw_303) (fun _ h9 => h9) rfl dX9_extreme_33 ?_
        refine lv_aload_n hx hb dX9_extreme_36 rfl (lv_at hl 0 rfl) ?_
        obtain ⟨z37, hz37, hf⟩ := q_bind hf
        refine q_rdV (As := []) (rest := [.ref aHd]) (st2 := [.long z37, .ref aHd]) S hk (c_X9_emptyCells l D cy H0 aD aT aP aQ aG aG_columns aG_lines aG_distances aG_weights aHd aHd_sums aR aPi aS aPa aI g_cells g_free g_freeCount hd_holders z37 (hP.sub [0, 1, 2] rfl) hz37) ok_X9_emptyCells tw_487 ⟨rfl, rfl, Nat.le_of_ble_eq_true rfl, Nat.le_of_ble_eq_true rfl⟩ (va_recv hk.1 hP (ci := 9) (q0 := 0) rfl rfl) rfl hl.1 rfl (Nat.le_of_ble_eq_true rfl) dX9_extreme_37 ⟨Nat.zero_le _, Nat.zero_le _⟩ rfl ?_
        obtain ⟨z40, hz40, hf⟩ := q_bind hf
        refine q_rdV (As := [.long z37]) (rest := []) (st2 := [.int z40]) S hk (c_X1_least l D cy H0 aP aG aG_columns aG_lines aG_distances aG_weights aHd aHd_sums g_cells g_free g_freeCount hd_holders hd_sums z37 z40 (hP.sub [1, 2, 3] rfl) hz40) ok_X1_least tw_492 ⟨rfl, rfl, Nat.le_of_ble_eq_true rfl, Nat.le_of_ble_eq_true rfl⟩ (va_recv hk.1 hP (ci := 1) (q0 := 2) rfl rfl) rfl hl.1 rfl (Nat.le_of_ble_eq_true rfl) dX9_extreme_40 ⟨Nat.zero_le _, Nat.zero_le _⟩ rfl ?_
        exact J43 z40 ls (lv_sub hl [] rfl) hf
      · have hf := q_t hc hf
        refine lv_aload_n hx hb dX9_extreme_15 rfl (lv_at hl 0 rfl) ?_
        refine va_get (D := D) (ci := 9) (v := .ref aHd) (C := RX9) (T := TX9) (N := 10) hx hb hts iX9 hown hk.1 hP 0 rfl rfl 4 (by decide) (hts _ tw_303) (fun _ h9 => h9) rfl dX9_extreme_16 ?_
        refine lv_aload_n hx hb dX9_extreme_19 rfl (lv_at hl 0 rfl) ?_
        refine va_get (D := D) (ci := 9) (v := .ref aHd) (C := RX9) (T := TX9) (N := 10) hx hb hts iX9 hown hk.1 hP 0 rfl rfl 4 (by decide) (hts _ tw_303) (fun _ h9 => h9) rfl dX9_extreme_20 ?_
        refine va_get (D := D) (ci := 1) (v := .long hd_holders) (C := RX1) (T := TX1) (N := 3) hx hb hts iX1 hown hk.1 hP 2 rfl rfl 2 (by decide) (hts _ tw_187) (fun _ h9 => h9) rfl dX9_extreme_23 ?_
        obtain ⟨z26, hz26, hf⟩ := q_bind hf
        refine q_rdV (As := [.long hd_holders]) (rest := []) (st2 := [.int z26]) S hk (c_X1_most l D cy H0 aP aG aG_columns aG_lines aG_distances aG_weights aHd aHd_sums g_cells g_free g_freeCount hd_holders hd_sums hd_holders z26 (hP.sub [1, 2, 3] rfl) hz26) ok_X1_most tw_479 ⟨rfl, rfl, Nat.le_of_ble_eq_true rfl, Nat.le_of_ble_eq_true rfl⟩ (va_recv hk.1 hP (ci := 1) (q0 := 2) rfl rfl) rfl hl.1 rfl (Nat.le_of_ble_eq_true rfl) dX9_extreme_26 ⟨Nat.zero_le _, Nat.zero_le _⟩ rfl ?_
        refine lv_goto (tgt := 43) hx hb dX9_extreme_29 (by decide) ?_
        exact J43 z26 ls (lv_sub hl [] rfl) hf
    · have hf := q_f hc hf
      refine lv_iconst (v := (-1 : Int32)) hx hb dX9_extreme_9 (by decide) ?_
      have hf := Option.some.inj hf
      subst hf
      exact q_riR hx hb hr hlocks dX9_extreme_10
def f_X9_energy (g_cells : Int32) (g_columns : Nat → Int32) (g_lines : Nat → Int32) (g_weights : Nat → Int32) (hd_holders : Int64) (hd_sums : Nat → Int32) : Option (Int32) := (f_X1_pairs g_cells g_columns g_lines g_weights hd_holders hd_sums).bind (fun z4 => some z4)
theorem ok_X9_energy : OkV yX9_energy cX9_energy 1 (some Jvm.ClassFile.FieldType.int) 0 := ⟨⟨tw_528, tw_1, by decide +kernel, by decide +kernel, by decide +kernel⟩, tw_526, tw_527⟩
set_option maxHeartbeats 4000000 in
set_option maxRecDepth 100000 in
theorem c_X9_energy (l : Launch) (D : va_G) (cy : ClassId × ClassId × ClassId) (H0 : Heap) (aD aT aP aQ aG aG_columns aG_lines aG_distances aG_weights aHd aHd_sums aR aPi aS aPa aI : Nat) (g_cells : Int32) (g_free : Int64) (g_freeCount : Int32) (g_columns : Nat → Int32) (g_lines : Nat → Int32) (g_weights : Nat → Int32) (hd_holders : Int64) (hd_sums : Nat → Int32) (r : Int32) (hP : va_P D vwCl [(aD, .inr (9, [.ref aT, .ref aP, .ref aQ, .ref aG, .ref aHd, .ref aR, .ref aPi, .ref aS, .ref aPa, .ref aI])), (aG, .inr (0, [.ref aP, .ref aG_columns, .ref aG_lines, .ref aG_distances, .ref aG_weights, .int g_cells, .long g_free, .int g_freeCount])), (aG_columns, .inl (cy.1, 64, .inl g_columns)), (aG_lines, .inl (cy.1, 64, .inl g_lines)), (aG_weights, .inl (cy.1, 64, .inl g_weights)), (aHd, .inr (1, [.ref aG, .ref aHd_sums, .long hd_holders])), (aHd_sums, .inl (cy.1, 64, .inl hd_sums))] H0) (hf : f_X9_energy g_cells g_columns g_lines g_weights hd_holders hd_sums = some r) : Rd l yX9_energy cX9_energy 1 (some Jvm.ClassFile.FieldType.int) ({ frames := 3, cells := 0, slots := 0, locals := 65 } : Room) ([.ref aD] : List Value) (some (.int r)) D cy H0 := by
  refine rd_of (by decide +kernel) (Nat.le_of_ble_eq_true rfl) ?_
  intro p e s m below meth c ls S hr hlocks hk hl
  obtain ⟨hx, hb, hml, hown, hts⟩ := id S
  have hl : lv_has ls 1 [(0, .ref aD)] := hl
  rw [f_X9_energy] at hf
  refine lv_aload_n hx hb dX9_energy_0 rfl (lv_at hl 0 rfl) ?_
  refine va_get (D := D) (ci := 9) (v := .ref aHd) (C := RX9) (T := TX9) (N := 10) hx hb hts iX9 hown hk.1 hP 0 rfl rfl 4 (by decide) (hts _ tw_303) (fun _ h9 => h9) rfl dX9_energy_1 ?_
  obtain ⟨z4, hz4, hf⟩ := q_bind hf
  refine q_rdV (As := []) (rest := []) (st2 := [.int z4]) S hk (c_X1_pairs l D cy H0 aP aG aG_columns aG_lines aG_distances aG_weights aHd aHd_sums g_cells g_free g_freeCount g_columns g_lines g_weights hd_holders hd_sums z4 (hP.sub [1, 2, 3, 4, 5, 6] rfl) hz4) ok_X1_pairs tw_500 ⟨rfl, rfl, Nat.le_of_ble_eq_true rfl, Nat.le_of_ble_eq_true rfl⟩ (va_recv hk.1 hP (ci := 1) (q0 := 5) rfl rfl) rfl hl.1 rfl (Nat.le_of_ble_eq_true rfl) dX9_energy_4 ⟨Nat.zero_le _, Nat.zero_le _⟩ rfl ?_
  have hf := Option.some.inj hf
  subst hf
  exact q_riR hx hb hr hlocks dX9_energy_7
def f_X9_gain (g_cells : Int32) (g_columns : Nat → Int32) (g_lines : Nat → Int32) (g_weights : Nat → Int32) (hd_sums : Nat → Int32) (x1 : Int32) (x2 : Int32) : Option (Int32) := (f_X1_sumAt g_cells hd_sums x1).bind (fun z5 => (f_X0_weight g_cells g_columns g_lines g_weights x1 x1).bind (fun z14 => (f_X1_sumAt g_cells hd_sums x2).bind (fun z24 => (f_X0_weight g_cells g_columns g_lines g_weights x1 x2).bind (fun z33 => some ((z5 - z14) - (z24 - z33))))))
theorem ok_X9_gain : OkV yX9_gain cX9_gain 5 (some Jvm.ClassFile.FieldType.int) 2 := ⟨⟨tw_540, tw_1, by decide +kernel, by decide +kernel, by decide +kernel⟩, tw_539, tp_13⟩
set_option maxHeartbeats 4000000 in
set_option maxRecDepth 100000 in
theorem c_X9_gain (l : Launch) (D : va_G) (cy : ClassId × ClassId × ClassId) (H0 : Heap) (aD aT aP aQ aG aG_columns aG_lines aG_distances aG_weights aHd aHd_sums aR aPi aS aPa aI : Nat) (g_cells : Int32) (g_free : Int64) (g_freeCount : Int32) (g_columns : Nat → Int32) (g_lines : Nat → Int32) (g_weights : Nat → Int32) (hd_holders : Int64) (hd_sums : Nat → Int32) (x1 : Int32) (x2 : Int32) (r : Int32) (hP : va_P D vwCl [(aD, .inr (9, [.ref aT, .ref aP, .ref aQ, .ref aG, .ref aHd, .ref aR, .ref aPi, .ref aS, .ref aPa, .ref aI])), (aG, .inr (0, [.ref aP, .ref aG_columns, .ref aG_lines, .ref aG_distances, .ref aG_weights, .int g_cells, .long g_free, .int g_freeCount])), (aG_columns, .inl (cy.1, 64, .inl g_columns)), (aG_lines, .inl (cy.1, 64, .inl g_lines)), (aG_weights, .inl (cy.1, 64, .inl g_weights)), (aHd, .inr (1, [.ref aG, .ref aHd_sums, .long hd_holders])), (aHd_sums, .inl (cy.1, 64, .inl hd_sums))] H0) (hf : f_X9_gain g_cells g_columns g_lines g_weights hd_sums x1 x2 = some r) : Rd l yX9_gain cX9_gain 5 (some Jvm.ClassFile.FieldType.int) ({ frames := 2, cells := 0, slots := 0, locals := 43 } : Room) ([.ref aD, .int x1, .int x2] : List Value) (some (.int r)) D cy H0 := by
  refine rd_of (by decide +kernel) (Nat.le_of_ble_eq_true rfl) ?_
  intro p e s m below meth c ls S hr hlocks hk hl
  obtain ⟨hx, hb, hml, hown, hts⟩ := id S
  have hl : lv_has ls 5 [(0, .ref aD), (1, .int x1), (2, .int x2)] := hl
  rw [f_X9_gain] at hf
  refine lv_aload_n hx hb dX9_gain_0 rfl (lv_at hl 0 rfl) ?_
  refine va_get (D := D) (ci := 9) (v := .ref aHd) (C := RX9) (T := TX9) (N := 10) hx hb hts iX9 hown hk.1 hP 0 rfl rfl 4 (by decide) (hts _ tw_303) (fun _ h9 => h9) rfl dX9_gain_1 ?_
  refine lv_iload_n hx hb dX9_gain_4 rfl (lv_at hl 1 rfl) ?_
  obtain ⟨z5, hz5, hf⟩ := q_bind hf
  refine q_rdV (As := [.int x1]) (rest := []) (st2 := [.int z5]) S hk (c_X1_sumAt l D cy H0 aP aG aG_columns aG_lines aG_distances aG_weights aHd aHd_sums g_cells g_free g_freeCount hd_holders hd_sums x1 z5 (hP.sub [1, 5, 6] rfl) hz5) ok_X1_sumAt tw_517 ⟨rfl, rfl, Nat.le_of_ble_eq_true rfl, Nat.le_of_ble_eq_true rfl⟩ (va_recv hk.1 hP (ci := 1) (q0 := 5) rfl rfl) rfl hl.1 rfl (Nat.le_of_ble_eq_true rfl) dX9_gain_5 ⟨Nat.zero_le _, Nat.zero_le _⟩ rfl ?_
  refine lv_aload_n hx hb dX9_gain_8 rfl (lv_at hl 0 rfl) ?_
  refine va_get (D := D) (ci := 9) (v := .ref aG) (C := RX9) (T := TX9) (N := 10) hx hb hts iX9 hown hk.1 hP 0 rfl rfl 3 (by decide) (hts _ tw_302) (fun _ h9 => h9) rfl dX9_gain_9 ?_
  refine lv_iload_n hx hb dX9_gain_12 rfl (lv_at hl 1 rfl) ?_
  refine lv_iload_n hx hb dX9_gain_13 rfl (lv_at hl 1 rfl) ?_
  obtain ⟨z14, hz14, hf⟩ := q_bind hf
  refine q_rdV (As := [.int x1, .int x1]) (rest := [.int z5]) (st2 := [.int z14, .int z5]) S hk (c_X0_weight l D cy H0 aP aG aG_columns aG_lines aG_distances aG_weights g_cells g_free g_freeCount g_columns g_lines g_weights x1 x1 z14 (hP.sub [1, 2, 3, 4] rfl) hz14) ok_X0_weight tw_454 ⟨rfl, rfl, Nat.le_of_ble_eq_true rfl, Nat.le_of_ble_eq_true rfl⟩ (va_recv hk.1 hP (ci := 0) (q0 := 1) rfl rfl) rfl hl.1 rfl (Nat.le_of_ble_eq_true rfl) dX9_gain_14 ⟨Nat.zero_le _, Nat.zero_le _⟩ rfl ?_
  refine lv_isub hx hb dX9_gain_17 ?_
  refine lv_istore_n (lv' := [(3, .int (z5 - z14)), (0, .ref aD), (1, .int x1), (2, .int x2)]) hx hb dX9_gain_18 rfl hl (by decide) rfl (fun ls hl => ?_)
  refine lv_aload_n hx hb dX9_gain_19 rfl (lv_at hl 1 rfl) ?_
  refine va_get (D := D) (ci := 9) (v := .ref aHd) (C := RX9) (T := TX9) (N := 10) hx hb hts iX9 hown hk.1 hP 0 rfl rfl 4 (by decide) (hts _ tw_303) (fun _ h9 => h9) rfl dX9_gain_20 ?_
  refine lv_iload_n hx hb dX9_gain_23 rfl (lv_at hl 3 rfl) ?_
  obtain ⟨z24, hz24, hf⟩ := q_bind hf
  refine q_rdV (As := [.int x2]) (rest := []) (st2 := [.int z24]) S hk (c_X1_sumAt l D cy H0 aP aG aG_columns aG_lines aG_distances aG_weights aHd aHd_sums g_cells g_free g_freeCount hd_holders hd_sums x2 z24 (hP.sub [1, 5, 6] rfl) hz24) ok_X1_sumAt tw_517 ⟨rfl, rfl, Nat.le_of_ble_eq_true rfl, Nat.le_of_ble_eq_true rfl⟩ (va_recv hk.1 hP (ci := 1) (q0 := 5) rfl rfl) rfl hl.1 rfl (Nat.le_of_ble_eq_true rfl) dX9_gain_24 ⟨Nat.zero_le _, Nat.zero_le _⟩ rfl ?_
  refine lv_aload_n hx hb dX9_gain_27 rfl (lv_at hl 1 rfl) ?_
  refine va_get (D := D) (ci := 9) (v := .ref aG) (C := RX9) (T := TX9) (N := 10) hx hb hts iX9 hown hk.1 hP 0 rfl rfl 3 (by decide) (hts _ tw_302) (fun _ h9 => h9) rfl dX9_gain_28 ?_
  refine lv_iload_n hx hb dX9_gain_31 rfl (lv_at hl 2 rfl) ?_
  refine lv_iload_n hx hb dX9_gain_32 rfl (lv_at hl 3 rfl) ?_
  obtain ⟨z33, hz33, hf⟩ := q_bind hf
  refine q_rdV (As := [.int x1, .int x2]) (rest := [.int z24]) (st2 := [.int z33, .int z24]) S hk (c_X0_weight l D cy H0 aP aG aG_columns aG_lines aG_distances aG_weights g_cells g_free g_freeCount g_columns g_lines g_weights x1 x2 z33 (hP.sub [1, 2, 3, 4] rfl) hz33) ok_X0_weight tw_454 ⟨rfl, rfl, Nat.le_of_ble_eq_true rfl, Nat.le_of_ble_eq_true rfl⟩ (va_recv hk.1 hP (ci := 0) (q0 := 1) rfl rfl) rfl hl.1 rfl (Nat.le_of_ble_eq_true rfl) dX9_gain_33 ⟨Nat.zero_le _, Nat.zero_le _⟩ rfl ?_
  refine lv_isub hx hb dX9_gain_36 ?_
  refine lv_istore (lv' := [(4, .int (z24 - z33)), (3, .int (z5 - z14)), (0, .ref aD), (1, .int x1), (2, .int x2)]) hx hb dX9_gain_37 hl (by decide) rfl (fun ls hl => ?_)
  refine lv_iload_n hx hb dX9_gain_39 rfl (lv_at hl 1 rfl) ?_
  refine lv_iload hx hb dX9_gain_40 (lv_at hl 0 rfl) ?_
  refine lv_isub hx hb dX9_gain_42 ?_
  have hf := Option.some.inj hf
  subst hf
  exact q_riR hx hb hr hlocks dX9_gain_43
def j_X9_bestMove_92 (k46 : Int64 → Int32 → Int32 → Int32 → Int32 → Option (Int32)) (x1 : Int64) (x5 : Int32) (x6 : Int32) (x7 : Int32) : Option (Int32) := k46 x1 ((x5 * (64 : Int32)) + x6) x7 x5 (x6 + 1)
def lp_X9_bestMove_46 (g_cells : Int32) (g_columns : Nat → Int32) (g_lines : Nat → Int32) (g_weights : Nat → Int32) (hd_sums : Nat → Int32) (k13 : Int64 → Int32 → Int32 → Int32 → Option (Int32)) : Nat → Int64 → Int32 → Int32 → Int32 → Int32 → Option (Int32)
  | 0, _, _, _, _, _ => none
  | n + 1, x1, x3, x4, x5, x6 => if g_cells ≤ x6 then (k13 x1 x3 x4 (x5 + 1)) else ((f_X9_has x1 x6).bind (fun z61 => if z61 = 0 then (lp_X9_bestMove_46 g_cells g_columns g_lines g_weights hd_sums k13 n x1 x3 x4 x5 (x6 + 1)) else ((f_X9_gain g_cells g_columns g_lines g_weights hd_sums x5 x6).bind (fun z75 => if x3 = (-1 : Int32) then (j_X9_bestMove_92 (lp_X9_bestMove_46 g_cells g_columns g_lines g_weights hd_sums k13 n) x1 x5 x6 z75) else (if z75 ≤ x4 then (lp_X9_bestMove_46 g_cells g_columns g_lines g_weights hd_sums k13 n x1 x3 x4 x5 (x6 + 1)) else (j_X9_bestMove_92 (lp_X9_bestMove_46 g_cells g_columns g_lines g_weights hd_sums k13 n) x1 x5 x6 z75))))))
theorem lp_X9_bestMove_46_s (g_cells : Int32) (g_columns : Nat → Int32) (g_lines : Nat → Int32) (g_weights : Nat → Int32) (hd_sums : Nat → Int32) (k13 : Int64 → Int32 → Int32 → Int32 → Option (Int32)) (n : Nat) (x1 : Int64) (x3 : Int32) (x4 : Int32) (x5 : Int32) (x6 : Int32) : lp_X9_bestMove_46 g_cells g_columns g_lines g_weights hd_sums k13 (n + 1) x1 x3 x4 x5 x6 = (if g_cells ≤ x6 then (k13 x1 x3 x4 (x5 + 1)) else ((f_X9_has x1 x6).bind (fun z61 => if z61 = 0 then (lp_X9_bestMove_46 g_cells g_columns g_lines g_weights hd_sums k13 n x1 x3 x4 x5 (x6 + 1)) else ((f_X9_gain g_cells g_columns g_lines g_weights hd_sums x5 x6).bind (fun z75 => if x3 = (-1 : Int32) then (j_X9_bestMove_92 (lp_X9_bestMove_46 g_cells g_columns g_lines g_weights hd_sums k13 n) x1 x5 x6 z75) else (if z75 ≤ x4 then (lp_X9_bestMove_46 g_cells g_columns g_lines g_weights hd_sums k13 n x1 x3 x4 x5 (x6 + 1)) else (j_X9_bestMove_92 (lp_X9_bestMove_46 g_cells g_columns g_lines g_weights hd_sums k13 n) x1 x5 x6 z75))))))) := rfl
theorem lp_X9_bestMove_46_z (g_cells : Int32) (g_columns : Nat → Int32) (g_lines : Nat → Int32) (g_weights : Nat → Int32) (hd_sums : Nat → Int32) (k13 : Int64 → Int32 → Int32 → Int32 → Option (Int32)) (x1 : Int64) (x3 : Int32) (x4 : Int32) (x5 : Int32) (x6 : Int32) : lp_X9_bestMove_46 g_cells g_columns g_lines g_weights hd_sums k13 0 x1 x3 x4 x5 x6 = none := rfl
def lp_X9_bestMove_13 (g_cells : Int32) (g_columns : Nat → Int32) (g_lines : Nat → Int32) (g_weights : Nat → Int32) (hd_holders : Int64) (hd_sums : Nat → Int32) : Nat → Int64 → Int32 → Int32 → Int32 → Option (Int32)
  | 0, _, _, _, _ => none
  | n + 1, x1, x3, x4, x5 => if g_cells ≤ x5 then (some x3) else ((f_X9_has hd_holders x5).bind (fun z34 => if z34 = 0 then (lp_X9_bestMove_13 g_cells g_columns g_lines g_weights hd_holders hd_sums n x1 x3 x4 (x5 + 1)) else (lp_X9_bestMove_46 g_cells g_columns g_lines g_weights hd_sums (lp_X9_bestMove_13 g_cells g_columns g_lines g_weights hd_holders hd_sums n) FU x1 x3 x4 x5 (0 : Int32))))
theorem lp_X9_bestMove_13_s (g_cells : Int32) (g_columns : Nat → Int32) (g_lines : Nat → Int32) (g_weights : Nat → Int32) (hd_holders : Int64) (hd_sums : Nat → Int32) (n : Nat) (x1 : Int64) (x3 : Int32) (x4 : Int32) (x5 : Int32) : lp_X9_bestMove_13 g_cells g_columns g_lines g_weights hd_holders hd_sums (n + 1) x1 x3 x4 x5 = (if g_cells ≤ x5 then (some x3) else ((f_X9_has hd_holders x5).bind (fun z34 => if z34 = 0 then (lp_X9_bestMove_13 g_cells g_columns g_lines g_weights hd_holders hd_sums n x1 x3 x4 (x5 + 1)) else (lp_X9_bestMove_46 g_cells g_columns g_lines g_weights hd_sums (lp_X9_bestMove_13 g_cells g_columns g_lines g_weights hd_holders hd_sums n) FU x1 x3 x4 x5 (0 : Int32))))) := rfl
theorem lp_X9_bestMove_13_z (g_cells : Int32) (g_columns : Nat → Int32) (g_lines : Nat → Int32) (g_weights : Nat → Int32) (hd_holders : Int64) (hd_sums : Nat → Int32) (x1 : Int64) (x3 : Int32) (x4 : Int32) (x5 : Int32) : lp_X9_bestMove_13 g_cells g_columns g_lines g_weights hd_holders hd_sums 0 x1 x3 x4 x5 = none := rfl
def f_X9_bestMove (g_cells : Int32) (g_free : Int64) (g_columns : Nat → Int32) (g_lines : Nat → Int32) (g_weights : Nat → Int32) (hd_holders : Int64) (hd_sums : Nat → Int32) : Option (Int32) := (f_X9_emptyCells g_free hd_holders).bind (fun z1 => lp_X9_bestMove_13 g_cells g_columns g_lines g_weights hd_holders hd_sums FU z1 (-1 : Int32) (0 : Int32) (0 : Int32))
theorem ok_X9_bestMove : OkV yX9_bestMove cX9_bestMove 8 (some Jvm.ClassFile.FieldType.int) 0 := ⟨⟨tw_536, tw_1, by decide +kernel, by decide +kernel, by decide +kernel⟩, tw_535, tp_12⟩
set_option maxHeartbeats 4000000 in
set_option maxRecDepth 100000 in
theorem c_X9_bestMove (l : Launch) (D : va_G) (cy : ClassId × ClassId × ClassId) (H0 : Heap) (aD aT aP aQ aG aG_columns aG_lines aG_distances aG_weights aHd aHd_sums aR aPi aS aPa aI : Nat) (g_cells : Int32) (g_free : Int64) (g_freeCount : Int32) (g_columns : Nat → Int32) (g_lines : Nat → Int32) (g_weights : Nat → Int32) (hd_holders : Int64) (hd_sums : Nat → Int32) (r : Int32) (hP : va_P D vwCl [(aD, .inr (9, [.ref aT, .ref aP, .ref aQ, .ref aG, .ref aHd, .ref aR, .ref aPi, .ref aS, .ref aPa, .ref aI])), (aG, .inr (0, [.ref aP, .ref aG_columns, .ref aG_lines, .ref aG_distances, .ref aG_weights, .int g_cells, .long g_free, .int g_freeCount])), (aG_columns, .inl (cy.1, 64, .inl g_columns)), (aG_lines, .inl (cy.1, 64, .inl g_lines)), (aG_weights, .inl (cy.1, 64, .inl g_weights)), (aHd, .inr (1, [.ref aG, .ref aHd_sums, .long hd_holders])), (aHd_sums, .inl (cy.1, 64, .inl hd_sums))] H0) (hf : f_X9_bestMove g_cells g_free g_columns g_lines g_weights hd_holders hd_sums = some r) : Rd l yX9_bestMove cX9_bestMove 8 (some Jvm.ClassFile.FieldType.int) ({ frames := 3, cells := 0, slots := 0, locals := 67 } : Room) ([.ref aD] : List Value) (some (.int r)) D cy H0 := by
  refine rd_of (by decide +kernel) (Nat.le_of_ble_eq_true rfl) ?_
  intro p e s m below meth c ls S hr hlocks hk hl
  obtain ⟨hx, hb, hml, hown, hts⟩ := id S
  have hl : lv_has ls 8 [(0, .ref aD)] := hl
  rw [f_X9_bestMove] at hf
  have J13 : ∀ (n13 : Nat) (x1 : Int64) (x3 : Int32) (x4 : Int32) (x5 : Int32) (ls : Array Slot), lv_has ls 8 [(0, .ref aD), (1, .long x1), (3, .int x3), (4, .int x4), (5, .int x5)] → lp_X9_bestMove_13 g_cells g_columns g_lines g_weights hd_holders hd_sums n13 x1 x3 x4 x5 = some r → W p l e ({ frames := 3, cells := 0, slots := 0, locals := 67 } : Room) s m ([.ref aD] : List Value).toArray below meth c H0 [] 0 0 (MQ below (QR (some (.int r)) H0) ([.ref aD] : List Value).toArray s 0 0 (fun _ => False)) (F0 m 13 ls []) := by
    intro n13
    induction n13 with
    | zero =>
      intro x1 x3 x4 x5 ls hl hf
      rw [lp_X9_bestMove_13_z] at hf
      cases hf
    | succ n13 ih13 =>
      have J46 : ∀ (n46 : Nat) (x1 : Int64) (x3 : Int32) (x4 : Int32) (x5 : Int32) (x6 : Int32) (ls : Array Slot), lv_has ls 8 [(0, .ref aD), (1, .long x1), (3, .int x3), (4, .int x4), (5, .int x5), (6, .int x6)] → lp_X9_bestMove_46 g_cells g_columns g_lines g_weights hd_sums (lp_X9_bestMove_13 g_cells g_columns g_lines g_weights hd_holders hd_sums n13) n46 x1 x3 x4 x5 x6 = some r → W p l e ({ frames := 3, cells := 0, slots := 0, locals := 67 } : Room) s m ([.ref aD] : List Value).toArray below meth c H0 [] 0 0 (MQ below (QR (some (.int r)) H0) ([.ref aD] : List Value).toArray s 0 0 (fun _ => False)) (F0 m 46 ls []) := by
        intro n46
        induction n46 with
        | zero =>
          intro x1 x3 x4 x5 x6 ls hl hf
          rw [lp_X9_bestMove_46_z] at hf
          cases hf
        | succ n46 ih46 =>
          have J92 : ∀ (x1 : Int64) (x5 : Int32) (x6 : Int32) (x7 : Int32) (ls : Array Slot), lv_has ls 8 [(0, .ref aD), (1, .long x1), (5, .int x5), (6, .int x6), (7, .int x7)] → j_X9_bestMove_92 (lp_X9_bestMove_46 g_cells g_columns g_lines g_weights hd_sums (lp_X9_bestMove_13 g_cells g_columns g_lines g_weights hd_holders hd_sums n13) n46) x1 x5 x6 x7 = some r → W p l e ({ frames := 3, cells := 0, slots := 0, locals := 67 } : Room) s m ([.ref aD] : List Value).toArray below meth c H0 [] 0 0 (MQ below (QR (some (.int r)) H0) ([.ref aD] : List Value).toArray s 0 0 (fun _ => False)) (F0 m 92 ls []) := by
            intro x1 x5 x6 x7 ls hl hf
            rw [j_X9_bestMove_92] at hf
            refine lv_iload hx hb dX9_bestMove_92 (lv_at hl 2 rfl) ?_
            refine lv_bipush (v := (64 : Int32)) hx hb dX9_bestMove_94 (by decide) ?_
            refine lv_imul hx hb dX9_bestMove_96 ?_
            refine lv_iload hx hb dX9_bestMove_97 (lv_at hl 3 rfl) ?_
            refine lv_iadd hx hb dX9_bestMove_99 ?_
            refine lv_istore_n (lv' := [(3, .int ((x5 * (64 : Int32)) + x6)), (0, .ref aD), (1, .long x1), (5, .int x5), (6, .int x6), (7, .int x7)]) hx hb dX9_bestMove_100 rfl hl (by decide) rfl (fun ls hl => ?_)
            refine lv_iload hx hb dX9_bestMove_101 (lv_at hl 5 rfl) ?_
            refine lv_istore (lv' := [(4, .int x7), (3, .int ((x5 * (64 : Int32)) + x6)), (0, .ref aD), (1, .long x1), (5, .int x5), (6, .int x6), (7, .int x7)]) hx hb dX9_bestMove_103 hl (by decide) rfl (fun ls hl => ?_)
            refine lv_iinc (v := (x6 + 1)) (lv' := [(6, .int (x6 + 1)), (4, .int x7), (3, .int ((x5 * (64 : Int32)) + x6)), (0, .ref aD), (1, .long x1), (5, .int x5), (7, .int x7)]) hx hb dX9_bestMove_105 hl (k := 5) rfl rfl (by decide) rfl (fun ls hl => ?_)
            refine lv_goto (tgt := 46) hx hb dX9_bestMove_108 (by decide) ?_
            exact ih46 x1 ((x5 * (64 : Int32)) + x6) x7 x5 (x6 + 1) ls (lv_sub hl [3, 4, 2, 1, 5, 0] rfl) hf
          intro x1 x3 x4 x5 x6 ls hl hf
          rw [lp_X9_bestMove_46_s] at hf
          refine lv_iload hx hb dX9_bestMove_46 (lv_at hl 5 rfl) ?_
          refine lv_aload_n hx hb dX9_bestMove_48 rfl (lv_at hl 0 rfl) ?_
          refine va_get (D := D) (ci := 9) (v := .ref aG) (C := RX9) (T := TX9) (N := 10) hx hb hts iX9 hown hk.1 hP 0 rfl rfl 3 (by decide) (hts _ tw_302) (fun _ h9 => h9) rfl dX9_bestMove_49 ?_
          refine va_get (D := D) (ci := 0) (v := .int g_cells) (C := RX0) (T := TX0) (N := 8) hx hb hts iX0 hown hk.1 hP 1 rfl rfl 5 (by decide) (hts _ tw_150) (fun _ h9 => h9) rfl dX9_bestMove_52 ?_
          refine lv_icmp_ge (tgt := 111) hx hb dX9_bestMove_55 (by decide) (fun hc => ?_) (fun hc => ?_)
          · have hf := q_t hc hf
            refine lv_iinc (v := (x5 + 1)) (lv' := [(5, .int (x5 + 1)), (0, .ref aD), (1, .long x1), (3, .int x3), (4, .int x4), (6, .int x6)]) hx hb dX9_bestMove_111 hl (k := 4) rfl rfl (by decide) rfl (fun ls hl => ?_)
            refine lv_goto (tgt := 13) hx hb dX9_bestMove_114 (by decide) ?_
            exact ih13 x1 x3 x4 (x5 + 1) ls (lv_sub hl [1, 2, 3, 4, 0] rfl) hf
          · have hf := q_f hc hf
            refine lv_lload_n hx hb dX9_bestMove_58 rfl (lv_at hl 1 rfl) ?_
            refine lv_iload hx hb dX9_bestMove_59 (lv_at hl 5 rfl) ?_
            obtain ⟨z61, hz61, hf⟩ := q_bind hf
            refine q_rdS (As := [.long x1, .int x6]) (rest := []) (st2 := [.int z61]) S hk (c_X9_has l D cy H0 x1 x6 z61 hz61) ok_X9_has tw_444 ⟨rfl, rfl, Nat.le_of_ble_eq_true rfl, Nat.le_of_ble_eq_true rfl⟩ rfl hl.1 rfl (Nat.le_of_ble_eq_true rfl) dX9_bestMove_61 ⟨Nat.zero_le _, Nat.zero_le _⟩ rfl ?_
            refine lv_if_ne (tgt := 70) hx hb dX9_bestMove_64 (by decide) (fun hc => ?_) (fun hc => ?_)
            · have hf := q_f hc hf
              refine lv_aload_n hx hb dX9_bestMove_70 rfl (lv_at hl 0 rfl) ?_
              refine lv_iload hx hb dX9_bestMove_71 (lv_at hl 4 rfl) ?_
              refine lv_iload hx hb dX9_bestMove_73 (lv_at hl 5 rfl) ?_
              obtain ⟨z75, hz75, hf⟩ := q_bind hf
              refine q_rdV (As := [.int x5, .int x6]) (rest := []) (st2 := [.int z75]) S hk (c_X9_gain l D cy H0 aD aT aP aQ aG aG_columns aG_lines aG_distances aG_weights aHd aHd_sums aR aPi aS aPa aI g_cells g_free g_freeCount g_columns g_lines g_weights hd_holders hd_sums x5 x6 z75 (hP.sub [0, 1, 2, 3, 4, 5, 6] rfl) hz75) ok_X9_gain tw_537 ⟨rfl, rfl, Nat.le_of_ble_eq_true rfl, Nat.le_of_ble_eq_true rfl⟩ (va_recv hk.1 hP (ci := 9) (q0 := 0) rfl rfl) rfl hl.1 rfl (Nat.le_of_ble_eq_true rfl) dX9_bestMove_75 ⟨Nat.zero_le _, Nat.zero_le _⟩ rfl ?_
              refine lv_istore (lv' := [(7, .int z75), (0, .ref aD), (1, .long x1), (3, .int x3), (4, .int x4), (5, .int x5), (6, .int x6)]) hx hb dX9_bestMove_78 hl (by decide) rfl (fun ls hl => ?_)
              refine lv_iload_n hx hb dX9_bestMove_80 rfl (lv_at hl 3 rfl) ?_
              refine lv_iconst (v := (-1 : Int32)) hx hb dX9_bestMove_81 (by decide) ?_
              refine lv_icmp_eq (tgt := 92) hx hb dX9_bestMove_82 (by decide) (fun hc => ?_) (fun hc => ?_)
              · have hf := q_t hc hf
                exact J92 x1 x5 x6 z75 ls (lv_sub hl [1, 2, 5, 6, 0] rfl) hf
              · have hf := q_f hc hf
                refine lv_iload hx hb dX9_bestMove_85 (lv_at hl 0 rfl) ?_
                refine lv_iload hx hb dX9_bestMove_87 (lv_at hl 4 rfl) ?_
                refine lv_icmp_le (tgt := 105) hx hb dX9_bestMove_89 (by decide) (fun hc => ?_) (fun hc => ?_)
                · have hf := q_t hc hf
                  refine lv_iinc (v := (x6 + 1)) (lv' := [(6, .int (x6 + 1)), (7, .int z75), (0, .ref aD), (1, .long x1), (3, .int x3), (4, .int x4), (5, .int x5)]) hx hb dX9_bestMove_105 hl (k := 6) rfl rfl (by decide) rfl (fun ls hl => ?_)
                  refine lv_goto (tgt := 46) hx hb dX9_bestMove_108 (by decide) ?_
                  exact ih46 x1 x3 x4 x5 (x6 + 1) ls (lv_sub hl [2, 3, 4, 5, 6, 0] rfl) hf
                · have hf := q_f hc hf
                  exact J92 x1 x5 x6 z75 ls (lv_sub hl [1, 2, 5, 6, 0] rfl) hf
            · have hf := q_t hc hf
              refine lv_goto (tgt := 105) hx hb dX9_bestMove_67 (by decide) ?_
              refine lv_iinc (v := (x6 + 1)) (lv' := [(6, .int (x6 + 1)), (0, .ref aD), (1, .long x1), (3, .int x3), (4, .int x4), (5, .int x5)]) hx hb dX9_bestMove_105 hl (k := 5) rfl rfl (by decide) rfl (fun ls hl => ?_)
              refine lv_goto (tgt := 46) hx hb dX9_bestMove_108 (by decide) ?_
              exact ih46 x1 x3 x4 x5 (x6 + 1) ls (lv_sub hl [1, 2, 3, 4, 5, 0] rfl) hf
      intro x1 x3 x4 x5 ls hl hf
      rw [lp_X9_bestMove_13_s] at hf
      refine lv_iload hx hb dX9_bestMove_13 (lv_at hl 4 rfl) ?_
      refine lv_aload_n hx hb dX9_bestMove_15 rfl (lv_at hl 0 rfl) ?_
      refine va_get (D := D) (ci := 9) (v := .ref aG) (C := RX9) (T := TX9) (N := 10) hx hb hts iX9 hown hk.1 hP 0 rfl rfl 3 (by decide) (hts _ tw_302) (fun _ h9 => h9) rfl dX9_bestMove_16 ?_
      refine va_get (D := D) (ci := 0) (v := .int g_cells) (C := RX0) (T := TX0) (N := 8) hx hb hts iX0 hown hk.1 hP 1 rfl rfl 5 (by decide) (hts _ tw_150) (fun _ h9 => h9) rfl dX9_bestMove_19 ?_
      refine lv_icmp_ge (tgt := 117) hx hb dX9_bestMove_22 (by decide) (fun hc => ?_) (fun hc => ?_)
      · have hf := q_t hc hf
        refine lv_iload_n hx hb dX9_bestMove_117 rfl (lv_at hl 2 rfl) ?_
        have hf := Option.some.inj hf
        subst hf
        exact q_riR hx hb hr hlocks dX9_bestMove_118
      · have hf := q_f hc hf
        refine lv_aload_n hx hb dX9_bestMove_25 rfl (lv_at hl 0 rfl) ?_
        refine va_get (D := D) (ci := 9) (v := .ref aHd) (C := RX9) (T := TX9) (N := 10) hx hb hts iX9 hown hk.1 hP 0 rfl rfl 4 (by decide) (hts _ tw_303) (fun _ h9 => h9) rfl dX9_bestMove_26 ?_
        refine va_get (D := D) (ci := 1) (v := .long hd_holders) (C := RX1) (T := TX1) (N := 3) hx hb hts iX1 hown hk.1 hP 5 rfl rfl 2 (by decide) (hts _ tw_187) (fun _ h9 => h9) rfl dX9_bestMove_29 ?_
        refine lv_iload hx hb dX9_bestMove_32 (lv_at hl 4 rfl) ?_
        obtain ⟨z34, hz34, hf⟩ := q_bind hf
        refine q_rdS (As := [.long hd_holders, .int x5]) (rest := []) (st2 := [.int z34]) S hk (c_X9_has l D cy H0 hd_holders x5 z34 hz34) ok_X9_has tw_444 ⟨rfl, rfl, Nat.le_of_ble_eq_true rfl, Nat.le_of_ble_eq_true rfl⟩ rfl hl.1 rfl (Nat.le_of_ble_eq_true rfl) dX9_bestMove_34 ⟨Nat.zero_le _, Nat.zero_le _⟩ rfl ?_
        refine lv_if_ne (tgt := 43) hx hb dX9_bestMove_37 (by decide) (fun hc => ?_) (fun hc => ?_)
        · have hf := q_f hc hf
          refine lv_iconst (v := (0 : Int32)) hx hb dX9_bestMove_43 (by decide) ?_
          refine lv_istore (lv' := [(6, .int (0 : Int32)), (0, .ref aD), (1, .long x1), (3, .int x3), (4, .int x4), (5, .int x5)]) hx hb dX9_bestMove_44 hl (by decide) rfl (fun ls hl => ?_)
          exact J46 FU x1 x3 x4 x5 (0 : Int32) ls (lv_sub hl [1, 2, 3, 4, 5, 0] rfl) hf
        · have hf := q_t hc hf
          refine lv_goto (tgt := 111) hx hb dX9_bestMove_40 (by decide) ?_
          refine lv_iinc (v := (x5 + 1)) (lv' := [(5, .int (x5 + 1)), (0, .ref aD), (1, .long x1), (3, .int x3), (4, .int x4)]) hx hb dX9_bestMove_111 hl (k := 4) rfl rfl (by decide) rfl (fun ls hl => ?_)
          refine lv_goto (tgt := 13) hx hb dX9_bestMove_114 (by decide) ?_
          exact ih13 x1 x3 x4 (x5 + 1) ls (lv_sub hl [1, 2, 3, 4, 0] rfl) hf
  refine lv_aload_n hx hb dX9_bestMove_0 rfl (lv_at hl 0 rfl) ?_
  obtain ⟨z1, hz1, hf⟩ := q_bind hf
  refine q_rdV (As := []) (rest := []) (st2 := [.long z1]) S hk (c_X9_emptyCells l D cy H0 aD aT aP aQ aG aG_columns aG_lines aG_distances aG_weights aHd aHd_sums aR aPi aS aPa aI g_cells g_free g_freeCount hd_holders z1 (hP.sub [0, 1, 5] rfl) hz1) ok_X9_emptyCells tw_487 ⟨rfl, rfl, Nat.le_of_ble_eq_true rfl, Nat.le_of_ble_eq_true rfl⟩ (va_recv hk.1 hP (ci := 9) (q0 := 0) rfl rfl) rfl hl.1 rfl (Nat.le_of_ble_eq_true rfl) dX9_bestMove_1 ⟨Nat.zero_le _, Nat.zero_le _⟩ rfl ?_
  refine lv_lstore_n (lv' := [(1, .long z1), (0, .ref aD)]) hx hb dX9_bestMove_4 rfl hl (by decide) rfl (fun ls hl => ?_)
  refine lv_iconst (v := (-1 : Int32)) hx hb dX9_bestMove_5 (by decide) ?_
  refine lv_istore_n (lv' := [(3, .int (-1 : Int32)), (1, .long z1), (0, .ref aD)]) hx hb dX9_bestMove_6 rfl hl (by decide) rfl (fun ls hl => ?_)
  refine lv_iconst (v := (0 : Int32)) hx hb dX9_bestMove_7 (by decide) ?_
  refine lv_istore (lv' := [(4, .int (0 : Int32)), (3, .int (-1 : Int32)), (1, .long z1), (0, .ref aD)]) hx hb dX9_bestMove_8 hl (by decide) rfl (fun ls hl => ?_)
  refine lv_iconst (v := (0 : Int32)) hx hb dX9_bestMove_10 (by decide) ?_
  refine lv_istore (lv' := [(5, .int (0 : Int32)), (4, .int (0 : Int32)), (3, .int (-1 : Int32)), (1, .long z1), (0, .ref aD)]) hx hb dX9_bestMove_11 hl (by decide) rfl (fun ls hl => ?_)
  exact J13 FU z1 (-1 : Int32) (0 : Int32) (0 : Int32) ls (lv_sub hl [4, 3, 2, 1, 0] rfl) hf
def f_X9_better (g_cells : Int32) (g_free : Int64) (g_columns : Nat → Int32) (g_lines : Nat → Int32) (g_weights : Nat → Int32) (hd_holders : Int64) (hd_sums : Nat → Int32) (x1 : Int32) : Option (Int32) := if x1 < 0 then (some (-1 : Int32)) else (if x1 ≤ (2 : Int32) then ((f_X9_bestMove g_cells g_free g_columns g_lines g_weights hd_holders hd_sums).bind (fun z12 => if z12 = (-1 : Int32) then (if x1 = 0 then (some (0 : Int32)) else (some (-9 : Int32))) else (if x1 = 0 then ((f_X9_gain g_cells g_columns g_lines g_weights hd_sums (z12 / (64 : Int32)) (z12 - z12 / (64 : Int32) * (64 : Int32))).bind (fun z51 => some z51)) else (if x1 = (1 : Int32) then (some (z12 / (64 : Int32))) else (some (z12 - z12 / (64 : Int32) * (64 : Int32))))))) else (some (-1 : Int32)))
theorem ok_X9_better : OkV yX9_better cX9_better 5 (some Jvm.ClassFile.FieldType.int) 1 := ⟨⟨tw_532, tw_1, by decide +kernel, by decide +kernel, by decide +kernel⟩, tw_530, tw_531⟩
set_option maxHeartbeats 4000000 in
set_option maxRecDepth 100000 in
theorem c_X9_better (l : Launch) (D : va_G) (cy : ClassId × ClassId × ClassId) (H0 : Heap) (aD aT aP aQ aG aG_columns aG_lines aG_distances aG_weights aHd aHd_sums aR aPi aS aPa aI : Nat) (g_cells : Int32) (g_free : Int64) (g_freeCount : Int32) (g_columns : Nat → Int32) (g_lines : Nat → Int32) (g_weights : Nat → Int32) (hd_holders : Int64) (hd_sums : Nat → Int32) (x1 : Int32) (r : Int32) (hP : va_P D vwCl [(aD, .inr (9, [.ref aT, .ref aP, .ref aQ, .ref aG, .ref aHd, .ref aR, .ref aPi, .ref aS, .ref aPa, .ref aI])), (aG, .inr (0, [.ref aP, .ref aG_columns, .ref aG_lines, .ref aG_distances, .ref aG_weights, .int g_cells, .long g_free, .int g_freeCount])), (aG_columns, .inl (cy.1, 64, .inl g_columns)), (aG_lines, .inl (cy.1, 64, .inl g_lines)), (aG_weights, .inl (cy.1, 64, .inl g_weights)), (aHd, .inr (1, [.ref aG, .ref aHd_sums, .long hd_holders])), (aHd_sums, .inl (cy.1, 64, .inl hd_sums))] H0) (hf : f_X9_better g_cells g_free g_columns g_lines g_weights hd_holders hd_sums x1 = some r) : Rd l yX9_better cX9_better 5 (some Jvm.ClassFile.FieldType.int) ({ frames := 4, cells := 0, slots := 0, locals := 94 } : Room) ([.ref aD, .int x1] : List Value) (some (.int r)) D cy H0 := by
  refine rd_of (by decide +kernel) (Nat.le_of_ble_eq_true rfl) ?_
  intro p e s m below meth c ls S hr hlocks hk hl
  obtain ⟨hx, hb, hml, hown, hts⟩ := id S
  have hl : lv_has ls 5 [(0, .ref aD), (1, .int x1)] := hl
  rw [f_X9_better] at hf
  refine lv_iload_n hx hb dX9_better_0 rfl (lv_at hl 1 rfl) ?_
  refine lv_if_lt (tgt := 9) hx hb dX9_better_1 (by decide) (fun hc => ?_) (fun hc => ?_)
  · have hf := q_t hc hf
    refine lv_iconst (v := (-1 : Int32)) hx hb dX9_better_9 (by decide) ?_
    have hf := Option.some.inj hf
    subst hf
    exact q_riR hx hb hr hlocks dX9_better_10
  · have hf := q_f hc hf
    refine lv_iload_n hx hb dX9_better_4 rfl (lv_at hl 1 rfl) ?_
    refine lv_iconst (v := (2 : Int32)) hx hb dX9_better_5 (by decide) ?_
    refine lv_icmp_le (tgt := 11) hx hb dX9_better_6 (by decide) (fun hc => ?_) (fun hc => ?_)
    · have hf := q_t hc hf
      refine lv_aload_n hx hb dX9_better_11 rfl (lv_at hl 0 rfl) ?_
      obtain ⟨z12, hz12, hf⟩ := q_bind hf
      refine q_rdV (As := []) (rest := []) (st2 := [.int z12]) S hk (c_X9_bestMove l D cy H0 aD aT aP aQ aG aG_columns aG_lines aG_distances aG_weights aHd aHd_sums aR aPi aS aPa aI g_cells g_free g_freeCount g_columns g_lines g_weights hd_holders hd_sums z12 (hP.sub [0, 1, 2, 3, 4, 5, 6] rfl) hz12) ok_X9_bestMove tw_533 ⟨rfl, rfl, Nat.le_of_ble_eq_true rfl, Nat.le_of_ble_eq_true rfl⟩ (va_recv hk.1 hP (ci := 9) (q0 := 0) rfl rfl) rfl hl.1 rfl (Nat.le_of_ble_eq_true rfl) dX9_better_12 ⟨Nat.zero_le _, Nat.zero_le _⟩ rfl ?_
      refine lv_istore_n (lv' := [(2, .int z12), (0, .ref aD), (1, .int x1)]) hx hb dX9_better_15 rfl hl (by decide) rfl (fun ls hl => ?_)
      refine lv_iload_n hx hb dX9_better_16 rfl (lv_at hl 0 rfl) ?_
      refine lv_iconst (v := (-1 : Int32)) hx hb dX9_better_17 (by decide) ?_
      refine lv_icmp_ne (tgt := 32) hx hb dX9_better_18 (by decide) (fun hc => ?_) (fun hc => ?_)
      · have hf := q_f hc hf
        refine lv_iload_n hx hb dX9_better_32 rfl (lv_at hl 0 rfl) ?_
        refine lv_bipush (v := (64 : Int32)) hx hb dX9_better_33 (by decide) ?_
        refine lv_idiv hx hb dX9_better_35 (by decide) ?_
        refine lv_istore_n (lv' := [(3, .int (z12 / (64 : Int32))), (2, .int z12), (0, .ref aD), (1, .int x1)]) hx hb dX9_better_36 rfl hl (by decide) rfl (fun ls hl => ?_)
        refine lv_iload_n hx hb dX9_better_37 rfl (lv_at hl 1 rfl) ?_
        refine lv_bipush (v := (64 : Int32)) hx hb dX9_better_38 (by decide) ?_
        refine lv_irem hx hb dX9_better_40 (by decide) ?_
        refine lv_istore (lv' := [(4, .int (z12 - z12 / (64 : Int32) * (64 : Int32))), (3, .int (z12 / (64 : Int32))), (2, .int z12), (0, .ref aD), (1, .int x1)]) hx hb dX9_better_41 hl (by decide) rfl (fun ls hl => ?_)
        refine lv_iload_n hx hb dX9_better_43 rfl (lv_at hl 4 rfl) ?_
        refine lv_if_ne (tgt := 55) hx hb dX9_better_44 (by decide) (fun hc => ?_) (fun hc => ?_)
        · have hf := q_f hc hf
          refine lv_iload_n hx hb dX9_better_55 rfl (lv_at hl 4 rfl) ?_
          refine lv_iconst (v := (1 : Int32)) hx hb dX9_better_56 (by decide) ?_
          refine lv_icmp_ne (tgt := 64) hx hb dX9_better_57 (by decide) (fun hc => ?_) (fun hc => ?_)
          · have hf := q_f hc hf
            refine lv_iload hx hb dX9_better_64 (lv_at hl 0 rfl) ?_
            have hf := Option.some.inj hf
            subst hf
            exact q_riR hx hb hr hlocks dX9_better_66
          · have hf := q_t hc hf
            refine lv_iload_n hx hb dX9_better_60 rfl (lv_at hl 1 rfl) ?_
            refine lv_goto (tgt := 66) hx hb dX9_better_61 (by decide) ?_
            have hf := Option.some.inj hf
            subst hf
            exact q_riR hx hb hr hlocks dX9_better_66
        · have hf := q_t hc hf
          refine lv_aload_n hx hb dX9_better_47 rfl (lv_at hl 3 rfl) ?_
          refine lv_iload_n hx hb dX9_better_48 rfl (lv_at hl 1 rfl) ?_
          refine lv_iload hx hb dX9_better_49 (lv_at hl 0 rfl) ?_
          obtain ⟨z51, hz51, hf⟩ := q_bind hf
          refine q_rdV (As := [.int (z12 / (64 : Int32)), .int (z12 - z12 / (64 : Int32) * (64 : Int32))]) (rest := []) (st2 := [.int z51]) S hk (c_X9_gain l D cy H0 aD aT aP aQ aG aG_columns aG_lines aG_distances aG_weights aHd aHd_sums aR aPi aS aPa aI g_cells g_free g_freeCount g_columns g_lines g_weights hd_holders hd_sums (z12 / (64 : Int32)) (z12 - z12 / (64 : Int32) * (64 : Int32)) z51 (hP.sub [0, 1, 2, 3, 4, 5, 6] rfl) hz51) ok_X9_gain tw_537 ⟨rfl, rfl, Nat.le_of_ble_eq_true rfl, Nat.le_of_ble_eq_true rfl⟩ (va_recv hk.1 hP (ci := 9) (q0 := 0) rfl rfl) rfl hl.1 rfl (Nat.le_of_ble_eq_true rfl) dX9_better_51 ⟨Nat.zero_le _, Nat.zero_le _⟩ rfl ?_
          have hf := Option.some.inj hf
          subst hf
          exact q_riR hx hb hr hlocks dX9_better_54
      · have hf := q_t hc hf
        refine lv_iload_n hx hb dX9_better_21 rfl (lv_at hl 2 rfl) ?_
        refine lv_if_ne (tgt := 29) hx hb dX9_better_22 (by decide) (fun hc => ?_) (fun hc => ?_)
        · have hf := q_f hc hf
          refine lv_bipush (v := (-9 : Int32)) hx hb dX9_better_29 (by decide) ?_
          have hf := Option.some.inj hf
          subst hf
          exact q_riR hx hb hr hlocks dX9_better_31
        · have hf := q_t hc hf
          refine lv_iconst (v := (0 : Int32)) hx hb dX9_better_25 (by decide) ?_
          refine lv_goto (tgt := 31) hx hb dX9_better_26 (by decide) ?_
          have hf := Option.some.inj hf
          subst hf
          exact q_riR hx hb hr hlocks dX9_better_31
    · have hf := q_f hc hf
      refine lv_iconst (v := (-1 : Int32)) hx hb dX9_better_9 (by decide) ?_
      have hf := Option.some.inj hf
      subst hf
      exact q_riR hx hb hr hlocks dX9_better_10
def lp_X9_shifts_17 (p_width : Int32) (p_height : Int32) (p_shut : Int64) (g_cells : Int32) (g_columns : Nat → Int32) (g_lines : Nat → Int32) (hd_holders : Int64) (k4 : Int32 → Int32 → Option (Int32)) : Nat → Int32 → Int32 → Int32 → Option (Int32)
  | 0, _, _, _ => none
  | n + 1, x1, x2, x3 => if p_width ≤ x3 then (k4 x1 (x2 + 1)) else ((f_X0_lieOnThemselves p_width p_height g_cells g_columns g_lines hd_holders x3 x2).bind (fun z41 => if z41 = 0 then (lp_X9_shifts_17 p_width p_height p_shut g_cells g_columns g_lines hd_holders k4 n x1 x2 (x3 + 1)) else ((f_X0_lieOnThemselves p_width p_height g_cells g_columns g_lines p_shut x3 x2).bind (fun z60 => if z60 = 0 then (lp_X9_shifts_17 p_width p_height p_shut g_cells g_columns g_lines hd_holders k4 n x1 x2 (x3 + 1)) else (lp_X9_shifts_17 p_width p_height p_shut g_cells g_columns g_lines hd_holders k4 n (x1 + 1) x2 (x3 + 1))))))
theorem lp_X9_shifts_17_s (p_width : Int32) (p_height : Int32) (p_shut : Int64) (g_cells : Int32) (g_columns : Nat → Int32) (g_lines : Nat → Int32) (hd_holders : Int64) (k4 : Int32 → Int32 → Option (Int32)) (n : Nat) (x1 : Int32) (x2 : Int32) (x3 : Int32) : lp_X9_shifts_17 p_width p_height p_shut g_cells g_columns g_lines hd_holders k4 (n + 1) x1 x2 x3 = (if p_width ≤ x3 then (k4 x1 (x2 + 1)) else ((f_X0_lieOnThemselves p_width p_height g_cells g_columns g_lines hd_holders x3 x2).bind (fun z41 => if z41 = 0 then (lp_X9_shifts_17 p_width p_height p_shut g_cells g_columns g_lines hd_holders k4 n x1 x2 (x3 + 1)) else ((f_X0_lieOnThemselves p_width p_height g_cells g_columns g_lines p_shut x3 x2).bind (fun z60 => if z60 = 0 then (lp_X9_shifts_17 p_width p_height p_shut g_cells g_columns g_lines hd_holders k4 n x1 x2 (x3 + 1)) else (lp_X9_shifts_17 p_width p_height p_shut g_cells g_columns g_lines hd_holders k4 n (x1 + 1) x2 (x3 + 1))))))) := rfl
theorem lp_X9_shifts_17_z (p_width : Int32) (p_height : Int32) (p_shut : Int64) (g_cells : Int32) (g_columns : Nat → Int32) (g_lines : Nat → Int32) (hd_holders : Int64) (k4 : Int32 → Int32 → Option (Int32)) (x1 : Int32) (x2 : Int32) (x3 : Int32) : lp_X9_shifts_17 p_width p_height p_shut g_cells g_columns g_lines hd_holders k4 0 x1 x2 x3 = none := rfl
def lp_X9_shifts_4 (p_width : Int32) (p_height : Int32) (p_shut : Int64) (g_cells : Int32) (g_columns : Nat → Int32) (g_lines : Nat → Int32) (hd_holders : Int64) : Nat → Int32 → Int32 → Option (Int32)
  | 0, _, _ => none
  | n + 1, x1, x2 => if p_height ≤ x2 then (some x1) else (lp_X9_shifts_17 p_width p_height p_shut g_cells g_columns g_lines hd_holders (lp_X9_shifts_4 p_width p_height p_shut g_cells g_columns g_lines hd_holders n) FU x1 x2 (0 : Int32))
theorem lp_X9_shifts_4_s (p_width : Int32) (p_height : Int32) (p_shut : Int64) (g_cells : Int32) (g_columns : Nat → Int32) (g_lines : Nat → Int32) (hd_holders : Int64) (n : Nat) (x1 : Int32) (x2 : Int32) : lp_X9_shifts_4 p_width p_height p_shut g_cells g_columns g_lines hd_holders (n + 1) x1 x2 = (if p_height ≤ x2 then (some x1) else (lp_X9_shifts_17 p_width p_height p_shut g_cells g_columns g_lines hd_holders (lp_X9_shifts_4 p_width p_height p_shut g_cells g_columns g_lines hd_holders n) FU x1 x2 (0 : Int32))) := rfl
theorem lp_X9_shifts_4_z (p_width : Int32) (p_height : Int32) (p_shut : Int64) (g_cells : Int32) (g_columns : Nat → Int32) (g_lines : Nat → Int32) (hd_holders : Int64) (x1 : Int32) (x2 : Int32) : lp_X9_shifts_4 p_width p_height p_shut g_cells g_columns g_lines hd_holders 0 x1 x2 = none := rfl
def f_X9_shifts (p_width : Int32) (p_height : Int32) (p_shut : Int64) (g_cells : Int32) (g_columns : Nat → Int32) (g_lines : Nat → Int32) (hd_holders : Int64) : Option (Int32) := lp_X9_shifts_4 p_width p_height p_shut g_cells g_columns g_lines hd_holders FU (0 : Int32) (0 : Int32)
theorem ok_X9_shifts : OkV yX9_shifts cX9_shifts 4 (some Jvm.ClassFile.FieldType.int) 0 := ⟨⟨tw_544, tw_1, by decide +kernel, by decide +kernel, by decide +kernel⟩, tw_542, tw_543⟩
set_option maxHeartbeats 4000000 in
set_option maxRecDepth 100000 in
theorem c_X9_shifts (l : Launch) (D : va_G) (cy : ClassId × ClassId × ClassId) (H0 : Heap) (aD aT aP aQ aG aG_columns aG_lines aG_distances aG_weights aHd aHd_sums aR aPi aS aPa aI : Nat) (p_width : Int32) (p_height : Int32) (p_kernel : Int32) (p_power : Int32) (p_fall : Int32) (p_ax : Int32) (p_ay : Int32) (p_shut : Int64) (p_dots : Int64) (g_cells : Int32) (g_free : Int64) (g_freeCount : Int32) (g_columns : Nat → Int32) (g_lines : Nat → Int32) (hd_holders : Int64) (r : Int32) (hP : va_P D vwCl [(aD, .inr (9, [.ref aT, .ref aP, .ref aQ, .ref aG, .ref aHd, .ref aR, .ref aPi, .ref aS, .ref aPa, .ref aI])), (aP, .inr (5, [.int p_width, .int p_height, .int p_kernel, .int p_power, .int p_fall, .int p_ax, .int p_ay, .long p_shut, .long p_dots])), (aG, .inr (0, [.ref aP, .ref aG_columns, .ref aG_lines, .ref aG_distances, .ref aG_weights, .int g_cells, .long g_free, .int g_freeCount])), (aG_columns, .inl (cy.1, 64, .inl g_columns)), (aG_lines, .inl (cy.1, 64, .inl g_lines)), (aHd, .inr (1, [.ref aG, .ref aHd_sums, .long hd_holders]))] H0) (hf : f_X9_shifts p_width p_height p_shut g_cells g_columns g_lines hd_holders = some r) : Rd l yX9_shifts cX9_shifts 4 (some Jvm.ClassFile.FieldType.int) ({ frames := 2, cells := 0, slots := 0, locals := 49 } : Room) ([.ref aD] : List Value) (some (.int r)) D cy H0 := by
  refine rd_of (by decide +kernel) (Nat.le_of_ble_eq_true rfl) ?_
  intro p e s m below meth c ls S hr hlocks hk hl
  obtain ⟨hx, hb, hml, hown, hts⟩ := id S
  have hl : lv_has ls 4 [(0, .ref aD)] := hl
  rw [f_X9_shifts] at hf
  have J4 : ∀ (n4 : Nat) (x1 : Int32) (x2 : Int32) (ls : Array Slot), lv_has ls 4 [(0, .ref aD), (1, .int x1), (2, .int x2)] → lp_X9_shifts_4 p_width p_height p_shut g_cells g_columns g_lines hd_holders n4 x1 x2 = some r → W p l e ({ frames := 2, cells := 0, slots := 0, locals := 49 } : Room) s m ([.ref aD] : List Value).toArray below meth c H0 [] 0 0 (MQ below (QR (some (.int r)) H0) ([.ref aD] : List Value).toArray s 0 0 (fun _ => False)) (F0 m 4 ls []) := by
    intro n4
    induction n4 with
    | zero =>
      intro x1 x2 ls hl hf
      rw [lp_X9_shifts_4_z] at hf
      cases hf
    | succ n4 ih4 =>
      have J17 : ∀ (n17 : Nat) (x1 : Int32) (x2 : Int32) (x3 : Int32) (ls : Array Slot), lv_has ls 4 [(0, .ref aD), (1, .int x1), (2, .int x2), (3, .int x3)] → lp_X9_shifts_17 p_width p_height p_shut g_cells g_columns g_lines hd_holders (lp_X9_shifts_4 p_width p_height p_shut g_cells g_columns g_lines hd_holders n4) n17 x1 x2 x3 = some r → W p l e ({ frames := 2, cells := 0, slots := 0, locals := 49 } : Room) s m ([.ref aD] : List Value).toArray below meth c H0 [] 0 0 (MQ below (QR (some (.int r)) H0) ([.ref aD] : List Value).toArray s 0 0 (fun _ => False)) (F0 m 17 ls []) := by
        intro n17
        induction n17 with
        | zero =>
          intro x1 x2 x3 ls hl hf
          rw [lp_X9_shifts_17_z] at hf
          cases hf
        | succ n17 ih17 =>
          intro x1 x2 x3 ls hl hf
          rw [lp_X9_shifts_17_s] at hf
          refine lv_iload_n hx hb dX9_shifts_17 rfl (lv_at hl 3 rfl) ?_
          refine lv_aload_n hx hb dX9_shifts_18 rfl (lv_at hl 0 rfl) ?_
          refine va_get (D := D) (ci := 9) (v := .ref aP) (C := RX9) (T := TX9) (N := 10) hx hb hts iX9 hown hk.1 hP 0 rfl rfl 1 (by decide) (hts _ tw_300) (fun _ h9 => h9) rfl dX9_shifts_19 ?_
          refine va_get (D := D) (ci := 5) (v := .int p_width) (C := RX5) (T := TX5) (N := 9) hx hb hts iX5 hown hk.1 hP 1 rfl rfl 0 (by decide) (hts _ tw_64) (fun _ h9 => h9) rfl dX9_shifts_22 ?_
          refine lv_icmp_ge (tgt := 75) hx hb dX9_shifts_25 (by decide) (fun hc => ?_) (fun hc => ?_)
          · have hf := q_t hc hf
            refine lv_iinc (v := (x2 + 1)) (lv' := [(2, .int (x2 + 1)), (0, .ref aD), (1, .int x1), (3, .int x3)]) hx hb dX9_shifts_75 hl (k := 2) rfl rfl (by decide) rfl (fun ls hl => ?_)
            refine lv_goto (tgt := 4) hx hb dX9_shifts_78 (by decide) ?_
            exact ih4 x1 (x2 + 1) ls (lv_sub hl [1, 2, 0] rfl) hf
          · have hf := q_f hc hf
            refine lv_aload_n hx hb dX9_shifts_28 rfl (lv_at hl 0 rfl) ?_
            refine va_get (D := D) (ci := 9) (v := .ref aG) (C := RX9) (T := TX9) (N := 10) hx hb hts iX9 hown hk.1 hP 0 rfl rfl 3 (by decide) (hts _ tw_302) (fun _ h9 => h9) rfl dX9_shifts_29 ?_
            refine lv_aload_n hx hb dX9_shifts_32 rfl (lv_at hl 0 rfl) ?_
            refine va_get (D := D) (ci := 9) (v := .ref aHd) (C := RX9) (T := TX9) (N := 10) hx hb hts iX9 hown hk.1 hP 0 rfl rfl 4 (by decide) (hts _ tw_303) (fun _ h9 => h9) rfl dX9_shifts_33 ?_
            refine va_get (D := D) (ci := 1) (v := .long hd_holders) (C := RX1) (T := TX1) (N := 3) hx hb hts iX1 hown hk.1 hP 5 rfl rfl 2 (by decide) (hts _ tw_187) (fun _ h9 => h9) rfl dX9_shifts_36 ?_
            refine lv_iload_n hx hb dX9_shifts_39 rfl (lv_at hl 3 rfl) ?_
            refine lv_iload_n hx hb dX9_shifts_40 rfl (lv_at hl 2 rfl) ?_
            obtain ⟨z41, hz41, hf⟩ := q_bind hf
            refine q_rdV (As := [.long hd_holders, .int x3, .int x2]) (rest := []) (st2 := [.int z41]) S hk (c_X0_lieOnThemselves l D cy H0 aP aG aG_columns aG_lines aG_distances aG_weights p_width p_height p_kernel p_power p_fall p_ax p_ay p_shut p_dots g_cells g_free g_freeCount g_columns g_lines hd_holders x3 x2 z41 (hP.sub [1, 2, 3, 4] rfl) hz41) ok_X0_lieOnThemselves tw_545 ⟨rfl, rfl, Nat.le_of_ble_eq_true rfl, Nat.le_of_ble_eq_true rfl⟩ (va_recv hk.1 hP (ci := 0) (q0 := 2) rfl rfl) rfl hl.1 rfl (Nat.le_of_ble_eq_true rfl) dX9_shifts_41 ⟨Nat.zero_le _, Nat.zero_le _⟩ rfl ?_
            refine lv_if_eq (tgt := 69) hx hb dX9_shifts_44 (by decide) (fun hc => ?_) (fun hc => ?_)
            · have hf := q_t hc hf
              refine lv_iinc (v := (x3 + 1)) (lv' := [(3, .int (x3 + 1)), (0, .ref aD), (1, .int x1), (2, .int x2)]) hx hb dX9_shifts_69 hl (k := 3) rfl rfl (by decide) rfl (fun ls hl => ?_)
              refine lv_goto (tgt := 17) hx hb dX9_shifts_72 (by decide) ?_
              exact ih17 x1 x2 (x3 + 1) ls (lv_sub hl [1, 2, 3, 0] rfl) hf
            · have hf := q_f hc hf
              refine lv_aload_n hx hb dX9_shifts_47 rfl (lv_at hl 0 rfl) ?_
              refine va_get (D := D) (ci := 9) (v := .ref aG) (C := RX9) (T := TX9) (N := 10) hx hb hts iX9 hown hk.1 hP 0 rfl rfl 3 (by decide) (hts _ tw_302) (fun _ h9 => h9) rfl dX9_shifts_48 ?_
              refine lv_aload_n hx hb dX9_shifts_51 rfl (lv_at hl 0 rfl) ?_
              refine va_get (D := D) (ci := 9) (v := .ref aP) (C := RX9) (T := TX9) (N := 10) hx hb hts iX9 hown hk.1 hP 0 rfl rfl 1 (by decide) (hts _ tw_300) (fun _ h9 => h9) rfl dX9_shifts_52 ?_
              refine va_get (D := D) (ci := 5) (v := .long p_shut) (C := RX5) (T := TX5) (N := 9) hx hb hts iX5 hown hk.1 hP 1 rfl rfl 7 (by decide) (hts _ tw_86) (fun _ h9 => h9) rfl dX9_shifts_55 ?_
              refine lv_iload_n hx hb dX9_shifts_58 rfl (lv_at hl 3 rfl) ?_
              refine lv_iload_n hx hb dX9_shifts_59 rfl (lv_at hl 2 rfl) ?_
              obtain ⟨z60, hz60, hf⟩ := q_bind hf
              refine q_rdV (As := [.long p_shut, .int x3, .int x2]) (rest := []) (st2 := [.int z60]) S hk (c_X0_lieOnThemselves l D cy H0 aP aG aG_columns aG_lines aG_distances aG_weights p_width p_height p_kernel p_power p_fall p_ax p_ay p_shut p_dots g_cells g_free g_freeCount g_columns g_lines p_shut x3 x2 z60 (hP.sub [1, 2, 3, 4] rfl) hz60) ok_X0_lieOnThemselves tw_545 ⟨rfl, rfl, Nat.le_of_ble_eq_true rfl, Nat.le_of_ble_eq_true rfl⟩ (va_recv hk.1 hP (ci := 0) (q0 := 2) rfl rfl) rfl hl.1 rfl (Nat.le_of_ble_eq_true rfl) dX9_shifts_60 ⟨Nat.zero_le _, Nat.zero_le _⟩ rfl ?_
              refine lv_if_eq (tgt := 69) hx hb dX9_shifts_63 (by decide) (fun hc => ?_) (fun hc => ?_)
              · have hf := q_t hc hf
                refine lv_iinc (v := (x3 + 1)) (lv' := [(3, .int (x3 + 1)), (0, .ref aD), (1, .int x1), (2, .int x2)]) hx hb dX9_shifts_69 hl (k := 3) rfl rfl (by decide) rfl (fun ls hl => ?_)
                refine lv_goto (tgt := 17) hx hb dX9_shifts_72 (by decide) ?_
                exact ih17 x1 x2 (x3 + 1) ls (lv_sub hl [1, 2, 3, 0] rfl) hf
              · have hf := q_f hc hf
                refine lv_iinc (v := (x1 + 1)) (lv' := [(1, .int (x1 + 1)), (0, .ref aD), (2, .int x2), (3, .int x3)]) hx hb dX9_shifts_66 hl (k := 1) rfl rfl (by decide) rfl (fun ls hl => ?_)
                refine lv_iinc (v := (x3 + 1)) (lv' := [(3, .int (x3 + 1)), (1, .int (x1 + 1)), (0, .ref aD), (2, .int x2)]) hx hb dX9_shifts_69 hl (k := 3) rfl rfl (by decide) rfl (fun ls hl => ?_)
                refine lv_goto (tgt := 17) hx hb dX9_shifts_72 (by decide) ?_
                exact ih17 (x1 + 1) x2 (x3 + 1) ls (lv_sub hl [2, 1, 3, 0] rfl) hf
      intro x1 x2 ls hl hf
      rw [lp_X9_shifts_4_s] at hf
      refine lv_iload_n hx hb dX9_shifts_4 rfl (lv_at hl 2 rfl) ?_
      refine lv_aload_n hx hb dX9_shifts_5 rfl (lv_at hl 0 rfl) ?_
      refine va_get (D := D) (ci := 9) (v := .ref aP) (C := RX9) (T := TX9) (N := 10) hx hb hts iX9 hown hk.1 hP 0 rfl rfl 1 (by decide) (hts _ tw_300) (fun _ h9 => h9) rfl dX9_shifts_6 ?_
      refine va_get (D := D) (ci := 5) (v := .int p_height) (C := RX5) (T := TX5) (N := 9) hx hb hts iX5 hown hk.1 hP 1 rfl rfl 1 (by decide) (hts _ tw_68) (fun _ h9 => h9) rfl dX9_shifts_9 ?_
      refine lv_icmp_ge (tgt := 81) hx hb dX9_shifts_12 (by decide) (fun hc => ?_) (fun hc => ?_)
      · have hf := q_t hc hf
        refine lv_iload_n hx hb dX9_shifts_81 rfl (lv_at hl 1 rfl) ?_
        have hf := Option.some.inj hf
        subst hf
        exact q_riR hx hb hr hlocks dX9_shifts_82
      · have hf := q_f hc hf
        refine lv_iconst (v := (0 : Int32)) hx hb dX9_shifts_15 (by decide) ?_
        refine lv_istore_n (lv' := [(3, .int (0 : Int32)), (0, .ref aD), (1, .int x1), (2, .int x2)]) hx hb dX9_shifts_16 rfl hl (by decide) rfl (fun ls hl => ?_)
        exact J17 FU x1 x2 (0 : Int32) ls (lv_sub hl [1, 2, 3, 0] rfl) hf
  refine lv_iconst (v := (0 : Int32)) hx hb dX9_shifts_0 (by decide) ?_
  refine lv_istore_n (lv' := [(1, .int (0 : Int32)), (0, .ref aD)]) hx hb dX9_shifts_1 rfl hl (by decide) rfl (fun ls hl => ?_)
  refine lv_iconst (v := (0 : Int32)) hx hb dX9_shifts_2 (by decide) ?_
  refine lv_istore_n (lv' := [(2, .int (0 : Int32)), (1, .int (0 : Int32)), (0, .ref aD)]) hx hb dX9_shifts_3 rfl hl (by decide) rfl (fun ls hl => ?_)
  exact J4 FU (0 : Int32) (0 : Int32) ls (lv_sub hl [2, 1, 0] rfl) hf
def f_X9_keep (hd_holders : Int64) (i_dots : Nat → Int64) (i_kept : Nat → Int32) (x1 : Int32) : Option (Int32 × (Nat → Int64) × (Nat → Int32)) := (f_X2_isImage x1).bind (fun z5 => if z5 = 0 then (some ((-1 : Int32), i_dots, i_kept)) else ((f_X2_put i_dots i_kept x1 hd_holders).bind (fun z25 => (f_X1_size hd_holders).bind (fun z32 => some (z32, (z25.1), (z25.2))))))
theorem ok_X9_keep : OkV yX9_keep cX9_keep 2 (some Jvm.ClassFile.FieldType.int) 1 := ⟨⟨tw_742, tw_1, by decide +kernel, by decide +kernel, by decide +kernel⟩, tw_740, tw_741⟩
set_option maxHeartbeats 4000000 in
set_option maxRecDepth 100000 in
theorem c_X9_keep (l : Launch) (D : va_G) (cy : ClassId × ClassId × ClassId) (H0 : Heap) (aD aT aP aQ aG aHd aHd_sums aR aPi aS aPa aI aI_dots aI_kept : Nat) (hd_holders : Int64) (i_dots : Nat → Int64) (i_kept : Nat → Int32) (x1 : Int32) (r : Int32 × (Nat → Int64) × (Nat → Int32)) (hP : va_P D vwCl [(aD, .inr (9, [.ref aT, .ref aP, .ref aQ, .ref aG, .ref aHd, .ref aR, .ref aPi, .ref aS, .ref aPa, .ref aI])), (aHd, .inr (1, [.ref aG, .ref aHd_sums, .long hd_holders])), (aI, .inr (2, [.ref aI_dots, .ref aI_kept])), (aI_dots, .inl (cy.2.1, 2, .inr (.inl i_dots))), (aI_kept, .inl (cy.2.2, 2, .inl i_kept))] H0) (hD0 : va_D (fun _ => True) [(aD, .inr (9, [.ref aT, .ref aP, .ref aQ, .ref aG, .ref aHd, .ref aR, .ref aPi, .ref aS, .ref aPa, .ref aI])), (aHd, .inr (1, [.ref aG, .ref aHd_sums, .long hd_holders])), (aI, .inr (2, [.ref aI_dots, .ref aI_kept])), (aI_dots, .inl (cy.2.1, 2, .inr (.inl i_dots))), (aI_kept, .inl (cy.2.2, 2, .inl i_kept))]) (hf : f_X9_keep hd_holders i_dots i_kept x1 = some r) : Wr l yX9_keep cX9_keep 2 (some Jvm.ClassFile.FieldType.int) ({ frames := 2, cells := 0, slots := 0, locals := 44 } : Room) ([.ref aD, .int x1] : List Value) (some (.int (r.1))) D cy H0 [(aD, .inr (9, [.ref aT, .ref aP, .ref aQ, .ref aG, .ref aHd, .ref aR, .ref aPi, .ref aS, .ref aPa, .ref aI])), (aHd, .inr (1, [.ref aG, .ref aHd_sums, .long hd_holders])), (aI, .inr (2, [.ref aI_dots, .ref aI_kept])), (aI_dots, .inl (cy.2.1, 2, .inr (.inl i_dots))), (aI_kept, .inl (cy.2.2, 2, .inl i_kept))] [(aD, .inr (9, [.ref aT, .ref aP, .ref aQ, .ref aG, .ref aHd, .ref aR, .ref aPi, .ref aS, .ref aPa, .ref aI])), (aHd, .inr (1, [.ref aG, .ref aHd_sums, .long hd_holders])), (aI, .inr (2, [.ref aI_dots, .ref aI_kept])), (aI_dots, .inl (cy.2.1, 2, .inr (.inl (r.2.1)))), (aI_kept, .inl (cy.2.2, 2, .inl (r.2.2)))] := by
  refine wr_of (by decide +kernel) (Nat.le_of_ble_eq_true rfl) hD0 ?_
  intro p e s m below meth c ls A S hr hlocks hk hl hD hS hA
  obtain ⟨hx, hb, hml, hown, hts⟩ := id S
  have hl : lv_has ls 2 [(0, .ref aD), (1, .int x1)] := hl
  rw [f_X9_keep] at hf
  refine lv_aload_n hx hb dX9_keep_0 rfl (lv_at hl 0 rfl) ?_
  refine va_get (D := D) (ci := 9) (v := .ref aI) (C := RX9) (T := TX9) (N := 10) hx hb hts iX9 hown hk.1 hP 0 rfl rfl 9 (by decide) (hts _ tw_308) (fun _ h9 => h9) rfl dX9_keep_1 ?_
  refine lv_iload_n hx hb dX9_keep_4 rfl (lv_at hl 1 rfl) ?_
  obtain ⟨z5, hz5, hf⟩ := q_bind hf
  refine q_rdV (As := [.int x1]) (rest := []) (st2 := [.int z5]) S hk (c_X2_isImage l D cy H0 aI x1 z5 hz5) ok_X2_isImage tw_743 ⟨rfl, rfl, Nat.le_of_ble_eq_true rfl, Nat.le_of_ble_eq_true rfl⟩ (va_recv hk.1 hP (ci := 2) (q0 := 2) rfl rfl) rfl hl.1 rfl (Nat.le_of_ble_eq_true rfl) dX9_keep_5 ⟨Nat.zero_le _, Nat.zero_le _⟩ rfl ?_
  refine lv_if_ne (tgt := 13) hx hb dX9_keep_8 (by decide) (fun hc => ?_) (fun hc => ?_)
  · have hf := q_f hc hf
    refine lv_aload_n hx hb dX9_keep_13 rfl (lv_at hl 0 rfl) ?_
    refine va_get (D := D) (ci := 9) (v := .ref aI) (C := RX9) (T := TX9) (N := 10) hx hb hts iX9 hown hk.1 hP 0 rfl rfl 9 (by decide) (hts _ tw_308) (fun _ h9 => h9) rfl dX9_keep_14 ?_
    refine lv_iload_n hx hb dX9_keep_17 rfl (lv_at hl 1 rfl) ?_
    refine lv_aload_n hx hb dX9_keep_18 rfl (lv_at hl 0 rfl) ?_
    refine va_get (D := D) (ci := 9) (v := .ref aHd) (C := RX9) (T := TX9) (N := 10) hx hb hts iX9 hown hk.1 hP 0 rfl rfl 4 (by decide) (hts _ tw_303) (fun _ h9 => h9) rfl dX9_keep_19 ?_
    refine va_get (D := D) (ci := 1) (v := .long hd_holders) (C := RX1) (T := TX1) (N := 3) hx hb hts iX1 hown hk.1 hP 1 rfl rfl 2 (by decide) (hts _ tw_187) (fun _ h9 => h9) rfl dX9_keep_22 ?_
    obtain ⟨z25, hz25, hf⟩ := q_bind hf
    refine q_wrV (As := [.int x1, .long hd_holders]) (rest := []) (st2 := []) (ws' := [(aD, .inr (9, [.ref aT, .ref aP, .ref aQ, .ref aG, .ref aHd, .ref aR, .ref aPi, .ref aS, .ref aPa, .ref aI])), (aHd, .inr (1, [.ref aG, .ref aHd_sums, .long hd_holders])), (aI, .inr (2, [.ref aI_dots, .ref aI_kept])), (aI_dots, .inl (cy.2.1, 2, .inr (.inl (z25.1)))), (aI_kept, .inl (cy.2.2, 2, .inl (z25.2)))]) S hk (c_X2_put l D cy H0 aI aI_dots aI_kept i_dots i_kept x1 hd_holders z25 (hP.sub [2, 3, 4] rfl) (qD_sub hD [2, 3, 4] (by decide) rfl) hz25) ok_X2_put tw_747 ⟨rfl, rfl, Nat.le_of_ble_eq_true rfl, Nat.le_of_ble_eq_true rfl⟩ (va_recv hk.1 hP (ci := 2) (q0 := 2) rfl rfl) rfl hl.1 rfl (Nat.le_of_ble_eq_true rfl) dX9_keep_25 ⟨Nat.zero_le _, Nat.zero_le _⟩ rfl hP hD hS hA [2, 3, 4] rfl rfl rfl rfl (fun H locs hP hD hS => ?_)
    refine lv_aload_n hx hb dX9_keep_28 rfl (lv_at hl 0 rfl) ?_
    refine va_get (D := D) (ci := 9) (v := .ref aHd) (C := RX9) (T := TX9) (N := 10) hx hb hts iX9 hown hk.1 hP 0 rfl rfl 4 (by decide) (hts _ tw_303) (fun _ h9 => h9) rfl dX9_keep_29 ?_
    obtain ⟨z32, hz32, hf⟩ := q_bind hf
    refine q_rdV (As := []) (rest := []) (st2 := [.int z32]) S hk (c_X1_size l D cy H aG aHd aHd_sums hd_holders z32 (hP.sub [1] rfl) hz32) ok_X1_size tw_752 ⟨rfl, rfl, Nat.le_of_ble_eq_true rfl, Nat.le_of_ble_eq_true rfl⟩ (va_recv hk.1 hP (ci := 1) (q0 := 1) rfl rfl) rfl hl.1 rfl (Nat.le_of_ble_eq_true rfl) dX9_keep_32 ⟨Nat.zero_le _, Nat.zero_le _⟩ rfl ?_
    have hf := Option.some.inj hf
    subst hf
    exact q_riW hP hS hx hb hr hlocks dX9_keep_35
  · have hf := q_t hc hf
    refine lv_iconst (v := (-1 : Int32)) hx hb dX9_keep_11 (by decide) ?_
    have hf := Option.some.inj hf
    subst hf
    exact q_riW hP hS hx hb hr hlocks dX9_keep_12
def f_X9_back (g_cells : Int32) (g_columns : Nat → Int32) (g_lines : Nat → Int32) (g_weights : Nat → Int32) (hd_holders : Int64) (hd_sums : Nat → Int32) (pa_size : Int32) (i_dots : Nat → Int64) (i_kept : Nat → Int32) (x1 : Int32) : Option (Int32 × Int64 × (Nat → Int32) × Int32) := (f_X2_isImage x1).bind (fun z5 => if z5 = 0 then (some ((-1 : Int32), hd_holders, hd_sums, pa_size)) else ((f_X2_isKept i_kept x1).bind (fun z18 => if z18 = 0 then (some ((-2 : Int32), hd_holders, hd_sums, pa_size)) else ((f_X2_dotsOf i_dots x1).bind (fun z36 => (f_X1_become g_cells g_columns g_lines g_weights hd_holders hd_sums z36).bind (fun z39 => (f_X1_size (z39.1)).bind (fun z54 => some (z54, (z39.1), (z39.2), (0 : Int32)))))))))
theorem ok_X9_back : OkV yX9_back cX9_back 2 (some Jvm.ClassFile.FieldType.int) 1 := ⟨⟨tw_756, tw_1, by decide +kernel, by decide +kernel, by decide +kernel⟩, tw_754, tw_755⟩
set_option maxHeartbeats 4000000 in
set_option maxRecDepth 100000 in
theorem c_X9_back (l : Launch) (D : va_G) (cy : ClassId × ClassId × ClassId) (H0 : Heap) (aD aT aP aQ aG aG_columns aG_lines aG_distances aG_weights aHd aHd_sums aR aPi aS aPa aPa_known aI aI_dots aI_kept : Nat) (g_cells : Int32) (g_free : Int64) (g_freeCount : Int32) (g_columns : Nat → Int32) (g_lines : Nat → Int32) (g_weights : Nat → Int32) (hd_holders : Int64) (hd_sums : Nat → Int32) (pa_size : Int32) (i_dots : Nat → Int64) (i_kept : Nat → Int32) (x1 : Int32) (r : Int32 × Int64 × (Nat → Int32) × Int32) (hP : va_P D vwCl [(aD, .inr (9, [.ref aT, .ref aP, .ref aQ, .ref aG, .ref aHd, .ref aR, .ref aPi, .ref aS, .ref aPa, .ref aI])), (aG, .inr (0, [.ref aP, .ref aG_columns, .ref aG_lines, .ref aG_distances, .ref aG_weights, .int g_cells, .long g_free, .int g_freeCount])), (aG_columns, .inl (cy.1, 64, .inl g_columns)), (aG_lines, .inl (cy.1, 64, .inl g_lines)), (aG_weights, .inl (cy.1, 64, .inl g_weights)), (aHd, .inr (1, [.ref aG, .ref aHd_sums, .long hd_holders])), (aHd_sums, .inl (cy.1, 64, .inl hd_sums)), (aPa, .inr (3, [.ref aPa_known, .int pa_size])), (aI, .inr (2, [.ref aI_dots, .ref aI_kept])), (aI_dots, .inl (cy.2.1, 2, .inr (.inl i_dots))), (aI_kept, .inl (cy.2.2, 2, .inl i_kept))] H0) (hD0 : va_D (fun _ => True) [(aD, .inr (9, [.ref aT, .ref aP, .ref aQ, .ref aG, .ref aHd, .ref aR, .ref aPi, .ref aS, .ref aPa, .ref aI])), (aG, .inr (0, [.ref aP, .ref aG_columns, .ref aG_lines, .ref aG_distances, .ref aG_weights, .int g_cells, .long g_free, .int g_freeCount])), (aG_columns, .inl (cy.1, 64, .inl g_columns)), (aG_lines, .inl (cy.1, 64, .inl g_lines)), (aG_weights, .inl (cy.1, 64, .inl g_weights)), (aHd, .inr (1, [.ref aG, .ref aHd_sums, .long hd_holders])), (aHd_sums, .inl (cy.1, 64, .inl hd_sums)), (aPa, .inr (3, [.ref aPa_known, .int pa_size])), (aI, .inr (2, [.ref aI_dots, .ref aI_kept])), (aI_dots, .inl (cy.2.1, 2, .inr (.inl i_dots))), (aI_kept, .inl (cy.2.2, 2, .inl i_kept))]) (hf : f_X9_back g_cells g_columns g_lines g_weights hd_holders hd_sums pa_size i_dots i_kept x1 = some r) : Wr l yX9_back cX9_back 2 (some Jvm.ClassFile.FieldType.int) ({ frames := 4, cells := 0, slots := 0, locals := 91 } : Room) ([.ref aD, .int x1] : List Value) (some (.int (r.1))) D cy H0 [(aD, .inr (9, [.ref aT, .ref aP, .ref aQ, .ref aG, .ref aHd, .ref aR, .ref aPi, .ref aS, .ref aPa, .ref aI])), (aG, .inr (0, [.ref aP, .ref aG_columns, .ref aG_lines, .ref aG_distances, .ref aG_weights, .int g_cells, .long g_free, .int g_freeCount])), (aG_columns, .inl (cy.1, 64, .inl g_columns)), (aG_lines, .inl (cy.1, 64, .inl g_lines)), (aG_weights, .inl (cy.1, 64, .inl g_weights)), (aHd, .inr (1, [.ref aG, .ref aHd_sums, .long hd_holders])), (aHd_sums, .inl (cy.1, 64, .inl hd_sums)), (aPa, .inr (3, [.ref aPa_known, .int pa_size])), (aI, .inr (2, [.ref aI_dots, .ref aI_kept])), (aI_dots, .inl (cy.2.1, 2, .inr (.inl i_dots))), (aI_kept, .inl (cy.2.2, 2, .inl i_kept))] [(aD, .inr (9, [.ref aT, .ref aP, .ref aQ, .ref aG, .ref aHd, .ref aR, .ref aPi, .ref aS, .ref aPa, .ref aI])), (aG, .inr (0, [.ref aP, .ref aG_columns, .ref aG_lines, .ref aG_distances, .ref aG_weights, .int g_cells, .long g_free, .int g_freeCount])), (aG_columns, .inl (cy.1, 64, .inl g_columns)), (aG_lines, .inl (cy.1, 64, .inl g_lines)), (aG_weights, .inl (cy.1, 64, .inl g_weights)), (aHd, .inr (1, [.ref aG, .ref aHd_sums, .long (r.2.1)])), (aHd_sums, .inl (cy.1, 64, .inl (r.2.2.1))), (aPa, .inr (3, [.ref aPa_known, .int (r.2.2.2)])), (aI, .inr (2, [.ref aI_dots, .ref aI_kept])), (aI_dots, .inl (cy.2.1, 2, .inr (.inl i_dots))), (aI_kept, .inl (cy.2.2, 2, .inl i_kept))] := by
  refine wr_of (by decide +kernel) (Nat.le_of_ble_eq_true rfl) hD0 ?_
  intro p e s m below meth c ls A S hr hlocks hk hl hD hS hA
  obtain ⟨hx, hb, hml, hown, hts⟩ := id S
  have hl : lv_has ls 2 [(0, .ref aD), (1, .int x1)] := hl
  rw [f_X9_back] at hf
  refine lv_aload_n hx hb dX9_back_0 rfl (lv_at hl 0 rfl) ?_
  refine va_get (D := D) (ci := 9) (v := .ref aI) (C := RX9) (T := TX9) (N := 10) hx hb hts iX9 hown hk.1 hP 0 rfl rfl 9 (by decide) (hts _ tw_308) (fun _ h9 => h9) rfl dX9_back_1 ?_
  refine lv_iload_n hx hb dX9_back_4 rfl (lv_at hl 1 rfl) ?_
  obtain ⟨z5, hz5, hf⟩ := q_bind hf
  refine q_rdV (As := [.int x1]) (rest := []) (st2 := [.int z5]) S hk (c_X2_isImage l D cy H0 aI x1 z5 hz5) ok_X2_isImage tw_743 ⟨rfl, rfl, Nat.le_of_ble_eq_true rfl, Nat.le_of_ble_eq_true rfl⟩ (va_recv hk.1 hP (ci := 2) (q0 := 8) rfl rfl) rfl hl.1 rfl (Nat.le_of_ble_eq_true rfl) dX9_back_5 ⟨Nat.zero_le _, Nat.zero_le _⟩ rfl ?_
  refine lv_if_ne (tgt := 13) hx hb dX9_back_8 (by decide) (fun hc => ?_) (fun hc => ?_)
  · have hf := q_f hc hf
    refine lv_aload_n hx hb dX9_back_13 rfl (lv_at hl 0 rfl) ?_
    refine va_get (D := D) (ci := 9) (v := .ref aI) (C := RX9) (T := TX9) (N := 10) hx hb hts iX9 hown hk.1 hP 0 rfl rfl 9 (by decide) (hts _ tw_308) (fun _ h9 => h9) rfl dX9_back_14 ?_
    refine lv_iload_n hx hb dX9_back_17 rfl (lv_at hl 1 rfl) ?_
    obtain ⟨z18, hz18, hf⟩ := q_bind hf
    refine q_rdV (As := [.int x1]) (rest := []) (st2 := [.int z18]) S hk (c_X2_isKept l D cy H0 aI aI_dots aI_kept i_kept x1 z18 (hP.sub [8, 10] rfl) hz18) ok_X2_isKept tw_757 ⟨rfl, rfl, Nat.le_of_ble_eq_true rfl, Nat.le_of_ble_eq_true rfl⟩ (va_recv hk.1 hP (ci := 2) (q0 := 8) rfl rfl) rfl hl.1 rfl (Nat.le_of_ble_eq_true rfl) dX9_back_18 ⟨Nat.zero_le _, Nat.zero_le _⟩ rfl ?_
    refine lv_if_ne (tgt := 27) hx hb dX9_back_21 (by decide) (fun hc => ?_) (fun hc => ?_)
    · have hf := q_f hc hf
      refine lv_aload_n hx hb dX9_back_27 rfl (lv_at hl 0 rfl) ?_
      refine va_get (D := D) (ci := 9) (v := .ref aHd) (C := RX9) (T := TX9) (N := 10) hx hb hts iX9 hown hk.1 hP 0 rfl rfl 4 (by decide) (hts _ tw_303) (fun _ h9 => h9) rfl dX9_back_28 ?_
      refine lv_aload_n hx hb dX9_back_31 rfl (lv_at hl 0 rfl) ?_
      refine va_get (D := D) (ci := 9) (v := .ref aI) (C := RX9) (T := TX9) (N := 10) hx hb hts iX9 hown hk.1 hP 0 rfl rfl 9 (by decide) (hts _ tw_308) (fun _ h9 => h9) rfl dX9_back_32 ?_
      refine lv_iload_n hx hb dX9_back_35 rfl (lv_at hl 1 rfl) ?_
      obtain ⟨z36, hz36, hf⟩ := q_bind hf
      refine q_rdV (As := [.int x1]) (rest := [.ref aHd]) (st2 := [.long z36, .ref aHd]) S hk (c_X2_dotsOf l D cy H0 aI aI_dots aI_kept i_dots x1 z36 (hP.sub [8, 9] rfl) hz36) ok_X2_dotsOf tw_761 ⟨rfl, rfl, Nat.le_of_ble_eq_true rfl, Nat.le_of_ble_eq_true rfl⟩ (va_recv hk.1 hP (ci := 2) (q0 := 8) rfl rfl) rfl hl.1 rfl (Nat.le_of_ble_eq_true rfl) dX9_back_36 ⟨Nat.zero_le _, Nat.zero_le _⟩ rfl ?_
      obtain ⟨z39, hz39, hf⟩ := q_bind hf
      refine q_wrV (As := [.long z36]) (rest := []) (st2 := []) (ws' := [(aD, .inr (9, [.ref aT, .ref aP, .ref aQ, .ref aG, .ref aHd, .ref aR, .ref aPi, .ref aS, .ref aPa, .ref aI])), (aG, .inr (0, [.ref aP, .ref aG_columns, .ref aG_lines, .ref aG_distances, .ref aG_weights, .int g_cells, .long g_free, .int g_freeCount])), (aG_columns, .inl (cy.1, 64, .inl g_columns)), (aG_lines, .inl (cy.1, 64, .inl g_lines)), (aG_weights, .inl (cy.1, 64, .inl g_weights)), (aHd, .inr (1, [.ref aG, .ref aHd_sums, .long (z39.1)])), (aHd_sums, .inl (cy.1, 64, .inl (z39.2))), (aPa, .inr (3, [.ref aPa_known, .int pa_size])), (aI, .inr (2, [.ref aI_dots, .ref aI_kept])), (aI_dots, .inl (cy.2.1, 2, .inr (.inl i_dots))), (aI_kept, .inl (cy.2.2, 2, .inl i_kept))]) S hk (c_X1_become l D cy H0 aP aG aG_columns aG_lines aG_distances aG_weights aHd aHd_sums g_cells g_free g_freeCount g_columns g_lines g_weights hd_holders hd_sums z36 z39 (hP.sub [1, 2, 3, 4, 5, 6] rfl) (qD_sub hD [1, 2, 3, 4, 5, 6] (by decide) rfl) hz39) ok_X1_become tw_512 ⟨rfl, rfl, Nat.le_of_ble_eq_true rfl, Nat.le_of_ble_eq_true rfl⟩ (va_recv hk.1 hP (ci := 1) (q0 := 5) rfl rfl) rfl hl.1 rfl (Nat.le_of_ble_eq_true rfl) dX9_back_39 ⟨Nat.zero_le _, Nat.zero_le _⟩ rfl hP hD hS hA [1, 2, 3, 4, 5, 6] rfl rfl rfl rfl (fun H locs hP hD hS => ?_)
      refine lv_aload_n hx hb dX9_back_42 rfl (lv_at hl 0 rfl) ?_
      refine va_get (D := D) (ci := 9) (v := .ref aPa) (C := RX9) (T := TX9) (N := 10) hx hb hts iX9 hown hk.1 hP 0 rfl rfl 8 (by decide) (hts _ tw_307) (fun _ h9 => h9) rfl dX9_back_43 ?_
      refine lv_iconst (v := (0 : Int32)) hx hb dX9_back_46 (by decide) ?_
      refine va_put (D := D) (ci := 3) (v := .int (0 : Int32)) (ty := .int) (C := RX3) (T := TX3) (N := 2) hx hb hts iX3 tyX3 tyX3_ok nmX3 hown hk.1 hP hD hS 7 rfl rfl 1 (by decide) (hts _ tw_278) (fun _ h9 => h9) rfl (by decide +kernel) rfl rfl (Nat.le_of_ble_eq_true rfl) dX9_back_47 (fun H locs hP hD hS => ?_)
      have hP : va_P D vwCl [(aD, .inr (9, [.ref aT, .ref aP, .ref aQ, .ref aG, .ref aHd, .ref aR, .ref aPi, .ref aS, .ref aPa, .ref aI])), (aG, .inr (0, [.ref aP, .ref aG_columns, .ref aG_lines, .ref aG_distances, .ref aG_weights, .int g_cells, .long g_free, .int g_freeCount])), (aG_columns, .inl (cy.1, 64, .inl g_columns)), (aG_lines, .inl (cy.1, 64, .inl g_lines)), (aG_weights, .inl (cy.1, 64, .inl g_weights)), (aHd, .inr (1, [.ref aG, .ref aHd_sums, .long (z39.1)])), (aHd_sums, .inl (cy.1, 64, .inl (z39.2))), (aPa, .inr (3, [.ref aPa_known, .int (0 : Int32)])), (aI, .inr (2, [.ref aI_dots, .ref aI_kept])), (aI_dots, .inl (cy.2.1, 2, .inr (.inl i_dots))), (aI_kept, .inl (cy.2.2, 2, .inl i_kept))] H := hP
      have hD : va_D A [(aD, .inr (9, [.ref aT, .ref aP, .ref aQ, .ref aG, .ref aHd, .ref aR, .ref aPi, .ref aS, .ref aPa, .ref aI])), (aG, .inr (0, [.ref aP, .ref aG_columns, .ref aG_lines, .ref aG_distances, .ref aG_weights, .int g_cells, .long g_free, .int g_freeCount])), (aG_columns, .inl (cy.1, 64, .inl g_columns)), (aG_lines, .inl (cy.1, 64, .inl g_lines)), (aG_weights, .inl (cy.1, 64, .inl g_weights)), (aHd, .inr (1, [.ref aG, .ref aHd_sums, .long (z39.1)])), (aHd_sums, .inl (cy.1, 64, .inl (z39.2))), (aPa, .inr (3, [.ref aPa_known, .int (0 : Int32)])), (aI, .inr (2, [.ref aI_dots, .ref aI_kept])), (aI_dots, .inl (cy.2.1, 2, .inr (.inl i_dots))), (aI_kept, .inl (cy.2.2, 2, .inl i_kept))] := hD
      refine lv_aload_n hx hb dX9_back_50 rfl (lv_at hl 0 rfl) ?_
      refine va_get (D := D) (ci := 9) (v := .ref aHd) (C := RX9) (T := TX9) (N := 10) hx hb hts iX9 hown hk.1 hP 0 rfl rfl 4 (by decide) (hts _ tw_303) (fun _ h9 => h9) rfl dX9_back_51 ?_
      obtain ⟨z54, hz54, hf⟩ := q_bind hf
      refine q_rdV (As := []) (rest := []) (st2 := [.int z54]) S hk (c_X1_size l D cy H aG aHd aHd_sums (z39.1) z54 (hP.sub [5] rfl) hz54) ok_X1_size tw_752 ⟨rfl, rfl, Nat.le_of_ble_eq_true rfl, Nat.le_of_ble_eq_true rfl⟩ (va_recv hk.1 hP (ci := 1) (q0 := 5) rfl rfl) rfl hl.1 rfl (Nat.le_of_ble_eq_true rfl) dX9_back_54 ⟨Nat.zero_le _, Nat.zero_le _⟩ rfl ?_
      have hf := Option.some.inj hf
      subst hf
      exact q_riW hP hS hx hb hr hlocks dX9_back_57
    · have hf := q_t hc hf
      refine lv_bipush (v := (-2 : Int32)) hx hb dX9_back_24 (by decide) ?_
      have hf := Option.some.inj hf
      subst hf
      exact q_riW hP hS hx hb hr hlocks dX9_back_26
  · have hf := q_t hc hf
    refine lv_iconst (v := (-1 : Int32)) hx hb dX9_back_11 (by decide) ?_
    have hf := Option.some.inj hf
    subst hf
    exact q_riW hP hS hx hb hr hlocks dX9_back_12
def f_X9_count (t_length : Int32) (p_width : Int32) (p_height : Int32) (p_kernel : Int32) (p_power : Int32) (p_fall : Int32) (p_ax : Int32) (p_ay : Int32) (g_freeCount : Int32) (hd_holders : Int64) (s_size : Int32) (pa_size : Int32) (x1 : Int32) : Option (Int32) := if x1 = (0 : Int32) then (some p_width) else (if x1 = (1 : Int32) then (some p_height) else (if x1 = (2 : Int32) then (some g_freeCount) else (if x1 = (3 : Int32) then ((f_X1_size hd_holders).bind (fun z92 => some z92)) else (if x1 = (4 : Int32) then (some p_kernel) else (if x1 = (5 : Int32) then (some p_power) else (if x1 = (6 : Int32) then (some p_fall) else (if x1 = (7 : Int32) then (some p_ax) else (if x1 = (8 : Int32) then (some p_ay) else (if x1 = (9 : Int32) then (some s_size) else (if x1 = (10 : Int32) then (some t_length) else (if x1 = (11 : Int32) then (some pa_size) else (some (-1 : Int32)))))))))))))
theorem ok_X9_count : OkV yX9_count cX9_count 2 (some Jvm.ClassFile.FieldType.int) 1 := ⟨⟨tw_768, tw_1, by decide +kernel, by decide +kernel, by decide +kernel⟩, tw_766, tw_767⟩
set_option maxHeartbeats 4000000 in
set_option maxRecDepth 100000 in
theorem c_X9_count (l : Launch) (D : va_G) (cy : ClassId × ClassId × ClassId) (H0 : Heap) (aD aT aT_letters aP aQ aG aG_columns aG_lines aG_distances aG_weights aHd aHd_sums aR aPi aS aS_lines aS_counts aPa aPa_known aI : Nat) (t_length : Int32) (t_place : Int32) (t_next : Int32) (t_token : Int32) (t_value : Int32) (p_width : Int32) (p_height : Int32) (p_kernel : Int32) (p_power : Int32) (p_fall : Int32) (p_ax : Int32) (p_ay : Int32) (p_shut : Int64) (p_dots : Int64) (g_cells : Int32) (g_free : Int64) (g_freeCount : Int32) (hd_holders : Int64) (s_size : Int32) (pa_size : Int32) (x1 : Int32) (r : Int32) (hP : va_P D vwCl [(aD, .inr (9, [.ref aT, .ref aP, .ref aQ, .ref aG, .ref aHd, .ref aR, .ref aPi, .ref aS, .ref aPa, .ref aI])), (aT, .inr (8, [.ref aT_letters, .int t_length, .int t_place, .int t_next, .int t_token, .int t_value])), (aP, .inr (5, [.int p_width, .int p_height, .int p_kernel, .int p_power, .int p_fall, .int p_ax, .int p_ay, .long p_shut, .long p_dots])), (aG, .inr (0, [.ref aP, .ref aG_columns, .ref aG_lines, .ref aG_distances, .ref aG_weights, .int g_cells, .long g_free, .int g_freeCount])), (aHd, .inr (1, [.ref aG, .ref aHd_sums, .long hd_holders])), (aS, .inr (7, [.ref aG, .ref aR, .ref aS_lines, .ref aS_counts, .int s_size])), (aPa, .inr (3, [.ref aPa_known, .int pa_size]))] H0) (hf : f_X9_count t_length p_width p_height p_kernel p_power p_fall p_ax p_ay g_freeCount hd_holders s_size pa_size x1 = some r) : Rd l yX9_count cX9_count 2 (some Jvm.ClassFile.FieldType.int) ({ frames := 2, cells := 0, slots := 0, locals := 41 } : Room) ([.ref aD, .int x1] : List Value) (some (.int r)) D cy H0 := by
  refine rd_of (by decide +kernel) (Nat.le_of_ble_eq_true rfl) ?_
  intro p e s m below meth c ls S hr hlocks hk hl
  obtain ⟨hx, hb, hml, hown, hts⟩ := id S
  have hl : lv_has ls 2 [(0, .ref aD), (1, .int x1)] := hl
  rw [f_X9_count] at hf
  refine lv_iload_n hx hb dX9_count_0 rfl (lv_at hl 1 rfl) ?_
  by_cases hc0 : x1 = (0 : Int32)
  · have hf := q_t hc0 hf
    refine lv_tableIn (off := 63) (tgt := 64) hx hb dX9_count_1 (by rw [hc0]; decide) (by rw [hc0]; decide) (by rw [hc0]; rfl) (by decide) ?_
    refine lv_aload_n hx hb dX9_count_64 rfl (lv_at hl 0 rfl) ?_
    refine va_get (D := D) (ci := 9) (v := .ref aP) (C := RX9) (T := TX9) (N := 10) hx hb hts iX9 hown hk.1 hP 0 rfl rfl 1 (by decide) (hts _ tw_300) (fun _ h9 => h9) rfl dX9_count_65 ?_
    refine va_get (D := D) (ci := 5) (v := .int p_width) (C := RX5) (T := TX5) (N := 9) hx hb hts iX5 hown hk.1 hP 2 rfl rfl 0 (by decide) (hts _ tw_64) (fun _ h9 => h9) rfl dX9_count_68 ?_
    have hf := Option.some.inj hf
    subst hf
    exact q_riR hx hb hr hlocks dX9_count_71
  · have hf := q_f hc0 hf
    by_cases hc1 : x1 = (1 : Int32)
    · have hf := q_t hc1 hf
      refine lv_tableIn (off := 71) (tgt := 72) hx hb dX9_count_1 (by rw [hc1]; decide) (by rw [hc1]; decide) (by rw [hc1]; rfl) (by decide) ?_
      refine lv_aload_n hx hb dX9_count_72 rfl (lv_at hl 0 rfl) ?_
      refine va_get (D := D) (ci := 9) (v := .ref aP) (C := RX9) (T := TX9) (N := 10) hx hb hts iX9 hown hk.1 hP 0 rfl rfl 1 (by decide) (hts _ tw_300) (fun _ h9 => h9) rfl dX9_count_73 ?_
      refine va_get (D := D) (ci := 5) (v := .int p_height) (C := RX5) (T := TX5) (N := 9) hx hb hts iX5 hown hk.1 hP 2 rfl rfl 1 (by decide) (hts _ tw_68) (fun _ h9 => h9) rfl dX9_count_76 ?_
      have hf := Option.some.inj hf
      subst hf
      exact q_riR hx hb hr hlocks dX9_count_79
    · have hf := q_f hc1 hf
      by_cases hc2 : x1 = (2 : Int32)
      · have hf := q_t hc2 hf
        refine lv_tableIn (off := 79) (tgt := 80) hx hb dX9_count_1 (by rw [hc2]; decide) (by rw [hc2]; decide) (by rw [hc2]; rfl) (by decide) ?_
        refine lv_aload_n hx hb dX9_count_80 rfl (lv_at hl 0 rfl) ?_
        refine va_get (D := D) (ci := 9) (v := .ref aG) (C := RX9) (T := TX9) (N := 10) hx hb hts iX9 hown hk.1 hP 0 rfl rfl 3 (by decide) (hts _ tw_302) (fun _ h9 => h9) rfl dX9_count_81 ?_
        refine va_get (D := D) (ci := 0) (v := .int g_freeCount) (C := RX0) (T := TX0) (N := 8) hx hb hts iX0 hown hk.1 hP 3 rfl rfl 7 (by decide) (hts _ tw_159) (fun _ h9 => h9) rfl dX9_count_84 ?_
        have hf := Option.some.inj hf
        subst hf
        exact q_riR hx hb hr hlocks dX9_count_87
      · have hf := q_f hc2 hf
        by_cases hc3 : x1 = (3 : Int32)
        · have hf := q_t hc3 hf
          refine lv_tableIn (off := 87) (tgt := 88) hx hb dX9_count_1 (by rw [hc3]; decide) (by rw [hc3]; decide) (by rw [hc3]; rfl) (by decide) ?_
          refine lv_aload_n hx hb dX9_count_88 rfl (lv_at hl 0 rfl) ?_
          refine va_get (D := D) (ci := 9) (v := .ref aHd) (C := RX9) (T := TX9) (N := 10) hx hb hts iX9 hown hk.1 hP 0 rfl rfl 4 (by decide) (hts _ tw_303) (fun _ h9 => h9) rfl dX9_count_89 ?_
          obtain ⟨z92, hz92, hf⟩ := q_bind hf
          refine q_rdV (As := []) (rest := []) (st2 := [.int z92]) S hk (c_X1_size l D cy H0 aG aHd aHd_sums hd_holders z92 (hP.sub [4] rfl) hz92) ok_X1_size tw_752 ⟨rfl, rfl, Nat.le_of_ble_eq_true rfl, Nat.le_of_ble_eq_true rfl⟩ (va_recv hk.1 hP (ci := 1) (q0 := 4) rfl rfl) rfl hl.1 rfl (Nat.le_of_ble_eq_true rfl) dX9_count_92 ⟨Nat.zero_le _, Nat.zero_le _⟩ rfl ?_
          have hf := Option.some.inj hf
          subst hf
          exact q_riR hx hb hr hlocks dX9_count_95
        · have hf := q_f hc3 hf
          by_cases hc4 : x1 = (4 : Int32)
          · have hf := q_t hc4 hf
            refine lv_tableIn (off := 95) (tgt := 96) hx hb dX9_count_1 (by rw [hc4]; decide) (by rw [hc4]; decide) (by rw [hc4]; rfl) (by decide) ?_
            refine lv_aload_n hx hb dX9_count_96 rfl (lv_at hl 0 rfl) ?_
            refine va_get (D := D) (ci := 9) (v := .ref aP) (C := RX9) (T := TX9) (N := 10) hx hb hts iX9 hown hk.1 hP 0 rfl rfl 1 (by decide) (hts _ tw_300) (fun _ h9 => h9) rfl dX9_count_97 ?_
            refine va_get (D := D) (ci := 5) (v := .int p_kernel) (C := RX5) (T := TX5) (N := 9) hx hb hts iX5 hown hk.1 hP 2 rfl rfl 2 (by decide) (hts _ tw_71) (fun _ h9 => h9) rfl dX9_count_100 ?_
            have hf := Option.some.inj hf
            subst hf
            exact q_riR hx hb hr hlocks dX9_count_103
          · have hf := q_f hc4 hf
            by_cases hc5 : x1 = (5 : Int32)
            · have hf := q_t hc5 hf
              refine lv_tableIn (off := 103) (tgt := 104) hx hb dX9_count_1 (by rw [hc5]; decide) (by rw [hc5]; decide) (by rw [hc5]; rfl) (by decide) ?_
              refine lv_aload_n hx hb dX9_count_104 rfl (lv_at hl 0 rfl) ?_
              refine va_get (D := D) (ci := 9) (v := .ref aP) (C := RX9) (T := TX9) (N := 10) hx hb hts iX9 hown hk.1 hP 0 rfl rfl 1 (by decide) (hts _ tw_300) (fun _ h9 => h9) rfl dX9_count_105 ?_
              refine va_get (D := D) (ci := 5) (v := .int p_power) (C := RX5) (T := TX5) (N := 9) hx hb hts iX5 hown hk.1 hP 2 rfl rfl 3 (by decide) (hts _ tw_74) (fun _ h9 => h9) rfl dX9_count_108 ?_
              have hf := Option.some.inj hf
              subst hf
              exact q_riR hx hb hr hlocks dX9_count_111
            · have hf := q_f hc5 hf
              by_cases hc6 : x1 = (6 : Int32)
              · have hf := q_t hc6 hf
                refine lv_tableIn (off := 111) (tgt := 112) hx hb dX9_count_1 (by rw [hc6]; decide) (by rw [hc6]; decide) (by rw [hc6]; rfl) (by decide) ?_
                refine lv_aload_n hx hb dX9_count_112 rfl (lv_at hl 0 rfl) ?_
                refine va_get (D := D) (ci := 9) (v := .ref aP) (C := RX9) (T := TX9) (N := 10) hx hb hts iX9 hown hk.1 hP 0 rfl rfl 1 (by decide) (hts _ tw_300) (fun _ h9 => h9) rfl dX9_count_113 ?_
                refine va_get (D := D) (ci := 5) (v := .int p_fall) (C := RX5) (T := TX5) (N := 9) hx hb hts iX5 hown hk.1 hP 2 rfl rfl 4 (by decide) (hts _ tw_77) (fun _ h9 => h9) rfl dX9_count_116 ?_
                have hf := Option.some.inj hf
                subst hf
                exact q_riR hx hb hr hlocks dX9_count_119
              · have hf := q_f hc6 hf
                by_cases hc7 : x1 = (7 : Int32)
                · have hf := q_t hc7 hf
                  refine lv_tableIn (off := 119) (tgt := 120) hx hb dX9_count_1 (by rw [hc7]; decide) (by rw [hc7]; decide) (by rw [hc7]; rfl) (by decide) ?_
                  refine lv_aload_n hx hb dX9_count_120 rfl (lv_at hl 0 rfl) ?_
                  refine va_get (D := D) (ci := 9) (v := .ref aP) (C := RX9) (T := TX9) (N := 10) hx hb hts iX9 hown hk.1 hP 0 rfl rfl 1 (by decide) (hts _ tw_300) (fun _ h9 => h9) rfl dX9_count_121 ?_
                  refine va_get (D := D) (ci := 5) (v := .int p_ax) (C := RX5) (T := TX5) (N := 9) hx hb hts iX5 hown hk.1 hP 2 rfl rfl 5 (by decide) (hts _ tw_80) (fun _ h9 => h9) rfl dX9_count_124 ?_
                  have hf := Option.some.inj hf
                  subst hf
                  exact q_riR hx hb hr hlocks dX9_count_127
                · have hf := q_f hc7 hf
                  by_cases hc8 : x1 = (8 : Int32)
                  · have hf := q_t hc8 hf
                    refine lv_tableIn (off := 127) (tgt := 128) hx hb dX9_count_1 (by rw [hc8]; decide) (by rw [hc8]; decide) (by rw [hc8]; rfl) (by decide) ?_
                    refine lv_aload_n hx hb dX9_count_128 rfl (lv_at hl 0 rfl) ?_
                    refine va_get (D := D) (ci := 9) (v := .ref aP) (C := RX9) (T := TX9) (N := 10) hx hb hts iX9 hown hk.1 hP 0 rfl rfl 1 (by decide) (hts _ tw_300) (fun _ h9 => h9) rfl dX9_count_129 ?_
                    refine va_get (D := D) (ci := 5) (v := .int p_ay) (C := RX5) (T := TX5) (N := 9) hx hb hts iX5 hown hk.1 hP 2 rfl rfl 6 (by decide) (hts _ tw_83) (fun _ h9 => h9) rfl dX9_count_132 ?_
                    have hf := Option.some.inj hf
                    subst hf
                    exact q_riR hx hb hr hlocks dX9_count_135
                  · have hf := q_f hc8 hf
                    by_cases hc9 : x1 = (9 : Int32)
                    · have hf := q_t hc9 hf
                      refine lv_tableIn (off := 135) (tgt := 136) hx hb dX9_count_1 (by rw [hc9]; decide) (by rw [hc9]; decide) (by rw [hc9]; rfl) (by decide) ?_
                      refine lv_aload_n hx hb dX9_count_136 rfl (lv_at hl 0 rfl) ?_
                      refine va_get (D := D) (ci := 9) (v := .ref aS) (C := RX9) (T := TX9) (N := 10) hx hb hts iX9 hown hk.1 hP 0 rfl rfl 7 (by decide) (hts _ tw_306) (fun _ h9 => h9) rfl dX9_count_137 ?_
                      refine va_get (D := D) (ci := 7) (v := .int s_size) (C := RX7) (T := TX7) (N := 5) hx hb hts iX7 hown hk.1 hP 5 rfl rfl 4 (by decide) (hts _ tw_258) (fun _ h9 => h9) rfl dX9_count_140 ?_
                      have hf := Option.some.inj hf
                      subst hf
                      exact q_riR hx hb hr hlocks dX9_count_143
                    · have hf := q_f hc9 hf
                      by_cases hc10 : x1 = (10 : Int32)
                      · have hf := q_t hc10 hf
                        refine lv_tableIn (off := 143) (tgt := 144) hx hb dX9_count_1 (by rw [hc10]; decide) (by rw [hc10]; decide) (by rw [hc10]; rfl) (by decide) ?_
                        refine lv_aload_n hx hb dX9_count_144 rfl (lv_at hl 0 rfl) ?_
                        refine va_get (D := D) (ci := 9) (v := .ref aT) (C := RX9) (T := TX9) (N := 10) hx hb hts iX9 hown hk.1 hP 0 rfl rfl 0 (by decide) (hts _ tw_299) (fun _ h9 => h9) rfl dX9_count_145 ?_
                        refine va_get (D := D) (ci := 8) (v := .int t_length) (C := RX8) (T := TX8) (N := 6) hx hb hts iX8 hown hk.1 hP 1 rfl rfl 1 (by decide) (hts _ tw_32) (fun _ h9 => h9) rfl dX9_count_148 ?_
                        have hf := Option.some.inj hf
                        subst hf
                        exact q_riR hx hb hr hlocks dX9_count_151
                      · have hf := q_f hc10 hf
                        by_cases hc11 : x1 = (11 : Int32)
                        · have hf := q_t hc11 hf
                          refine lv_tableIn (off := 151) (tgt := 152) hx hb dX9_count_1 (by rw [hc11]; decide) (by rw [hc11]; decide) (by rw [hc11]; rfl) (by decide) ?_
                          refine lv_aload_n hx hb dX9_count_152 rfl (lv_at hl 0 rfl) ?_
                          refine va_get (D := D) (ci := 9) (v := .ref aPa) (C := RX9) (T := TX9) (N := 10) hx hb hts iX9 hown hk.1 hP 0 rfl rfl 8 (by decide) (hts _ tw_307) (fun _ h9 => h9) rfl dX9_count_153 ?_
                          refine va_get (D := D) (ci := 3) (v := .int pa_size) (C := RX3) (T := TX3) (N := 2) hx hb hts iX3 hown hk.1 hP 6 rfl rfl 1 (by decide) (hts _ tw_278) (fun _ h9 => h9) rfl dX9_count_156 ?_
                          have hf := Option.some.inj hf
                          subst hf
                          exact q_riR hx hb hr hlocks dX9_count_159
                        · have hf := q_f hc11 hf
                          have hn0 := lv_neT (a := 0) hc0 (by decide)
                          have hn1 := lv_neT (a := 1) hc1 (by decide)
                          have hn2 := lv_neT (a := 2) hc2 (by decide)
                          have hn3 := lv_neT (a := 3) hc3 (by decide)
                          have hn4 := lv_neT (a := 4) hc4 (by decide)
                          have hn5 := lv_neT (a := 5) hc5 (by decide)
                          have hn6 := lv_neT (a := 6) hc6 (by decide)
                          have hn7 := lv_neT (a := 7) hc7 (by decide)
                          have hn8 := lv_neT (a := 8) hc8 (by decide)
                          have hn9 := lv_neT (a := 9) hc9 (by decide)
                          have hn10 := lv_neT (a := 10) hc10 (by decide)
                          have hn11 := lv_neT (a := 11) hc11 (by decide)
                          refine lv_tableOut (tgt := 160) hx hb dX9_count_1 (by omega) (by decide) ?_
                          refine lv_iconst (v := (-1 : Int32)) hx hb dX9_count_160 (by decide) ?_
                          have hf := Option.some.inj hf
                          subst hf
                          exact q_riR hx hb hr hlocks dX9_count_161
def f_X9_isLine (p_width : Int32) (p_height : Int32) (x1 : Int32) : Option (Int32) := if (8 : Int32) ≤ x1 then (if p_width ≤ (x1 - (8 : Int32)) then (some (0 : Int32)) else (some (1 : Int32))) else (if x1 < 0 then (some (0 : Int32)) else (if p_height ≤ x1 then (some (0 : Int32)) else (some (1 : Int32))))
theorem ok_X9_isLine : OkV yX9_isLine cX9_isLine 2 (some Jvm.ClassFile.FieldType.boolean) 1 := ⟨⟨tw_703, tw_1, by decide +kernel, by decide +kernel, by decide +kernel⟩, tw_702, tp_23⟩
set_option maxHeartbeats 4000000 in
set_option maxRecDepth 100000 in
theorem c_X9_isLine (l : Launch) (D : va_G) (cy : ClassId × ClassId × ClassId) (H0 : Heap) (aD aT aP aQ aG aHd aR aPi aS aPa aI : Nat) (p_width : Int32) (p_height : Int32) (p_kernel : Int32) (p_power : Int32) (p_fall : Int32) (p_ax : Int32) (p_ay : Int32) (p_shut : Int64) (p_dots : Int64) (x1 : Int32) (r : Int32) (hP : va_P D vwCl [(aD, .inr (9, [.ref aT, .ref aP, .ref aQ, .ref aG, .ref aHd, .ref aR, .ref aPi, .ref aS, .ref aPa, .ref aI])), (aP, .inr (5, [.int p_width, .int p_height, .int p_kernel, .int p_power, .int p_fall, .int p_ax, .int p_ay, .long p_shut, .long p_dots]))] H0) (hf : f_X9_isLine p_width p_height x1 = some r) : Rd l yX9_isLine cX9_isLine 2 (some Jvm.ClassFile.FieldType.boolean) ({ frames := 0, cells := 0, slots := 0, locals := 0 } : Room) ([.ref aD, .int x1] : List Value) (some (.int r)) D cy H0 := by
  refine rd_of (by decide +kernel) (Nat.le_of_ble_eq_true rfl) ?_
  intro p e s m below meth c ls S hr hlocks hk hl
  obtain ⟨hx, hb, hml, hown, hts⟩ := id S
  have hl : lv_has ls 2 [(0, .ref aD), (1, .int x1)] := hl
  rw [f_X9_isLine] at hf
  refine lv_iload_n hx hb dX9_isLine_0 rfl (lv_at hl 1 rfl) ?_
  refine lv_bipush (v := (8 : Int32)) hx hb dX9_isLine_1 (by decide) ?_
  refine lv_icmp_ge (tgt := 27) hx hb dX9_isLine_3 (by decide) (fun hc => ?_) (fun hc => ?_)
  · have hf := q_t hc hf
    refine lv_iload_n hx hb dX9_isLine_27 rfl (lv_at hl 1 rfl) ?_
    refine lv_bipush (v := (8 : Int32)) hx hb dX9_isLine_28 (by decide) ?_
    refine lv_isub hx hb dX9_isLine_30 ?_
    refine lv_aload_n hx hb dX9_isLine_31 rfl (lv_at hl 0 rfl) ?_
    refine va_get (D := D) (ci := 9) (v := .ref aP) (C := RX9) (T := TX9) (N := 10) hx hb hts iX9 hown hk.1 hP 0 rfl rfl 1 (by decide) (hts _ tw_300) (fun _ h9 => h9) rfl dX9_isLine_32 ?_
    refine va_get (D := D) (ci := 5) (v := .int p_width) (C := RX5) (T := TX5) (N := 9) hx hb hts iX5 hown hk.1 hP 1 rfl rfl 0 (by decide) (hts _ tw_64) (fun _ h9 => h9) rfl dX9_isLine_35 ?_
    refine lv_icmp_ge (tgt := 45) hx hb dX9_isLine_38 (by decide) (fun hc => ?_) (fun hc => ?_)
    · have hf := q_t hc hf
      refine lv_iconst (v := (0 : Int32)) hx hb dX9_isLine_45 (by decide) ?_
      have hf := Option.some.inj hf
      subst hf
      exact q_rzR (Or.inl rfl) hx hb hr hlocks dX9_isLine_46
    · have hf := q_f hc hf
      refine lv_iconst (v := (1 : Int32)) hx hb dX9_isLine_41 (by decide) ?_
      refine lv_goto (tgt := 46) hx hb dX9_isLine_42 (by decide) ?_
      have hf := Option.some.inj hf
      subst hf
      exact q_rzR (Or.inr rfl) hx hb hr hlocks dX9_isLine_46
  · have hf := q_f hc hf
    refine lv_iload_n hx hb dX9_isLine_6 rfl (lv_at hl 1 rfl) ?_
    refine lv_if_lt (tgt := 25) hx hb dX9_isLine_7 (by decide) (fun hc => ?_) (fun hc => ?_)
    · have hf := q_t hc hf
      refine lv_iconst (v := (0 : Int32)) hx hb dX9_isLine_25 (by decide) ?_
      have hf := Option.some.inj hf
      subst hf
      exact q_rzR (Or.inl rfl) hx hb hr hlocks dX9_isLine_26
    · have hf := q_f hc hf
      refine lv_iload_n hx hb dX9_isLine_10 rfl (lv_at hl 1 rfl) ?_
      refine lv_aload_n hx hb dX9_isLine_11 rfl (lv_at hl 0 rfl) ?_
      refine va_get (D := D) (ci := 9) (v := .ref aP) (C := RX9) (T := TX9) (N := 10) hx hb hts iX9 hown hk.1 hP 0 rfl rfl 1 (by decide) (hts _ tw_300) (fun _ h9 => h9) rfl dX9_isLine_12 ?_
      refine va_get (D := D) (ci := 5) (v := .int p_height) (C := RX5) (T := TX5) (N := 9) hx hb hts iX5 hown hk.1 hP 1 rfl rfl 1 (by decide) (hts _ tw_68) (fun _ h9 => h9) rfl dX9_isLine_15 ?_
      refine lv_icmp_ge (tgt := 25) hx hb dX9_isLine_18 (by decide) (fun hc => ?_) (fun hc => ?_)
      · have hf := q_t hc hf
        refine lv_iconst (v := (0 : Int32)) hx hb dX9_isLine_25 (by decide) ?_
        have hf := Option.some.inj hf
        subst hf
        exact q_rzR (Or.inl rfl) hx hb hr hlocks dX9_isLine_26
      · have hf := q_f hc hf
        refine lv_iconst (v := (1 : Int32)) hx hb dX9_isLine_21 (by decide) ?_
        refine lv_goto (tgt := 26) hx hb dX9_isLine_22 (by decide) ?_
        have hf := Option.some.inj hf
        subst hf
        exact q_rzR (Or.inr rfl) hx hb hr hlocks dX9_isLine_26
def f_X9_sees (p_width : Int32) (p_height : Int32) (s_size : Int32) (s_lines : Nat → Int32) (s_counts : Nat → Int32) (x1 : Int32) (x2 : Int32) : Option (Int32 × Int32 × (Nat → Int32) × (Nat → Int32)) := (f_X9_isLine p_width p_height x1).bind (fun z2 => if z2 = 0 then (some ((-1 : Int32), s_size, s_lines, s_counts)) else (if x2 < 0 then (some ((-1 : Int32), s_size, s_lines, s_counts)) else (if x2 ≤ (8 : Int32) then ((f_X7_append s_size s_lines s_counts x1 x2).bind (fun z26 => if (z26.1) = 0 then (some ((-3 : Int32), (z26.2.1), (z26.2.2.1), (z26.2.2.2))) else (some ((z26.2.1), (z26.2.1), (z26.2.2.1), (z26.2.2.2))))) else (some ((-1 : Int32), s_size, s_lines, s_counts)))))
theorem ok_X9_sees : OkV yX9_sees cX9_sees 3 (some Jvm.ClassFile.FieldType.int) 2 := ⟨⟨tw_699, tw_1, by decide +kernel, by decide +kernel, by decide +kernel⟩, tw_697, tw_698⟩
set_option maxHeartbeats 4000000 in
set_option maxRecDepth 100000 in
theorem c_X9_sees (l : Launch) (D : va_G) (cy : ClassId × ClassId × ClassId) (H0 : Heap) (aD aT aP aQ aG aHd aR aPi aS aS_lines aS_counts aPa aI : Nat) (p_width : Int32) (p_height : Int32) (p_kernel : Int32) (p_power : Int32) (p_fall : Int32) (p_ax : Int32) (p_ay : Int32) (p_shut : Int64) (p_dots : Int64) (s_size : Int32) (s_lines : Nat → Int32) (s_counts : Nat → Int32) (x1 : Int32) (x2 : Int32) (r : Int32 × Int32 × (Nat → Int32) × (Nat → Int32)) (hP : va_P D vwCl [(aD, .inr (9, [.ref aT, .ref aP, .ref aQ, .ref aG, .ref aHd, .ref aR, .ref aPi, .ref aS, .ref aPa, .ref aI])), (aP, .inr (5, [.int p_width, .int p_height, .int p_kernel, .int p_power, .int p_fall, .int p_ax, .int p_ay, .long p_shut, .long p_dots])), (aS, .inr (7, [.ref aG, .ref aR, .ref aS_lines, .ref aS_counts, .int s_size])), (aS_lines, .inl (cy.1, 6, .inl s_lines)), (aS_counts, .inl (cy.1, 6, .inl s_counts))] H0) (hD0 : va_D (fun _ => True) [(aD, .inr (9, [.ref aT, .ref aP, .ref aQ, .ref aG, .ref aHd, .ref aR, .ref aPi, .ref aS, .ref aPa, .ref aI])), (aP, .inr (5, [.int p_width, .int p_height, .int p_kernel, .int p_power, .int p_fall, .int p_ax, .int p_ay, .long p_shut, .long p_dots])), (aS, .inr (7, [.ref aG, .ref aR, .ref aS_lines, .ref aS_counts, .int s_size])), (aS_lines, .inl (cy.1, 6, .inl s_lines)), (aS_counts, .inl (cy.1, 6, .inl s_counts))]) (hf : f_X9_sees p_width p_height s_size s_lines s_counts x1 x2 = some r) : Wr l yX9_sees cX9_sees 3 (some Jvm.ClassFile.FieldType.int) ({ frames := 1, cells := 0, slots := 0, locals := 22 } : Room) ([.ref aD, .int x1, .int x2] : List Value) (some (.int (r.1))) D cy H0 [(aD, .inr (9, [.ref aT, .ref aP, .ref aQ, .ref aG, .ref aHd, .ref aR, .ref aPi, .ref aS, .ref aPa, .ref aI])), (aP, .inr (5, [.int p_width, .int p_height, .int p_kernel, .int p_power, .int p_fall, .int p_ax, .int p_ay, .long p_shut, .long p_dots])), (aS, .inr (7, [.ref aG, .ref aR, .ref aS_lines, .ref aS_counts, .int s_size])), (aS_lines, .inl (cy.1, 6, .inl s_lines)), (aS_counts, .inl (cy.1, 6, .inl s_counts))] [(aD, .inr (9, [.ref aT, .ref aP, .ref aQ, .ref aG, .ref aHd, .ref aR, .ref aPi, .ref aS, .ref aPa, .ref aI])), (aP, .inr (5, [.int p_width, .int p_height, .int p_kernel, .int p_power, .int p_fall, .int p_ax, .int p_ay, .long p_shut, .long p_dots])), (aS, .inr (7, [.ref aG, .ref aR, .ref aS_lines, .ref aS_counts, .int (r.2.1)])), (aS_lines, .inl (cy.1, 6, .inl (r.2.2.1))), (aS_counts, .inl (cy.1, 6, .inl (r.2.2.2)))] := by
  refine wr_of (by decide +kernel) (Nat.le_of_ble_eq_true rfl) hD0 ?_
  intro p e s m below meth c ls A S hr hlocks hk hl hD hS hA
  obtain ⟨hx, hb, hml, hown, hts⟩ := id S
  have hl : lv_has ls 3 [(0, .ref aD), (1, .int x1), (2, .int x2)] := hl
  rw [f_X9_sees] at hf
  refine lv_aload_n hx hb dX9_sees_0 rfl (lv_at hl 0 rfl) ?_
  refine lv_iload_n hx hb dX9_sees_1 rfl (lv_at hl 1 rfl) ?_
  obtain ⟨z2, hz2, hf⟩ := q_bind hf
  refine q_rdV (As := [.int x1]) (rest := []) (st2 := [.int z2]) S hk (c_X9_isLine l D cy H0 aD aT aP aQ aG aHd aR aPi aS aPa aI p_width p_height p_kernel p_power p_fall p_ax p_ay p_shut p_dots x1 z2 (hP.sub [0, 1] rfl) hz2) ok_X9_isLine tw_700 ⟨rfl, rfl, Nat.le_of_ble_eq_true rfl, Nat.le_of_ble_eq_true rfl⟩ (va_recv hk.1 hP (ci := 9) (q0 := 0) rfl rfl) rfl hl.1 rfl (Nat.le_of_ble_eq_true rfl) dX9_sees_2 ⟨Nat.zero_le _, Nat.zero_le _⟩ rfl ?_
  refine lv_if_eq (tgt := 18) hx hb dX9_sees_5 (by decide) (fun hc => ?_) (fun hc => ?_)
  · have hf := q_t hc hf
    refine lv_iconst (v := (-1 : Int32)) hx hb dX9_sees_18 (by decide) ?_
    have hf := Option.some.inj hf
    subst hf
    exact q_riW hP hS hx hb hr hlocks dX9_sees_19
  · have hf := q_f hc hf
    refine lv_iload_n hx hb dX9_sees_8 rfl (lv_at hl 2 rfl) ?_
    refine lv_if_lt (tgt := 18) hx hb dX9_sees_9 (by decide) (fun hc => ?_) (fun hc => ?_)
    · have hf := q_t hc hf
      refine lv_iconst (v := (-1 : Int32)) hx hb dX9_sees_18 (by decide) ?_
      have hf := Option.some.inj hf
      subst hf
      exact q_riW hP hS hx hb hr hlocks dX9_sees_19
    · have hf := q_f hc hf
      refine lv_iload_n hx hb dX9_sees_12 rfl (lv_at hl 2 rfl) ?_
      refine lv_bipush (v := (8 : Int32)) hx hb dX9_sees_13 (by decide) ?_
      refine lv_icmp_le (tgt := 20) hx hb dX9_sees_15 (by decide) (fun hc => ?_) (fun hc => ?_)
      · have hf := q_t hc hf
        refine lv_aload_n hx hb dX9_sees_20 rfl (lv_at hl 0 rfl) ?_
        refine va_get (D := D) (ci := 9) (v := .ref aS) (C := RX9) (T := TX9) (N := 10) hx hb hts iX9 hown hk.1 hP 0 rfl rfl 7 (by decide) (hts _ tw_306) (fun _ h9 => h9) rfl dX9_sees_21 ?_
        refine lv_iload_n hx hb dX9_sees_24 rfl (lv_at hl 1 rfl) ?_
        refine lv_iload_n hx hb dX9_sees_25 rfl (lv_at hl 2 rfl) ?_
        obtain ⟨z26, hz26, hf⟩ := q_bind hf
        refine q_wrV (As := [.int x1, .int x2]) (rest := []) (st2 := [.int (z26.1)]) (ws' := [(aD, .inr (9, [.ref aT, .ref aP, .ref aQ, .ref aG, .ref aHd, .ref aR, .ref aPi, .ref aS, .ref aPa, .ref aI])), (aP, .inr (5, [.int p_width, .int p_height, .int p_kernel, .int p_power, .int p_fall, .int p_ax, .int p_ay, .long p_shut, .long p_dots])), (aS, .inr (7, [.ref aG, .ref aR, .ref aS_lines, .ref aS_counts, .int (z26.2.1)])), (aS_lines, .inl (cy.1, 6, .inl (z26.2.2.1))), (aS_counts, .inl (cy.1, 6, .inl (z26.2.2.2)))]) S hk (c_X7_append l D cy H0 aG aR aS aS_lines aS_counts s_size s_lines s_counts x1 x2 z26 (hP.sub [2, 3, 4] rfl) (qD_sub hD [2, 3, 4] (by decide) rfl) hz26) ok_X7_append tw_704 ⟨rfl, rfl, Nat.le_of_ble_eq_true rfl, Nat.le_of_ble_eq_true rfl⟩ (va_recv hk.1 hP (ci := 7) (q0 := 2) rfl rfl) rfl hl.1 rfl (Nat.le_of_ble_eq_true rfl) dX9_sees_26 ⟨Nat.zero_le _, Nat.zero_le _⟩ rfl hP hD hS hA [2, 3, 4] rfl rfl rfl rfl (fun H locs hP hD hS => ?_)
        refine lv_if_eq (tgt := 42) hx hb dX9_sees_29 (by decide) (fun hc => ?_) (fun hc => ?_)
        · have hf := q_t hc hf
          refine lv_bipush (v := (-3 : Int32)) hx hb dX9_sees_42 (by decide) ?_
          have hf := Option.some.inj hf
          subst hf
          exact q_riW hP hS hx hb hr hlocks dX9_sees_44
        · have hf := q_f hc hf
          refine lv_aload_n hx hb dX9_sees_32 rfl (lv_at hl 0 rfl) ?_
          refine va_get (D := D) (ci := 9) (v := .ref aS) (C := RX9) (T := TX9) (N := 10) hx hb hts iX9 hown hk.1 hP 0 rfl rfl 7 (by decide) (hts _ tw_306) (fun _ h9 => h9) rfl dX9_sees_33 ?_
          refine va_get (D := D) (ci := 7) (v := .int (z26.2.1)) (C := RX7) (T := TX7) (N := 5) hx hb hts iX7 hown hk.1 hP 2 rfl rfl 4 (by decide) (hts _ tw_258) (fun _ h9 => h9) rfl dX9_sees_36 ?_
          refine lv_goto (tgt := 44) hx hb dX9_sees_39 (by decide) ?_
          have hf := Option.some.inj hf
          subst hf
          exact q_riW hP hS hx hb hr hlocks dX9_sees_44
      · have hf := q_f hc hf
        refine lv_iconst (v := (-1 : Int32)) hx hb dX9_sees_18 (by decide) ?_
        have hf := Option.some.inj hf
        subst hf
        exact q_riW hP hS hx hb hr hlocks dX9_sees_19
def f_X9_forget (s_size : Int32) : Option (Int32 × Int32) := some (s_size, (0 : Int32))
theorem ok_X9_forget : OkV yX9_forget cX9_forget 2 (some Jvm.ClassFile.FieldType.int) 0 := ⟨⟨tw_711, tw_1, by decide +kernel, by decide +kernel, by decide +kernel⟩, tw_709, tw_710⟩
set_option maxHeartbeats 4000000 in
set_option maxRecDepth 100000 in
theorem c_X9_forget (l : Launch) (D : va_G) (cy : ClassId × ClassId × ClassId) (H0 : Heap) (aD aT aP aQ aG aHd aR aPi aS aS_lines aS_counts aPa aI : Nat) (s_size : Int32) (r : Int32 × Int32) (hP : va_P D vwCl [(aD, .inr (9, [.ref aT, .ref aP, .ref aQ, .ref aG, .ref aHd, .ref aR, .ref aPi, .ref aS, .ref aPa, .ref aI])), (aS, .inr (7, [.ref aG, .ref aR, .ref aS_lines, .ref aS_counts, .int s_size]))] H0) (hD0 : va_D (fun _ => True) [(aD, .inr (9, [.ref aT, .ref aP, .ref aQ, .ref aG, .ref aHd, .ref aR, .ref aPi, .ref aS, .ref aPa, .ref aI])), (aS, .inr (7, [.ref aG, .ref aR, .ref aS_lines, .ref aS_counts, .int s_size]))]) (hf : f_X9_forget s_size = some r) : Wr l yX9_forget cX9_forget 2 (some Jvm.ClassFile.FieldType.int) ({ frames := 0, cells := 0, slots := 0, locals := 0 } : Room) ([.ref aD] : List Value) (some (.int (r.1))) D cy H0 [(aD, .inr (9, [.ref aT, .ref aP, .ref aQ, .ref aG, .ref aHd, .ref aR, .ref aPi, .ref aS, .ref aPa, .ref aI])), (aS, .inr (7, [.ref aG, .ref aR, .ref aS_lines, .ref aS_counts, .int s_size]))] [(aD, .inr (9, [.ref aT, .ref aP, .ref aQ, .ref aG, .ref aHd, .ref aR, .ref aPi, .ref aS, .ref aPa, .ref aI])), (aS, .inr (7, [.ref aG, .ref aR, .ref aS_lines, .ref aS_counts, .int (r.2)]))] := by
  refine wr_of (by decide +kernel) (Nat.le_of_ble_eq_true rfl) hD0 ?_
  intro p e s m below meth c ls A S hr hlocks hk hl hD hS hA
  obtain ⟨hx, hb, hml, hown, hts⟩ := id S
  have hl : lv_has ls 2 [(0, .ref aD)] := hl
  rw [f_X9_forget] at hf
  refine lv_aload_n hx hb dX9_forget_0 rfl (lv_at hl 0 rfl) ?_
  refine va_get (D := D) (ci := 9) (v := .ref aS) (C := RX9) (T := TX9) (N := 10) hx hb hts iX9 hown hk.1 hP 0 rfl rfl 7 (by decide) (hts _ tw_306) (fun _ h9 => h9) rfl dX9_forget_1 ?_
  refine va_get (D := D) (ci := 7) (v := .int s_size) (C := RX7) (T := TX7) (N := 5) hx hb hts iX7 hown hk.1 hP 1 rfl rfl 4 (by decide) (hts _ tw_258) (fun _ h9 => h9) rfl dX9_forget_4 ?_
  refine lv_istore_n (lv' := [(1, .int s_size), (0, .ref aD)]) hx hb dX9_forget_7 rfl hl (by decide) rfl (fun ls hl => ?_)
  refine lv_aload_n hx hb dX9_forget_8 rfl (lv_at hl 1 rfl) ?_
  refine va_get (D := D) (ci := 9) (v := .ref aS) (C := RX9) (T := TX9) (N := 10) hx hb hts iX9 hown hk.1 hP 0 rfl rfl 7 (by decide) (hts _ tw_306) (fun _ h9 => h9) rfl dX9_forget_9 ?_
  refine lv_iconst (v := (0 : Int32)) hx hb dX9_forget_12 (by decide) ?_
  refine va_put (D := D) (ci := 7) (v := .int (0 : Int32)) (ty := .int) (C := RX7) (T := TX7) (N := 5) hx hb hts iX7 tyX7 tyX7_ok nmX7 hown hk.1 hP hD hS 1 rfl rfl 4 (by decide) (hts _ tw_258) (fun _ h9 => h9) rfl (by decide +kernel) rfl rfl (Nat.le_of_ble_eq_true rfl) dX9_forget_13 (fun H locs hP hD hS => ?_)
  have hP : va_P D vwCl [(aD, .inr (9, [.ref aT, .ref aP, .ref aQ, .ref aG, .ref aHd, .ref aR, .ref aPi, .ref aS, .ref aPa, .ref aI])), (aS, .inr (7, [.ref aG, .ref aR, .ref aS_lines, .ref aS_counts, .int (0 : Int32)]))] H := hP
  have hD : va_D A [(aD, .inr (9, [.ref aT, .ref aP, .ref aQ, .ref aG, .ref aHd, .ref aR, .ref aPi, .ref aS, .ref aPa, .ref aI])), (aS, .inr (7, [.ref aG, .ref aR, .ref aS_lines, .ref aS_counts, .int (0 : Int32)]))] := hD
  refine lv_iload_n hx hb dX9_forget_16 rfl (lv_at hl 0 rfl) ?_
  have hf := Option.some.inj hf
  subst hf
  exact q_riW hP hS hx hb hr hlocks dX9_forget_17
