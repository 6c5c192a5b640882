def f_X6_drop (r_madeBy : Int64) : Option (Int64) := some (0 : Int64)
theorem ok_X6_drop : OkV yX6_drop cX6_drop 1 none 0 := ⟨⟨tw_430, tw_8, by decide +kernel, by decide +kernel, by decide +kernel⟩, tw_428, tw_429⟩
set_option maxHeartbeats 4000000 in
set_option maxRecDepth 100000 in
theorem c_X6_drop (l : Launch) (D : va_G) (cy : ClassId × ClassId × ClassId) (H0 : Heap) (aG aR aR_order aR_places aHr : Nat) (r_madeBy : Int64) (r_thinned : Int32) (r_filled : Int32) (r : Int64) (hP : va_P D vwCl [(aR, .inr (6, [.ref aG, .ref aHr, .ref aR_order, .ref aR_places, .long r_madeBy, .int r_thinned, .int r_filled]))] H0) (hD0 : va_D (fun _ => True) [(aR, .inr (6, [.ref aG, .ref aHr, .ref aR_order, .ref aR_places, .long r_madeBy, .int r_thinned, .int r_filled]))]) (hf : f_X6_drop r_madeBy = some r) : Wr l yX6_drop cX6_drop 1 none ({ frames := 0, cells := 0, slots := 0, locals := 0 } : Room) ([.ref aR] : List Value) none D cy H0 [(aR, .inr (6, [.ref aG, .ref aHr, .ref aR_order, .ref aR_places, .long r_madeBy, .int r_thinned, .int r_filled]))] [(aR, .inr (6, [.ref aG, .ref aHr, .ref aR_order, .ref aR_places, .long r, .int r_thinned, .int r_filled]))] := by
  refine wr_of (by decide +kernel) (Nat.le_of_ble_eq_true rfl) hD0 ?_
  intro p e s m below meth c ls A S hr hlocks hk hl hD hS hA
  obtain ⟨hx, hb, hml, hown, hts⟩ := id S
  have hl : lv_has ls 1 [(0, .ref aR)] := hl
  rw [f_X6_drop] at hf
  refine lv_aload_n hx hb dX6_drop_0 rfl (lv_at hl 0 rfl) ?_
  refine lv_lconst (v := (0 : Int64)) hx hb dX6_drop_1 (by decide) ?_
  refine va_put (D := D) (ci := 6) (v := .long (0 : Int64)) (ty := .long) (C := RX6) (T := TX6) (N := 7) hx hb hts iX6 tyX6 tyX6_ok nmX6 hown hk.1 hP hD hS 0 rfl rfl 4 (by decide) (hts _ tw_207) (fun _ h9 => h9) rfl (by decide +kernel) rfl rfl (Nat.le_of_ble_eq_true rfl) dX6_drop_2 (fun H locs hP hD hS => ?_)
  have hP : va_P D vwCl [(aR, .inr (6, [.ref aG, .ref aHr, .ref aR_order, .ref aR_places, .long (0 : Int64), .int r_thinned, .int r_filled]))] H := hP
  have hD : va_D A [(aR, .inr (6, [.ref aG, .ref aHr, .ref aR_order, .ref aR_places, .long (0 : Int64), .int r_thinned, .int r_filled]))] := hD
  have hf := Option.some.inj hf
  subst hf
  exact q_rvW hP hS hx hb hr hlocks dX6_drop_5
def f_X6_give (g_cells : Int32) (g_columns : Nat → Int32) (g_lines : Nat → Int32) (g_weights : Nat → Int32) (r_order : Nat → Int32) (r_places : Nat → Int32) (hr_holders : Int64) (hr_sums : Nat → Int32) (x1 : Int32) (x2 : Int32) : Option ((Nat → Int32) × (Nat → Int32) × Int64 × (Nat → Int32)) := (f_X0_isCell g_cells x1).bind (fun z5 => if z5 = 0 then (some (r_order, r_places, hr_holders, hr_sums)) else (if x2 < 0 then (some (r_order, r_places, hr_holders, hr_sums)) else (if x2 < (64 : Int32) then (if inb x2 64 = true then (if inb x1 64 = true then ((f_X1_flip g_cells g_columns g_lines g_weights hr_holders hr_sums x1).bind (fun z44 => some ((upd r_order x2.toNatClampNeg x1), (upd r_places x1.toNatClampNeg x2), (z44.1), (z44.2)))) else none) else none) else (some (r_order, r_places, hr_holders, hr_sums)))))
theorem ok_X6_give : OkV yX6_give cX6_give 3 none 2 := ⟨⟨tw_584, tw_8, by decide +kernel, by decide +kernel, by decide +kernel⟩, tw_583, tp_17⟩
set_option maxHeartbeats 4000000 in
set_option maxRecDepth 100000 in
theorem c_X6_give (l : Launch) (D : va_G) (cy : ClassId × ClassId × ClassId) (H0 : Heap) (aP aG aG_columns aG_lines aG_distances aG_weights aR aR_order aR_places aHr aHr_sums : Nat) (g_cells : Int32) (g_free : Int64) (g_freeCount : Int32) (g_columns : Nat → Int32) (g_lines : Nat → Int32) (g_weights : Nat → Int32) (r_madeBy : Int64) (r_thinned : Int32) (r_filled : Int32) (r_order : Nat → Int32) (r_places : Nat → Int32) (hr_holders : Int64) (hr_sums : Nat → Int32) (x1 : Int32) (x2 : Int32) (r : (Nat → Int32) × (Nat → Int32) × Int64 × (Nat → Int32)) (hP : va_P D vwCl [(aG, .inr (0, [.ref aP, .ref aG_columns, .ref aG_lines, .ref aG_distances, .ref aG_weights, .int g_cells, .long g_free, .int g_freeCount])), (aG_columns, .inl (cy.1, 64, .inl g_columns)), (aG_lines, .inl (cy.1, 64, .inl g_lines)), (aG_weights, .inl (cy.1, 64, .inl g_weights)), (aR, .inr (6, [.ref aG, .ref aHr, .ref aR_order, .ref aR_places, .long r_madeBy, .int r_thinned, .int r_filled])), (aR_order, .inl (cy.1, 64, .inl r_order)), (aR_places, .inl (cy.1, 64, .inl r_places)), (aHr, .inr (1, [.ref aG, .ref aHr_sums, .long hr_holders])), (aHr_sums, .inl (cy.1, 64, .inl hr_sums))] H0) (hD0 : va_D (fun _ => True) [(aG, .inr (0, [.ref aP, .ref aG_columns, .ref aG_lines, .ref aG_distances, .ref aG_weights, .int g_cells, .long g_free, .int g_freeCount])), (aG_columns, .inl (cy.1, 64, .inl g_columns)), (aG_lines, .inl (cy.1, 64, .inl g_lines)), (aG_weights, .inl (cy.1, 64, .inl g_weights)), (aR, .inr (6, [.ref aG, .ref aHr, .ref aR_order, .ref aR_places, .long r_madeBy, .int r_thinned, .int r_filled])), (aR_order, .inl (cy.1, 64, .inl r_order)), (aR_places, .inl (cy.1, 64, .inl r_places)), (aHr, .inr (1, [.ref aG, .ref aHr_sums, .long hr_holders])), (aHr_sums, .inl (cy.1, 64, .inl hr_sums))]) (hf : f_X6_give g_cells g_columns g_lines g_weights r_order r_places hr_holders hr_sums x1 x2 = some r) : Wr l yX6_give cX6_give 3 none ({ frames := 3, cells := 0, slots := 0, locals := 66 } : Room) ([.ref aR, .int x1, .int x2] : List Value) none D cy H0 [(aG, .inr (0, [.ref aP, .ref aG_columns, .ref aG_lines, .ref aG_distances, .ref aG_weights, .int g_cells, .long g_free, .int g_freeCount])), (aG_columns, .inl (cy.1, 64, .inl g_columns)), (aG_lines, .inl (cy.1, 64, .inl g_lines)), (aG_weights, .inl (cy.1, 64, .inl g_weights)), (aR, .inr (6, [.ref aG, .ref aHr, .ref aR_order, .ref aR_places, .long r_madeBy, .int r_thinned, .int r_filled])), (aR_order, .inl (cy.1, 64, .inl r_order)), (aR_places, .inl (cy.1, 64, .inl r_places)), (aHr, .inr (1, [.ref aG, .ref aHr_sums, .long hr_holders])), (aHr_sums, .inl (cy.1, 64, .inl hr_sums))] [(aG, .inr (0, [.ref aP, .ref aG_columns, .ref aG_lines, .ref aG_distances, .ref aG_weights, .int g_cells, .long g_free, .int g_freeCount])), (aG_columns, .inl (cy.1, 64, .inl g_columns)), (aG_lines, .inl (cy.1, 64, .inl g_lines)), (aG_weights, .inl (cy.1, 64, .inl g_weights)), (aR, .inr (6, [.ref aG, .ref aHr, .ref aR_order, .ref aR_places, .long r_madeBy, .int r_thinned, .int r_filled])), (aR_order, .inl (cy.1, 64, .inl (r.1))), (aR_places, .inl (cy.1, 64, .inl (r.2.1))), (aHr, .inr (1, [.ref aG, .ref aHr_sums, .long (r.2.2.1)])), (aHr_sums, .inl (cy.1, 64, .inl (r.2.2.2)))] := by
  refine wr_of (by decide +kernel) (Nat.le_of_ble_eq_true rfl) hD0 ?_
  intro p e s m below meth c ls A S hr hlocks hk hl hD hS hA
  obtain ⟨hx, hb, hml, hown, hts⟩ := id S
  have hl : lv_has ls 3 [(0, .ref aR), (1, .int x1), (2, .int x2)] := hl
  rw [f_X6_give] at hf
  refine lv_aload_n hx hb dX6_give_0 rfl (lv_at hl 0 rfl) ?_
  refine va_get (D := D) (ci := 6) (v := .ref aG) (C := RX6) (T := TX6) (N := 7) hx hb hts iX6 hown hk.1 hP 4 rfl rfl 0 (by decide) (hts _ tw_203) (fun _ h9 => h9) rfl dX6_give_1 ?_
  refine lv_iload_n hx hb dX6_give_4 rfl (lv_at hl 1 rfl) ?_
  obtain ⟨z5, hz5, hf⟩ := q_bind hf
  refine q_rdV (As := [.int x1]) (rest := []) (st2 := [.int z5]) S hk (c_X0_isCell l D cy H0 aP aG aG_columns aG_lines aG_distances aG_weights g_cells g_free g_freeCount x1 z5 (hP.sub [0] rfl) hz5) ok_X0_isCell tw_585 ⟨rfl, rfl, Nat.le_of_ble_eq_true rfl, Nat.le_of_ble_eq_true rfl⟩ (va_recv hk.1 hP (ci := 0) (q0 := 0) rfl rfl) rfl hl.1 rfl (Nat.le_of_ble_eq_true rfl) dX6_give_5 ⟨Nat.zero_le _, Nat.zero_le _⟩ rfl ?_
  refine lv_if_eq (tgt := 24) hx hb dX6_give_8 (by decide) (fun hc => ?_) (fun hc => ?_)
  · have hf := q_t hc hf
    have hf := Option.some.inj hf
    subst hf
    exact q_rvW hP hS hx hb hr hlocks dX6_give_24
  · have hf := q_f hc hf
    refine lv_iload_n hx hb dX6_give_11 rfl (lv_at hl 2 rfl) ?_
    refine lv_if_lt (tgt := 24) hx hb dX6_give_12 (by decide) (fun hc => ?_) (fun hc => ?_)
    · have hf := q_t hc hf
      have hf := Option.some.inj hf
      subst hf
      exact q_rvW hP hS hx hb hr hlocks dX6_give_24
    · have hf := q_f hc hf
      refine lv_iload_n hx hb dX6_give_15 rfl (lv_at hl 2 rfl) ?_
      refine lv_aload_n hx hb dX6_give_16 rfl (lv_at hl 0 rfl) ?_
      refine va_get (D := D) (ci := 6) (v := .ref aR_order) (C := RX6) (T := TX6) (N := 7) hx hb hts iX6 hown hk.1 hP 4 rfl rfl 2 (by decide) (hts _ tw_205) (fun _ h9 => h9) rfl dX6_give_17 ?_
      refine va_alen (v := (64 : Int32)) hx hb hk.1 hP 5 0 rfl rfl rfl dX6_give_20 ?_
      refine lv_icmp_lt (tgt := 25) hx hb dX6_give_21 (by decide) (fun hc => ?_) (fun hc => ?_)
      · have hf := q_t hc hf
        refine lv_aload_n hx hb dX6_give_25 rfl (lv_at hl 0 rfl) ?_
        refine va_get (D := D) (ci := 6) (v := .ref aR_order) (C := RX6) (T := TX6) (N := 7) hx hb hts iX6 hown hk.1 hP 4 rfl rfl 2 (by decide) (hts _ tw_205) (fun _ h9 => h9) rfl dX6_give_26 ?_
        refine lv_iload_n hx hb dX6_give_29 rfl (lv_at hl 2 rfl) ?_
        refine lv_iload_n hx hb dX6_give_30 rfl (lv_at hl 1 rfl) ?_
        obtain ⟨hi, hf⟩ := q_in hf
        refine va_iast hx hb hk.1 hP hD hS 5 0 rfl rfl hi dX6_give_31 (fun H locs hP hD hS => ?_)
        have hP : va_P D vwCl [(aG, .inr (0, [.ref aP, .ref aG_columns, .ref aG_lines, .ref aG_distances, .ref aG_weights, .int g_cells, .long g_free, .int g_freeCount])), (aG_columns, .inl (cy.1, 64, .inl g_columns)), (aG_lines, .inl (cy.1, 64, .inl g_lines)), (aG_weights, .inl (cy.1, 64, .inl g_weights)), (aR, .inr (6, [.ref aG, .ref aHr, .ref aR_order, .ref aR_places, .long r_madeBy, .int r_thinned, .int r_filled])), (aR_order, .inl (cy.1, 64, .inl (upd r_order x2.toNatClampNeg x1))), (aR_places, .inl (cy.1, 64, .inl r_places)), (aHr, .inr (1, [.ref aG, .ref aHr_sums, .long hr_holders])), (aHr_sums, .inl (cy.1, 64, .inl hr_sums))] H := hP
        have hD : va_D A [(aG, .inr (0, [.ref aP, .ref aG_columns, .ref aG_lines, .ref aG_distances, .ref aG_weights, .int g_cells, .long g_free, .int g_freeCount])), (aG_columns, .inl (cy.1, 64, .inl g_columns)), (aG_lines, .inl (cy.1, 64, .inl g_lines)), (aG_weights, .inl (cy.1, 64, .inl g_weights)), (aR, .inr (6, [.ref aG, .ref aHr, .ref aR_order, .ref aR_places, .long r_madeBy, .int r_thinned, .int r_filled])), (aR_order, .inl (cy.1, 64, .inl (upd r_order x2.toNatClampNeg x1))), (aR_places, .inl (cy.1, 64, .inl r_places)), (aHr, .inr (1, [.ref aG, .ref aHr_sums, .long hr_holders])), (aHr_sums, .inl (cy.1, 64, .inl hr_sums))] := hD
        refine lv_aload_n hx hb dX6_give_32 rfl (lv_at hl 0 rfl) ?_
        refine va_get (D := D) (ci := 6) (v := .ref aR_places) (C := RX6) (T := TX6) (N := 7) hx hb hts iX6 hown hk.1 hP 4 rfl rfl 3 (by decide) (hts _ tw_206) (fun _ h9 => h9) rfl dX6_give_33 ?_
        refine lv_iload_n hx hb dX6_give_36 rfl (lv_at hl 1 rfl) ?_
        refine lv_iload_n hx hb dX6_give_37 rfl (lv_at hl 2 rfl) ?_
        obtain ⟨hi, hf⟩ := q_in hf
        refine va_iast hx hb hk.1 hP hD hS 6 0 rfl rfl hi dX6_give_38 (fun H locs hP hD hS => ?_)
        have hP : va_P D vwCl [(aG, .inr (0, [.ref aP, .ref aG_columns, .ref aG_lines, .ref aG_distances, .ref aG_weights, .int g_cells, .long g_free, .int g_freeCount])), (aG_columns, .inl (cy.1, 64, .inl g_columns)), (aG_lines, .inl (cy.1, 64, .inl g_lines)), (aG_weights, .inl (cy.1, 64, .inl g_weights)), (aR, .inr (6, [.ref aG, .ref aHr, .ref aR_order, .ref aR_places, .long r_madeBy, .int r_thinned, .int r_filled])), (aR_order, .inl (cy.1, 64, .inl (upd r_order x2.toNatClampNeg x1))), (aR_places, .inl (cy.1, 64, .inl (upd r_places x1.toNatClampNeg x2))), (aHr, .inr (1, [.ref aG, .ref aHr_sums, .long hr_holders])), (aHr_sums, .inl (cy.1, 64, .inl hr_sums))] H := hP
        have hD : va_D A [(aG, .inr (0, [.ref aP, .ref aG_columns, .ref aG_lines, .ref aG_distances, .ref aG_weights, .int g_cells, .long g_free, .int g_freeCount])), (aG_columns, .inl (cy.1, 64, .inl g_columns)), (aG_lines, .inl (cy.1, 64, .inl g_lines)), (aG_weights, .inl (cy.1, 64, .inl g_weights)), (aR, .inr (6, [.ref aG, .ref aHr, .ref aR_order, .ref aR_places, .long r_madeBy, .int r_thinned, .int r_filled])), (aR_order, .inl (cy.1, 64, .inl (upd r_order x2.toNatClampNeg x1))), (aR_places, .inl (cy.1, 64, .inl (upd r_places x1.toNatClampNeg x2))), (aHr, .inr (1, [.ref aG, .ref aHr_sums, .long hr_holders])), (aHr_sums, .inl (cy.1, 64, .inl hr_sums))] := hD
        refine lv_aload_n hx hb dX6_give_39 rfl (lv_at hl 0 rfl) ?_
        refine va_get (D := D) (ci := 6) (v := .ref aHr) (C := RX6) (T := TX6) (N := 7) hx hb hts iX6 hown hk.1 hP 4 rfl rfl 1 (by decide) (hts _ tw_204) (fun _ h9 => h9) rfl dX6_give_40 ?_
        refine lv_iload_n hx hb dX6_give_43 rfl (lv_at hl 1 rfl) ?_
        obtain ⟨z44, hz44, hf⟩ := q_bind hf
        refine q_wrV (As := [.int x1]) (rest := []) (st2 := []) (ws' := [(aG, .inr (0, [.ref aP, .ref aG_columns, .ref aG_lines, .ref aG_distances, .ref aG_weights, .int g_cells, .long g_free, .int g_freeCount])), (aG_columns, .inl (cy.1, 64, .inl g_columns)), (aG_lines, .inl (cy.1, 64, .inl g_lines)), (aG_weights, .inl (cy.1, 64, .inl g_weights)), (aR, .inr (6, [.ref aG, .ref aHr, .ref aR_order, .ref aR_places, .long r_madeBy, .int r_thinned, .int r_filled])), (aR_order, .inl (cy.1, 64, .inl (upd r_order x2.toNatClampNeg x1))), (aR_places, .inl (cy.1, 64, .inl (upd r_places x1.toNatClampNeg x2))), (aHr, .inr (1, [.ref aG, .ref aHr_sums, .long (z44.1)])), (aHr_sums, .inl (cy.1, 64, .inl (z44.2)))]) S hk (c_X1_flip l D cy H aP aG aG_columns aG_lines aG_distances aG_weights aHr aHr_sums g_cells g_free g_freeCount g_columns g_lines g_weights hr_holders hr_sums x1 z44 (hP.sub [0, 1, 2, 3, 7, 8] rfl) (qD_sub hD [0, 1, 2, 3, 7, 8] (by decide) rfl) hz44) ok_X1_flip tw_586 ⟨rfl, rfl, Nat.le_of_ble_eq_true rfl, Nat.le_of_ble_eq_true rfl⟩ (va_recv hk.1 hP (ci := 1) (q0 := 7) rfl rfl) rfl hl.1 rfl (Nat.le_of_ble_eq_true rfl) dX6_give_44 ⟨Nat.zero_le _, Nat.zero_le _⟩ rfl hP hD hS hA [0, 1, 2, 3, 7, 8] rfl rfl rfl rfl (fun H locs hP hD hS => ?_)
        have hf := Option.some.inj hf
        subst hf
        exact q_rvW hP hS hx hb hr hlocks dX6_give_47
      · have hf := q_f hc hf
        have hf := Option.some.inj hf
        subst hf
        exact q_rvW hP hS hx hb hr hlocks dX6_give_24
def lp_X6_thin_18 (g_cells : Int32) (g_columns : Nat → Int32) (g_lines : Nat → Int32) (g_weights : Nat → Int32) : Nat → Int32 → Int32 → (Nat → Int32) → (Nat → Int32) → Int64 → (Nat → Int32) → Option (Int32 × (Nat → Int32) × (Nat → Int32) × Int64 × (Nat → Int32))
  | 0, _, _, _, _, _, _ => none
  | n + 1, x1, r_thinned, r_order, r_places, hr_holders, hr_sums => if x1 < 0 then (some (r_thinned, r_order, r_places, hr_holders, hr_sums)) else ((f_X1_most g_cells hr_sums hr_holders).bind (fun z34 => (f_X6_give g_cells g_columns g_lines g_weights r_order r_places hr_holders hr_sums z34 x1).bind (fun z38 => lp_X6_thin_18 g_cells g_columns g_lines g_weights n (x1 + (-1)) r_thinned (z38.1) (z38.2.1) (z38.2.2.1) (z38.2.2.2))))
theorem lp_X6_thin_18_s (g_cells : Int32) (g_columns : Nat → Int32) (g_lines : Nat → Int32) (g_weights : Nat → Int32) (n : Nat) (x1 : Int32) (r_thinned : Int32) (r_order : Nat → Int32) (r_places : Nat → Int32) (hr_holders : Int64) (hr_sums : Nat → Int32) : lp_X6_thin_18 g_cells g_columns g_lines g_weights (n + 1) x1 r_thinned r_order r_places hr_holders hr_sums = (if x1 < 0 then (some (r_thinned, r_order, r_places, hr_holders, hr_sums)) else ((f_X1_most g_cells hr_sums hr_holders).bind (fun z34 => (f_X6_give g_cells g_columns g_lines g_weights r_order r_places hr_holders hr_sums z34 x1).bind (fun z38 => lp_X6_thin_18 g_cells g_columns g_lines g_weights n (x1 + (-1)) r_thinned (z38.1) (z38.2.1) (z38.2.2.1) (z38.2.2.2))))) := rfl
theorem lp_X6_thin_18_z (g_cells : Int32) (g_columns : Nat → Int32) (g_lines : Nat → Int32) (g_weights : Nat → Int32) (x1 : Int32) (r_thinned : Int32) (r_order : Nat → Int32) (r_places : Nat → Int32) (hr_holders : Int64) (hr_sums : Nat → Int32) : lp_X6_thin_18 g_cells g_columns g_lines g_weights 0 x1 r_thinned r_order r_places hr_holders hr_sums = none := rfl
def f_X6_thin (g_cells : Int32) (g_columns : Nat → Int32) (g_lines : Nat → Int32) (g_weights : Nat → Int32) (r_thinned : Int32) (r_order : Nat → Int32) (r_places : Nat → Int32) (hr_holders : Int64) (hr_sums : Nat → Int32) : Option (Int32 × (Nat → Int32) × (Nat → Int32) × Int64 × (Nat → Int32)) := (f_X1_size hr_holders).bind (fun z5 => lp_X6_thin_18 g_cells g_columns g_lines g_weights FU (z5 - (1 : Int32)) z5 r_order r_places hr_holders hr_sums)
theorem ok_X6_thin : OkV yX6_thin cX6_thin 2 none 0 := ⟨⟨tw_574, tw_8, by decide +kernel, by decide +kernel, by decide +kernel⟩, tw_573, tp_16⟩
set_option maxHeartbeats 4000000 in
set_option maxRecDepth 100000 in
theorem c_X6_thin (l : Launch) (D : va_G) (cy : ClassId × ClassId × ClassId) (H0 : Heap) (aP aG aG_columns aG_lines aG_distances aG_weights aR aR_order aR_places aHr aHr_sums : Nat) (g_cells : Int32) (g_free : Int64) (g_freeCount : Int32) (g_columns : Nat → Int32) (g_lines : Nat → Int32) (g_weights : Nat → Int32) (r_madeBy : Int64) (r_thinned : Int32) (r_filled : Int32) (r_order : Nat → Int32) (r_places : Nat → Int32) (hr_holders : Int64) (hr_sums : Nat → Int32) (r : Int32 × (Nat → Int32) × (Nat → Int32) × Int64 × (Nat → Int32)) (hP : va_P D vwCl [(aG, .inr (0, [.ref aP, .ref aG_columns, .ref aG_lines, .ref aG_distances, .ref aG_weights, .int g_cells, .long g_free, .int g_freeCount])), (aG_columns, .inl (cy.1, 64, .inl g_columns)), (aG_lines, .inl (cy.1, 64, .inl g_lines)), (aG_weights, .inl (cy.1, 64, .inl g_weights)), (aR, .inr (6, [.ref aG, .ref aHr, .ref aR_order, .ref aR_places, .long r_madeBy, .int r_thinned, .int r_filled])), (aR_order, .inl (cy.1, 64, .inl r_order)), (aR_places, .inl (cy.1, 64, .inl r_places)), (aHr, .inr (1, [.ref aG, .ref aHr_sums, .long hr_holders])), (aHr_sums, .inl (cy.1, 64, .inl hr_sums))] H0) (hD0 : va_D (fun _ => True) [(aG, .inr (0, [.ref aP, .ref aG_columns, .ref aG_lines, .ref aG_distances, .ref aG_weights, .int g_cells, .long g_free, .int g_freeCount])), (aG_columns, .inl (cy.1, 64, .inl g_columns)), (aG_lines, .inl (cy.1, 64, .inl g_lines)), (aG_weights, .inl (cy.1, 64, .inl g_weights)), (aR, .inr (6, [.ref aG, .ref aHr, .ref aR_order, .ref aR_places, .long r_madeBy, .int r_thinned, .int r_filled])), (aR_order, .inl (cy.1, 64, .inl r_order)), (aR_places, .inl (cy.1, 64, .inl r_places)), (aHr, .inr (1, [.ref aG, .ref aHr_sums, .long hr_holders])), (aHr_sums, .inl (cy.1, 64, .inl hr_sums))]) (hf : f_X6_thin g_cells g_columns g_lines g_weights r_thinned r_order r_places hr_holders hr_sums = some r) : Wr l yX6_thin cX6_thin 2 none ({ frames := 4, cells := 0, slots := 0, locals := 88 } : Room) ([.ref aR] : List Value) none D cy H0 [(aG, .inr (0, [.ref aP, .ref aG_columns, .ref aG_lines, .ref aG_distances, .ref aG_weights, .int g_cells, .long g_free, .int g_freeCount])), (aG_columns, .inl (cy.1, 64, .inl g_columns)), (aG_lines, .inl (cy.1, 64, .inl g_lines)), (aG_weights, .inl (cy.1, 64, .inl g_weights)), (aR, .inr (6, [.ref aG, .ref aHr, .ref aR_order, .ref aR_places, .long r_madeBy, .int r_thinned, .int r_filled])), (aR_order, .inl (cy.1, 64, .inl r_order)), (aR_places, .inl (cy.1, 64, .inl r_places)), (aHr, .inr (1, [.ref aG, .ref aHr_sums, .long hr_holders])), (aHr_sums, .inl (cy.1, 64, .inl hr_sums))] [(aG, .inr (0, [.ref aP, .ref aG_columns, .ref aG_lines, .ref aG_distances, .ref aG_weights, .int g_cells, .long g_free, .int g_freeCount])), (aG_columns, .inl (cy.1, 64, .inl g_columns)), (aG_lines, .inl (cy.1, 64, .inl g_lines)), (aG_weights, .inl (cy.1, 64, .inl g_weights)), (aR, .inr (6, [.ref aG, .ref aHr, .ref aR_order, .ref aR_places, .long r_madeBy, .int (r.1), .int r_filled])), (aR_order, .inl (cy.1, 64, .inl (r.2.1))), (aR_places, .inl (cy.1, 64, .inl (r.2.2.1))), (aHr, .inr (1, [.ref aG, .ref aHr_sums, .long (r.2.2.2.1)])), (aHr_sums, .inl (cy.1, 64, .inl (r.2.2.2.2)))] := by
  refine wr_of (by decide +kernel) (Nat.le_of_ble_eq_true rfl) hD0 ?_
  intro p e s m below meth c ls A S hr hlocks hk hl hD hS hA
  obtain ⟨hx, hb, hml, hown, hts⟩ := id S
  have hl : lv_has ls 2 [(0, .ref aR)] := hl
  rw [f_X6_thin] at hf
  have J18 : ∀ (n18 : Nat) (x1 : Int32) (r_thinned : Int32) (r_order : Nat → Int32) (r_places : Nat → Int32) (hr_holders : Int64) (hr_sums : Nat → Int32) (H : Heap) (locs : List Loc) (ls : Array Slot), va_P D vwCl [(aG, .inr (0, [.ref aP, .ref aG_columns, .ref aG_lines, .ref aG_distances, .ref aG_weights, .int g_cells, .long g_free, .int g_freeCount])), (aG_columns, .inl (cy.1, 64, .inl g_columns)), (aG_lines, .inl (cy.1, 64, .inl g_lines)), (aG_weights, .inl (cy.1, 64, .inl g_weights)), (aR, .inr (6, [.ref aG, .ref aHr, .ref aR_order, .ref aR_places, .long r_madeBy, .int r_thinned, .int r_filled])), (aR_order, .inl (cy.1, 64, .inl r_order)), (aR_places, .inl (cy.1, 64, .inl r_places)), (aHr, .inr (1, [.ref aG, .ref aHr_sums, .long hr_holders])), (aHr_sums, .inl (cy.1, 64, .inl hr_sums))] H → va_D A [(aG, .inr (0, [.ref aP, .ref aG_columns, .ref aG_lines, .ref aG_distances, .ref aG_weights, .int g_cells, .long g_free, .int g_freeCount])), (aG_columns, .inl (cy.1, 64, .inl g_columns)), (aG_lines, .inl (cy.1, 64, .inl g_lines)), (aG_weights, .inl (cy.1, 64, .inl g_weights)), (aR, .inr (6, [.ref aG, .ref aHr, .ref aR_order, .ref aR_places, .long r_madeBy, .int r_thinned, .int r_filled])), (aR_order, .inl (cy.1, 64, .inl r_order)), (aR_places, .inl (cy.1, 64, .inl r_places)), (aHr, .inr (1, [.ref aG, .ref aHr_sums, .long hr_holders])), (aHr_sums, .inl (cy.1, 64, .inl hr_sums))] → va_S A H0 H locs → lv_has ls 2 [(0, .ref aR), (1, .int x1)] → lp_X6_thin_18 g_cells g_columns g_lines g_weights n18 x1 r_thinned r_order r_places hr_holders hr_sums = some r → W p l e ({ frames := 4, cells := 0, slots := 0, locals := 88 } : Room) s m ([.ref aR] : List Value).toArray below meth c H locs 0 0 (MQ below (QW none D [(aG, .inr (0, [.ref aP, .ref aG_columns, .ref aG_lines, .ref aG_distances, .ref aG_weights, .int g_cells, .long g_free, .int g_freeCount])), (aG_columns, .inl (cy.1, 64, .inl g_columns)), (aG_lines, .inl (cy.1, 64, .inl g_lines)), (aG_weights, .inl (cy.1, 64, .inl g_weights)), (aR, .inr (6, [.ref aG, .ref aHr, .ref aR_order, .ref aR_places, .long r_madeBy, .int (r.1), .int r_filled])), (aR_order, .inl (cy.1, 64, .inl (r.2.1))), (aR_places, .inl (cy.1, 64, .inl (r.2.2.1))), (aHr, .inr (1, [.ref aG, .ref aHr_sums, .long (r.2.2.2.1)])), (aHr_sums, .inl (cy.1, 64, .inl (r.2.2.2.2)))] H0 A) ([.ref aR] : List Value).toArray s 0 0 A) (F0 m 18 ls []) := by
    intro n18
    induction n18 with
    | zero =>
      intro x1 r_thinned r_order r_places hr_holders hr_sums H locs ls hP hD hS hl hf
      rw [lp_X6_thin_18_z] at hf
      cases hf
    | succ n18 ih18 =>
      intro x1 r_thinned r_order r_places hr_holders hr_sums H locs ls hP hD hS hl hf
      rw [lp_X6_thin_18_s] at hf
      refine lv_iload_n hx hb dX6_thin_18 rfl (lv_at hl 1 rfl) ?_
      refine lv_if_lt (tgt := 47) hx hb dX6_thin_19 (by decide) (fun hc => ?_) (fun hc => ?_)
      · have hf := q_t hc hf
        have hf := Option.some.inj hf
        subst hf
        exact q_rvW hP hS hx hb hr hlocks dX6_thin_47
      · have hf := q_f hc hf
        refine lv_aload_n hx hb dX6_thin_22 rfl (lv_at hl 0 rfl) ?_
        refine lv_aload_n hx hb dX6_thin_23 rfl (lv_at hl 0 rfl) ?_
        refine va_get (D := D) (ci := 6) (v := .ref aHr) (C := RX6) (T := TX6) (N := 7) hx hb hts iX6 hown hk.1 hP 4 rfl rfl 1 (by decide) (hts _ tw_204) (fun _ h9 => h9) rfl dX6_thin_24 ?_
        refine lv_aload_n hx hb dX6_thin_27 rfl (lv_at hl 0 rfl) ?_
        refine va_get (D := D) (ci := 6) (v := .ref aHr) (C := RX6) (T := TX6) (N := 7) hx hb hts iX6 hown hk.1 hP 4 rfl rfl 1 (by decide) (hts _ tw_204) (fun _ h9 => h9) rfl dX6_thin_28 ?_
        refine va_get (D := D) (ci := 1) (v := .long hr_holders) (C := RX1) (T := TX1) (N := 3) hx hb hts iX1 hown hk.1 hP 7 rfl rfl 2 (by decide) (hts _ tw_186) (fun _ h9 => h9) rfl dX6_thin_31 ?_
        obtain ⟨z34, hz34, hf⟩ := q_bind hf
        refine q_rdV (As := [.long hr_holders]) (rest := [.ref aR]) (st2 := [.int z34, .ref aR]) S hk (c_X1_most l D cy H aP aG aG_columns aG_lines aG_distances aG_weights aHr aHr_sums g_cells g_free g_freeCount hr_holders hr_sums hr_holders z34 (hP.sub [0, 7, 8] rfl) hz34) ok_X1_most tw_580 ⟨rfl, rfl, Nat.le_of_ble_eq_true rfl, Nat.le_of_ble_eq_true rfl⟩ (va_recv hk.1 hP (ci := 1) (q0 := 7) rfl rfl) rfl hl.1 rfl (Nat.le_of_ble_eq_true rfl) dX6_thin_34 ⟨Nat.zero_le _, Nat.zero_le _⟩ rfl ?_
        refine lv_iload_n hx hb dX6_thin_37 rfl (lv_at hl 1 rfl) ?_
        obtain ⟨z38, hz38, hf⟩ := q_bind hf
        refine q_wrV (As := [.int z34, .int x1]) (rest := []) (st2 := []) (ws' := [(aG, .inr (0, [.ref aP, .ref aG_columns, .ref aG_lines, .ref aG_distances, .ref aG_weights, .int g_cells, .long g_free, .int g_freeCount])), (aG_columns, .inl (cy.1, 64, .inl g_columns)), (aG_lines, .inl (cy.1, 64, .inl g_lines)), (aG_weights, .inl (cy.1, 64, .inl g_weights)), (aR, .inr (6, [.ref aG, .ref aHr, .ref aR_order, .ref aR_places, .long r_madeBy, .int r_thinned, .int r_filled])), (aR_order, .inl (cy.1, 64, .inl (z38.1))), (aR_places, .inl (cy.1, 64, .inl (z38.2.1))), (aHr, .inr (1, [.ref aG, .ref aHr_sums, .long (z38.2.2.1)])), (aHr_sums, .inl (cy.1, 64, .inl (z38.2.2.2)))]) S hk (c_X6_give l D cy H aP aG aG_columns aG_lines aG_distances aG_weights aR aR_order aR_places aHr aHr_sums g_cells g_free g_freeCount g_columns g_lines g_weights r_madeBy r_thinned r_filled r_order r_places hr_holders hr_sums z34 x1 z38 (hP.sub [0, 1, 2, 3, 4, 5, 6, 7, 8] rfl) (qD_sub hD [0, 1, 2, 3, 4, 5, 6, 7, 8] (by decide) rfl) hz38) ok_X6_give tw_581 ⟨rfl, rfl, Nat.le_of_ble_eq_true rfl, Nat.le_of_ble_eq_true rfl⟩ (va_recv hk.1 hP (ci := 6) (q0 := 4) rfl rfl) rfl hl.1 rfl (Nat.le_of_ble_eq_true rfl) dX6_thin_38 ⟨Nat.zero_le _, Nat.zero_le _⟩ rfl hP hD hS hA [0, 1, 2, 3, 4, 5, 6, 7, 8] rfl rfl rfl rfl (fun H locs hP hD hS => ?_)
        refine lv_iinc (v := (x1 + (-1))) (lv' := [(1, .int (x1 + (-1))), (0, .ref aR)]) hx hb dX6_thin_41 hl (k := 1) rfl rfl (by decide) rfl (fun ls hl => ?_)
        refine lv_goto (tgt := 18) hx hb dX6_thin_44 (by decide) ?_
        exact ih18 (x1 + (-1)) r_thinned (z38.1) (z38.2.1) (z38.2.2.1) (z38.2.2.2) H locs ls hP hD hS (lv_sub hl [1, 0] rfl) hf
  refine lv_aload_n hx hb dX6_thin_0 rfl (lv_at hl 0 rfl) ?_
  refine lv_aload_n hx hb dX6_thin_1 rfl (lv_at hl 0 rfl) ?_
  refine va_get (D := D) (ci := 6) (v := .ref aHr) (C := RX6) (T := TX6) (N := 7) hx hb hts iX6 hown hk.1 hP 4 rfl rfl 1 (by decide) (hts _ tw_204) (fun _ h9 => h9) rfl dX6_thin_2 ?_
  obtain ⟨z5, hz5, hf⟩ := q_bind hf
  refine q_rdV (As := []) (rest := [.ref aR]) (st2 := [.int z5, .ref aR]) S hk (c_X1_size l D cy H0 aG aHr aHr_sums hr_holders z5 (hP.sub [7] rfl) hz5) ok_X1_size tw_575 ⟨rfl, rfl, Nat.le_of_ble_eq_true rfl, Nat.le_of_ble_eq_true rfl⟩ (va_recv hk.1 hP (ci := 1) (q0 := 7) rfl rfl) rfl hl.1 rfl (Nat.le_of_ble_eq_true rfl) dX6_thin_5 ⟨Nat.zero_le _, Nat.zero_le _⟩ rfl ?_
  refine va_put (D := D) (ci := 6) (v := .int z5) (ty := .int) (C := RX6) (T := TX6) (N := 7) hx hb hts iX6 tyX6 tyX6_ok nmX6 hown hk.1 hP hD hS 4 rfl rfl 5 (by decide) (hts _ tw_208) (fun _ h9 => h9) rfl (by decide +kernel) rfl rfl (Nat.le_of_ble_eq_true rfl) dX6_thin_8 (fun H locs hP hD hS => ?_)
  have hP : va_P D vwCl [(aG, .inr (0, [.ref aP, .ref aG_columns, .ref aG_lines, .ref aG_distances, .ref aG_weights, .int g_cells, .long g_free, .int g_freeCount])), (aG_columns, .inl (cy.1, 64, .inl g_columns)), (aG_lines, .inl (cy.1, 64, .inl g_lines)), (aG_weights, .inl (cy.1, 64, .inl g_weights)), (aR, .inr (6, [.ref aG, .ref aHr, .ref aR_order, .ref aR_places, .long r_madeBy, .int z5, .int r_filled])), (aR_order, .inl (cy.1, 64, .inl r_order)), (aR_places, .inl (cy.1, 64, .inl r_places)), (aHr, .inr (1, [.ref aG, .ref aHr_sums, .long hr_holders])), (aHr_sums, .inl (cy.1, 64, .inl hr_sums))] H := hP
  have hD : va_D A [(aG, .inr (0, [.ref aP, .ref aG_columns, .ref aG_lines, .ref aG_distances, .ref aG_weights, .int g_cells, .long g_free, .int g_freeCount])), (aG_columns, .inl (cy.1, 64, .inl g_columns)), (aG_lines, .inl (cy.1, 64, .inl g_lines)), (aG_weights, .inl (cy.1, 64, .inl g_weights)), (aR, .inr (6, [.ref aG, .ref aHr, .ref aR_order, .ref aR_places, .long r_madeBy, .int z5, .int r_filled])), (aR_order, .inl (cy.1, 64, .inl r_order)), (aR_places, .inl (cy.1, 64, .inl r_places)), (aHr, .inr (1, [.ref aG, .ref aHr_sums, .long hr_holders])), (aHr_sums, .inl (cy.1, 64, .inl hr_sums))] := hD
  refine lv_aload_n hx hb dX6_thin_11 rfl (lv_at hl 0 rfl) ?_
  refine va_get (D := D) (ci := 6) (v := .int z5) (C := RX6) (T := TX6) (N := 7) hx hb hts iX6 hown hk.1 hP 4 rfl rfl 5 (by decide) (hts _ tw_208) (fun _ h9 => h9) rfl dX6_thin_12 ?_
  refine lv_iconst (v := (1 : Int32)) hx hb dX6_thin_15 (by decide) ?_
  refine lv_isub hx hb dX6_thin_16 ?_
  refine lv_istore_n (lv' := [(1, .int (z5 - (1 : Int32))), (0, .ref aR)]) hx hb dX6_thin_17 rfl hl (by decide) rfl (fun ls hl => ?_)
  exact J18 FU (z5 - (1 : Int32)) z5 r_order r_places hr_holders hr_sums H locs ls hP hD hS (lv_sub hl [1, 0] rfl) hf
def lp_X6_fill_27 (g_cells : Int32) (g_free : Int64) (g_columns : Nat → Int32) (g_lines : Nat → Int32) (g_weights : Nat → Int32) : Nat → Int32 → Int32 → (Nat → Int32) → (Nat → Int32) → Int64 → (Nat → Int32) → Option (Int32 × (Nat → Int32) × (Nat → Int32) × Int64 × (Nat → Int32))
  | 0, _, _, _, _, _, _ => none
  | n + 1, x1, r_filled, r_order, r_places, hr_holders, hr_sums => if r_filled ≤ x1 then (some (r_filled, r_order, r_places, hr_holders, hr_sums)) else ((f_X1_least g_cells hr_sums (g_free &&& (hr_holders ^^^ (-1 : Int64)))).bind (fun z59 => (f_X6_give g_cells g_columns g_lines g_weights r_order r_places hr_holders hr_sums z59 x1).bind (fun z63 => lp_X6_fill_27 g_cells g_free g_columns g_lines g_weights n (x1 + 1) r_filled (z63.1) (z63.2.1) (z63.2.2.1) (z63.2.2.2))))
theorem lp_X6_fill_27_s (g_cells : Int32) (g_free : Int64) (g_columns : Nat → Int32) (g_lines : Nat → Int32) (g_weights : Nat → Int32) (n : Nat) (x1 : Int32) (r_filled : Int32) (r_order : Nat → Int32) (r_places : Nat → Int32) (hr_holders : Int64) (hr_sums : Nat → Int32) : lp_X6_fill_27 g_cells g_free g_columns g_lines g_weights (n + 1) x1 r_filled r_order r_places hr_holders hr_sums = (if r_filled ≤ x1 then (some (r_filled, r_order, r_places, hr_holders, hr_sums)) else ((f_X1_least g_cells hr_sums (g_free &&& (hr_holders ^^^ (-1 : Int64)))).bind (fun z59 => (f_X6_give g_cells g_columns g_lines g_weights r_order r_places hr_holders hr_sums z59 x1).bind (fun z63 => lp_X6_fill_27 g_cells g_free g_columns g_lines g_weights n (x1 + 1) r_filled (z63.1) (z63.2.1) (z63.2.2.1) (z63.2.2.2))))) := rfl
theorem lp_X6_fill_27_z (g_cells : Int32) (g_free : Int64) (g_columns : Nat → Int32) (g_lines : Nat → Int32) (g_weights : Nat → Int32) (x1 : Int32) (r_filled : Int32) (r_order : Nat → Int32) (r_places : Nat → Int32) (hr_holders : Int64) (hr_sums : Nat → Int32) : lp_X6_fill_27 g_cells g_free g_columns g_lines g_weights 0 x1 r_filled r_order r_places hr_holders hr_sums = none := rfl
def f_X6_fill (g_cells : Int32) (g_free : Int64) (g_freeCount : Int32) (g_columns : Nat → Int32) (g_lines : Nat → Int32) (g_weights : Nat → Int32) (r_thinned : Int32) (r_filled : Int32) (r_order : Nat → Int32) (r_places : Nat → Int32) (hr_holders : Int64) (hr_sums : Nat → Int32) : Option (Int32 × (Nat → Int32) × (Nat → Int32) × Int64 × (Nat → Int32)) := lp_X6_fill_27 g_cells g_free g_columns g_lines g_weights FU r_thinned (if r_thinned < ((g_freeCount + (1 : Int32)) / (2 : Int32)) then ((g_freeCount + (1 : Int32)) / (2 : Int32)) else r_thinned) r_order r_places hr_holders hr_sums
theorem ok_X6_fill : OkV yX6_fill cX6_fill 2 none 0 := ⟨⟨tw_590, tw_8, by decide +kernel, by decide +kernel, by decide +kernel⟩, tw_589, tp_18⟩
set_option maxHeartbeats 4000000 in
set_option maxRecDepth 100000 in
theorem c_X6_fill (l : Launch) (D : va_G) (cy : ClassId × ClassId × ClassId) (H0 : Heap) (aP aG aG_columns aG_lines aG_distances aG_weights aR aR_order aR_places aHr aHr_sums : Nat) (g_cells : Int32) (g_free : Int64) (g_freeCount : Int32) (g_columns : Nat → Int32) (g_lines : Nat → Int32) (g_weights : Nat → Int32) (r_madeBy : Int64) (r_thinned : Int32) (r_filled : Int32) (r_order : Nat → Int32) (r_places : Nat → Int32) (hr_holders : Int64) (hr_sums : Nat → Int32) (r : Int32 × (Nat → Int32) × (Nat → Int32) × Int64 × (Nat → Int32)) (hP : va_P D vwCl [(aG, .inr (0, [.ref aP, .ref aG_columns, .ref aG_lines, .ref aG_distances, .ref aG_weights, .int g_cells, .long g_free, .int g_freeCount])), (aG_columns, .inl (cy.1, 64, .inl g_columns)), (aG_lines, .inl (cy.1, 64, .inl g_lines)), (aG_weights, .inl (cy.1, 64, .inl g_weights)), (aR, .inr (6, [.ref aG, .ref aHr, .ref aR_order, .ref aR_places, .long r_madeBy, .int r_thinned, .int r_filled])), (aR_order, .inl (cy.1, 64, .inl r_order)), (aR_places, .inl (cy.1, 64, .inl r_places)), (aHr, .inr (1, [.ref aG, .ref aHr_sums, .long hr_holders])), (aHr_sums, .inl (cy.1, 64, .inl hr_sums))] H0) (hD0 : va_D (fun _ => True) [(aG, .inr (0, [.ref aP, .ref aG_columns, .ref aG_lines, .ref aG_distances, .ref aG_weights, .int g_cells, .long g_free, .int g_freeCount])), (aG_columns, .inl (cy.1, 64, .inl g_columns)), (aG_lines, .inl (cy.1, 64, .inl g_lines)), (aG_weights, .inl (cy.1, 64, .inl g_weights)), (aR, .inr (6, [.ref aG, .ref aHr, .ref aR_order, .ref aR_places, .long r_madeBy, .int r_thinned, .int r_filled])), (aR_order, .inl (cy.1, 64, .inl r_order)), (aR_places, .inl (cy.1, 64, .inl r_places)), (aHr, .inr (1, [.ref aG, .ref aHr_sums, .long hr_holders])), (aHr_sums, .inl (cy.1, 64, .inl hr_sums))]) (hf : f_X6_fill g_cells g_free g_freeCount g_columns g_lines g_weights r_thinned r_filled r_order r_places hr_holders hr_sums = some r) : Wr l yX6_fill cX6_fill 2 none ({ frames := 4, cells := 0, slots := 0, locals := 88 } : Room) ([.ref aR] : List Value) none D cy H0 [(aG, .inr (0, [.ref aP, .ref aG_columns, .ref aG_lines, .ref aG_distances, .ref aG_weights, .int g_cells, .long g_free, .int g_freeCount])), (aG_columns, .inl (cy.1, 64, .inl g_columns)), (aG_lines, .inl (cy.1, 64, .inl g_lines)), (aG_weights, .inl (cy.1, 64, .inl g_weights)), (aR, .inr (6, [.ref aG, .ref aHr, .ref aR_order, .ref aR_places, .long r_madeBy, .int r_thinned, .int r_filled])), (aR_order, .inl (cy.1, 64, .inl r_order)), (aR_places, .inl (cy.1, 64, .inl r_places)), (aHr, .inr (1, [.ref aG, .ref aHr_sums, .long hr_holders])), (aHr_sums, .inl (cy.1, 64, .inl hr_sums))] [(aG, .inr (0, [.ref aP, .ref aG_columns, .ref aG_lines, .ref aG_distances, .ref aG_weights, .int g_cells, .long g_free, .int g_freeCount])), (aG_columns, .inl (cy.1, 64, .inl g_columns)), (aG_lines, .inl (cy.1, 64, .inl g_lines)), (aG_weights, .inl (cy.1, 64, .inl g_weights)), (aR, .inr (6, [.ref aG, .ref aHr, .ref aR_order, .ref aR_places, .long r_madeBy, .int r_thinned, .int (r.1)])), (aR_order, .inl (cy.1, 64, .inl (r.2.1))), (aR_places, .inl (cy.1, 64, .inl (r.2.2.1))), (aHr, .inr (1, [.ref aG, .ref aHr_sums, .long (r.2.2.2.1)])), (aHr_sums, .inl (cy.1, 64, .inl (r.2.2.2.2)))] := by
  refine wr_of (by decide +kernel) (Nat.le_of_ble_eq_true rfl) hD0 ?_
  intro p e s m below meth c ls A S hr hlocks hk hl hD hS hA
  obtain ⟨hx, hb, hml, hown, hts⟩ := id S
  have hl : lv_has ls 2 [(0, .ref aR)] := hl
  rw [f_X6_fill] at hf
  have J27 : ∀ (n27 : Nat) (x1 : Int32) (r_filled : Int32) (r_order : Nat → Int32) (r_places : Nat → Int32) (hr_holders : Int64) (hr_sums : Nat → Int32) (H : Heap) (locs : List Loc) (ls : Array Slot), va_P D vwCl [(aG, .inr (0, [.ref aP, .ref aG_columns, .ref aG_lines, .ref aG_distances, .ref aG_weights, .int g_cells, .long g_free, .int g_freeCount])), (aG_columns, .inl (cy.1, 64, .inl g_columns)), (aG_lines, .inl (cy.1, 64, .inl g_lines)), (aG_weights, .inl (cy.1, 64, .inl g_weights)), (aR, .inr (6, [.ref aG, .ref aHr, .ref aR_order, .ref aR_places, .long r_madeBy, .int r_thinned, .int r_filled])), (aR_order, .inl (cy.1, 64, .inl r_order)), (aR_places, .inl (cy.1, 64, .inl r_places)), (aHr, .inr (1, [.ref aG, .ref aHr_sums, .long hr_holders])), (aHr_sums, .inl (cy.1, 64, .inl hr_sums))] H → va_D A [(aG, .inr (0, [.ref aP, .ref aG_columns, .ref aG_lines, .ref aG_distances, .ref aG_weights, .int g_cells, .long g_free, .int g_freeCount])), (aG_columns, .inl (cy.1, 64, .inl g_columns)), (aG_lines, .inl (cy.1, 64, .inl g_lines)), (aG_weights, .inl (cy.1, 64, .inl g_weights)), (aR, .inr (6, [.ref aG, .ref aHr, .ref aR_order, .ref aR_places, .long r_madeBy, .int r_thinned, .int r_filled])), (aR_order, .inl (cy.1, 64, .inl r_order)), (aR_places, .inl (cy.1, 64, .inl r_places)), (aHr, .inr (1, [.ref aG, .ref aHr_sums, .long hr_holders])), (aHr_sums, .inl (cy.1, 64, .inl hr_sums))] → va_S A H0 H locs → lv_has ls 2 [(0, .ref aR), (1, .int x1)] → lp_X6_fill_27 g_cells g_free g_columns g_lines g_weights n27 x1 r_filled r_order r_places hr_holders hr_sums = some r → W p l e ({ frames := 4, cells := 0, slots := 0, locals := 88 } : Room) s m ([.ref aR] : List Value).toArray below meth c H locs 0 0 (MQ below (QW none D [(aG, .inr (0, [.ref aP, .ref aG_columns, .ref aG_lines, .ref aG_distances, .ref aG_weights, .int g_cells, .long g_free, .int g_freeCount])), (aG_columns, .inl (cy.1, 64, .inl g_columns)), (aG_lines, .inl (cy.1, 64, .inl g_lines)), (aG_weights, .inl (cy.1, 64, .inl g_weights)), (aR, .inr (6, [.ref aG, .ref aHr, .ref aR_order, .ref aR_places, .long r_madeBy, .int r_thinned, .int (r.1)])), (aR_order, .inl (cy.1, 64, .inl (r.2.1))), (aR_places, .inl (cy.1, 64, .inl (r.2.2.1))), (aHr, .inr (1, [.ref aG, .ref aHr_sums, .long (r.2.2.2.1)])), (aHr_sums, .inl (cy.1, 64, .inl (r.2.2.2.2)))] H0 A) ([.ref aR] : List Value).toArray s 0 0 A) (F0 m 27 ls []) := by
    intro n27
    induction n27 with
    | zero =>
      intro x1 r_filled r_order r_places hr_holders hr_sums H locs ls hP hD hS hl hf
      rw [lp_X6_fill_27_z] at hf
      cases hf
    | succ n27 ih27 =>
      intro x1 r_filled r_order r_places hr_holders hr_sums H locs ls hP hD hS hl hf
      rw [lp_X6_fill_27_s] at hf
      refine lv_iload_n hx hb dX6_fill_27 rfl (lv_at hl 1 rfl) ?_
      refine lv_aload_n hx hb dX6_fill_28 rfl (lv_at hl 0 rfl) ?_
      refine va_get (D := D) (ci := 6) (v := .int r_filled) (C := RX6) (T := TX6) (N := 7) hx hb hts iX6 hown hk.1 hP 4 rfl rfl 6 (by decide) (hts _ tw_209) (fun _ h9 => h9) rfl dX6_fill_29 ?_
      refine lv_icmp_ge (tgt := 72) hx hb dX6_fill_32 (by decide) (fun hc => ?_) (fun hc => ?_)
      · have hf := q_t hc hf
        have hf := Option.some.inj hf
        subst hf
        exact q_rvW hP hS hx hb hr hlocks dX6_fill_72
      · have hf := q_f hc hf
        refine lv_aload_n hx hb dX6_fill_35 rfl (lv_at hl 0 rfl) ?_
        refine lv_aload_n hx hb dX6_fill_36 rfl (lv_at hl 0 rfl) ?_
        refine va_get (D := D) (ci := 6) (v := .ref aHr) (C := RX6) (T := TX6) (N := 7) hx hb hts iX6 hown hk.1 hP 4 rfl rfl 1 (by decide) (hts _ tw_204) (fun _ h9 => h9) rfl dX6_fill_37 ?_
        refine lv_aload_n hx hb dX6_fill_40 rfl (lv_at hl 0 rfl) ?_
        refine va_get (D := D) (ci := 6) (v := .ref aG) (C := RX6) (T := TX6) (N := 7) hx hb hts iX6 hown hk.1 hP 4 rfl rfl 0 (by decide) (hts _ tw_203) (fun _ h9 => h9) rfl dX6_fill_41 ?_
        refine va_get (D := D) (ci := 0) (v := .long g_free) (C := RX0) (T := TX0) (N := 8) hx hb hts iX0 hown hk.1 hP 0 rfl rfl 6 (by decide) (hts _ tw_152) (fun _ h9 => h9) rfl dX6_fill_44 ?_
        refine lv_aload_n hx hb dX6_fill_47 rfl (lv_at hl 0 rfl) ?_
        refine va_get (D := D) (ci := 6) (v := .ref aHr) (C := RX6) (T := TX6) (N := 7) hx hb hts iX6 hown hk.1 hP 4 rfl rfl 1 (by decide) (hts _ tw_204) (fun _ h9 => h9) rfl dX6_fill_48 ?_
        refine va_get (D := D) (ci := 1) (v := .long hr_holders) (C := RX1) (T := TX1) (N := 3) hx hb hts iX1 hown hk.1 hP 7 rfl rfl 2 (by decide) (hts _ tw_186) (fun _ h9 => h9) rfl dX6_fill_51 ?_
        refine lv_ldc2 hx hb hown (hts _ tw_592) dX6_fill_54 ?_
        refine lv_lxor hx hb dX6_fill_57 ?_
        refine lv_land hx hb dX6_fill_58 ?_
        obtain ⟨z59, hz59, hf⟩ := q_bind hf
        refine q_rdV (As := [.long (g_free &&& (hr_holders ^^^ (-1 : Int64)))]) (rest := [.ref aR]) (st2 := [.int z59, .ref aR]) S hk (c_X1_least l D cy H aP aG aG_columns aG_lines aG_distances aG_weights aHr aHr_sums g_cells g_free g_freeCount hr_holders hr_sums (g_free &&& (hr_holders ^^^ (-1 : Int64))) z59 (hP.sub [0, 7, 8] rfl) hz59) ok_X1_least tw_593 ⟨rfl, rfl, Nat.le_of_ble_eq_true rfl, Nat.le_of_ble_eq_true rfl⟩ (va_recv hk.1 hP (ci := 1) (q0 := 7) rfl rfl) rfl hl.1 rfl (Nat.le_of_ble_eq_true rfl) dX6_fill_59 ⟨Nat.zero_le _, Nat.zero_le _⟩ rfl ?_
        refine lv_iload_n hx hb dX6_fill_62 rfl (lv_at hl 1 rfl) ?_
        obtain ⟨z63, hz63, hf⟩ := q_bind hf
        refine q_wrV (As := [.int z59, .int x1]) (rest := []) (st2 := []) (ws' := [(aG, .inr (0, [.ref aP, .ref aG_columns, .ref aG_lines, .ref aG_distances, .ref aG_weights, .int g_cells, .long g_free, .int g_freeCount])), (aG_columns, .inl (cy.1, 64, .inl g_columns)), (aG_lines, .inl (cy.1, 64, .inl g_lines)), (aG_weights, .inl (cy.1, 64, .inl g_weights)), (aR, .inr (6, [.ref aG, .ref aHr, .ref aR_order, .ref aR_places, .long r_madeBy, .int r_thinned, .int r_filled])), (aR_order, .inl (cy.1, 64, .inl (z63.1))), (aR_places, .inl (cy.1, 64, .inl (z63.2.1))), (aHr, .inr (1, [.ref aG, .ref aHr_sums, .long (z63.2.2.1)])), (aHr_sums, .inl (cy.1, 64, .inl (z63.2.2.2)))]) S hk (c_X6_give l D cy H aP aG aG_columns aG_lines aG_distances aG_weights aR aR_order aR_places aHr aHr_sums g_cells g_free g_freeCount g_columns g_lines g_weights r_madeBy r_thinned r_filled r_order r_places hr_holders hr_sums z59 x1 z63 (hP.sub [0, 1, 2, 3, 4, 5, 6, 7, 8] rfl) (qD_sub hD [0, 1, 2, 3, 4, 5, 6, 7, 8] (by decide) rfl) hz63) ok_X6_give tw_581 ⟨rfl, rfl, Nat.le_of_ble_eq_true rfl, Nat.le_of_ble_eq_true rfl⟩ (va_recv hk.1 hP (ci := 6) (q0 := 4) rfl rfl) rfl hl.1 rfl (Nat.le_of_ble_eq_true rfl) dX6_fill_63 ⟨Nat.zero_le _, Nat.zero_le _⟩ rfl hP hD hS hA [0, 1, 2, 3, 4, 5, 6, 7, 8] rfl rfl rfl rfl (fun H locs hP hD hS => ?_)
        refine lv_iinc (v := (x1 + 1)) (lv' := [(1, .int (x1 + 1)), (0, .ref aR)]) hx hb dX6_fill_66 hl (k := 1) rfl rfl (by decide) rfl (fun ls hl => ?_)
        refine lv_goto (tgt := 27) hx hb dX6_fill_69 (by decide) ?_
        exact ih27 (x1 + 1) r_filled (z63.1) (z63.2.1) (z63.2.2.1) (z63.2.2.2) H locs ls hP hD hS (lv_sub hl [1, 0] rfl) hf
  refine lv_aload_n hx hb dX6_fill_0 rfl (lv_at hl 0 rfl) ?_
  refine lv_aload_n hx hb dX6_fill_1 rfl (lv_at hl 0 rfl) ?_
  refine va_get (D := D) (ci := 6) (v := .int r_thinned) (C := RX6) (T := TX6) (N := 7) hx hb hts iX6 hown hk.1 hP 4 rfl rfl 5 (by decide) (hts _ tw_208) (fun _ h9 => h9) rfl dX6_fill_2 ?_
  refine lv_aload_n hx hb dX6_fill_5 rfl (lv_at hl 0 rfl) ?_
  refine va_get (D := D) (ci := 6) (v := .ref aG) (C := RX6) (T := TX6) (N := 7) hx hb hts iX6 hown hk.1 hP 4 rfl rfl 0 (by decide) (hts _ tw_203) (fun _ h9 => h9) rfl dX6_fill_6 ?_
  refine va_get (D := D) (ci := 0) (v := .int g_freeCount) (C := RX0) (T := TX0) (N := 8) hx hb hts iX0 hown hk.1 hP 0 rfl rfl 7 (by decide) (hts _ tw_158) (fun _ h9 => h9) rfl dX6_fill_9 ?_
  refine lv_iconst (v := (1 : Int32)) hx hb dX6_fill_12 (by decide) ?_
  refine lv_iadd hx hb dX6_fill_13 ?_
  refine lv_iconst (v := (2 : Int32)) hx hb dX6_fill_14 (by decide) ?_
  refine lv_idiv hx hb dX6_fill_15 (by decide) ?_
  refine va_mmax hx hb (hml.trans hl.1.symm) hown (hts _ tw_591) (hts _ tw_132) (hts _ tw_5) (hts _ tw_133) (Nat.le_of_ble_eq_true rfl) (Nat.le_of_ble_eq_true rfl) (Nat.zero_le _) (Nat.zero_le _) dX6_fill_16 ?_
  refine va_put (D := D) (ci := 6) (v := .int (if r_thinned < ((g_freeCount + (1 : Int32)) / (2 : Int32)) then ((g_freeCount + (1 : Int32)) / (2 : Int32)) else r_thinned)) (ty := .int) (C := RX6) (T := TX6) (N := 7) hx hb hts iX6 tyX6 tyX6_ok nmX6 hown hk.1 hP hD hS 4 rfl rfl 6 (by decide) (hts _ tw_209) (fun _ h9 => h9) rfl (by decide +kernel) rfl rfl (Nat.le_of_ble_eq_true rfl) dX6_fill_19 (fun H locs hP hD hS => ?_)
  have hP : va_P D vwCl [(aG, .inr (0, [.ref aP, .ref aG_columns, .ref aG_lines, .ref aG_distances, .ref aG_weights, .int g_cells, .long g_free, .int g_freeCount])), (aG_columns, .inl (cy.1, 64, .inl g_columns)), (aG_lines, .inl (cy.1, 64, .inl g_lines)), (aG_weights, .inl (cy.1, 64, .inl g_weights)), (aR, .inr (6, [.ref aG, .ref aHr, .ref aR_order, .ref aR_places, .long r_madeBy, .int r_thinned, .int (if r_thinned < ((g_freeCount + (1 : Int32)) / (2 : Int32)) then ((g_freeCount + (1 : Int32)) / (2 : Int32)) else r_thinned)])), (aR_order, .inl (cy.1, 64, .inl r_order)), (aR_places, .inl (cy.1, 64, .inl r_places)), (aHr, .inr (1, [.ref aG, .ref aHr_sums, .long hr_holders])), (aHr_sums, .inl (cy.1, 64, .inl hr_sums))] H := hP
  have hD : va_D A [(aG, .inr (0, [.ref aP, .ref aG_columns, .ref aG_lines, .ref aG_distances, .ref aG_weights, .int g_cells, .long g_free, .int g_freeCount])), (aG_columns, .inl (cy.1, 64, .inl g_columns)), (aG_lines, .inl (cy.1, 64, .inl g_lines)), (aG_weights, .inl (cy.1, 64, .inl g_weights)), (aR, .inr (6, [.ref aG, .ref aHr, .ref aR_order, .ref aR_places, .long r_madeBy, .int r_thinned, .int (if r_thinned < ((g_freeCount + (1 : Int32)) / (2 : Int32)) then ((g_freeCount + (1 : Int32)) / (2 : Int32)) else r_thinned)])), (aR_order, .inl (cy.1, 64, .inl r_order)), (aR_places, .inl (cy.1, 64, .inl r_places)), (aHr, .inr (1, [.ref aG, .ref aHr_sums, .long hr_holders])), (aHr_sums, .inl (cy.1, 64, .inl hr_sums))] := hD
  refine lv_aload_n hx hb dX6_fill_22 rfl (lv_at hl 0 rfl) ?_
  refine va_get (D := D) (ci := 6) (v := .int r_thinned) (C := RX6) (T := TX6) (N := 7) hx hb hts iX6 hown hk.1 hP 4 rfl rfl 5 (by decide) (hts _ tw_208) (fun _ h9 => h9) rfl dX6_fill_23 ?_
  refine lv_istore_n (lv' := [(1, .int r_thinned), (0, .ref aR)]) hx hb dX6_fill_26 rfl hl (by decide) rfl (fun ls hl => ?_)
  exact J27 FU r_thinned (if r_thinned < ((g_freeCount + (1 : Int32)) / (2 : Int32)) then ((g_freeCount + (1 : Int32)) / (2 : Int32)) else r_thinned) r_order r_places hr_holders hr_sums H locs ls hP hD hS (lv_sub hl [1, 0] rfl) hf
def lp_X6_turn_5 (g_cells : Int32) (g_freeCount : Int32) (g_columns : Nat → Int32) (g_lines : Nat → Int32) (g_weights : Nat → Int32) : Nat → Int32 → (Nat → Int32) → (Nat → Int32) → Int64 → (Nat → Int32) → Option ((Nat → Int32) × (Nat → Int32) × Int64 × (Nat → Int32))
  | 0, _, _, _, _, _ => none
  | n + 1, x1, r_order, r_places, hr_holders, hr_sums => if g_freeCount ≤ x1 then (some (r_order, r_places, hr_holders, hr_sums)) else ((f_X1_most g_cells hr_sums hr_holders).bind (fun z28 => (f_X6_give g_cells g_columns g_lines g_weights r_order r_places hr_holders hr_sums z28 x1).bind (fun z32 => lp_X6_turn_5 g_cells g_freeCount g_columns g_lines g_weights n (x1 + 1) (z32.1) (z32.2.1) (z32.2.2.1) (z32.2.2.2))))
theorem lp_X6_turn_5_s (g_cells : Int32) (g_freeCount : Int32) (g_columns : Nat → Int32) (g_lines : Nat → Int32) (g_weights : Nat → Int32) (n : Nat) (x1 : Int32) (r_order : Nat → Int32) (r_places : Nat → Int32) (hr_holders : Int64) (hr_sums : Nat → Int32) : lp_X6_turn_5 g_cells g_freeCount g_columns g_lines g_weights (n + 1) x1 r_order r_places hr_holders hr_sums = (if g_freeCount ≤ x1 then (some (r_order, r_places, hr_holders, hr_sums)) else ((f_X1_most g_cells hr_sums hr_holders).bind (fun z28 => (f_X6_give g_cells g_columns g_lines g_weights r_order r_places hr_holders hr_sums z28 x1).bind (fun z32 => lp_X6_turn_5 g_cells g_freeCount g_columns g_lines g_weights n (x1 + 1) (z32.1) (z32.2.1) (z32.2.2.1) (z32.2.2.2))))) := rfl
theorem lp_X6_turn_5_z (g_cells : Int32) (g_freeCount : Int32) (g_columns : Nat → Int32) (g_lines : Nat → Int32) (g_weights : Nat → Int32) (x1 : Int32) (r_order : Nat → Int32) (r_places : Nat → Int32) (hr_holders : Int64) (hr_sums : Nat → Int32) : lp_X6_turn_5 g_cells g_freeCount g_columns g_lines g_weights 0 x1 r_order r_places hr_holders hr_sums = none := rfl
def f_X6_turn (g_cells : Int32) (g_freeCount : Int32) (g_columns : Nat → Int32) (g_lines : Nat → Int32) (g_weights : Nat → Int32) (r_filled : Int32) (r_order : Nat → Int32) (r_places : Nat → Int32) (hr_holders : Int64) (hr_sums : Nat → Int32) : Option ((Nat → Int32) × (Nat → Int32) × Int64 × (Nat → Int32)) := lp_X6_turn_5 g_cells g_freeCount g_columns g_lines g_weights FU r_filled r_order r_places hr_holders hr_sums
theorem ok_X6_turn : OkV yX6_turn cX6_turn 2 none 0 := ⟨⟨tw_597, tw_8, by decide +kernel, by decide +kernel, by decide +kernel⟩, tw_596, tp_19⟩
set_option maxHeartbeats 4000000 in
set_option maxRecDepth 100000 in
theorem c_X6_turn (l : Launch) (D : va_G) (cy : ClassId × ClassId × ClassId) (H0 : Heap) (aP aG aG_columns aG_lines aG_distances aG_weights aR aR_order aR_places aHr aHr_sums : Nat) (g_cells : Int32) (g_free : Int64) (g_freeCount : Int32) (g_columns : Nat → Int32) (g_lines : Nat → Int32) (g_weights : Nat → Int32) (r_madeBy : Int64) (r_thinned : Int32) (r_filled : Int32) (r_order : Nat → Int32) (r_places : Nat → Int32) (hr_holders : Int64) (hr_sums : Nat → Int32) (r : (Nat → Int32) × (Nat → Int32) × Int64 × (Nat → Int32)) (hP : va_P D vwCl [(aG, .inr (0, [.ref aP, .ref aG_columns, .ref aG_lines, .ref aG_distances, .ref aG_weights, .int g_cells, .long g_free, .int g_freeCount])), (aG_columns, .inl (cy.1, 64, .inl g_columns)), (aG_lines, .inl (cy.1, 64, .inl g_lines)), (aG_weights, .inl (cy.1, 64, .inl g_weights)), (aR, .inr (6, [.ref aG, .ref aHr, .ref aR_order, .ref aR_places, .long r_madeBy, .int r_thinned, .int r_filled])), (aR_order, .inl (cy.1, 64, .inl r_order)), (aR_places, .inl (cy.1, 64, .inl r_places)), (aHr, .inr (1, [.ref aG, .ref aHr_sums, .long hr_holders])), (aHr_sums, .inl (cy.1, 64, .inl hr_sums))] H0) (hD0 : va_D (fun _ => True) [(aG, .inr (0, [.ref aP, .ref aG_columns, .ref aG_lines, .ref aG_distances, .ref aG_weights, .int g_cells, .long g_free, .int g_freeCount])), (aG_columns, .inl (cy.1, 64, .inl g_columns)), (aG_lines, .inl (cy.1, 64, .inl g_lines)), (aG_weights, .inl (cy.1, 64, .inl g_weights)), (aR, .inr (6, [.ref aG, .ref aHr, .ref aR_order, .ref aR_places, .long r_madeBy, .int r_thinned, .int r_filled])), (aR_order, .inl (cy.1, 64, .inl r_order)), (aR_places, .inl (cy.1, 64, .inl r_places)), (aHr, .inr (1, [.ref aG, .ref aHr_sums, .long hr_holders])), (aHr_sums, .inl (cy.1, 64, .inl hr_sums))]) (hf : f_X6_turn g_cells g_freeCount g_columns g_lines g_weights r_filled r_order r_places hr_holders hr_sums = some r) : Wr l yX6_turn cX6_turn 2 none ({ frames := 4, cells := 0, slots := 0, locals := 88 } : Room) ([.ref aR] : List Value) none D cy H0 [(aG, .inr (0, [.ref aP, .ref aG_columns, .ref aG_lines, .ref aG_distances, .ref aG_weights, .int g_cells, .long g_free, .int g_freeCount])), (aG_columns, .inl (cy.1, 64, .inl g_columns)), (aG_lines, .inl (cy.1, 64, .inl g_lines)), (aG_weights, .inl (cy.1, 64, .inl g_weights)), (aR, .inr (6, [.ref aG, .ref aHr, .ref aR_order, .ref aR_places, .long r_madeBy, .int r_thinned, .int r_filled])), (aR_order, .inl (cy.1, 64, .inl r_order)), (aR_places, .inl (cy.1, 64, .inl r_places)), (aHr, .inr (1, [.ref aG, .ref aHr_sums, .long hr_holders])), (aHr_sums, .inl (cy.1, 64, .inl hr_sums))] [(aG, .inr (0, [.ref aP, .ref aG_columns, .ref aG_lines, .ref aG_distances, .ref aG_weights, .int g_cells, .long g_free, .int g_freeCount])), (aG_columns, .inl (cy.1, 64, .inl g_columns)), (aG_lines, .inl (cy.1, 64, .inl g_lines)), (aG_weights, .inl (cy.1, 64, .inl g_weights)), (aR, .inr (6, [.ref aG, .ref aHr, .ref aR_order, .ref aR_places, .long r_madeBy, .int r_thinned, .int r_filled])), (aR_order, .inl (cy.1, 64, .inl (r.1))), (aR_places, .inl (cy.1, 64, .inl (r.2.1))), (aHr, .inr (1, [.ref aG, .ref aHr_sums, .long (r.2.2.1)])), (aHr_sums, .inl (cy.1, 64, .inl (r.2.2.2)))] := by
  refine wr_of (by decide +kernel) (Nat.le_of_ble_eq_true rfl) hD0 ?_
  intro p e s m below meth c ls A S hr hlocks hk hl hD hS hA
  obtain ⟨hx, hb, hml, hown, hts⟩ := id S
  have hl : lv_has ls 2 [(0, .ref aR)] := hl
  rw [f_X6_turn] at hf
  have J5 : ∀ (n5 : Nat) (x1 : Int32) (r_order : Nat → Int32) (r_places : Nat → Int32) (hr_holders : Int64) (hr_sums : Nat → Int32) (H : Heap) (locs : List Loc) (ls : Array Slot), va_P D vwCl [(aG, .inr (0, [.ref aP, .ref aG_columns, .ref aG_lines, .ref aG_distances, .ref aG_weights, .int g_cells, .long g_free, .int g_freeCount])), (aG_columns, .inl (cy.1, 64, .inl g_columns)), (aG_lines, .inl (cy.1, 64, .inl g_lines)), (aG_weights, .inl (cy.1, 64, .inl g_weights)), (aR, .inr (6, [.ref aG, .ref aHr, .ref aR_order, .ref aR_places, .long r_madeBy, .int r_thinned, .int r_filled])), (aR_order, .inl (cy.1, 64, .inl r_order)), (aR_places, .inl (cy.1, 64, .inl r_places)), (aHr, .inr (1, [.ref aG, .ref aHr_sums, .long hr_holders])), (aHr_sums, .inl (cy.1, 64, .inl hr_sums))] H → va_D A [(aG, .inr (0, [.ref aP, .ref aG_columns, .ref aG_lines, .ref aG_distances, .ref aG_weights, .int g_cells, .long g_free, .int g_freeCount])), (aG_columns, .inl (cy.1, 64, .inl g_columns)), (aG_lines, .inl (cy.1, 64, .inl g_lines)), (aG_weights, .inl (cy.1, 64, .inl g_weights)), (aR, .inr (6, [.ref aG, .ref aHr, .ref aR_order, .ref aR_places, .long r_madeBy, .int r_thinned, .int r_filled])), (aR_order, .inl (cy.1, 64, .inl r_order)), (aR_places, .inl (cy.1, 64, .inl r_places)), (aHr, .inr (1, [.ref aG, .ref aHr_sums, .long hr_holders])), (aHr_sums, .inl (cy.1, 64, .inl hr_sums))] → va_S A H0 H locs → lv_has ls 2 [(0, .ref aR), (1, .int x1)] → lp_X6_turn_5 g_cells g_freeCount g_columns g_lines g_weights n5 x1 r_order r_places hr_holders hr_sums = some r → W p l e ({ frames := 4, cells := 0, slots := 0, locals := 88 } : Room) s m ([.ref aR] : List Value).toArray below meth c H locs 0 0 (MQ below (QW none D [(aG, .inr (0, [.ref aP, .ref aG_columns, .ref aG_lines, .ref aG_distances, .ref aG_weights, .int g_cells, .long g_free, .int g_freeCount])), (aG_columns, .inl (cy.1, 64, .inl g_columns)), (aG_lines, .inl (cy.1, 64, .inl g_lines)), (aG_weights, .inl (cy.1, 64, .inl g_weights)), (aR, .inr (6, [.ref aG, .ref aHr, .ref aR_order, .ref aR_places, .long r_madeBy, .int r_thinned, .int r_filled])), (aR_order, .inl (cy.1, 64, .inl (r.1))), (aR_places, .inl (cy.1, 64, .inl (r.2.1))), (aHr, .inr (1, [.ref aG, .ref aHr_sums, .long (r.2.2.1)])), (aHr_sums, .inl (cy.1, 64, .inl (r.2.2.2)))] H0 A) ([.ref aR] : List Value).toArray s 0 0 A) (F0 m 5 ls []) := by
    intro n5
    induction n5 with
    | zero =>
      intro x1 r_order r_places hr_holders hr_sums H locs ls hP hD hS hl hf
      rw [lp_X6_turn_5_z] at hf
      cases hf
    | succ n5 ih5 =>
      intro x1 r_order r_places hr_holders hr_sums H locs ls hP hD hS hl hf
      rw [lp_X6_turn_5_s] at hf
      refine lv_iload_n hx hb dX6_turn_5 rfl (lv_at hl 1 rfl) ?_
      refine lv_aload_n hx hb dX6_turn_6 rfl (lv_at hl 0 rfl) ?_
      refine va_get (D := D) (ci := 6) (v := .ref aG) (C := RX6) (T := TX6) (N := 7) hx hb hts iX6 hown hk.1 hP 4 rfl rfl 0 (by decide) (hts _ tw_203) (fun _ h9 => h9) rfl dX6_turn_7 ?_
      refine va_get (D := D) (ci := 0) (v := .int g_freeCount) (C := RX0) (T := TX0) (N := 8) hx hb hts iX0 hown hk.1 hP 0 rfl rfl 7 (by decide) (hts _ tw_158) (fun _ h9 => h9) rfl dX6_turn_10 ?_
      refine lv_icmp_ge (tgt := 41) hx hb dX6_turn_13 (by decide) (fun hc => ?_) (fun hc => ?_)
      · have hf := q_t hc hf
        have hf := Option.some.inj hf
        subst hf
        exact q_rvW hP hS hx hb hr hlocks dX6_turn_41
      · have hf := q_f hc hf
        refine lv_aload_n hx hb dX6_turn_16 rfl (lv_at hl 0 rfl) ?_
        refine lv_aload_n hx hb dX6_turn_17 rfl (lv_at hl 0 rfl) ?_
        refine va_get (D := D) (ci := 6) (v := .ref aHr) (C := RX6) (T := TX6) (N := 7) hx hb hts iX6 hown hk.1 hP 4 rfl rfl 1 (by decide) (hts _ tw_204) (fun _ h9 => h9) rfl dX6_turn_18 ?_
        refine lv_aload_n hx hb dX6_turn_21 rfl (lv_at hl 0 rfl) ?_
        refine va_get (D := D) (ci := 6) (v := .ref aHr) (C := RX6) (T := TX6) (N := 7) hx hb hts iX6 hown hk.1 hP 4 rfl rfl 1 (by decide) (hts _ tw_204) (fun _ h9 => h9) rfl dX6_turn_22 ?_
        refine va_get (D := D) (ci := 1) (v := .long hr_holders) (C := RX1) (T := TX1) (N := 3) hx hb hts iX1 hown hk.1 hP 7 rfl rfl 2 (by decide) (hts _ tw_186) (fun _ h9 => h9) rfl dX6_turn_25 ?_
        obtain ⟨z28, hz28, hf⟩ := q_bind hf
        refine q_rdV (As := [.long hr_holders]) (rest := [.ref aR]) (st2 := [.int z28, .ref aR]) S hk (c_X1_most l D cy H aP aG aG_columns aG_lines aG_distances aG_weights aHr aHr_sums g_cells g_free g_freeCount hr_holders hr_sums hr_holders z28 (hP.sub [0, 7, 8] rfl) hz28) ok_X1_most tw_580 ⟨rfl, rfl, Nat.le_of_ble_eq_true rfl, Nat.le_of_ble_eq_true rfl⟩ (va_recv hk.1 hP (ci := 1) (q0 := 7) rfl rfl) rfl hl.1 rfl (Nat.le_of_ble_eq_true rfl) dX6_turn_28 ⟨Nat.zero_le _, Nat.zero_le _⟩ rfl ?_
        refine lv_iload_n hx hb dX6_turn_31 rfl (lv_at hl 1 rfl) ?_
        obtain ⟨z32, hz32, hf⟩ := q_bind hf
        refine q_wrV (As := [.int z28, .int x1]) (rest := []) (st2 := []) (ws' := [(aG, .inr (0, [.ref aP, .ref aG_columns, .ref aG_lines, .ref aG_distances, .ref aG_weights, .int g_cells, .long g_free, .int g_freeCount])), (aG_columns, .inl (cy.1, 64, .inl g_columns)), (aG_lines, .inl (cy.1, 64, .inl g_lines)), (aG_weights, .inl (cy.1, 64, .inl g_weights)), (aR, .inr (6, [.ref aG, .ref aHr, .ref aR_order, .ref aR_places, .long r_madeBy, .int r_thinned, .int r_filled])), (aR_order, .inl (cy.1, 64, .inl (z32.1))), (aR_places, .inl (cy.1, 64, .inl (z32.2.1))), (aHr, .inr (1, [.ref aG, .ref aHr_sums, .long (z32.2.2.1)])), (aHr_sums, .inl (cy.1, 64, .inl (z32.2.2.2)))]) S hk (c_X6_give l D cy H aP aG aG_columns aG_lines aG_distances aG_weights aR aR_order aR_places aHr aHr_sums g_cells g_free g_freeCount g_columns g_lines g_weights r_madeBy r_thinned r_filled r_order r_places hr_holders hr_sums z28 x1 z32 (hP.sub [0, 1, 2, 3, 4, 5, 6, 7, 8] rfl) (qD_sub hD [0, 1, 2, 3, 4, 5, 6, 7, 8] (by decide) rfl) hz32) ok_X6_give tw_581 ⟨rfl, rfl, Nat.le_of_ble_eq_true rfl, Nat.le_of_ble_eq_true rfl⟩ (va_recv hk.1 hP (ci := 6) (q0 := 4) rfl rfl) rfl hl.1 rfl (Nat.le_of_ble_eq_true rfl) dX6_turn_32 ⟨Nat.zero_le _, Nat.zero_le _⟩ rfl hP hD hS hA [0, 1, 2, 3, 4, 5, 6, 7, 8] rfl rfl rfl rfl (fun H locs hP hD hS => ?_)
        refine lv_iinc (v := (x1 + 1)) (lv' := [(1, .int (x1 + 1)), (0, .ref aR)]) hx hb dX6_turn_35 hl (k := 1) rfl rfl (by decide) rfl (fun ls hl => ?_)
        refine lv_goto (tgt := 5) hx hb dX6_turn_38 (by decide) ?_
        exact ih5 (x1 + 1) (z32.1) (z32.2.1) (z32.2.2.1) (z32.2.2.2) H locs ls hP hD hS (lv_sub hl [1, 0] rfl) hf
  refine lv_aload_n hx hb dX6_turn_0 rfl (lv_at hl 0 rfl) ?_
  refine va_get (D := D) (ci := 6) (v := .int r_filled) (C := RX6) (T := TX6) (N := 7) hx hb hts iX6 hown hk.1 hP 4 rfl rfl 6 (by decide) (hts _ tw_209) (fun _ h9 => h9) rfl dX6_turn_1 ?_
  refine lv_istore_n (lv' := [(1, .int r_filled), (0, .ref aR)]) hx hb dX6_turn_4 rfl hl (by decide) rfl (fun ls hl => ?_)
  exact J5 FU r_filled r_order r_places hr_holders hr_sums H0 [] ls hP hD hS (lv_sub hl [1, 0] rfl) hf
def f_X6_standFor (g_cells : Int32) (g_free : Int64) (g_freeCount : Int32) (g_columns : Nat → Int32) (g_lines : Nat → Int32) (g_weights : Nat → Int32) (r_madeBy : Int64) (r_thinned : Int32) (r_filled : Int32) (r_order : Nat → Int32) (r_places : Nat → Int32) (hr_holders : Int64) (hr_sums : Nat → Int32) (x1 : Int64) : Option (Int64 × Int32 × Int32 × (Nat → Int32) × (Nat → Int32) × Int64 × (Nat → Int32)) := if (lg_cmp r_madeBy x1) = 0 then (some (r_madeBy, r_thinned, r_filled, r_order, r_places, hr_holders, hr_sums)) else ((f_X1_begin g_cells g_columns g_lines g_weights hr_holders hr_sums x1).bind (fun z20 => (f_X6_thin g_cells g_columns g_lines g_weights r_thinned r_order r_places (z20.1) (z20.2)).bind (fun z24 => (f_X1_begin g_cells g_columns g_lines g_weights (z24.2.2.2.1) (z24.2.2.2.2) x1).bind (fun z32 => (f_X6_fill g_cells g_free g_freeCount g_columns g_lines g_weights (z24.1) r_filled (z24.2.1) (z24.2.2.1) (z32.1) (z32.2)).bind (fun z36 => (f_X1_begin g_cells g_columns g_lines g_weights (z36.2.2.2.1) (z36.2.2.2.2) (g_free &&& ((z36.2.2.2.1) ^^^ (-1 : Int64)))).bind (fun z62 => (f_X6_turn g_cells g_freeCount g_columns g_lines g_weights (z36.1) (z36.2.1) (z36.2.2.1) (z62.1) (z62.2)).bind (fun z66 => some (x1, (z24.1), (z36.1), (z66.1), (z66.2.1), (z66.2.2.1), (z66.2.2.2)))))))))
theorem ok_X6_standFor : OkV yX6_standFor cX6_standFor 3 none 1 := ⟨⟨tw_569, tw_8, by decide +kernel, by decide +kernel, by decide +kernel⟩, tw_567, tw_568⟩
set_option maxHeartbeats 4000000 in
set_option maxRecDepth 100000 in
theorem c_X6_standFor (l : Launch) (D : va_G) (cy : ClassId × ClassId × ClassId) (H0 : Heap) (aP aG aG_columns aG_lines aG_distances aG_weights aR aR_order aR_places aHr aHr_sums : Nat) (g_cells : Int32) (g_free : Int64) (g_freeCount : Int32) (g_columns : Nat → Int32) (g_lines : Nat → Int32) (g_weights : Nat → Int32) (r_madeBy : Int64) (r_thinned : Int32) (r_filled : Int32) (r_order : Nat → Int32) (r_places : Nat → Int32) (hr_holders : Int64) (hr_sums : Nat → Int32) (x1 : Int64) (r : Int64 × Int32 × Int32 × (Nat → Int32) × (Nat → Int32) × Int64 × (Nat → Int32)) (hP : va_P D vwCl [(aG, .inr (0, [.ref aP, .ref aG_columns, .ref aG_lines, .ref aG_distances, .ref aG_weights, .int g_cells, .long g_free, .int g_freeCount])), (aG_columns, .inl (cy.1, 64, .inl g_columns)), (aG_lines, .inl (cy.1, 64, .inl g_lines)), (aG_weights, .inl (cy.1, 64, .inl g_weights)), (aR, .inr (6, [.ref aG, .ref aHr, .ref aR_order, .ref aR_places, .long r_madeBy, .int r_thinned, .int r_filled])), (aR_order, .inl (cy.1, 64, .inl r_order)), (aR_places, .inl (cy.1, 64, .inl r_places)), (aHr, .inr (1, [.ref aG, .ref aHr_sums, .long hr_holders])), (aHr_sums, .inl (cy.1, 64, .inl hr_sums))] H0) (hD0 : va_D (fun _ => True) [(aG, .inr (0, [.ref aP, .ref aG_columns, .ref aG_lines, .ref aG_distances, .ref aG_weights, .int g_cells, .long g_free, .int g_freeCount])), (aG_columns, .inl (cy.1, 64, .inl g_columns)), (aG_lines, .inl (cy.1, 64, .inl g_lines)), (aG_weights, .inl (cy.1, 64, .inl g_weights)), (aR, .inr (6, [.ref aG, .ref aHr, .ref aR_order, .ref aR_places, .long r_madeBy, .int r_thinned, .int r_filled])), (aR_order, .inl (cy.1, 64, .inl r_order)), (aR_places, .inl (cy.1, 64, .inl r_places)), (aHr, .inr (1, [.ref aG, .ref aHr_sums, .long hr_holders])), (aHr_sums, .inl (cy.1, 64, .inl hr_sums))]) (hf : f_X6_standFor g_cells g_free g_freeCount g_columns g_lines g_weights r_madeBy r_thinned r_filled r_order r_places hr_holders hr_sums x1 = some r) : Wr l yX6_standFor cX6_standFor 3 none ({ frames := 5, cells := 0, slots := 0, locals := 113 } : Room) ([.ref aR, .long x1] : List Value) none D cy H0 [(aG, .inr (0, [.ref aP, .ref aG_columns, .ref aG_lines, .ref aG_distances, .ref aG_weights, .int g_cells, .long g_free, .int g_freeCount])), (aG_columns, .inl (cy.1, 64, .inl g_columns)), (aG_lines, .inl (cy.1, 64, .inl g_lines)), (aG_weights, .inl (cy.1, 64, .inl g_weights)), (aR, .inr (6, [.ref aG, .ref aHr, .ref aR_order, .ref aR_places, .long r_madeBy, .int r_thinned, .int r_filled])), (aR_order, .inl (cy.1, 64, .inl r_order)), (aR_places, .inl (cy.1, 64, .inl r_places)), (aHr, .inr (1, [.ref aG, .ref aHr_sums, .long hr_holders])), (aHr_sums, .inl (cy.1, 64, .inl hr_sums))] [(aG, .inr (0, [.ref aP, .ref aG_columns, .ref aG_lines, .ref aG_distances, .ref aG_weights, .int g_cells, .long g_free, .int g_freeCount])), (aG_columns, .inl (cy.1, 64, .inl g_columns)), (aG_lines, .inl (cy.1, 64, .inl g_lines)), (aG_weights, .inl (cy.1, 64, .inl g_weights)), (aR, .inr (6, [.ref aG, .ref aHr, .ref aR_order, .ref aR_places, .long (r.1), .int (r.2.1), .int (r.2.2.1)])), (aR_order, .inl (cy.1, 64, .inl (r.2.2.2.1))), (aR_places, .inl (cy.1, 64, .inl (r.2.2.2.2.1))), (aHr, .inr (1, [.ref aG, .ref aHr_sums, .long (r.2.2.2.2.2.1)])), (aHr_sums, .inl (cy.1, 64, .inl (r.2.2.2.2.2.2)))] := by
  refine wr_of (by decide +kernel) (Nat.le_of_ble_eq_true rfl) hD0 ?_
  intro p e s m below meth c ls A S hr hlocks hk hl hD hS hA
  obtain ⟨hx, hb, hml, hown, hts⟩ := id S
  have hl : lv_has ls 3 [(0, .ref aR), (1, .long x1)] := hl
  rw [f_X6_standFor] at hf
  refine lv_aload_n hx hb dX6_standFor_0 rfl (lv_at hl 0 rfl) ?_
  refine va_get (D := D) (ci := 6) (v := .long r_madeBy) (C := RX6) (T := TX6) (N := 7) hx hb hts iX6 hown hk.1 hP 4 rfl rfl 4 (by decide) (hts _ tw_207) (fun _ h9 => h9) rfl dX6_standFor_1 ?_
  refine lv_lload_n hx hb dX6_standFor_4 rfl (lv_at hl 1 rfl) ?_
  refine W.lcmp hx hb dX6_standFor_5 ?_
  refine lv_if_ne (tgt := 10) hx hb dX6_standFor_6 (by decide) (fun hc => ?_) (fun hc => ?_)
  · have hf := q_f hc hf
    refine lv_aload_n hx hb dX6_standFor_10 rfl (lv_at hl 0 rfl) ?_
    refine lv_lload_n hx hb dX6_standFor_11 rfl (lv_at hl 1 rfl) ?_
    refine va_put (D := D) (ci := 6) (v := .long x1) (ty := .long) (C := RX6) (T := TX6) (N := 7) hx hb hts iX6 tyX6 tyX6_ok nmX6 hown hk.1 hP hD hS 4 rfl rfl 4 (by decide) (hts _ tw_207) (fun _ h9 => h9) rfl (by decide +kernel) rfl rfl (Nat.le_of_ble_eq_true rfl) dX6_standFor_12 (fun H locs hP hD hS => ?_)
    have hP : va_P D vwCl [(aG, .inr (0, [.ref aP, .ref aG_columns, .ref aG_lines, .ref aG_distances, .ref aG_weights, .int g_cells, .long g_free, .int g_freeCount])), (aG_columns, .inl (cy.1, 64, .inl g_columns)), (aG_lines, .inl (cy.1, 64, .inl g_lines)), (aG_weights, .inl (cy.1, 64, .inl g_weights)), (aR, .inr (6, [.ref aG, .ref aHr, .ref aR_order, .ref aR_places, .long x1, .int r_thinned, .int r_filled])), (aR_order, .inl (cy.1, 64, .inl r_order)), (aR_places, .inl (cy.1, 64, .inl r_places)), (aHr, .inr (1, [.ref aG, .ref aHr_sums, .long hr_holders])), (aHr_sums, .inl (cy.1, 64, .inl hr_sums))] H := hP
    have hD : va_D A [(aG, .inr (0, [.ref aP, .ref aG_columns, .ref aG_lines, .ref aG_distances, .ref aG_weights, .int g_cells, .long g_free, .int g_freeCount])), (aG_columns, .inl (cy.1, 64, .inl g_columns)), (aG_lines, .inl (cy.1, 64, .inl g_lines)), (aG_weights, .inl (cy.1, 64, .inl g_weights)), (aR, .inr (6, [.ref aG, .ref aHr, .ref aR_order, .ref aR_places, .long x1, .int r_thinned, .int r_filled])), (aR_order, .inl (cy.1, 64, .inl r_order)), (aR_places, .inl (cy.1, 64, .inl r_places)), (aHr, .inr (1, [.ref aG, .ref aHr_sums, .long hr_holders])), (aHr_sums, .inl (cy.1, 64, .inl hr_sums))] := hD
    refine lv_aload_n hx hb dX6_standFor_15 rfl (lv_at hl 0 rfl) ?_
    refine va_get (D := D) (ci := 6) (v := .ref aHr) (C := RX6) (T := TX6) (N := 7) hx hb hts iX6 hown hk.1 hP 4 rfl rfl 1 (by decide) (hts _ tw_204) (fun _ h9 => h9) rfl dX6_standFor_16 ?_
    refine lv_lload_n hx hb dX6_standFor_19 rfl (lv_at hl 1 rfl) ?_
    obtain ⟨z20, hz20, hf⟩ := q_bind hf
    refine q_wrV (As := [.long x1]) (rest := []) (st2 := []) (ws' := [(aG, .inr (0, [.ref aP, .ref aG_columns, .ref aG_lines, .ref aG_distances, .ref aG_weights, .int g_cells, .long g_free, .int g_freeCount])), (aG_columns, .inl (cy.1, 64, .inl g_columns)), (aG_lines, .inl (cy.1, 64, .inl g_lines)), (aG_weights, .inl (cy.1, 64, .inl g_weights)), (aR, .inr (6, [.ref aG, .ref aHr, .ref aR_order, .ref aR_places, .long x1, .int r_thinned, .int r_filled])), (aR_order, .inl (cy.1, 64, .inl r_order)), (aR_places, .inl (cy.1, 64, .inl r_places)), (aHr, .inr (1, [.ref aG, .ref aHr_sums, .long (z20.1)])), (aHr_sums, .inl (cy.1, 64, .inl (z20.2)))]) S hk (c_X1_begin l D cy H aP aG aG_columns aG_lines aG_distances aG_weights aHr aHr_sums g_cells g_free g_freeCount g_columns g_lines g_weights hr_holders hr_sums x1 z20 (hP.sub [0, 1, 2, 3, 7, 8] rfl) (qD_sub hD [0, 1, 2, 3, 7, 8] (by decide) rfl) hz20) ok_X1_begin tw_570 ⟨rfl, rfl, Nat.le_of_ble_eq_true rfl, Nat.le_of_ble_eq_true rfl⟩ (va_recv hk.1 hP (ci := 1) (q0 := 7) rfl rfl) rfl hl.1 rfl (Nat.le_of_ble_eq_true rfl) dX6_standFor_20 ⟨Nat.zero_le _, Nat.zero_le _⟩ rfl hP hD hS hA [0, 1, 2, 3, 7, 8] rfl rfl rfl rfl (fun H locs hP hD hS => ?_)
    refine lv_aload_n hx hb dX6_standFor_23 rfl (lv_at hl 0 rfl) ?_
    obtain ⟨z24, hz24, hf⟩ := q_bind hf
    refine q_wrV (As := []) (rest := []) (st2 := []) (ws' := [(aG, .inr (0, [.ref aP, .ref aG_columns, .ref aG_lines, .ref aG_distances, .ref aG_weights, .int g_cells, .long g_free, .int g_freeCount])), (aG_columns, .inl (cy.1, 64, .inl g_columns)), (aG_lines, .inl (cy.1, 64, .inl g_lines)), (aG_weights, .inl (cy.1, 64, .inl g_weights)), (aR, .inr (6, [.ref aG, .ref aHr, .ref aR_order, .ref aR_places, .long x1, .int (z24.1), .int r_filled])), (aR_order, .inl (cy.1, 64, .inl (z24.2.1))), (aR_places, .inl (cy.1, 64, .inl (z24.2.2.1))), (aHr, .inr (1, [.ref aG, .ref aHr_sums, .long (z24.2.2.2.1)])), (aHr_sums, .inl (cy.1, 64, .inl (z24.2.2.2.2)))]) S hk (c_X6_thin l D cy H aP aG aG_columns aG_lines aG_distances aG_weights aR aR_order aR_places aHr aHr_sums g_cells g_free g_freeCount g_columns g_lines g_weights x1 r_thinned r_filled r_order r_places (z20.1) (z20.2) z24 (hP.sub [0, 1, 2, 3, 4, 5, 6, 7, 8] rfl) (qD_sub hD [0, 1, 2, 3, 4, 5, 6, 7, 8] (by decide) rfl) hz24) ok_X6_thin tw_571 ⟨rfl, rfl, Nat.le_of_ble_eq_true rfl, Nat.le_of_ble_eq_true rfl⟩ (va_recv hk.1 hP (ci := 6) (q0 := 4) rfl rfl) rfl hl.1 rfl (Nat.le_of_ble_eq_true rfl) dX6_standFor_24 ⟨Nat.zero_le _, Nat.zero_le _⟩ rfl hP hD hS hA [0, 1, 2, 3, 4, 5, 6, 7, 8] rfl rfl rfl rfl (fun H locs hP hD hS => ?_)
    refine lv_aload_n hx hb dX6_standFor_27 rfl (lv_at hl 0 rfl) ?_
    refine va_get (D := D) (ci := 6) (v := .ref aHr) (C := RX6) (T := TX6) (N := 7) hx hb hts iX6 hown hk.1 hP 4 rfl rfl 1 (by decide) (hts _ tw_204) (fun _ h9 => h9) rfl dX6_standFor_28 ?_
    refine lv_lload_n hx hb dX6_standFor_31 rfl (lv_at hl 1 rfl) ?_
    obtain ⟨z32, hz32, hf⟩ := q_bind hf
    refine q_wrV (As := [.long x1]) (rest := []) (st2 := []) (ws' := [(aG, .inr (0, [.ref aP, .ref aG_columns, .ref aG_lines, .ref aG_distances, .ref aG_weights, .int g_cells, .long g_free, .int g_freeCount])), (aG_columns, .inl (cy.1, 64, .inl g_columns)), (aG_lines, .inl (cy.1, 64, .inl g_lines)), (aG_weights, .inl (cy.1, 64, .inl g_weights)), (aR, .inr (6, [.ref aG, .ref aHr, .ref aR_order, .ref aR_places, .long x1, .int (z24.1), .int r_filled])), (aR_order, .inl (cy.1, 64, .inl (z24.2.1))), (aR_places, .inl (cy.1, 64, .inl (z24.2.2.1))), (aHr, .inr (1, [.ref aG, .ref aHr_sums, .long (z32.1)])), (aHr_sums, .inl (cy.1, 64, .inl (z32.2)))]) S hk (c_X1_begin l D cy H aP aG aG_columns aG_lines aG_distances aG_weights aHr aHr_sums g_cells g_free g_freeCount g_columns g_lines g_weights (z24.2.2.2.1) (z24.2.2.2.2) x1 z32 (hP.sub [0, 1, 2, 3, 7, 8] rfl) (qD_sub hD [0, 1, 2, 3, 7, 8] (by decide) rfl) hz32) ok_X1_begin tw_570 ⟨rfl, rfl, Nat.le_of_ble_eq_true rfl, Nat.le_of_ble_eq_true rfl⟩ (va_recv hk.1 hP (ci := 1) (q0 := 7) rfl rfl) rfl hl.1 rfl (Nat.le_of_ble_eq_true rfl) dX6_standFor_32 ⟨Nat.zero_le _, Nat.zero_le _⟩ rfl hP hD hS hA [0, 1, 2, 3, 7, 8] rfl rfl rfl rfl (fun H locs hP hD hS => ?_)
    refine lv_aload_n hx hb dX6_standFor_35 rfl (lv_at hl 0 rfl) ?_
    obtain ⟨z36, hz36, hf⟩ := q_bind hf
    refine q_wrV (As := []) (rest := []) (st2 := []) (ws' := [(aG, .inr (0, [.ref aP, .ref aG_columns, .ref aG_lines, .ref aG_distances, .ref aG_weights, .int g_cells, .long g_free, .int g_freeCount])), (aG_columns, .inl (cy.1, 64, .inl g_columns)), (aG_lines, .inl (cy.1, 64, .inl g_lines)), (aG_weights, .inl (cy.1, 64, .inl g_weights)), (aR, .inr (6, [.ref aG, .ref aHr, .ref aR_order, .ref aR_places, .long x1, .int (z24.1), .int (z36.1)])), (aR_order, .inl (cy.1, 64, .inl (z36.2.1))), (aR_places, .inl (cy.1, 64, .inl (z36.2.2.1))), (aHr, .inr (1, [.ref aG, .ref aHr_sums, .long (z36.2.2.2.1)])), (aHr_sums, .inl (cy.1, 64, .inl (z36.2.2.2.2)))]) S hk (c_X6_fill l D cy H aP aG aG_columns aG_lines aG_distances aG_weights aR aR_order aR_places aHr aHr_sums g_cells g_free g_freeCount g_columns g_lines g_weights x1 (z24.1) r_filled (z24.2.1) (z24.2.2.1) (z32.1) (z32.2) z36 (hP.sub [0, 1, 2, 3, 4, 5, 6, 7, 8] rfl) (qD_sub hD [0, 1, 2, 3, 4, 5, 6, 7, 8] (by decide) rfl) hz36) ok_X6_fill tw_587 ⟨rfl, rfl, Nat.le_of_ble_eq_true rfl, Nat.le_of_ble_eq_true rfl⟩ (va_recv hk.1 hP (ci := 6) (q0 := 4) rfl rfl) rfl hl.1 rfl (Nat.le_of_ble_eq_true rfl) dX6_standFor_36 ⟨Nat.zero_le _, Nat.zero_le _⟩ rfl hP hD hS hA [0, 1, 2, 3, 4, 5, 6, 7, 8] rfl rfl rfl rfl (fun H locs hP hD hS => ?_)
    refine lv_aload_n hx hb dX6_standFor_39 rfl (lv_at hl 0 rfl) ?_
    refine va_get (D := D) (ci := 6) (v := .ref aHr) (C := RX6) (T := TX6) (N := 7) hx hb hts iX6 hown hk.1 hP 4 rfl rfl 1 (by decide) (hts _ tw_204) (fun _ h9 => h9) rfl dX6_standFor_40 ?_
    refine lv_aload_n hx hb dX6_standFor_43 rfl (lv_at hl 0 rfl) ?_
    refine va_get (D := D) (ci := 6) (v := .ref aG) (C := RX6) (T := TX6) (N := 7) hx hb hts iX6 hown hk.1 hP 4 rfl rfl 0 (by decide) (hts _ tw_203) (fun _ h9 => h9) rfl dX6_standFor_44 ?_
    refine va_get (D := D) (ci := 0) (v := .long g_free) (C := RX0) (T := TX0) (N := 8) hx hb hts iX0 hown hk.1 hP 0 rfl rfl 6 (by decide) (hts _ tw_152) (fun _ h9 => h9) rfl dX6_standFor_47 ?_
    refine lv_aload_n hx hb dX6_standFor_50 rfl (lv_at hl 0 rfl) ?_
    refine va_get (D := D) (ci := 6) (v := .ref aHr) (C := RX6) (T := TX6) (N := 7) hx hb hts iX6 hown hk.1 hP 4 rfl rfl 1 (by decide) (hts _ tw_204) (fun _ h9 => h9) rfl dX6_standFor_51 ?_
    refine va_get (D := D) (ci := 1) (v := .long (z36.2.2.2.1)) (C := RX1) (T := TX1) (N := 3) hx hb hts iX1 hown hk.1 hP 7 rfl rfl 2 (by decide) (hts _ tw_186) (fun _ h9 => h9) rfl dX6_standFor_54 ?_
    refine lv_ldc2 hx hb hown (hts _ tw_592) dX6_standFor_57 ?_
    refine lv_lxor hx hb dX6_standFor_60 ?_
    refine lv_land hx hb dX6_standFor_61 ?_
    obtain ⟨z62, hz62, hf⟩ := q_bind hf
    refine q_wrV (As := [.long (g_free &&& ((z36.2.2.2.1) ^^^ (-1 : Int64)))]) (rest := []) (st2 := []) (ws' := [(aG, .inr (0, [.ref aP, .ref aG_columns, .ref aG_lines, .ref aG_distances, .ref aG_weights, .int g_cells, .long g_free, .int g_freeCount])), (aG_columns, .inl (cy.1, 64, .inl g_columns)), (aG_lines, .inl (cy.1, 64, .inl g_lines)), (aG_weights, .inl (cy.1, 64, .inl g_weights)), (aR, .inr (6, [.ref aG, .ref aHr, .ref aR_order, .ref aR_places, .long x1, .int (z24.1), .int (z36.1)])), (aR_order, .inl (cy.1, 64, .inl (z36.2.1))), (aR_places, .inl (cy.1, 64, .inl (z36.2.2.1))), (aHr, .inr (1, [.ref aG, .ref aHr_sums, .long (z62.1)])), (aHr_sums, .inl (cy.1, 64, .inl (z62.2)))]) S hk (c_X1_begin l D cy H aP aG aG_columns aG_lines aG_distances aG_weights aHr aHr_sums g_cells g_free g_freeCount g_columns g_lines g_weights (z36.2.2.2.1) (z36.2.2.2.2) (g_free &&& ((z36.2.2.2.1) ^^^ (-1 : Int64))) z62 (hP.sub [0, 1, 2, 3, 7, 8] rfl) (qD_sub hD [0, 1, 2, 3, 7, 8] (by decide) rfl) hz62) ok_X1_begin tw_570 ⟨rfl, rfl, Nat.le_of_ble_eq_true rfl, Nat.le_of_ble_eq_true rfl⟩ (va_recv hk.1 hP (ci := 1) (q0 := 7) rfl rfl) rfl hl.1 rfl (Nat.le_of_ble_eq_true rfl) dX6_standFor_62 ⟨Nat.zero_le _, Nat.zero_le _⟩ rfl hP hD hS hA [0, 1, 2, 3, 7, 8] rfl rfl rfl rfl (fun H locs hP hD hS => ?_)
    refine lv_aload_n hx hb dX6_standFor_65 rfl (lv_at hl 0 rfl) ?_
    obtain ⟨z66, hz66, hf⟩ := q_bind hf
    refine q_wrV (As := []) (rest := []) (st2 := []) (ws' := [(aG, .inr (0, [.ref aP, .ref aG_columns, .ref aG_lines, .ref aG_distances, .ref aG_weights, .int g_cells, .long g_free, .int g_freeCount])), (aG_columns, .inl (cy.1, 64, .inl g_columns)), (aG_lines, .inl (cy.1, 64, .inl g_lines)), (aG_weights, .inl (cy.1, 64, .inl g_weights)), (aR, .inr (6, [.ref aG, .ref aHr, .ref aR_order, .ref aR_places, .long x1, .int (z24.1), .int (z36.1)])), (aR_order, .inl (cy.1, 64, .inl (z66.1))), (aR_places, .inl (cy.1, 64, .inl (z66.2.1))), (aHr, .inr (1, [.ref aG, .ref aHr_sums, .long (z66.2.2.1)])), (aHr_sums, .inl (cy.1, 64, .inl (z66.2.2.2)))]) S hk (c_X6_turn l D cy H aP aG aG_columns aG_lines aG_distances aG_weights aR aR_order aR_places aHr aHr_sums g_cells g_free g_freeCount g_columns g_lines g_weights x1 (z24.1) (z36.1) (z36.2.1) (z36.2.2.1) (z62.1) (z62.2) z66 (hP.sub [0, 1, 2, 3, 4, 5, 6, 7, 8] rfl) (qD_sub hD [0, 1, 2, 3, 4, 5, 6, 7, 8] (by decide) rfl) hz66) ok_X6_turn tw_594 ⟨rfl, rfl, Nat.le_of_ble_eq_true rfl, Nat.le_of_ble_eq_true rfl⟩ (va_recv hk.1 hP (ci := 6) (q0 := 4) rfl rfl) rfl hl.1 rfl (Nat.le_of_ble_eq_true rfl) dX6_standFor_66 ⟨Nat.zero_le _, Nat.zero_le _⟩ rfl hP hD hS hA [0, 1, 2, 3, 4, 5, 6, 7, 8] rfl rfl rfl rfl (fun H locs hP hD hS => ?_)
    have hf := Option.some.inj hf
    subst hf
    exact q_rvW hP hS hx hb hr hlocks dX6_standFor_69
  · have hf := q_t hc hf
    have hf := Option.some.inj hf
    subst hf
    exact q_rvW hP hS hx hb hr hlocks dX6_standFor_9
def f_X6_rankOf (g_cells : Int32) (r_places : Nat → Int32) (x1 : Int32) : Option (Int32) := (f_X0_isCell g_cells x1).bind (fun z5 => if z5 = 0 then (some (-9 : Int32)) else (if inb x1 64 = true then (some (r_places x1.toNatClampNeg)) else none))
theorem ok_X6_rankOf : OkV yX6_rankOf cX6_rankOf 2 (some Jvm.ClassFile.FieldType.int) 1 := ⟨⟨tw_601, tw_8, by decide +kernel, by decide +kernel, by decide +kernel⟩, tw_599, tw_600⟩
set_option maxHeartbeats 4000000 in
set_option maxRecDepth 100000 in
theorem c_X6_rankOf (l : Launch) (D : va_G) (cy : ClassId × ClassId × ClassId) (H0 : Heap) (aP aG aG_columns aG_lines aG_distances aG_weights aR aR_order aR_places aHr : Nat) (g_cells : Int32) (g_free : Int64) (g_freeCount : Int32) (r_madeBy : Int64) (r_thinned : Int32) (r_filled : Int32) (r_places : Nat → Int32) (x1 : Int32) (r : Int32) (hP : va_P D vwCl [(aG, .inr (0, [.ref aP, .ref aG_columns, .ref aG_lines, .ref aG_distances, .ref aG_weights, .int g_cells, .long g_free, .int g_freeCount])), (aR, .inr (6, [.ref aG, .ref aHr, .ref aR_order, .ref aR_places, .long r_madeBy, .int r_thinned, .int r_filled])), (aR_places, .inl (cy.1, 64, .inl r_places))] H0) (hf : f_X6_rankOf g_cells r_places x1 = some r) : Rd l yX6_rankOf cX6_rankOf 2 (some Jvm.ClassFile.FieldType.int) ({ frames := 1, cells := 0, slots := 0, locals := 21 } : Room) ([.ref aR, .int x1] : List Value) (some (.int r)) D cy H0 := by
  refine rd_of (by decide +kernel) (Nat.le_of_ble_eq_true rfl) ?_
  intro p e s m below meth c ls S hr hlocks hk hl
  obtain ⟨hx, hb, hml, hown, hts⟩ := id S
  have hl : lv_has ls 2 [(0, .ref aR), (1, .int x1)] := hl
  rw [f_X6_rankOf] at hf
  refine lv_aload_n hx hb dX6_rankOf_0 rfl (lv_at hl 0 rfl) ?_
  refine va_get (D := D) (ci := 6) (v := .ref aG) (C := RX6) (T := TX6) (N := 7) hx hb hts iX6 hown hk.1 hP 1 rfl rfl 0 (by decide) (hts _ tw_203) (fun _ h9 => h9) rfl dX6_rankOf_1 ?_
  refine lv_iload_n hx hb dX6_rankOf_4 rfl (lv_at hl 1 rfl) ?_
  obtain ⟨z5, hz5, hf⟩ := q_bind hf
  refine q_rdV (As := [.int x1]) (rest := []) (st2 := [.int z5]) S hk (c_X0_isCell l D cy H0 aP aG aG_columns aG_lines aG_distances aG_weights g_cells g_free g_freeCount x1 z5 (hP.sub [0] rfl) hz5) ok_X0_isCell tw_585 ⟨rfl, rfl, Nat.le_of_ble_eq_true rfl, Nat.le_of_ble_eq_true rfl⟩ (va_recv hk.1 hP (ci := 0) (q0 := 0) rfl rfl) rfl hl.1 rfl (Nat.le_of_ble_eq_true rfl) dX6_rankOf_5 ⟨Nat.zero_le _, Nat.zero_le _⟩ rfl ?_
  refine lv_if_eq (tgt := 20) hx hb dX6_rankOf_8 (by decide) (fun hc => ?_) (fun hc => ?_)
  · have hf := q_t hc hf
    refine lv_bipush (v := (-9 : Int32)) hx hb dX6_rankOf_20 (by decide) ?_
    have hf := Option.some.inj hf
    subst hf
    exact q_riR hx hb hr hlocks dX6_rankOf_22
  · have hf := q_f hc hf
    refine lv_aload_n hx hb dX6_rankOf_11 rfl (lv_at hl 0 rfl) ?_
    refine va_get (D := D) (ci := 6) (v := .ref aR_places) (C := RX6) (T := TX6) (N := 7) hx hb hts iX6 hown hk.1 hP 1 rfl rfl 3 (by decide) (hts _ tw_206) (fun _ h9 => h9) rfl dX6_rankOf_12 ?_
    refine lv_iload_n hx hb dX6_rankOf_15 rfl (lv_at hl 1 rfl) ?_
    obtain ⟨hi, hf⟩ := q_in hf
    refine va_iald hx hb hk.1 hP 2 0 rfl rfl hi dX6_rankOf_16 ?_
    refine lv_goto (tgt := 22) hx hb dX6_rankOf_17 (by decide) ?_
    have hf := Option.some.inj hf
    subst hf
    exact q_riR hx hb hr hlocks dX6_rankOf_22
def f_X6_cellOf (g_freeCount : Int32) (r_order : Nat → Int32) (x1 : Int32) : Option (Int32) := if x1 < 0 then (some (-9 : Int32)) else (if g_freeCount ≤ x1 then (some (-9 : Int32)) else (if inb x1 64 = true then (some (r_order x1.toNatClampNeg)) else none))
theorem ok_X6_cellOf : OkV yX6_cellOf cX6_cellOf 2 (some Jvm.ClassFile.FieldType.int) 1 := ⟨⟨tw_609, tw_8, by decide +kernel, by decide +kernel, by decide +kernel⟩, tw_607, tw_608⟩
set_option maxHeartbeats 4000000 in
set_option maxRecDepth 100000 in
theorem c_X6_cellOf (l : Launch) (D : va_G) (cy : ClassId × ClassId × ClassId) (H0 : Heap) (aP aG aG_columns aG_lines aG_distances aG_weights aR aR_order aR_places aHr : Nat) (g_cells : Int32) (g_free : Int64) (g_freeCount : Int32) (r_madeBy : Int64) (r_thinned : Int32) (r_filled : Int32) (r_order : Nat → Int32) (x1 : Int32) (r : Int32) (hP : va_P D vwCl [(aG, .inr (0, [.ref aP, .ref aG_columns, .ref aG_lines, .ref aG_distances, .ref aG_weights, .int g_cells, .long g_free, .int g_freeCount])), (aR, .inr (6, [.ref aG, .ref aHr, .ref aR_order, .ref aR_places, .long r_madeBy, .int r_thinned, .int r_filled])), (aR_order, .inl (cy.1, 64, .inl r_order))] H0) (hf : f_X6_cellOf g_freeCount r_order x1 = some r) : Rd l yX6_cellOf cX6_cellOf 2 (some Jvm.ClassFile.FieldType.int) ({ frames := 0, cells := 0, slots := 0, locals := 0 } : Room) ([.ref aR, .int x1] : List Value) (some (.int r)) D cy H0 := by
  refine rd_of (by decide +kernel) (Nat.le_of_ble_eq_true rfl) ?_
  intro p e s m below meth c ls S hr hlocks hk hl
  obtain ⟨hx, hb, hml, hown, hts⟩ := id S
  have hl : lv_has ls 2 [(0, .ref aR), (1, .int x1)] := hl
  rw [f_X6_cellOf] at hf
  refine lv_iload_n hx hb dX6_cellOf_0 rfl (lv_at hl 1 rfl) ?_
  refine lv_if_lt (tgt := 24) hx hb dX6_cellOf_1 (by decide) (fun hc => ?_) (fun hc => ?_)
  · have hf := q_t hc hf
    refine lv_bipush (v := (-9 : Int32)) hx hb dX6_cellOf_24 (by decide) ?_
    have hf := Option.some.inj hf
    subst hf
    exact q_riR hx hb hr hlocks dX6_cellOf_26
  · have hf := q_f hc hf
    refine lv_iload_n hx hb dX6_cellOf_4 rfl (lv_at hl 1 rfl) ?_
    refine lv_aload_n hx hb dX6_cellOf_5 rfl (lv_at hl 0 rfl) ?_
    refine va_get (D := D) (ci := 6) (v := .ref aG) (C := RX6) (T := TX6) (N := 7) hx hb hts iX6 hown hk.1 hP 1 rfl rfl 0 (by decide) (hts _ tw_203) (fun _ h9 => h9) rfl dX6_cellOf_6 ?_
    refine va_get (D := D) (ci := 0) (v := .int g_freeCount) (C := RX0) (T := TX0) (N := 8) hx hb hts iX0 hown hk.1 hP 0 rfl rfl 7 (by decide) (hts _ tw_158) (fun _ h9 => h9) rfl dX6_cellOf_9 ?_
    refine lv_icmp_ge (tgt := 24) hx hb dX6_cellOf_12 (by decide) (fun hc => ?_) (fun hc => ?_)
    · have hf := q_t hc hf
      refine lv_bipush (v := (-9 : Int32)) hx hb dX6_cellOf_24 (by decide) ?_
      have hf := Option.some.inj hf
      subst hf
      exact q_riR hx hb hr hlocks dX6_cellOf_26
    · have hf := q_f hc hf
      refine lv_aload_n hx hb dX6_cellOf_15 rfl (lv_at hl 0 rfl) ?_
      refine va_get (D := D) (ci := 6) (v := .ref aR_order) (C := RX6) (T := TX6) (N := 7) hx hb hts iX6 hown hk.1 hP 1 rfl rfl 2 (by decide) (hts _ tw_205) (fun _ h9 => h9) rfl dX6_cellOf_16 ?_
      refine lv_iload_n hx hb dX6_cellOf_19 rfl (lv_at hl 1 rfl) ?_
      obtain ⟨hi, hf⟩ := q_in hf
      refine va_iald hx hb hk.1 hP 2 0 rfl rfl hi dX6_cellOf_20 ?_
      refine lv_goto (tgt := 26) hx hb dX6_cellOf_21 (by decide) ?_
      have hf := Option.some.inj hf
      subst hf
      exact q_riR hx hb hr hlocks dX6_cellOf_26
def f_X6_stageOf (g_cells : Int32) (r_thinned : Int32) (r_filled : Int32) (r_places : Nat → Int32) (x1 : Int32) : Option (Int32) := (f_X6_rankOf g_cells r_places x1).bind (fun z2 => if r_thinned ≤ z2 then (if r_filled ≤ z2 then (some (2 : Int32)) else (some (1 : Int32))) else (some (0 : Int32)))
theorem ok_X6_stageOf : OkV yX6_stageOf cX6_stageOf 3 (some Jvm.ClassFile.FieldType.int) 1 := ⟨⟨tw_617, tw_8, by decide +kernel, by decide +kernel, by decide +kernel⟩, tw_615, tw_616⟩
set_option maxHeartbeats 4000000 in
set_option maxRecDepth 100000 in
theorem c_X6_stageOf (l : Launch) (D : va_G) (cy : ClassId × ClassId × ClassId) (H0 : Heap) (aP aG aG_columns aG_lines aG_distances aG_weights aR aR_order aR_places aHr : Nat) (g_cells : Int32) (g_free : Int64) (g_freeCount : Int32) (r_madeBy : Int64) (r_thinned : Int32) (r_filled : Int32) (r_places : Nat → Int32) (x1 : Int32) (r : Int32) (hP : va_P D vwCl [(aG, .inr (0, [.ref aP, .ref aG_columns, .ref aG_lines, .ref aG_distances, .ref aG_weights, .int g_cells, .long g_free, .int g_freeCount])), (aR, .inr (6, [.ref aG, .ref aHr, .ref aR_order, .ref aR_places, .long r_madeBy, .int r_thinned, .int r_filled])), (aR_places, .inl (cy.1, 64, .inl r_places))] H0) (hf : f_X6_stageOf g_cells r_thinned r_filled r_places x1 = some r) : Rd l yX6_stageOf cX6_stageOf 3 (some Jvm.ClassFile.FieldType.int) ({ frames := 2, cells := 0, slots := 0, locals := 42 } : Room) ([.ref aR, .int x1] : List Value) (some (.int r)) D cy H0 := by
  refine rd_of (by decide +kernel) (Nat.le_of_ble_eq_true rfl) ?_
  intro p e s m below meth c ls S hr hlocks hk hl
  obtain ⟨hx, hb, hml, hown, hts⟩ := id S
  have hl : lv_has ls 3 [(0, .ref aR), (1, .int x1)] := hl
  rw [f_X6_stageOf] at hf
  refine lv_aload_n hx hb dX6_stageOf_0 rfl (lv_at hl 0 rfl) ?_
  refine lv_iload_n hx hb dX6_stageOf_1 rfl (lv_at hl 1 rfl) ?_
  obtain ⟨z2, hz2, hf⟩ := q_bind hf
  refine q_rdV (As := [.int x1]) (rest := []) (st2 := [.int z2]) S hk (c_X6_rankOf l D cy H0 aP aG aG_columns aG_lines aG_distances aG_weights aR aR_order aR_places aHr g_cells g_free g_freeCount r_madeBy r_thinned r_filled r_places x1 z2 (hP.sub [0, 1, 2] rfl) hz2) ok_X6_rankOf tw_618 ⟨rfl, rfl, Nat.le_of_ble_eq_true rfl, Nat.le_of_ble_eq_true rfl⟩ (va_recv hk.1 hP (ci := 6) (q0 := 1) rfl rfl) rfl hl.1 rfl (Nat.le_of_ble_eq_true rfl) dX6_stageOf_2 ⟨Nat.zero_le _, Nat.zero_le _⟩ rfl ?_
  refine lv_istore_n (lv' := [(2, .int z2), (0, .ref aR), (1, .int x1)]) hx hb dX6_stageOf_5 rfl hl (by decide) rfl (fun ls hl => ?_)
  refine lv_iload_n hx hb dX6_stageOf_6 rfl (lv_at hl 0 rfl) ?_
  refine lv_aload_n hx hb dX6_stageOf_7 rfl (lv_at hl 1 rfl) ?_
  refine va_get (D := D) (ci := 6) (v := .int r_thinned) (C := RX6) (T := TX6) (N := 7) hx hb hts iX6 hown hk.1 hP 1 rfl rfl 5 (by decide) (hts _ tw_208) (fun _ h9 => h9) rfl dX6_stageOf_8 ?_
  refine lv_icmp_ge (tgt := 16) hx hb dX6_stageOf_11 (by decide) (fun hc => ?_) (fun hc => ?_)
  · have hf := q_t hc hf
    refine lv_iload_n hx hb dX6_stageOf_16 rfl (lv_at hl 0 rfl) ?_
    refine lv_aload_n hx hb dX6_stageOf_17 rfl (lv_at hl 1 rfl) ?_
    refine va_get (D := D) (ci := 6) (v := .int r_filled) (C := RX6) (T := TX6) (N := 7) hx hb hts iX6 hown hk.1 hP 1 rfl rfl 6 (by decide) (hts _ tw_209) (fun _ h9 => h9) rfl dX6_stageOf_18 ?_
    refine lv_icmp_ge (tgt := 28) hx hb dX6_stageOf_21 (by decide) (fun hc => ?_) (fun hc => ?_)
    · have hf := q_t hc hf
      refine lv_iconst (v := (2 : Int32)) hx hb dX6_stageOf_28 (by decide) ?_
      have hf := Option.some.inj hf
      subst hf
      exact q_riR hx hb hr hlocks dX6_stageOf_29
    · have hf := q_f hc hf
      refine lv_iconst (v := (1 : Int32)) hx hb dX6_stageOf_24 (by decide) ?_
      refine lv_goto (tgt := 29) hx hb dX6_stageOf_25 (by decide) ?_
      have hf := Option.some.inj hf
      subst hf
      exact q_riR hx hb hr hlocks dX6_stageOf_29
  · have hf := q_f hc hf
    refine lv_iconst (v := (0 : Int32)) hx hb dX6_stageOf_14 (by decide) ?_
    have hf := Option.some.inj hf
    subst hf
    exact q_riR hx hb hr hlocks dX6_stageOf_15
def lp_X6_nearestOf_17 (g_cells : Int32) (g_freeCount : Int32) (g_columns : Nat → Int32) (g_lines : Nat → Int32) (g_distances : Nat → Int32) (r_order : Nat → Int32) (x1 : Int32) (x2 : Int32) : Nat → Int32 → Int32 → Option (Int32)
  | 0, _, _ => none
  | n + 1, x3, x4 => if x2 ≤ x4 then (some x3) else ((f_X6_cellOf g_freeCount r_order x4).bind (fun z32 => (f_X0_distance g_cells g_columns g_lines g_distances x1 z32).bind (fun z35 => lp_X6_nearestOf_17 g_cells g_freeCount g_columns g_lines g_distances r_order x1 x2 n (if z35 < x3 then z35 else x3) (x4 + 1))))
theorem lp_X6_nearestOf_17_s (g_cells : Int32) (g_freeCount : Int32) (g_columns : Nat → Int32) (g_lines : Nat → Int32) (g_distances : Nat → Int32) (r_order : Nat → Int32) (x1 : Int32) (x2 : Int32) (n : Nat) (x3 : Int32) (x4 : Int32) : lp_X6_nearestOf_17 g_cells g_freeCount g_columns g_lines g_distances r_order x1 x2 (n + 1) x3 x4 = (if x2 ≤ x4 then (some x3) else ((f_X6_cellOf g_freeCount r_order x4).bind (fun z32 => (f_X0_distance g_cells g_columns g_lines g_distances x1 z32).bind (fun z35 => lp_X6_nearestOf_17 g_cells g_freeCount g_columns g_lines g_distances r_order x1 x2 n (if z35 < x3 then z35 else x3) (x4 + 1))))) := rfl
theorem lp_X6_nearestOf_17_z (g_cells : Int32) (g_freeCount : Int32) (g_columns : Nat → Int32) (g_lines : Nat → Int32) (g_distances : Nat → Int32) (r_order : Nat → Int32) (x1 : Int32) (x2 : Int32) (x3 : Int32) (x4 : Int32) : lp_X6_nearestOf_17 g_cells g_freeCount g_columns g_lines g_distances r_order x1 x2 0 x3 x4 = none := rfl
def f_X6_nearestOf (g_cells : Int32) (g_freeCount : Int32) (g_columns : Nat → Int32) (g_lines : Nat → Int32) (g_distances : Nat → Int32) (r_order : Nat → Int32) (x1 : Int32) (x2 : Int32) : Option (Int32) := (f_X6_cellOf g_freeCount r_order (0 : Int32)).bind (fun z7 => (f_X0_distance g_cells g_columns g_lines g_distances x1 z7).bind (fun z10 => lp_X6_nearestOf_17 g_cells g_freeCount g_columns g_lines g_distances r_order x1 x2 FU z10 (1 : Int32)))
theorem ok_X6_nearestOf : OkV yX6_nearestOf cX6_nearestOf 5 (some Jvm.ClassFile.FieldType.int) 2 := ⟨⟨tw_631, tw_8, by decide +kernel, by decide +kernel, by decide +kernel⟩, tw_630, tp_20⟩
set_option maxHeartbeats 4000000 in
set_option maxRecDepth 100000 in
theorem c_X6_nearestOf (l : Launch) (D : va_G) (cy : ClassId × ClassId × ClassId) (H0 : Heap) (aP aG aG_columns aG_lines aG_distances aG_weights aR aR_order aR_places aHr : Nat) (g_cells : Int32) (g_free : Int64) (g_freeCount : Int32) (g_columns : Nat → Int32) (g_lines : Nat → Int32) (g_distances : Nat → Int32) (r_madeBy : Int64) (r_thinned : Int32) (r_filled : Int32) (r_order : Nat → Int32) (x1 : Int32) (x2 : Int32) (r : Int32) (hP : va_P D vwCl [(aG, .inr (0, [.ref aP, .ref aG_columns, .ref aG_lines, .ref aG_distances, .ref aG_weights, .int g_cells, .long g_free, .int g_freeCount])), (aG_columns, .inl (cy.1, 64, .inl g_columns)), (aG_lines, .inl (cy.1, 64, .inl g_lines)), (aG_distances, .inl (cy.1, 64, .inl g_distances)), (aR, .inr (6, [.ref aG, .ref aHr, .ref aR_order, .ref aR_places, .long r_madeBy, .int r_thinned, .int r_filled])), (aR_order, .inl (cy.1, 64, .inl r_order))] H0) (hf : f_X6_nearestOf g_cells g_freeCount g_columns g_lines g_distances r_order x1 x2 = some r) : Rd l yX6_nearestOf cX6_nearestOf 5 (some Jvm.ClassFile.FieldType.int) ({ frames := 2, cells := 0, slots := 0, locals := 43 } : Room) ([.ref aR, .int x1, .int x2] : List Value) (some (.int r)) D cy H0 := by
  refine rd_of (by decide +kernel) (Nat.le_of_ble_eq_true rfl) ?_
  intro p e s m below meth c ls S hr hlocks hk hl
  obtain ⟨hx, hb, hml, hown, hts⟩ := id S
  have hl : lv_has ls 5 [(0, .ref aR), (1, .int x1), (2, .int x2)] := hl
  rw [f_X6_nearestOf] at hf
  have J17 : ∀ (n17 : Nat) (x3 : Int32) (x4 : Int32) (ls : Array Slot), lv_has ls 5 [(0, .ref aR), (1, .int x1), (2, .int x2), (3, .int x3), (4, .int x4)] → lp_X6_nearestOf_17 g_cells g_freeCount g_columns g_lines g_distances r_order x1 x2 n17 x3 x4 = some r → W p l e ({ frames := 2, cells := 0, slots := 0, locals := 43 } : Room) s m ([.ref aR, .int x1, .int x2] : List Value).toArray below meth c H0 [] 0 0 (MQ below (QR (some (.int r)) H0) ([.ref aR, .int x1, .int x2] : List Value).toArray s 0 0 (fun _ => False)) (F0 m 17 ls []) := by
    intro n17
    induction n17 with
    | zero =>
      intro x3 x4 ls hl hf
      rw [lp_X6_nearestOf_17_z] at hf
      cases hf
    | succ n17 ih17 =>
      intro x3 x4 ls hl hf
      rw [lp_X6_nearestOf_17_s] at hf
      refine lv_iload hx hb dX6_nearestOf_17 (lv_at hl 4 rfl) ?_
      refine lv_iload_n hx hb dX6_nearestOf_19 rfl (lv_at hl 2 rfl) ?_
      refine lv_icmp_ge (tgt := 48) hx hb dX6_nearestOf_20 (by decide) (fun hc => ?_) (fun hc => ?_)
      · have hf := q_t hc hf
        refine lv_iload_n hx hb dX6_nearestOf_48 rfl (lv_at hl 3 rfl) ?_
        have hf := Option.some.inj hf
        subst hf
        exact q_riR hx hb hr hlocks dX6_nearestOf_49
      · have hf := q_f hc hf
        refine lv_iload_n hx hb dX6_nearestOf_23 rfl (lv_at hl 3 rfl) ?_
        refine lv_aload_n hx hb dX6_nearestOf_24 rfl (lv_at hl 0 rfl) ?_
        refine va_get (D := D) (ci := 6) (v := .ref aG) (C := RX6) (T := TX6) (N := 7) hx hb hts iX6 hown hk.1 hP 4 rfl rfl 0 (by decide) (hts _ tw_203) (fun _ h9 => h9) rfl dX6_nearestOf_25 ?_
        refine lv_iload_n hx hb dX6_nearestOf_28 rfl (lv_at hl 1 rfl) ?_
        refine lv_aload_n hx hb dX6_nearestOf_29 rfl (lv_at hl 0 rfl) ?_
        refine lv_iload hx hb dX6_nearestOf_30 (lv_at hl 4 rfl) ?_
        obtain ⟨z32, hz32, hf⟩ := q_bind hf
        refine q_rdV (As := [.int x4]) (rest := [.int x1, .ref aG, .int x3]) (st2 := [.int z32, .int x1, .ref aG, .int x3]) S hk (c_X6_cellOf l D cy H0 aP aG aG_columns aG_lines aG_distances aG_weights aR aR_order aR_places aHr g_cells g_free g_freeCount r_madeBy r_thinned r_filled r_order x4 z32 (hP.sub [0, 4, 5] rfl) hz32) ok_X6_cellOf tw_627 ⟨rfl, rfl, Nat.le_of_ble_eq_true rfl, Nat.le_of_ble_eq_true rfl⟩ (va_recv hk.1 hP (ci := 6) (q0 := 4) rfl rfl) rfl hl.1 rfl (Nat.le_of_ble_eq_true rfl) dX6_nearestOf_32 ⟨Nat.zero_le _, Nat.zero_le _⟩ rfl ?_
        obtain ⟨z35, hz35, hf⟩ := q_bind hf
        refine q_rdV (As := [.int x1, .int z32]) (rest := [.int x3]) (st2 := [.int z35, .int x3]) S hk (c_X0_distance l D cy H0 aP aG aG_columns aG_lines aG_distances aG_weights g_cells g_free g_freeCount g_columns g_lines g_distances x1 z32 z35 (hP.sub [0, 1, 2, 3] rfl) hz35) ok_X0_distance tw_632 ⟨rfl, rfl, Nat.le_of_ble_eq_true rfl, Nat.le_of_ble_eq_true rfl⟩ (va_recv hk.1 hP (ci := 0) (q0 := 0) rfl rfl) rfl hl.1 rfl (Nat.le_of_ble_eq_true rfl) dX6_nearestOf_35 ⟨Nat.zero_le _, Nat.zero_le _⟩ rfl ?_
        refine va_mmin hx hb (hml.trans hl.1.symm) hown (hts _ tw_633) (hts _ tw_125) (hts _ tw_5) (hts _ tw_126) (Nat.le_of_ble_eq_true rfl) (Nat.le_of_ble_eq_true rfl) (Nat.zero_le _) (Nat.zero_le _) dX6_nearestOf_38 ?_
        refine lv_istore_n (lv' := [(3, .int (if z35 < x3 then z35 else x3)), (0, .ref aR), (1, .int x1), (2, .int x2), (4, .int x4)]) hx hb dX6_nearestOf_41 rfl hl (by decide) rfl (fun ls hl => ?_)
        refine lv_iinc (v := (x4 + 1)) (lv' := [(4, .int (x4 + 1)), (3, .int (if z35 < x3 then z35 else x3)), (0, .ref aR), (1, .int x1), (2, .int x2)]) hx hb dX6_nearestOf_42 hl (k := 4) rfl rfl (by decide) rfl (fun ls hl => ?_)
        refine lv_goto (tgt := 17) hx hb dX6_nearestOf_45 (by decide) ?_
        exact ih17 (if z35 < x3 then z35 else x3) (x4 + 1) ls (lv_sub hl [2, 3, 4, 1, 0] rfl) hf
  refine lv_aload_n hx hb dX6_nearestOf_0 rfl (lv_at hl 0 rfl) ?_
  refine va_get (D := D) (ci := 6) (v := .ref aG) (C := RX6) (T := TX6) (N := 7) hx hb hts iX6 hown hk.1 hP 4 rfl rfl 0 (by decide) (hts _ tw_203) (fun _ h9 => h9) rfl dX6_nearestOf_1 ?_
  refine lv_iload_n hx hb dX6_nearestOf_4 rfl (lv_at hl 1 rfl) ?_
  refine lv_aload_n hx hb dX6_nearestOf_5 rfl (lv_at hl 0 rfl) ?_
  refine lv_iconst (v := (0 : Int32)) hx hb dX6_nearestOf_6 (by decide) ?_
  obtain ⟨z7, hz7, hf⟩ := q_bind hf
  refine q_rdV (As := [.int (0 : Int32)]) (rest := [.int x1, .ref aG]) (st2 := [.int z7, .int x1, .ref aG]) S hk (c_X6_cellOf l D cy H0 aP aG aG_columns aG_lines aG_distances aG_weights aR aR_order aR_places aHr g_cells g_free g_freeCount r_madeBy r_thinned r_filled r_order (0 : Int32) z7 (hP.sub [0, 4, 5] rfl) hz7) ok_X6_cellOf tw_627 ⟨rfl, rfl, Nat.le_of_ble_eq_true rfl, Nat.le_of_ble_eq_true rfl⟩ (va_recv hk.1 hP (ci := 6) (q0 := 4) rfl rfl) rfl hl.1 rfl (Nat.le_of_ble_eq_true rfl) dX6_nearestOf_7 ⟨Nat.zero_le _, Nat.zero_le _⟩ rfl ?_
  obtain ⟨z10, hz10, hf⟩ := q_bind hf
  refine q_rdV (As := [.int x1, .int z7]) (rest := []) (st2 := [.int z10]) S hk (c_X0_distance l D cy H0 aP aG aG_columns aG_lines aG_distances aG_weights g_cells g_free g_freeCount g_columns g_lines g_distances x1 z7 z10 (hP.sub [0, 1, 2, 3] rfl) hz10) ok_X0_distance tw_632 ⟨rfl, rfl, Nat.le_of_ble_eq_true rfl, Nat.le_of_ble_eq_true rfl⟩ (va_recv hk.1 hP (ci := 0) (q0 := 0) rfl rfl) rfl hl.1 rfl (Nat.le_of_ble_eq_true rfl) dX6_nearestOf_10 ⟨Nat.zero_le _, Nat.zero_le _⟩ rfl ?_
  refine lv_istore_n (lv' := [(3, .int z10), (0, .ref aR), (1, .int x1), (2, .int x2)]) hx hb dX6_nearestOf_13 rfl hl (by decide) rfl (fun ls hl => ?_)
  refine lv_iconst (v := (1 : Int32)) hx hb dX6_nearestOf_14 (by decide) ?_
  refine lv_istore (lv' := [(4, .int (1 : Int32)), (3, .int z10), (0, .ref aR), (1, .int x1), (2, .int x2)]) hx hb dX6_nearestOf_15 hl (by decide) rfl (fun ls hl => ?_)
  exact J17 FU z10 (1 : Int32) ls (lv_sub hl [2, 3, 4, 1, 0] rfl) hf
def lp_X6_gapOf_5 (g_cells : Int32) (g_freeCount : Int32) (g_columns : Nat → Int32) (g_lines : Nat → Int32) (g_distances : Nat → Int32) (r_order : Nat → Int32) (x1 : Int32) : Nat → Int32 → Int32 → Option (Int32)
  | 0, _, _ => none
  | n + 1, x2, x3 => if x1 ≤ x3 then (some x2) else ((f_X6_cellOf g_freeCount r_order x3).bind (fun z13 => (f_X6_nearestOf g_cells g_freeCount g_columns g_lines g_distances r_order z13 x3).bind (fun z17 => if x2 = (-9 : Int32) then (lp_X6_gapOf_5 g_cells g_freeCount g_columns g_lines g_distances r_order x1 n z17 (x3 + 1)) else (if x2 ≤ z17 then (lp_X6_gapOf_5 g_cells g_freeCount g_columns g_lines g_distances r_order x1 n x2 (x3 + 1)) else (lp_X6_gapOf_5 g_cells g_freeCount g_columns g_lines g_distances r_order x1 n z17 (x3 + 1))))))
theorem lp_X6_gapOf_5_s (g_cells : Int32) (g_freeCount : Int32) (g_columns : Nat → Int32) (g_lines : Nat → Int32) (g_distances : Nat → Int32) (r_order : Nat → Int32) (x1 : Int32) (n : Nat) (x2 : Int32) (x3 : Int32) : lp_X6_gapOf_5 g_cells g_freeCount g_columns g_lines g_distances r_order x1 (n + 1) x2 x3 = (if x1 ≤ x3 then (some x2) else ((f_X6_cellOf g_freeCount r_order x3).bind (fun z13 => (f_X6_nearestOf g_cells g_freeCount g_columns g_lines g_distances r_order z13 x3).bind (fun z17 => if x2 = (-9 : Int32) then (lp_X6_gapOf_5 g_cells g_freeCount g_columns g_lines g_distances r_order x1 n z17 (x3 + 1)) else (if x2 ≤ z17 then (lp_X6_gapOf_5 g_cells g_freeCount g_columns g_lines g_distances r_order x1 n x2 (x3 + 1)) else (lp_X6_gapOf_5 g_cells g_freeCount g_columns g_lines g_distances r_order x1 n z17 (x3 + 1))))))) := rfl
theorem lp_X6_gapOf_5_z (g_cells : Int32) (g_freeCount : Int32) (g_columns : Nat → Int32) (g_lines : Nat → Int32) (g_distances : Nat → Int32) (r_order : Nat → Int32) (x1 : Int32) (x2 : Int32) (x3 : Int32) : lp_X6_gapOf_5 g_cells g_freeCount g_columns g_lines g_distances r_order x1 0 x2 x3 = none := rfl
def f_X6_gapOf (g_cells : Int32) (g_freeCount : Int32) (g_columns : Nat → Int32) (g_lines : Nat → Int32) (g_distances : Nat → Int32) (r_order : Nat → Int32) (x1 : Int32) : Option (Int32) := lp_X6_gapOf_5 g_cells g_freeCount g_columns g_lines g_distances r_order x1 FU (-9 : Int32) (1 : Int32)
theorem ok_X6_gapOf : OkV yX6_gapOf cX6_gapOf 5 (some Jvm.ClassFile.FieldType.int) 1 := ⟨⟨tw_626, tw_8, by decide +kernel, by decide +kernel, by decide +kernel⟩, tw_624, tw_625⟩
set_option maxHeartbeats 4000000 in
set_option maxRecDepth 100000 in
theorem c_X6_gapOf (l : Launch) (D : va_G) (cy : ClassId × ClassId × ClassId) (H0 : Heap) (aP aG aG_columns aG_lines aG_distances aG_weights aR aR_order aR_places aHr : Nat) (g_cells : Int32) (g_free : Int64) (g_freeCount : Int32) (g_columns : Nat → Int32) (g_lines : Nat → Int32) (g_distances : Nat → Int32) (r_madeBy : Int64) (r_thinned : Int32) (r_filled : Int32) (r_order : Nat → Int32) (x1 : Int32) (r : Int32) (hP : va_P D vwCl [(aG, .inr (0, [.ref aP, .ref aG_columns, .ref aG_lines, .ref aG_distances, .ref aG_weights, .int g_cells, .long g_free, .int g_freeCount])), (aG_columns, .inl (cy.1, 64, .inl g_columns)), (aG_lines, .inl (cy.1, 64, .inl g_lines)), (aG_distances, .inl (cy.1, 64, .inl g_distances)), (aR, .inr (6, [.ref aG, .ref aHr, .ref aR_order, .ref aR_places, .long r_madeBy, .int r_thinned, .int r_filled])), (aR_order, .inl (cy.1, 64, .inl r_order))] H0) (hf : f_X6_gapOf g_cells g_freeCount g_columns g_lines g_distances r_order x1 = some r) : Rd l yX6_gapOf cX6_gapOf 5 (some Jvm.ClassFile.FieldType.int) ({ frames := 3, cells := 0, slots := 0, locals := 67 } : Room) ([.ref aR, .int x1] : List Value) (some (.int r)) D cy H0 := by
  refine rd_of (by decide +kernel) (Nat.le_of_ble_eq_true rfl) ?_
  intro p e s m below meth c ls S hr hlocks hk hl
  obtain ⟨hx, hb, hml, hown, hts⟩ := id S
  have hl : lv_has ls 5 [(0, .ref aR), (1, .int x1)] := hl
  rw [f_X6_gapOf] at hf
  have J5 : ∀ (n5 : Nat) (x2 : Int32) (x3 : Int32) (ls : Array Slot), lv_has ls 5 [(0, .ref aR), (1, .int x1), (2, .int x2), (3, .int x3)] → lp_X6_gapOf_5 g_cells g_freeCount g_columns g_lines g_distances r_order x1 n5 x2 x3 = some r → W p l e ({ frames := 3, cells := 0, slots := 0, locals := 67 } : Room) s m ([.ref aR, .int x1] : List Value).toArray below meth c H0 [] 0 0 (MQ below (QR (some (.int r)) H0) ([.ref aR, .int x1] : List Value).toArray s 0 0 (fun _ => False)) (F0 m 5 ls []) := by
    intro n5
    induction n5 with
    | zero =>
      intro x2 x3 ls hl hf
      rw [lp_X6_gapOf_5_z] at hf
      cases hf
    | succ n5 ih5 =>
      intro x2 x3 ls hl hf
      rw [lp_X6_gapOf_5_s] at hf
      refine lv_iload_n hx hb dX6_gapOf_5 rfl (lv_at hl 3 rfl) ?_
      refine lv_iload_n hx hb dX6_gapOf_6 rfl (lv_at hl 1 rfl) ?_
      refine lv_icmp_ge (tgt := 43) hx hb dX6_gapOf_7 (by decide) (fun hc => ?_) (fun hc => ?_)
      · have hf := q_t hc hf
        refine lv_iload_n hx hb dX6_gapOf_43 rfl (lv_at hl 2 rfl) ?_
        have hf := Option.some.inj hf
        subst hf
        exact q_riR hx hb hr hlocks dX6_gapOf_44
      · have hf := q_f hc hf
        refine lv_aload_n hx hb dX6_gapOf_10 rfl (lv_at hl 0 rfl) ?_
        refine lv_aload_n hx hb dX6_gapOf_11 rfl (lv_at hl 0 rfl) ?_
        refine lv_iload_n hx hb dX6_gapOf_12 rfl (lv_at hl 3 rfl) ?_
        obtain ⟨z13, hz13, hf⟩ := q_bind hf
        refine q_rdV (As := [.int x3]) (rest := [.ref aR]) (st2 := [.int z13, .ref aR]) S hk (c_X6_cellOf l D cy H0 aP aG aG_columns aG_lines aG_distances aG_weights aR aR_order aR_places aHr g_cells g_free g_freeCount r_madeBy r_thinned r_filled r_order x3 z13 (hP.sub [0, 4, 5] rfl) hz13) ok_X6_cellOf tw_627 ⟨rfl, rfl, Nat.le_of_ble_eq_true rfl, Nat.le_of_ble_eq_true rfl⟩ (va_recv hk.1 hP (ci := 6) (q0 := 4) rfl rfl) rfl hl.1 rfl (Nat.le_of_ble_eq_true rfl) dX6_gapOf_13 ⟨Nat.zero_le _, Nat.zero_le _⟩ rfl ?_
        refine lv_iload_n hx hb dX6_gapOf_16 rfl (lv_at hl 3 rfl) ?_
        obtain ⟨z17, hz17, hf⟩ := q_bind hf
        refine q_rdV (As := [.int z13, .int x3]) (rest := []) (st2 := [.int z17]) S hk (c_X6_nearestOf l D cy H0 aP aG aG_columns aG_lines aG_distances aG_weights aR aR_order aR_places aHr g_cells g_free g_freeCount g_columns g_lines g_distances r_madeBy r_thinned r_filled r_order z13 x3 z17 (hP.sub [0, 1, 2, 3, 4, 5] rfl) hz17) ok_X6_nearestOf tw_628 ⟨rfl, rfl, Nat.le_of_ble_eq_true rfl, Nat.le_of_ble_eq_true rfl⟩ (va_recv hk.1 hP (ci := 6) (q0 := 4) rfl rfl) rfl hl.1 rfl (Nat.le_of_ble_eq_true rfl) dX6_gapOf_17 ⟨Nat.zero_le _, Nat.zero_le _⟩ rfl ?_
        refine lv_istore (lv' := [(4, .int z17), (0, .ref aR), (1, .int x1), (2, .int x2), (3, .int x3)]) hx hb dX6_gapOf_20 hl (by decide) rfl (fun ls hl => ?_)
        refine lv_iload_n hx hb dX6_gapOf_22 rfl (lv_at hl 3 rfl) ?_
        refine lv_bipush (v := (-9 : Int32)) hx hb dX6_gapOf_23 (by decide) ?_
        refine lv_icmp_eq (tgt := 34) hx hb dX6_gapOf_25 (by decide) (fun hc => ?_) (fun hc => ?_)
        · have hf := q_t hc hf
          refine lv_iload hx hb dX6_gapOf_34 (lv_at hl 0 rfl) ?_
          refine lv_istore_n (lv' := [(2, .int z17), (4, .int z17), (0, .ref aR), (1, .int x1), (3, .int x3)]) hx hb dX6_gapOf_36 rfl hl (by decide) rfl (fun ls hl => ?_)
          refine lv_iinc (v := (x3 + 1)) (lv' := [(3, .int (x3 + 1)), (2, .int z17), (4, .int z17), (0, .ref aR), (1, .int x1)]) hx hb dX6_gapOf_37 hl (k := 4) rfl rfl (by decide) rfl (fun ls hl => ?_)
          refine lv_goto (tgt := 5) hx hb dX6_gapOf_40 (by decide) ?_
          exact ih5 z17 (x3 + 1) ls (lv_sub hl [3, 4, 1, 0] rfl) hf
        · have hf := q_f hc hf
          refine lv_iload hx hb dX6_gapOf_28 (lv_at hl 0 rfl) ?_
          refine lv_iload_n hx hb dX6_gapOf_30 rfl (lv_at hl 3 rfl) ?_
          refine lv_icmp_ge (tgt := 37) hx hb dX6_gapOf_31 (by decide) (fun hc => ?_) (fun hc => ?_)
          · have hf := q_t hc hf
            refine lv_iinc (v := (x3 + 1)) (lv' := [(3, .int (x3 + 1)), (4, .int z17), (0, .ref aR), (1, .int x1), (2, .int x2)]) hx hb dX6_gapOf_37 hl (k := 4) rfl rfl (by decide) rfl (fun ls hl => ?_)
            refine lv_goto (tgt := 5) hx hb dX6_gapOf_40 (by decide) ?_
            exact ih5 x2 (x3 + 1) ls (lv_sub hl [2, 3, 4, 0] rfl) hf
          · have hf := q_f hc hf
            refine lv_iload hx hb dX6_gapOf_34 (lv_at hl 0 rfl) ?_
            refine lv_istore_n (lv' := [(2, .int z17), (4, .int z17), (0, .ref aR), (1, .int x1), (3, .int x3)]) hx hb dX6_gapOf_36 rfl hl (by decide) rfl (fun ls hl => ?_)
            refine lv_iinc (v := (x3 + 1)) (lv' := [(3, .int (x3 + 1)), (2, .int z17), (4, .int z17), (0, .ref aR), (1, .int x1)]) hx hb dX6_gapOf_37 hl (k := 4) rfl rfl (by decide) rfl (fun ls hl => ?_)
            refine lv_goto (tgt := 5) hx hb dX6_gapOf_40 (by decide) ?_
            exact ih5 z17 (x3 + 1) ls (lv_sub hl [3, 4, 1, 0] rfl) hf
  refine lv_bipush (v := (-9 : Int32)) hx hb dX6_gapOf_0 (by decide) ?_
  refine lv_istore_n (lv' := [(2, .int (-9 : Int32)), (0, .ref aR), (1, .int x1)]) hx hb dX6_gapOf_2 rfl hl (by decide) rfl (fun ls hl => ?_)
  refine lv_iconst (v := (1 : Int32)) hx hb dX6_gapOf_3 (by decide) ?_
  refine lv_istore_n (lv' := [(3, .int (1 : Int32)), (2, .int (-9 : Int32)), (0, .ref aR), (1, .int x1)]) hx hb dX6_gapOf_4 rfl hl (by decide) rfl (fun ls hl => ?_)
  exact J5 FU (-9 : Int32) (1 : Int32) ls (lv_sub hl [2, 3, 1, 0] rfl) hf
def lp_X6_holeOf_12 (g_cells : Int32) (g_free : Int64) (g_freeCount : Int32) (g_columns : Nat → Int32) (g_lines : Nat → Int32) (g_distances : Nat → Int32) (r_order : Nat → Int32) (x1 : Int32) : Nat → Int32 → Int32 → Option (Int32)
  | 0, _, _ => none
  | n + 1, x2, x3 => if g_cells ≤ x3 then (some x2) else ((f_X9_has g_free x3).bind (fun z31 => if z31 = 0 then (lp_X6_holeOf_12 g_cells g_free g_freeCount g_columns g_lines g_distances r_order x1 n x2 (x3 + 1)) else ((f_X6_nearestOf g_cells g_freeCount g_columns g_lines g_distances r_order x3 x1).bind (fun z41 => lp_X6_holeOf_12 g_cells g_free g_freeCount g_columns g_lines g_distances r_order x1 n (if x2 < z41 then z41 else x2) (x3 + 1)))))
theorem lp_X6_holeOf_12_s (g_cells : Int32) (g_free : Int64) (g_freeCount : Int32) (g_columns : Nat → Int32) (g_lines : Nat → Int32) (g_distances : Nat → Int32) (r_order : Nat → Int32) (x1 : Int32) (n : Nat) (x2 : Int32) (x3 : Int32) : lp_X6_holeOf_12 g_cells g_free g_freeCount g_columns g_lines g_distances r_order x1 (n + 1) x2 x3 = (if g_cells ≤ x3 then (some x2) else ((f_X9_has g_free x3).bind (fun z31 => if z31 = 0 then (lp_X6_holeOf_12 g_cells g_free g_freeCount g_columns g_lines g_distances r_order x1 n x2 (x3 + 1)) else ((f_X6_nearestOf g_cells g_freeCount g_columns g_lines g_distances r_order x3 x1).bind (fun z41 => lp_X6_holeOf_12 g_cells g_free g_freeCount g_columns g_lines g_distances r_order x1 n (if x2 < z41 then z41 else x2) (x3 + 1)))))) := rfl
theorem lp_X6_holeOf_12_z (g_cells : Int32) (g_free : Int64) (g_freeCount : Int32) (g_columns : Nat → Int32) (g_lines : Nat → Int32) (g_distances : Nat → Int32) (r_order : Nat → Int32) (x1 : Int32) (x2 : Int32) (x3 : Int32) : lp_X6_holeOf_12 g_cells g_free g_freeCount g_columns g_lines g_distances r_order x1 0 x2 x3 = none := rfl
def f_X6_holeOf (g_cells : Int32) (g_free : Int64) (g_freeCount : Int32) (g_columns : Nat → Int32) (g_lines : Nat → Int32) (g_distances : Nat → Int32) (r_order : Nat → Int32) (x1 : Int32) : Option (Int32) := if (1 : Int32) ≤ x1 then (lp_X6_holeOf_12 g_cells g_free g_freeCount g_columns g_lines g_distances r_order x1 FU (0 : Int32) (0 : Int32)) else (some (-9 : Int32))
theorem ok_X6_holeOf : OkV yX6_holeOf cX6_holeOf 4 (some Jvm.ClassFile.FieldType.int) 1 := ⟨⟨tw_637, tw_8, by decide +kernel, by decide +kernel, by decide +kernel⟩, tw_635, tw_636⟩
set_option maxHeartbeats 4000000 in
set_option maxRecDepth 100000 in
theorem c_X6_holeOf (l : Launch) (D : va_G) (cy : ClassId × ClassId × ClassId) (H0 : Heap) (aP aG aG_columns aG_lines aG_distances aG_weights aR aR_order aR_places aHr : Nat) (g_cells : Int32) (g_free : Int64) (g_freeCount : Int32) (g_columns : Nat → Int32) (g_lines : Nat → Int32) (g_distances : Nat → Int32) (r_madeBy : Int64) (r_thinned : Int32) (r_filled : Int32) (r_order : Nat → Int32) (x1 : Int32) (r : Int32) (hP : va_P D vwCl [(aG, .inr (0, [.ref aP, .ref aG_columns, .ref aG_lines, .ref aG_distances, .ref aG_weights, .int g_cells, .long g_free, .int g_freeCount])), (aG_columns, .inl (cy.1, 64, .inl g_columns)), (aG_lines, .inl (cy.1, 64, .inl g_lines)), (aG_distances, .inl (cy.1, 64, .inl g_distances)), (aR, .inr (6, [.ref aG, .ref aHr, .ref aR_order, .ref aR_places, .long r_madeBy, .int r_thinned, .int r_filled])), (aR_order, .inl (cy.1, 64, .inl r_order))] H0) (hf : f_X6_holeOf g_cells g_free g_freeCount g_columns g_lines g_distances r_order x1 = some r) : Rd l yX6_holeOf cX6_holeOf 4 (some Jvm.ClassFile.FieldType.int) ({ frames := 3, cells := 0, slots := 0, locals := 67 } : Room) ([.ref aR, .int x1] : List Value) (some (.int r)) D cy H0 := by
  refine rd_of (by decide +kernel) (Nat.le_of_ble_eq_true rfl) ?_
  intro p e s m below meth c ls S hr hlocks hk hl
  obtain ⟨hx, hb, hml, hown, hts⟩ := id S
  have hl : lv_has ls 4 [(0, .ref aR), (1, .int x1)] := hl
  rw [f_X6_holeOf] at hf
  have J12 : ∀ (n12 : Nat) (x2 : Int32) (x3 : Int32) (ls : Array Slot), lv_has ls 4 [(0, .ref aR), (1, .int x1), (2, .int x2), (3, .int x3)] → lp_X6_holeOf_12 g_cells g_free g_freeCount g_columns g_lines g_distances r_order x1 n12 x2 x3 = some r → W p l e ({ frames := 3, cells := 0, slots := 0, locals := 67 } : Room) s m ([.ref aR, .int x1] : List Value).toArray below meth c H0 [] 0 0 (MQ below (QR (some (.int r)) H0) ([.ref aR, .int x1] : List Value).toArray s 0 0 (fun _ => False)) (F0 m 12 ls []) := by
    intro n12
    induction n12 with
    | zero =>
      intro x2 x3 ls hl hf
      rw [lp_X6_holeOf_12_z] at hf
      cases hf
    | succ n12 ih12 =>
      intro x2 x3 ls hl hf
      rw [lp_X6_holeOf_12_s] at hf
      refine lv_iload_n hx hb dX6_holeOf_12 rfl (lv_at hl 3 rfl) ?_
      refine lv_aload_n hx hb dX6_holeOf_13 rfl (lv_at hl 0 rfl) ?_
      refine va_get (D := D) (ci := 6) (v := .ref aG) (C := RX6) (T := TX6) (N := 7) hx hb hts iX6 hown hk.1 hP 4 rfl rfl 0 (by decide) (hts _ tw_203) (fun _ h9 => h9) rfl dX6_holeOf_14 ?_
      refine va_get (D := D) (ci := 0) (v := .int g_cells) (C := RX0) (T := TX0) (N := 8) hx hb hts iX0 hown hk.1 hP 0 rfl rfl 5 (by decide) (hts _ tw_149) (fun _ h9 => h9) rfl dX6_holeOf_17 ?_
      refine lv_icmp_ge (tgt := 54) hx hb dX6_holeOf_20 (by decide) (fun hc => ?_) (fun hc => ?_)
      · have hf := q_t hc hf
        refine lv_iload_n hx hb dX6_holeOf_54 rfl (lv_at hl 2 rfl) ?_
        have hf := Option.some.inj hf
        subst hf
        exact q_riR hx hb hr hlocks dX6_holeOf_55
      · have hf := q_f hc hf
        refine lv_aload_n hx hb dX6_holeOf_23 rfl (lv_at hl 0 rfl) ?_
        refine va_get (D := D) (ci := 6) (v := .ref aG) (C := RX6) (T := TX6) (N := 7) hx hb hts iX6 hown hk.1 hP 4 rfl rfl 0 (by decide) (hts _ tw_203) (fun _ h9 => h9) rfl dX6_holeOf_24 ?_
        refine va_get (D := D) (ci := 0) (v := .long g_free) (C := RX0) (T := TX0) (N := 8) hx hb hts iX0 hown hk.1 hP 0 rfl rfl 6 (by decide) (hts _ tw_152) (fun _ h9 => h9) rfl dX6_holeOf_27 ?_
        refine lv_iload_n hx hb dX6_holeOf_30 rfl (lv_at hl 3 rfl) ?_
        obtain ⟨z31, hz31, hf⟩ := q_bind hf
        refine q_rdN (As := [.long g_free, .int x3]) (rest := []) (st2 := [.int z31]) S hk (c_X9_has l D cy H0 g_free x3 z31 hz31) ok_X9_has hk.2.2.2.2.2.1 ⟨rfl, rfl, Nat.le_of_ble_eq_true rfl, Nat.le_of_ble_eq_true rfl⟩ rfl hl.1 rfl (Nat.le_of_ble_eq_true rfl) dX6_holeOf_31 ⟨Nat.zero_le _, Nat.zero_le _⟩ rfl ?_
        refine lv_if_eq (tgt := 48) hx hb dX6_holeOf_34 (by decide) (fun hc => ?_) (fun hc => ?_)
        · have hf := q_t hc hf
          refine lv_iinc (v := (x3 + 1)) (lv' := [(3, .int (x3 + 1)), (0, .ref aR), (1, .int x1), (2, .int x2)]) hx hb dX6_holeOf_48 hl (k := 3) rfl rfl (by decide) rfl (fun ls hl => ?_)
          refine lv_goto (tgt := 12) hx hb dX6_holeOf_51 (by decide) ?_
          exact ih12 x2 (x3 + 1) ls (lv_sub hl [1, 2, 3, 0] rfl) hf
        · have hf := q_f hc hf
          refine lv_iload_n hx hb dX6_holeOf_37 rfl (lv_at hl 2 rfl) ?_
          refine lv_aload_n hx hb dX6_holeOf_38 rfl (lv_at hl 0 rfl) ?_
          refine lv_iload_n hx hb dX6_holeOf_39 rfl (lv_at hl 3 rfl) ?_
          refine lv_iload_n hx hb dX6_holeOf_40 rfl (lv_at hl 1 rfl) ?_
          obtain ⟨z41, hz41, hf⟩ := q_bind hf
          refine q_rdV (As := [.int x3, .int x1]) (rest := [.int x2]) (st2 := [.int z41, .int x2]) S hk (c_X6_nearestOf l D cy H0 aP aG aG_columns aG_lines aG_distances aG_weights aR aR_order aR_places aHr g_cells g_free g_freeCount g_columns g_lines g_distances r_madeBy r_thinned r_filled r_order x3 x1 z41 (hP.sub [0, 1, 2, 3, 4, 5] rfl) hz41) ok_X6_nearestOf tw_628 ⟨rfl, rfl, Nat.le_of_ble_eq_true rfl, Nat.le_of_ble_eq_true rfl⟩ (va_recv hk.1 hP (ci := 6) (q0 := 4) rfl rfl) rfl hl.1 rfl (Nat.le_of_ble_eq_true rfl) dX6_holeOf_41 ⟨Nat.zero_le _, Nat.zero_le _⟩ rfl ?_
          refine va_mmax hx hb (hml.trans hl.1.symm) hown (hts _ tw_591) (hts _ tw_132) (hts _ tw_5) (hts _ tw_133) (Nat.le_of_ble_eq_true rfl) (Nat.le_of_ble_eq_true rfl) (Nat.zero_le _) (Nat.zero_le _) dX6_holeOf_44 ?_
          refine lv_istore_n (lv' := [(2, .int (if x2 < z41 then z41 else x2)), (0, .ref aR), (1, .int x1), (3, .int x3)]) hx hb dX6_holeOf_47 rfl hl (by decide) rfl (fun ls hl => ?_)
          refine lv_iinc (v := (x3 + 1)) (lv' := [(3, .int (x3 + 1)), (2, .int (if x2 < z41 then z41 else x2)), (0, .ref aR), (1, .int x1)]) hx hb dX6_holeOf_48 hl (k := 3) rfl rfl (by decide) rfl (fun ls hl => ?_)
          refine lv_goto (tgt := 12) hx hb dX6_holeOf_51 (by decide) ?_
          exact ih12 (if x2 < z41 then z41 else x2) (x3 + 1) ls (lv_sub hl [2, 3, 1, 0] rfl) hf
  refine lv_iload_n hx hb dX6_holeOf_0 rfl (lv_at hl 1 rfl) ?_
  refine lv_iconst (v := (1 : Int32)) hx hb dX6_holeOf_1 (by decide) ?_
  refine lv_icmp_ge (tgt := 8) hx hb dX6_holeOf_2 (by decide) (fun hc => ?_) (fun hc => ?_)
  · have hf := q_t hc hf
    refine lv_iconst (v := (0 : Int32)) hx hb dX6_holeOf_8 (by decide) ?_
    refine lv_istore_n (lv' := [(2, .int (0 : Int32)), (0, .ref aR), (1, .int x1)]) hx hb dX6_holeOf_9 rfl hl (by decide) rfl (fun ls hl => ?_)
    refine lv_iconst (v := (0 : Int32)) hx hb dX6_holeOf_10 (by decide) ?_
    refine lv_istore_n (lv' := [(3, .int (0 : Int32)), (2, .int (0 : Int32)), (0, .ref aR), (1, .int x1)]) hx hb dX6_holeOf_11 rfl hl (by decide) rfl (fun ls hl => ?_)
    exact J12 FU (0 : Int32) (0 : Int32) ls (lv_sub hl [2, 3, 1, 0] rfl) hf
  · have hf := q_f hc hf
    refine lv_bipush (v := (-9 : Int32)) hx hb dX6_holeOf_5 (by decide) ?_
    have hf := Option.some.inj hf
    subst hf
    exact q_riR hx hb hr hlocks dX6_holeOf_7
def lp_X6_finestOf_2 (g_cells : Int32) (g_freeCount : Int32) (g_columns : Nat → Int32) (g_lines : Nat → Int32) (g_distances : Nat → Int32) (r_order : Nat → Int32) (x1 : Int32) : Nat → Int32 → Option (Int32)
  | 0, _ => none
  | n + 1, x2 => if g_freeCount ≤ x2 then (some g_freeCount) else ((f_X6_cellOf g_freeCount r_order x2).bind (fun z16 => (f_X6_nearestOf g_cells g_freeCount g_columns g_lines g_distances r_order z16 x2).bind (fun z20 => if x1 ≤ z20 then (lp_X6_finestOf_2 g_cells g_freeCount g_columns g_lines g_distances r_order x1 n (x2 + 1)) else (some x2))))
theorem lp_X6_finestOf_2_s (g_cells : Int32) (g_freeCount : Int32) (g_columns : Nat → Int32) (g_lines : Nat → Int32) (g_distances : Nat → Int32) (r_order : Nat → Int32) (x1 : Int32) (n : Nat) (x2 : Int32) : lp_X6_finestOf_2 g_cells g_freeCount g_columns g_lines g_distances r_order x1 (n + 1) x2 = (if g_freeCount ≤ x2 then (some g_freeCount) else ((f_X6_cellOf g_freeCount r_order x2).bind (fun z16 => (f_X6_nearestOf g_cells g_freeCount g_columns g_lines g_distances r_order z16 x2).bind (fun z20 => if x1 ≤ z20 then (lp_X6_finestOf_2 g_cells g_freeCount g_columns g_lines g_distances r_order x1 n (x2 + 1)) else (some x2))))) := rfl
theorem lp_X6_finestOf_2_z (g_cells : Int32) (g_freeCount : Int32) (g_columns : Nat → Int32) (g_lines : Nat → Int32) (g_distances : Nat → Int32) (r_order : Nat → Int32) (x1 : Int32) (x2 : Int32) : lp_X6_finestOf_2 g_cells g_freeCount g_columns g_lines g_distances r_order x1 0 x2 = none := rfl
def f_X6_finestOf (g_cells : Int32) (g_freeCount : Int32) (g_columns : Nat → Int32) (g_lines : Nat → Int32) (g_distances : Nat → Int32) (r_order : Nat → Int32) (x1 : Int32) : Option (Int32) := lp_X6_finestOf_2 g_cells g_freeCount g_columns g_lines g_distances r_order x1 FU (1 : Int32)
theorem ok_X6_finestOf : OkV yX6_finestOf cX6_finestOf 3 (some Jvm.ClassFile.FieldType.int) 1 := ⟨⟨tw_646, tw_8, by decide +kernel, by decide +kernel, by decide +kernel⟩, tw_644, tw_645⟩
set_option maxHeartbeats 4000000 in
set_option maxRecDepth 100000 in
theorem c_X6_finestOf (l : Launch) (D : va_G) (cy : ClassId × ClassId × ClassId) (H0 : Heap) (aP aG aG_columns aG_lines aG_distances aG_weights aR aR_order aR_places aHr : Nat) (g_cells : Int32) (g_free : Int64) (g_freeCount : Int32) (g_columns : Nat → Int32) (g_lines : Nat → Int32) (g_distances : Nat → Int32) (r_madeBy : Int64) (r_thinned : Int32) (r_filled : Int32) (r_order : Nat → Int32) (x1 : Int32) (r : Int32) (hP : va_P D vwCl [(aG, .inr (0, [.ref aP, .ref aG_columns, .ref aG_lines, .ref aG_distances, .ref aG_weights, .int g_cells, .long g_free, .int g_freeCount])), (aG_columns, .inl (cy.1, 64, .inl g_columns)), (aG_lines, .inl (cy.1, 64, .inl g_lines)), (aG_distances, .inl (cy.1, 64, .inl g_distances)), (aR, .inr (6, [.ref aG, .ref aHr, .ref aR_order, .ref aR_places, .long r_madeBy, .int r_thinned, .int r_filled])), (aR_order, .inl (cy.1, 64, .inl r_order))] H0) (hf : f_X6_finestOf g_cells g_freeCount g_columns g_lines g_distances r_order x1 = some r) : Rd l yX6_finestOf cX6_finestOf 3 (some Jvm.ClassFile.FieldType.int) ({ frames := 3, cells := 0, slots := 0, locals := 67 } : Room) ([.ref aR, .int x1] : List Value) (some (.int r)) D cy H0 := by
  refine rd_of (by decide +kernel) (Nat.le_of_ble_eq_true rfl) ?_
  intro p e s m below meth c ls S hr hlocks hk hl
  obtain ⟨hx, hb, hml, hown, hts⟩ := id S
  have hl : lv_has ls 3 [(0, .ref aR), (1, .int x1)] := hl
  rw [f_X6_finestOf] at hf
  have J2 : ∀ (n2 : Nat) (x2 : Int32) (ls : Array Slot), lv_has ls 3 [(0, .ref aR), (1, .int x1), (2, .int x2)] → lp_X6_finestOf_2 g_cells g_freeCount g_columns g_lines g_distances r_order x1 n2 x2 = some r → W p l e ({ frames := 3, cells := 0, slots := 0, locals := 67 } : Room) s m ([.ref aR, .int x1] : List Value).toArray below meth c H0 [] 0 0 (MQ below (QR (some (.int r)) H0) ([.ref aR, .int x1] : List Value).toArray s 0 0 (fun _ => False)) (F0 m 2 ls []) := by
    intro n2
    induction n2 with
    | zero =>
      intro x2 ls hl hf
      rw [lp_X6_finestOf_2_z] at hf
      cases hf
    | succ n2 ih2 =>
      intro x2 ls hl hf
      rw [lp_X6_finestOf_2_s] at hf
      refine lv_iload_n hx hb dX6_finestOf_2 rfl (lv_at hl 2 rfl) ?_
      refine lv_aload_n hx hb dX6_finestOf_3 rfl (lv_at hl 0 rfl) ?_
      refine va_get (D := D) (ci := 6) (v := .ref aG) (C := RX6) (T := TX6) (N := 7) hx hb hts iX6 hown hk.1 hP 4 rfl rfl 0 (by decide) (hts _ tw_203) (fun _ h9 => h9) rfl dX6_finestOf_4 ?_
      refine va_get (D := D) (ci := 0) (v := .int g_freeCount) (C := RX0) (T := TX0) (N := 8) hx hb hts iX0 hown hk.1 hP 0 rfl rfl 7 (by decide) (hts _ tw_158) (fun _ h9 => h9) rfl dX6_finestOf_7 ?_
      refine lv_icmp_ge (tgt := 35) hx hb dX6_finestOf_10 (by decide) (fun hc => ?_) (fun hc => ?_)
      · have hf := q_t hc hf
        refine lv_aload_n hx hb dX6_finestOf_35 rfl (lv_at hl 0 rfl) ?_
        refine va_get (D := D) (ci := 6) (v := .ref aG) (C := RX6) (T := TX6) (N := 7) hx hb hts iX6 hown hk.1 hP 4 rfl rfl 0 (by decide) (hts _ tw_203) (fun _ h9 => h9) rfl dX6_finestOf_36 ?_
        refine va_get (D := D) (ci := 0) (v := .int g_freeCount) (C := RX0) (T := TX0) (N := 8) hx hb hts iX0 hown hk.1 hP 0 rfl rfl 7 (by decide) (hts _ tw_158) (fun _ h9 => h9) rfl dX6_finestOf_39 ?_
        have hf := Option.some.inj hf
        subst hf
        exact q_riR hx hb hr hlocks dX6_finestOf_42
      · have hf := q_f hc hf
        refine lv_aload_n hx hb dX6_finestOf_13 rfl (lv_at hl 0 rfl) ?_
        refine lv_aload_n hx hb dX6_finestOf_14 rfl (lv_at hl 0 rfl) ?_
        refine lv_iload_n hx hb dX6_finestOf_15 rfl (lv_at hl 2 rfl) ?_
        obtain ⟨z16, hz16, hf⟩ := q_bind hf
        refine q_rdV (As := [.int x2]) (rest := [.ref aR]) (st2 := [.int z16, .ref aR]) S hk (c_X6_cellOf l D cy H0 aP aG aG_columns aG_lines aG_distances aG_weights aR aR_order aR_places aHr g_cells g_free g_freeCount r_madeBy r_thinned r_filled r_order x2 z16 (hP.sub [0, 4, 5] rfl) hz16) ok_X6_cellOf tw_627 ⟨rfl, rfl, Nat.le_of_ble_eq_true rfl, Nat.le_of_ble_eq_true rfl⟩ (va_recv hk.1 hP (ci := 6) (q0 := 4) rfl rfl) rfl hl.1 rfl (Nat.le_of_ble_eq_true rfl) dX6_finestOf_16 ⟨Nat.zero_le _, Nat.zero_le _⟩ rfl ?_
        refine lv_iload_n hx hb dX6_finestOf_19 rfl (lv_at hl 2 rfl) ?_
        obtain ⟨z20, hz20, hf⟩ := q_bind hf
        refine q_rdV (As := [.int z16, .int x2]) (rest := []) (st2 := [.int z20]) S hk (c_X6_nearestOf l D cy H0 aP aG aG_columns aG_lines aG_distances aG_weights aR aR_order aR_places aHr g_cells g_free g_freeCount g_columns g_lines g_distances r_madeBy r_thinned r_filled r_order z16 x2 z20 (hP.sub [0, 1, 2, 3, 4, 5] rfl) hz20) ok_X6_nearestOf tw_628 ⟨rfl, rfl, Nat.le_of_ble_eq_true rfl, Nat.le_of_ble_eq_true rfl⟩ (va_recv hk.1 hP (ci := 6) (q0 := 4) rfl rfl) rfl hl.1 rfl (Nat.le_of_ble_eq_true rfl) dX6_finestOf_20 ⟨Nat.zero_le _, Nat.zero_le _⟩ rfl ?_
        refine lv_iload_n hx hb dX6_finestOf_23 rfl (lv_at hl 1 rfl) ?_
        refine lv_icmp_ge (tgt := 29) hx hb dX6_finestOf_24 (by decide) (fun hc => ?_) (fun hc => ?_)
        · have hf := q_t hc hf
          refine lv_iinc (v := (x2 + 1)) (lv' := [(2, .int (x2 + 1)), (0, .ref aR), (1, .int x1)]) hx hb dX6_finestOf_29 hl (k := 2) rfl rfl (by decide) rfl (fun ls hl => ?_)
          refine lv_goto (tgt := 2) hx hb dX6_finestOf_32 (by decide) ?_
          exact ih2 (x2 + 1) ls (lv_sub hl [1, 2, 0] rfl) hf
        · have hf := q_f hc hf
          refine lv_iload_n hx hb dX6_finestOf_27 rfl (lv_at hl 2 rfl) ?_
          have hf := Option.some.inj hf
          subst hf
          exact q_riR hx hb hr hlocks dX6_finestOf_28
  refine lv_iconst (v := (1 : Int32)) hx hb dX6_finestOf_0 (by decide) ?_
  refine lv_istore_n (lv' := [(2, .int (1 : Int32)), (0, .ref aR), (1, .int x1)]) hx hb dX6_finestOf_1 rfl hl (by decide) rfl (fun ls hl => ?_)
  exact J2 FU (1 : Int32) ls (lv_sub hl [1, 2, 0] rfl) hf
def f_X4_become (pi_base : Int32) (pi_dx : Int32) (pi_dy : Int32) (x1 : Int32) (x2 : Int32) (x3 : Int32) : Option (Int32 × Int32 × Int32) := some (x1, x2, x3)
theorem ok_X4_become : OkV yX4_become cX4_become 4 none 3 := ⟨⟨tw_434, tw_9, by decide +kernel, by decide +kernel, by decide +kernel⟩, tw_432, tw_433⟩
set_option maxHeartbeats 4000000 in
set_option maxRecDepth 100000 in
theorem c_X4_become (l : Launch) (D : va_G) (cy : ClassId × ClassId × ClassId) (H0 : Heap) (aG aR aPi : Nat) (pi_base : Int32) (pi_dx : Int32) (pi_dy : Int32) (x1 : Int32) (x2 : Int32) (x3 : Int32) (r : Int32 × Int32 × Int32) (hP : va_P D vwCl [(aPi, .inr (4, [.ref aG, .ref aR, .int pi_base, .int pi_dx, .int pi_dy]))] H0) (hD0 : va_D (fun _ => True) [(aPi, .inr (4, [.ref aG, .ref aR, .int pi_base, .int pi_dx, .int pi_dy]))]) (hf : f_X4_become pi_base pi_dx pi_dy x1 x2 x3 = some r) : Wr l yX4_become cX4_become 4 none ({ frames := 0, cells := 0, slots := 0, locals := 0 } : Room) ([.ref aPi, .int x1, .int x2, .int x3] : List Value) none D cy H0 [(aPi, .inr (4, [.ref aG, .ref aR, .int pi_base, .int pi_dx, .int pi_dy]))] [(aPi, .inr (4, [.ref aG, .ref aR, .int (r.1), .int (r.2.1), .int (r.2.2)]))] := by
  refine wr_of (by decide +kernel) (Nat.le_of_ble_eq_true rfl) hD0 ?_
  intro p e s m below meth c ls A S hr hlocks hk hl hD hS hA
  obtain ⟨hx, hb, hml, hown, hts⟩ := id S
  have hl : lv_has ls 4 [(0, .ref aPi), (1, .int x1), (2, .int x2), (3, .int x3)] := hl
  rw [f_X4_become] at hf
  refine lv_aload_n hx hb dX4_become_0 rfl (lv_at hl 0 rfl) ?_
  refine lv_iload_n hx hb dX4_become_1 rfl (lv_at hl 1 rfl) ?_
  refine va_put (D := D) (ci := 4) (v := .int x1) (ty := .int) (C := RX4) (T := TX4) (N := 5) hx hb hts iX4 tyX4 tyX4_ok nmX4 hown hk.1 hP hD hS 0 rfl rfl 2 (by decide) (hts _ tw_233) (fun _ h9 => h9) rfl (by decide +kernel) rfl rfl (Nat.le_of_ble_eq_true rfl) dX4_become_2 (fun H locs hP hD hS => ?_)
  have hP : va_P D vwCl [(aPi, .inr (4, [.ref aG, .ref aR, .int x1, .int pi_dx, .int pi_dy]))] H := hP
  have hD : va_D A [(aPi, .inr (4, [.ref aG, .ref aR, .int x1, .int pi_dx, .int pi_dy]))] := hD
  refine lv_aload_n hx hb dX4_become_5 rfl (lv_at hl 0 rfl) ?_
  refine lv_iload_n hx hb dX4_become_6 rfl (lv_at hl 2 rfl) ?_
  refine va_put (D := D) (ci := 4) (v := .int x2) (ty := .int) (C := RX4) (T := TX4) (N := 5) hx hb hts iX4 tyX4 tyX4_ok nmX4 hown hk.1 hP hD hS 0 rfl rfl 3 (by decide) (hts _ tw_234) (fun _ h9 => h9) rfl (by decide +kernel) rfl rfl (Nat.le_of_ble_eq_true rfl) dX4_become_7 (fun H locs hP hD hS => ?_)
  have hP : va_P D vwCl [(aPi, .inr (4, [.ref aG, .ref aR, .int x1, .int x2, .int pi_dy]))] H := hP
  have hD : va_D A [(aPi, .inr (4, [.ref aG, .ref aR, .int x1, .int x2, .int pi_dy]))] := hD
  refine lv_aload_n hx hb dX4_become_10 rfl (lv_at hl 0 rfl) ?_
  refine lv_iload_n hx hb dX4_become_11 rfl (lv_at hl 3 rfl) ?_
  refine va_put (D := D) (ci := 4) (v := .int x3) (ty := .int) (C := RX4) (T := TX4) (N := 5) hx hb hts iX4 tyX4 tyX4_ok nmX4 hown hk.1 hP hD hS 0 rfl rfl 4 (by decide) (hts _ tw_235) (fun _ h9 => h9) rfl (by decide +kernel) rfl rfl (Nat.le_of_ble_eq_true rfl) dX4_become_12 (fun H locs hP hD hS => ?_)
  have hP : va_P D vwCl [(aPi, .inr (4, [.ref aG, .ref aR, .int x1, .int x2, .int x3]))] H := hP
  have hD : va_D A [(aPi, .inr (4, [.ref aG, .ref aR, .int x1, .int x2, .int x3]))] := hD
  have hf := Option.some.inj hf
  subst hf
  exact q_rvW hP hS hx hb hr hlocks dX4_become_15
def f_X4_levelOf (g_cells : Int32) (g_freeCount : Int32) (g_columns : Nat → Int32) (g_lines : Nat → Int32) (pi_base : Int32) (pi_dx : Int32) (pi_dy : Int32) (x1 : Int32) : Option (Int32) := (f_X0_columnOf g_cells g_columns x1).bind (fun z9 => (f_X0_lineOf g_cells g_lines x1).bind (fun z23 => some (if (0 : Int32) < (if g_freeCount < ((pi_base + (z9 * pi_dx)) + (z23 * pi_dy)) then g_freeCount else ((pi_base + (z9 * pi_dx)) + (z23 * pi_dy))) then (if g_freeCount < ((pi_base + (z9 * pi_dx)) + (z23 * pi_dy)) then g_freeCount else ((pi_base + (z9 * pi_dx)) + (z23 * pi_dy))) else (0 : Int32))))
theorem ok_X4_levelOf : OkV yX4_levelOf cX4_levelOf 3 (some Jvm.ClassFile.FieldType.int) 1 := ⟨⟨tw_671, tw_9, by decide +kernel, by decide +kernel, by decide +kernel⟩, tw_670, tp_22⟩
set_option maxHeartbeats 4000000 in
set_option maxRecDepth 100000 in
theorem c_X4_levelOf (l : Launch) (D : va_G) (cy : ClassId × ClassId × ClassId) (H0 : Heap) (aP aG aG_columns aG_lines aG_distances aG_weights aR aPi : Nat) (g_cells : Int32) (g_free : Int64) (g_freeCount : Int32) (g_columns : Nat → Int32) (g_lines : Nat → Int32) (pi_base : Int32) (pi_dx : Int32) (pi_dy : Int32) (x1 : Int32) (r : Int32) (hP : va_P D vwCl [(aG, .inr (0, [.ref aP, .ref aG_columns, .ref aG_lines, .ref aG_distances, .ref aG_weights, .int g_cells, .long g_free, .int g_freeCount])), (aG_columns, .inl (cy.1, 64, .inl g_columns)), (aG_lines, .inl (cy.1, 64, .inl g_lines)), (aPi, .inr (4, [.ref aG, .ref aR, .int pi_base, .int pi_dx, .int pi_dy]))] H0) (hf : f_X4_levelOf g_cells g_freeCount g_columns g_lines pi_base pi_dx pi_dy x1 = some r) : Rd l yX4_levelOf cX4_levelOf 3 (some Jvm.ClassFile.FieldType.int) ({ frames := 2, cells := 0, slots := 0, locals := 42 } : Room) ([.ref aPi, .int x1] : List Value) (some (.int r)) D cy H0 := by
  refine rd_of (by decide +kernel) (Nat.le_of_ble_eq_true rfl) ?_
  intro p e s m below meth c ls S hr hlocks hk hl
  obtain ⟨hx, hb, hml, hown, hts⟩ := id S
  have hl : lv_has ls 3 [(0, .ref aPi), (1, .int x1)] := hl
  rw [f_X4_levelOf] at hf
  refine lv_aload_n hx hb dX4_levelOf_0 rfl (lv_at hl 0 rfl) ?_
  refine va_get (D := D) (ci := 4) (v := .int pi_base) (C := RX4) (T := TX4) (N := 5) hx hb hts iX4 hown hk.1 hP 3 rfl rfl 2 (by decide) (hts _ tw_233) (fun _ h9 => h9) rfl dX4_levelOf_1 ?_
  refine lv_aload_n hx hb dX4_levelOf_4 rfl (lv_at hl 0 rfl) ?_
  refine va_get (D := D) (ci := 4) (v := .ref aG) (C := RX4) (T := TX4) (N := 5) hx hb hts iX4 hown hk.1 hP 3 rfl rfl 0 (by decide) (hts _ tw_231) (fun _ h9 => h9) rfl dX4_levelOf_5 ?_
  refine lv_iload_n hx hb dX4_levelOf_8 rfl (lv_at hl 1 rfl) ?_
  obtain ⟨z9, hz9, hf⟩ := q_bind hf
  refine q_rdV (As := [.int x1]) (rest := [.int pi_base]) (st2 := [.int z9, .int pi_base]) S hk (c_X0_columnOf l D cy H0 aP aG aG_columns aG_lines aG_distances aG_weights g_cells g_free g_freeCount g_columns x1 z9 (hP.sub [0, 1] rfl) hz9) ok_X0_columnOf tw_672 ⟨rfl, rfl, Nat.le_of_ble_eq_true rfl, Nat.le_of_ble_eq_true rfl⟩ (va_recv hk.1 hP (ci := 0) (q0 := 0) rfl rfl) rfl hl.1 rfl (Nat.le_of_ble_eq_true rfl) dX4_levelOf_9 ⟨Nat.zero_le _, Nat.zero_le _⟩ rfl ?_
  refine lv_aload_n hx hb dX4_levelOf_12 rfl (lv_at hl 0 rfl) ?_
  refine va_get (D := D) (ci := 4) (v := .int pi_dx) (C := RX4) (T := TX4) (N := 5) hx hb hts iX4 hown hk.1 hP 3 rfl rfl 3 (by decide) (hts _ tw_234) (fun _ h9 => h9) rfl dX4_levelOf_13 ?_
  refine lv_imul hx hb dX4_levelOf_16 ?_
  refine lv_iadd hx hb dX4_levelOf_17 ?_
  refine lv_aload_n hx hb dX4_levelOf_18 rfl (lv_at hl 0 rfl) ?_
  refine va_get (D := D) (ci := 4) (v := .ref aG) (C := RX4) (T := TX4) (N := 5) hx hb hts iX4 hown hk.1 hP 3 rfl rfl 0 (by decide) (hts _ tw_231) (fun _ h9 => h9) rfl dX4_levelOf_19 ?_
  refine lv_iload_n hx hb dX4_levelOf_22 rfl (lv_at hl 1 rfl) ?_
  obtain ⟨z23, hz23, hf⟩ := q_bind hf
  refine q_rdV (As := [.int x1]) (rest := [.int (pi_base + (z9 * pi_dx))]) (st2 := [.int z23, .int (pi_base + (z9 * pi_dx))]) S hk (c_X0_lineOf l D cy H0 aP aG aG_columns aG_lines aG_distances aG_weights g_cells g_free g_freeCount g_lines x1 z23 (hP.sub [0, 2] rfl) hz23) ok_X0_lineOf tw_676 ⟨rfl, rfl, Nat.le_of_ble_eq_true rfl, Nat.le_of_ble_eq_true rfl⟩ (va_recv hk.1 hP (ci := 0) (q0 := 0) rfl rfl) rfl hl.1 rfl (Nat.le_of_ble_eq_true rfl) dX4_levelOf_23 ⟨Nat.zero_le _, Nat.zero_le _⟩ rfl ?_
  refine lv_aload_n hx hb dX4_levelOf_26 rfl (lv_at hl 0 rfl) ?_
  refine va_get (D := D) (ci := 4) (v := .int pi_dy) (C := RX4) (T := TX4) (N := 5) hx hb hts iX4 hown hk.1 hP 3 rfl rfl 4 (by decide) (hts _ tw_235) (fun _ h9 => h9) rfl dX4_levelOf_27 ?_
  refine lv_imul hx hb dX4_levelOf_30 ?_
  refine lv_iadd hx hb dX4_levelOf_31 ?_
  refine lv_istore_n (lv' := [(2, .int ((pi_base + (z9 * pi_dx)) + (z23 * pi_dy))), (0, .ref aPi), (1, .int x1)]) hx hb dX4_levelOf_32 rfl hl (by decide) rfl (fun ls hl => ?_)
  refine lv_iconst (v := (0 : Int32)) hx hb dX4_levelOf_33 (by decide) ?_
  refine lv_iload_n hx hb dX4_levelOf_34 rfl (lv_at hl 0 rfl) ?_
  refine lv_aload_n hx hb dX4_levelOf_35 rfl (lv_at hl 1 rfl) ?_
  refine va_get (D := D) (ci := 4) (v := .ref aG) (C := RX4) (T := TX4) (N := 5) hx hb hts iX4 hown hk.1 hP 3 rfl rfl 0 (by decide) (hts _ tw_231) (fun _ h9 => h9) rfl dX4_levelOf_36 ?_
  refine va_get (D := D) (ci := 0) (v := .int g_freeCount) (C := RX0) (T := TX0) (N := 8) hx hb hts iX0 hown hk.1 hP 0 rfl rfl 7 (by decide) (hts _ tw_157) (fun _ h9 => h9) rfl dX4_levelOf_39 ?_
  refine va_mmin hx hb (hml.trans hl.1.symm) hown (hts _ tw_680) (hts _ tw_125) (hts _ tw_5) (hts _ tw_126) (Nat.le_of_ble_eq_true rfl) (Nat.le_of_ble_eq_true rfl) (Nat.zero_le _) (Nat.zero_le _) dX4_levelOf_42 ?_
  refine va_mmax hx hb (hml.trans hl.1.symm) hown (hts _ tw_681) (hts _ tw_132) (hts _ tw_5) (hts _ tw_133) (Nat.le_of_ble_eq_true rfl) (Nat.le_of_ble_eq_true rfl) (Nat.zero_le _) (Nat.zero_le _) dX4_levelOf_45 ?_
  have hf := Option.some.inj hf
  subst hf
  exact q_riR hx hb hr hlocks dX4_levelOf_48
def f_X4_prints (g_cells : Int32) (g_free : Int64) (g_freeCount : Int32) (g_columns : Nat → Int32) (g_lines : Nat → Int32) (r_places : Nat → Int32) (pi_base : Int32) (pi_dx : Int32) (pi_dy : Int32) (x1 : Int32) : Option (Int32) := (f_X9_has g_free x1).bind (fun z8 => if z8 = 0 then (some (0 : Int32)) else ((f_X6_rankOf g_cells r_places x1).bind (fun z19 => (f_X4_levelOf g_cells g_freeCount g_columns g_lines pi_base pi_dx pi_dy x1).bind (fun z24 => if z24 ≤ z19 then (some (0 : Int32)) else (some (1 : Int32))))))
theorem ok_X4_prints : OkV yX4_prints cX4_prints 2 (some Jvm.ClassFile.FieldType.boolean) 1 := ⟨⟨tw_665, tw_9, by decide +kernel, by decide +kernel, by decide +kernel⟩, tw_663, tw_664⟩
set_option maxHeartbeats 4000000 in
set_option maxRecDepth 100000 in
theorem c_X4_prints (l : Launch) (D : va_G) (cy : ClassId × ClassId × ClassId) (H0 : Heap) (aP aG aG_columns aG_lines aG_distances aG_weights aR aR_order aR_places aHr aPi : Nat) (g_cells : Int32) (g_free : Int64) (g_freeCount : Int32) (g_columns : Nat → Int32) (g_lines : Nat → Int32) (r_madeBy : Int64) (r_thinned : Int32) (r_filled : Int32) (r_places : Nat → Int32) (pi_base : Int32) (pi_dx : Int32) (pi_dy : Int32) (x1 : Int32) (r : Int32) (hP : va_P D vwCl [(aG, .inr (0, [.ref aP, .ref aG_columns, .ref aG_lines, .ref aG_distances, .ref aG_weights, .int g_cells, .long g_free, .int g_freeCount])), (aG_columns, .inl (cy.1, 64, .inl g_columns)), (aG_lines, .inl (cy.1, 64, .inl g_lines)), (aR, .inr (6, [.ref aG, .ref aHr, .ref aR_order, .ref aR_places, .long r_madeBy, .int r_thinned, .int r_filled])), (aR_places, .inl (cy.1, 64, .inl r_places)), (aPi, .inr (4, [.ref aG, .ref aR, .int pi_base, .int pi_dx, .int pi_dy]))] H0) (hf : f_X4_prints g_cells g_free g_freeCount g_columns g_lines r_places pi_base pi_dx pi_dy x1 = some r) : Rd l yX4_prints cX4_prints 2 (some Jvm.ClassFile.FieldType.boolean) ({ frames := 3, cells := 0, slots := 0, locals := 64 } : Room) ([.ref aPi, .int x1] : List Value) (some (.int r)) D cy H0 := by
  refine rd_of (by decide +kernel) (Nat.le_of_ble_eq_true rfl) ?_
  intro p e s m below meth c ls S hr hlocks hk hl
  obtain ⟨hx, hb, hml, hown, hts⟩ := id S
  have hl : lv_has ls 2 [(0, .ref aPi), (1, .int x1)] := hl
  rw [f_X4_prints] at hf
  refine lv_aload_n hx hb dX4_prints_0 rfl (lv_at hl 0 rfl) ?_
  refine va_get (D := D) (ci := 4) (v := .ref aG) (C := RX4) (T := TX4) (N := 5) hx hb hts iX4 hown hk.1 hP 5 rfl rfl 0 (by decide) (hts _ tw_231) (fun _ h9 => h9) rfl dX4_prints_1 ?_
  refine va_get (D := D) (ci := 0) (v := .long g_free) (C := RX0) (T := TX0) (N := 8) hx hb hts iX0 hown hk.1 hP 0 rfl rfl 6 (by decide) (hts _ tw_153) (fun _ h9 => h9) rfl dX4_prints_4 ?_
  refine lv_iload_n hx hb dX4_prints_7 rfl (lv_at hl 1 rfl) ?_
  obtain ⟨z8, hz8, hf⟩ := q_bind hf
  refine q_rdN (As := [.long g_free, .int x1]) (rest := []) (st2 := [.int z8]) S hk (c_X9_has l D cy H0 g_free x1 z8 hz8) ok_X9_has hk.2.2.2.2.1 ⟨rfl, rfl, Nat.le_of_ble_eq_true rfl, Nat.le_of_ble_eq_true rfl⟩ rfl hl.1 rfl (Nat.le_of_ble_eq_true rfl) dX4_prints_8 ⟨Nat.zero_le _, Nat.zero_le _⟩ rfl ?_
  refine lv_if_eq (tgt := 34) hx hb dX4_prints_11 (by decide) (fun hc => ?_) (fun hc => ?_)
  · have hf := q_t hc hf
    refine lv_iconst (v := (0 : Int32)) hx hb dX4_prints_34 (by decide) ?_
    have hf := Option.some.inj hf
    subst hf
    exact q_rzR (Or.inl rfl) hx hb hr hlocks dX4_prints_35
  · have hf := q_f hc hf
    refine lv_aload_n hx hb dX4_prints_14 rfl (lv_at hl 0 rfl) ?_
    refine va_get (D := D) (ci := 4) (v := .ref aR) (C := RX4) (T := TX4) (N := 5) hx hb hts iX4 hown hk.1 hP 5 rfl rfl 1 (by decide) (hts _ tw_232) (fun _ h9 => h9) rfl dX4_prints_15 ?_
    refine lv_iload_n hx hb dX4_prints_18 rfl (lv_at hl 1 rfl) ?_
    obtain ⟨z19, hz19, hf⟩ := q_bind hf
    refine q_rdV (As := [.int x1]) (rest := []) (st2 := [.int z19]) S hk (c_X6_rankOf l D cy H0 aP aG aG_columns aG_lines aG_distances aG_weights aR aR_order aR_places aHr g_cells g_free g_freeCount r_madeBy r_thinned r_filled r_places x1 z19 (hP.sub [0, 3, 4] rfl) hz19) ok_X6_rankOf tw_667 ⟨rfl, rfl, Nat.le_of_ble_eq_true rfl, Nat.le_of_ble_eq_true rfl⟩ (va_recv hk.1 hP (ci := 6) (q0 := 3) rfl rfl) rfl hl.1 rfl (Nat.le_of_ble_eq_true rfl) dX4_prints_19 ⟨Nat.zero_le _, Nat.zero_le _⟩ rfl ?_
    refine lv_aload_n hx hb dX4_prints_22 rfl (lv_at hl 0 rfl) ?_
    refine lv_iload_n hx hb dX4_prints_23 rfl (lv_at hl 1 rfl) ?_
    obtain ⟨z24, hz24, hf⟩ := q_bind hf
    refine q_rdV (As := [.int x1]) (rest := [.int z19]) (st2 := [.int z24, .int z19]) S hk (c_X4_levelOf l D cy H0 aP aG aG_columns aG_lines aG_distances aG_weights aR aPi g_cells g_free g_freeCount g_columns g_lines pi_base pi_dx pi_dy x1 z24 (hP.sub [0, 1, 2, 5] rfl) hz24) ok_X4_levelOf tw_668 ⟨rfl, rfl, Nat.le_of_ble_eq_true rfl, Nat.le_of_ble_eq_true rfl⟩ (va_recv hk.1 hP (ci := 4) (q0 := 5) rfl rfl) rfl hl.1 rfl (Nat.le_of_ble_eq_true rfl) dX4_prints_24 ⟨Nat.zero_le _, Nat.zero_le _⟩ rfl ?_
    refine lv_icmp_ge (tgt := 34) hx hb dX4_prints_27 (by decide) (fun hc => ?_) (fun hc => ?_)
    · have hf := q_t hc hf
      refine lv_iconst (v := (0 : Int32)) hx hb dX4_prints_34 (by decide) ?_
      have hf := Option.some.inj hf
      subst hf
      exact q_rzR (Or.inl rfl) hx hb hr hlocks dX4_prints_35
    · have hf := q_f hc hf
      refine lv_iconst (v := (1 : Int32)) hx hb dX4_prints_30 (by decide) ?_
      refine lv_goto (tgt := 35) hx hb dX4_prints_31 (by decide) ?_
      have hf := Option.some.inj hf
      subst hf
      exact q_rzR (Or.inr rfl) hx hb hr hlocks dX4_prints_35
def lp_X4_printed_4 (g_cells : Int32) (g_free : Int64) (g_freeCount : Int32) (g_columns : Nat → Int32) (g_lines : Nat → Int32) (r_places : Nat → Int32) (pi_base : Int32) (pi_dx : Int32) (pi_dy : Int32) : Nat → Int32 → Int32 → Option (Int32)
  | 0, _, _ => none
  | n + 1, x1, x2 => if g_cells ≤ x2 then (some x1) else ((f_X4_prints g_cells g_free g_freeCount g_columns g_lines r_places pi_base pi_dx pi_dy x2).bind (fun z17 => if z17 = 0 then (lp_X4_printed_4 g_cells g_free g_freeCount g_columns g_lines r_places pi_base pi_dx pi_dy n x1 (x2 + 1)) else (lp_X4_printed_4 g_cells g_free g_freeCount g_columns g_lines r_places pi_base pi_dx pi_dy n (x1 + 1) (x2 + 1))))
theorem lp_X4_printed_4_s (g_cells : Int32) (g_free : Int64) (g_freeCount : Int32) (g_columns : Nat → Int32) (g_lines : Nat → Int32) (r_places : Nat → Int32) (pi_base : Int32) (pi_dx : Int32) (pi_dy : Int32) (n : Nat) (x1 : Int32) (x2 : Int32) : lp_X4_printed_4 g_cells g_free g_freeCount g_columns g_lines r_places pi_base pi_dx pi_dy (n + 1) x1 x2 = (if g_cells ≤ x2 then (some x1) else ((f_X4_prints g_cells g_free g_freeCount g_columns g_lines r_places pi_base pi_dx pi_dy x2).bind (fun z17 => if z17 = 0 then (lp_X4_printed_4 g_cells g_free g_freeCount g_columns g_lines r_places pi_base pi_dx pi_dy n x1 (x2 + 1)) else (lp_X4_printed_4 g_cells g_free g_freeCount g_columns g_lines r_places pi_base pi_dx pi_dy n (x1 + 1) (x2 + 1))))) := rfl
theorem lp_X4_printed_4_z (g_cells : Int32) (g_free : Int64) (g_freeCount : Int32) (g_columns : Nat → Int32) (g_lines : Nat → Int32) (r_places : Nat → Int32) (pi_base : Int32) (pi_dx : Int32) (pi_dy : Int32) (x1 : Int32) (x2 : Int32) : lp_X4_printed_4 g_cells g_free g_freeCount g_columns g_lines r_places pi_base pi_dx pi_dy 0 x1 x2 = none := rfl
def f_X4_printed (g_cells : Int32) (g_free : Int64) (g_freeCount : Int32) (g_columns : Nat → Int32) (g_lines : Nat → Int32) (r_places : Nat → Int32) (pi_base : Int32) (pi_dx : Int32) (pi_dy : Int32) : Option (Int32) := lp_X4_printed_4 g_cells g_free g_freeCount g_columns g_lines r_places pi_base pi_dx pi_dy FU (0 : Int32) (0 : Int32)
theorem ok_X4_printed : OkV yX4_printed cX4_printed 3 (some Jvm.ClassFile.FieldType.int) 0 := ⟨⟨tw_661, tw_9, by decide +kernel, by decide +kernel, by decide +kernel⟩, tw_659, tw_660⟩
set_option maxHeartbeats 4000000 in
set_option maxRecDepth 100000 in
theorem c_X4_printed (l : Launch) (D : va_G) (cy : ClassId × ClassId × ClassId) (H0 : Heap) (aP aG aG_columns aG_lines aG_distances aG_weights aR aR_order aR_places aHr aPi : Nat) (g_cells : Int32) (g_free : Int64) (g_freeCount : Int32) (g_columns : Nat → Int32) (g_lines : Nat → Int32) (r_madeBy : Int64) (r_thinned : Int32) (r_filled : Int32) (r_places : Nat → Int32) (pi_base : Int32) (pi_dx : Int32) (pi_dy : Int32) (r : Int32) (hP : va_P D vwCl [(aG, .inr (0, [.ref aP, .ref aG_columns, .ref aG_lines, .ref aG_distances, .ref aG_weights, .int g_cells, .long g_free, .int g_freeCount])), (aG_columns, .inl (cy.1, 64, .inl g_columns)), (aG_lines, .inl (cy.1, 64, .inl g_lines)), (aR, .inr (6, [.ref aG, .ref aHr, .ref aR_order, .ref aR_places, .long r_madeBy, .int r_thinned, .int r_filled])), (aR_places, .inl (cy.1, 64, .inl r_places)), (aPi, .inr (4, [.ref aG, .ref aR, .int pi_base, .int pi_dx, .int pi_dy]))] H0) (hf : f_X4_printed g_cells g_free g_freeCount g_columns g_lines r_places pi_base pi_dx pi_dy = some r) : Rd l yX4_printed cX4_printed 3 (some Jvm.ClassFile.FieldType.int) ({ frames := 4, cells := 0, slots := 0, locals := 85 } : Room) ([.ref aPi] : List Value) (some (.int r)) D cy H0 := by
  refine rd_of (by decide +kernel) (Nat.le_of_ble_eq_true rfl) ?_
  intro p e s m below meth c ls S hr hlocks hk hl
  obtain ⟨hx, hb, hml, hown, hts⟩ := id S
  have hl : lv_has ls 3 [(0, .ref aPi)] := hl
  rw [f_X4_printed] at hf
  have J4 : ∀ (n4 : Nat) (x1 : Int32) (x2 : Int32) (ls : Array Slot), lv_has ls 3 [(0, .ref aPi), (1, .int x1), (2, .int x2)] → lp_X4_printed_4 g_cells g_free g_freeCount g_columns g_lines r_places pi_base pi_dx pi_dy n4 x1 x2 = some r → W p l e ({ frames := 4, cells := 0, slots := 0, locals := 85 } : Room) s m ([.ref aPi] : List Value).toArray below meth c H0 [] 0 0 (MQ below (QR (some (.int r)) H0) ([.ref aPi] : List Value).toArray s 0 0 (fun _ => False)) (F0 m 4 ls []) := by
    intro n4
    induction n4 with
    | zero =>
      intro x1 x2 ls hl hf
      rw [lp_X4_printed_4_z] at hf
      cases hf
    | succ n4 ih4 =>
      intro x1 x2 ls hl hf
      rw [lp_X4_printed_4_s] at hf
      refine lv_iload_n hx hb dX4_printed_4 rfl (lv_at hl 2 rfl) ?_
      refine lv_aload_n hx hb dX4_printed_5 rfl (lv_at hl 0 rfl) ?_
      refine va_get (D := D) (ci := 4) (v := .ref aG) (C := RX4) (T := TX4) (N := 5) hx hb hts iX4 hown hk.1 hP 5 rfl rfl 0 (by decide) (hts _ tw_231) (fun _ h9 => h9) rfl dX4_printed_6 ?_
      refine va_get (D := D) (ci := 0) (v := .int g_cells) (C := RX0) (T := TX0) (N := 8) hx hb hts iX0 hown hk.1 hP 0 rfl rfl 5 (by decide) (hts _ tw_148) (fun _ h9 => h9) rfl dX4_printed_9 ?_
      refine lv_icmp_ge (tgt := 32) hx hb dX4_printed_12 (by decide) (fun hc => ?_) (fun hc => ?_)
      · have hf := q_t hc hf
        refine lv_iload_n hx hb dX4_printed_32 rfl (lv_at hl 1 rfl) ?_
        have hf := Option.some.inj hf
        subst hf
        exact q_riR hx hb hr hlocks dX4_printed_33
      · have hf := q_f hc hf
        refine lv_aload_n hx hb dX4_printed_15 rfl (lv_at hl 0 rfl) ?_
        refine lv_iload_n hx hb dX4_printed_16 rfl (lv_at hl 2 rfl) ?_
        obtain ⟨z17, hz17, hf⟩ := q_bind hf
        refine q_rdV (As := [.int x2]) (rest := []) (st2 := [.int z17]) S hk (c_X4_prints l D cy H0 aP aG aG_columns aG_lines aG_distances aG_weights aR aR_order aR_places aHr aPi g_cells g_free g_freeCount g_columns g_lines r_madeBy r_thinned r_filled r_places pi_base pi_dx pi_dy x2 z17 (hP.sub [0, 1, 2, 3, 4, 5] rfl) hz17) ok_X4_prints tw_662 ⟨rfl, rfl, Nat.le_of_ble_eq_true rfl, Nat.le_of_ble_eq_true rfl⟩ (va_recv hk.1 hP (ci := 4) (q0 := 5) rfl rfl) rfl hl.1 rfl (Nat.le_of_ble_eq_true rfl) dX4_printed_17 ⟨Nat.zero_le _, Nat.zero_le _⟩ rfl ?_
        refine lv_if_eq (tgt := 26) hx hb dX4_printed_20 (by decide) (fun hc => ?_) (fun hc => ?_)
        · have hf := q_t hc hf
          refine lv_iinc (v := (x2 + 1)) (lv' := [(2, .int (x2 + 1)), (0, .ref aPi), (1, .int x1)]) hx hb dX4_printed_26 hl (k := 2) rfl rfl (by decide) rfl (fun ls hl => ?_)
          refine lv_goto (tgt := 4) hx hb dX4_printed_29 (by decide) ?_
          exact ih4 x1 (x2 + 1) ls (lv_sub hl [1, 2, 0] rfl) hf
        · have hf := q_f hc hf
          refine lv_iinc (v := (x1 + 1)) (lv' := [(1, .int (x1 + 1)), (0, .ref aPi), (2, .int x2)]) hx hb dX4_printed_23 hl (k := 1) rfl rfl (by decide) rfl (fun ls hl => ?_)
          refine lv_iinc (v := (x2 + 1)) (lv' := [(2, .int (x2 + 1)), (1, .int (x1 + 1)), (0, .ref aPi)]) hx hb dX4_printed_26 hl (k := 2) rfl rfl (by decide) rfl (fun ls hl => ?_)
          refine lv_goto (tgt := 4) hx hb dX4_printed_29 (by decide) ?_
          exact ih4 (x1 + 1) (x2 + 1) ls (lv_sub hl [2, 1, 0] rfl) hf
  refine lv_iconst (v := (0 : Int32)) hx hb dX4_printed_0 (by decide) ?_
  refine lv_istore_n (lv' := [(1, .int (0 : Int32)), (0, .ref aPi)]) hx hb dX4_printed_1 rfl hl (by decide) rfl (fun ls hl => ?_)
  refine lv_iconst (v := (0 : Int32)) hx hb dX4_printed_2 (by decide) ?_
  refine lv_istore_n (lv' := [(2, .int (0 : Int32)), (1, .int (0 : Int32)), (0, .ref aPi)]) hx hb dX4_printed_3 rfl hl (by decide) rfl (fun ls hl => ?_)
  exact J4 FU (0 : Int32) (0 : Int32) ls (lv_sub hl [2, 1, 0] rfl) hf
def lp_X4_farOff_4 (g_cells : Int32) (g_free : Int64) (g_freeCount : Int32) (g_columns : Nat → Int32) (g_lines : Nat → Int32) (r_places : Nat → Int32) (pi_base : Int32) (pi_dx : Int32) (pi_dy : Int32) : Nat → Int32 → Int32 → Option (Int32)
  | 0, _, _ => none
  | n + 1, x1, x2 => if g_cells ≤ x2 then ((f_X4_printed g_cells g_free g_freeCount g_columns g_lines r_places pi_base pi_dx pi_dy).bind (fun z51 => some ((g_freeCount * z51) - x1))) else ((f_X9_has g_free x2).bind (fun z23 => if z23 = 0 then (lp_X4_farOff_4 g_cells g_free g_freeCount g_columns g_lines r_places pi_base pi_dx pi_dy n x1 (x2 + 1)) else ((f_X4_levelOf g_cells g_freeCount g_columns g_lines pi_base pi_dx pi_dy x2).bind (fun z32 => lp_X4_farOff_4 g_cells g_free g_freeCount g_columns g_lines r_places pi_base pi_dx pi_dy n (x1 + z32) (x2 + 1)))))
theorem lp_X4_farOff_4_s (g_cells : Int32) (g_free : Int64) (g_freeCount : Int32) (g_columns : Nat → Int32) (g_lines : Nat → Int32) (r_places : Nat → Int32) (pi_base : Int32) (pi_dx : Int32) (pi_dy : Int32) (n : Nat) (x1 : Int32) (x2 : Int32) : lp_X4_farOff_4 g_cells g_free g_freeCount g_columns g_lines r_places pi_base pi_dx pi_dy (n + 1) x1 x2 = (if g_cells ≤ x2 then ((f_X4_printed g_cells g_free g_freeCount g_columns g_lines r_places pi_base pi_dx pi_dy).bind (fun z51 => some ((g_freeCount * z51) - x1))) else ((f_X9_has g_free x2).bind (fun z23 => if z23 = 0 then (lp_X4_farOff_4 g_cells g_free g_freeCount g_columns g_lines r_places pi_base pi_dx pi_dy n x1 (x2 + 1)) else ((f_X4_levelOf g_cells g_freeCount g_columns g_lines pi_base pi_dx pi_dy x2).bind (fun z32 => lp_X4_farOff_4 g_cells g_free g_freeCount g_columns g_lines r_places pi_base pi_dx pi_dy n (x1 + z32) (x2 + 1)))))) := rfl
theorem lp_X4_farOff_4_z (g_cells : Int32) (g_free : Int64) (g_freeCount : Int32) (g_columns : Nat → Int32) (g_lines : Nat → Int32) (r_places : Nat → Int32) (pi_base : Int32) (pi_dx : Int32) (pi_dy : Int32) (x1 : Int32) (x2 : Int32) : lp_X4_farOff_4 g_cells g_free g_freeCount g_columns g_lines r_places pi_base pi_dx pi_dy 0 x1 x2 = none := rfl
def f_X4_farOff (g_cells : Int32) (g_free : Int64) (g_freeCount : Int32) (g_columns : Nat → Int32) (g_lines : Nat → Int32) (r_places : Nat → Int32) (pi_base : Int32) (pi_dx : Int32) (pi_dy : Int32) : Option (Int32) := lp_X4_farOff_4 g_cells g_free g_freeCount g_columns g_lines r_places pi_base pi_dx pi_dy FU (0 : Int32) (0 : Int32)
theorem ok_X4_farOff : OkV yX4_farOff cX4_farOff 3 (some Jvm.ClassFile.FieldType.int) 0 := ⟨⟨tw_694, tw_9, by decide +kernel, by decide +kernel, by decide +kernel⟩, tw_692, tw_693⟩
set_option maxHeartbeats 4000000 in
set_option maxRecDepth 100000 in
theorem c_X4_farOff (l : Launch) (D : va_G) (cy : ClassId × ClassId × ClassId) (H0 : Heap) (aP aG aG_columns aG_lines aG_distances aG_weights aR aR_order aR_places aHr aPi : Nat) (g_cells : Int32) (g_free : Int64) (g_freeCount : Int32) (g_columns : Nat → Int32) (g_lines : Nat → Int32) (r_madeBy : Int64) (r_thinned : Int32) (r_filled : Int32) (r_places : Nat → Int32) (pi_base : Int32) (pi_dx : Int32) (pi_dy : Int32) (r : Int32) (hP : va_P D vwCl [(aG, .inr (0, [.ref aP, .ref aG_columns, .ref aG_lines, .ref aG_distances, .ref aG_weights, .int g_cells, .long g_free, .int g_freeCount])), (aG_columns, .inl (cy.1, 64, .inl g_columns)), (aG_lines, .inl (cy.1, 64, .inl g_lines)), (aR, .inr (6, [.ref aG, .ref aHr, .ref aR_order, .ref aR_places, .long r_madeBy, .int r_thinned, .int r_filled])), (aR_places, .inl (cy.1, 64, .inl r_places)), (aPi, .inr (4, [.ref aG, .ref aR, .int pi_base, .int pi_dx, .int pi_dy]))] H0) (hf : f_X4_farOff g_cells g_free g_freeCount g_columns g_lines r_places pi_base pi_dx pi_dy = some r) : Rd l yX4_farOff cX4_farOff 3 (some Jvm.ClassFile.FieldType.int) ({ frames := 5, cells := 0, slots := 0, locals := 107 } : Room) ([.ref aPi] : List Value) (some (.int r)) D cy H0 := by
  refine rd_of (by decide +kernel) (Nat.le_of_ble_eq_true rfl) ?_
  intro p e s m below meth c ls S hr hlocks hk hl
  obtain ⟨hx, hb, hml, hown, hts⟩ := id S
  have hl : lv_has ls 3 [(0, .ref aPi)] := hl
  rw [f_X4_farOff] at hf
  have J4 : ∀ (n4 : Nat) (x1 : Int32) (x2 : Int32) (ls : Array Slot), lv_has ls 3 [(0, .ref aPi), (1, .int x1), (2, .int x2)] → lp_X4_farOff_4 g_cells g_free g_freeCount g_columns g_lines r_places pi_base pi_dx pi_dy n4 x1 x2 = some r → W p l e ({ frames := 5, cells := 0, slots := 0, locals := 107 } : Room) s m ([.ref aPi] : List Value).toArray below meth c H0 [] 0 0 (MQ below (QR (some (.int r)) H0) ([.ref aPi] : List Value).toArray s 0 0 (fun _ => False)) (F0 m 4 ls []) := by
    intro n4
    induction n4 with
    | zero =>
      intro x1 x2 ls hl hf
      rw [lp_X4_farOff_4_z] at hf
      cases hf
    | succ n4 ih4 =>
      intro x1 x2 ls hl hf
      rw [lp_X4_farOff_4_s] at hf
      refine lv_iload_n hx hb dX4_farOff_4 rfl (lv_at hl 2 rfl) ?_
      refine lv_aload_n hx hb dX4_farOff_5 rfl (lv_at hl 0 rfl) ?_
      refine va_get (D := D) (ci := 4) (v := .ref aG) (C := RX4) (T := TX4) (N := 5) hx hb hts iX4 hown hk.1 hP 5 rfl rfl 0 (by decide) (hts _ tw_231) (fun _ h9 => h9) rfl dX4_farOff_6 ?_
      refine va_get (D := D) (ci := 0) (v := .int g_cells) (C := RX0) (T := TX0) (N := 8) hx hb hts iX0 hown hk.1 hP 0 rfl rfl 5 (by decide) (hts _ tw_148) (fun _ h9 => h9) rfl dX4_farOff_9 ?_
      refine lv_icmp_ge (tgt := 43) hx hb dX4_farOff_12 (by decide) (fun hc => ?_) (fun hc => ?_)
      · have hf := q_t hc hf
        refine lv_aload_n hx hb dX4_farOff_43 rfl (lv_at hl 0 rfl) ?_
        refine va_get (D := D) (ci := 4) (v := .ref aG) (C := RX4) (T := TX4) (N := 5) hx hb hts iX4 hown hk.1 hP 5 rfl rfl 0 (by decide) (hts _ tw_231) (fun _ h9 => h9) rfl dX4_farOff_44 ?_
        refine va_get (D := D) (ci := 0) (v := .int g_freeCount) (C := RX0) (T := TX0) (N := 8) hx hb hts iX0 hown hk.1 hP 0 rfl rfl 7 (by decide) (hts _ tw_157) (fun _ h9 => h9) rfl dX4_farOff_47 ?_
        refine lv_aload_n hx hb dX4_farOff_50 rfl (lv_at hl 0 rfl) ?_
        obtain ⟨z51, hz51, hf⟩ := q_bind hf
        refine q_rdV (As := []) (rest := [.int g_freeCount]) (st2 := [.int z51, .int g_freeCount]) S hk (c_X4_printed l D cy H0 aP aG aG_columns aG_lines aG_distances aG_weights aR aR_order aR_places aHr aPi g_cells g_free g_freeCount g_columns g_lines r_madeBy r_thinned r_filled r_places pi_base pi_dx pi_dy z51 (hP.sub [0, 1, 2, 3, 4, 5] rfl) hz51) ok_X4_printed tw_695 ⟨rfl, rfl, Nat.le_of_ble_eq_true rfl, Nat.le_of_ble_eq_true rfl⟩ (va_recv hk.1 hP (ci := 4) (q0 := 5) rfl rfl) rfl hl.1 rfl (Nat.le_of_ble_eq_true rfl) dX4_farOff_51 ⟨Nat.zero_le _, Nat.zero_le _⟩ rfl ?_
        refine lv_imul hx hb dX4_farOff_54 ?_
        refine lv_iload_n hx hb dX4_farOff_55 rfl (lv_at hl 1 rfl) ?_
        refine lv_isub hx hb dX4_farOff_56 ?_
        have hf := Option.some.inj hf
        subst hf
        exact q_riR hx hb hr hlocks dX4_farOff_57
      · have hf := q_f hc hf
        refine lv_aload_n hx hb dX4_farOff_15 rfl (lv_at hl 0 rfl) ?_
        refine va_get (D := D) (ci := 4) (v := .ref aG) (C := RX4) (T := TX4) (N := 5) hx hb hts iX4 hown hk.1 hP 5 rfl rfl 0 (by decide) (hts _ tw_231) (fun _ h9 => h9) rfl dX4_farOff_16 ?_
        refine va_get (D := D) (ci := 0) (v := .long g_free) (C := RX0) (T := TX0) (N := 8) hx hb hts iX0 hown hk.1 hP 0 rfl rfl 6 (by decide) (hts _ tw_153) (fun _ h9 => h9) rfl dX4_farOff_19 ?_
        refine lv_iload_n hx hb dX4_farOff_22 rfl (lv_at hl 2 rfl) ?_
        obtain ⟨z23, hz23, hf⟩ := q_bind hf
        refine q_rdN (As := [.long g_free, .int x2]) (rest := []) (st2 := [.int z23]) S hk (c_X9_has l D cy H0 g_free x2 z23 hz23) ok_X9_has hk.2.2.2.2.1 ⟨rfl, rfl, Nat.le_of_ble_eq_true rfl, Nat.le_of_ble_eq_true rfl⟩ rfl hl.1 rfl (Nat.le_of_ble_eq_true rfl) dX4_farOff_23 ⟨Nat.zero_le _, Nat.zero_le _⟩ rfl ?_
        refine lv_if_eq (tgt := 37) hx hb dX4_farOff_26 (by decide) (fun hc => ?_) (fun hc => ?_)
        · have hf := q_t hc hf
          refine lv_iinc (v := (x2 + 1)) (lv' := [(2, .int (x2 + 1)), (0, .ref aPi), (1, .int x1)]) hx hb dX4_farOff_37 hl (k := 2) rfl rfl (by decide) rfl (fun ls hl => ?_)
          refine lv_goto (tgt := 4) hx hb dX4_farOff_40 (by decide) ?_
          exact ih4 x1 (x2 + 1) ls (lv_sub hl [1, 2, 0] rfl) hf
        · have hf := q_f hc hf
          refine lv_iload_n hx hb dX4_farOff_29 rfl (lv_at hl 1 rfl) ?_
          refine lv_aload_n hx hb dX4_farOff_30 rfl (lv_at hl 0 rfl) ?_
          refine lv_iload_n hx hb dX4_farOff_31 rfl (lv_at hl 2 rfl) ?_
          obtain ⟨z32, hz32, hf⟩ := q_bind hf
          refine q_rdV (As := [.int x2]) (rest := [.int x1]) (st2 := [.int z32, .int x1]) S hk (c_X4_levelOf l D cy H0 aP aG aG_columns aG_lines aG_distances aG_weights aR aPi g_cells g_free g_freeCount g_columns g_lines pi_base pi_dx pi_dy x2 z32 (hP.sub [0, 1, 2, 5] rfl) hz32) ok_X4_levelOf tw_668 ⟨rfl, rfl, Nat.le_of_ble_eq_true rfl, Nat.le_of_ble_eq_true rfl⟩ (va_recv hk.1 hP (ci := 4) (q0 := 5) rfl rfl) rfl hl.1 rfl (Nat.le_of_ble_eq_true rfl) dX4_farOff_32 ⟨Nat.zero_le _, Nat.zero_le _⟩ rfl ?_
          refine lv_iadd hx hb dX4_farOff_35 ?_
          refine lv_istore_n (lv' := [(1, .int (x1 + z32)), (0, .ref aPi), (2, .int x2)]) hx hb dX4_farOff_36 rfl hl (by decide) rfl (fun ls hl => ?_)
          refine lv_iinc (v := (x2 + 1)) (lv' := [(2, .int (x2 + 1)), (1, .int (x1 + z32)), (0, .ref aPi)]) hx hb dX4_farOff_37 hl (k := 2) rfl rfl (by decide) rfl (fun ls hl => ?_)
          refine lv_goto (tgt := 4) hx hb dX4_farOff_40 (by decide) ?_
          exact ih4 (x1 + z32) (x2 + 1) ls (lv_sub hl [2, 1, 0] rfl) hf
  refine lv_iconst (v := (0 : Int32)) hx hb dX4_farOff_0 (by decide) ?_
  refine lv_istore_n (lv' := [(1, .int (0 : Int32)), (0, .ref aPi)]) hx hb dX4_farOff_1 rfl hl (by decide) rfl (fun ls hl => ?_)
  refine lv_iconst (v := (0 : Int32)) hx hb dX4_farOff_2 (by decide) ?_
  refine lv_istore_n (lv' := [(2, .int (0 : Int32)), (1, .int (0 : Int32)), (0, .ref aPi)]) hx hb dX4_farOff_3 rfl hl (by decide) rfl (fun ls hl => ?_)
  exact J4 FU (0 : Int32) (0 : Int32) ls (lv_sub hl [2, 1, 0] rfl) hf
def f_X7_append (s_size : Int32) (s_lines : Nat → Int32) (s_counts : Nat → Int32) (x1 : Int32) (x2 : Int32) : Option (Int32 × Int32 × (Nat → Int32) × (Nat → Int32)) := if s_size < 0 then (some ((0 : Int32), s_size, s_lines, s_counts)) else (if s_size < (6 : Int32) then (if inb s_size 6 = true then (if inb s_size 6 = true then (some ((1 : Int32), (s_size + (1 : Int32)), (upd s_lines s_size.toNatClampNeg x1), (upd s_counts s_size.toNatClampNeg x2))) else none) else none) else (some ((0 : Int32), s_size, s_lines, s_counts)))
theorem ok_X7_append : OkV yX7_append cX7_append 3 (some Jvm.ClassFile.FieldType.boolean) 2 := ⟨⟨tw_707, tw_10, by decide +kernel, by decide +kernel, by decide +kernel⟩, tw_705, tw_706⟩
set_option maxHeartbeats 4000000 in
set_option maxRecDepth 100000 in
theorem c_X7_append (l : Launch) (D : va_G) (cy : ClassId × ClassId × ClassId) (H0 : Heap) (aG aR aS aS_lines aS_counts : Nat) (s_size : Int32) (s_lines : Nat → Int32) (s_counts : Nat → Int32) (x1 : Int32) (x2 : Int32) (r : Int32 × Int32 × (Nat → Int32) × (Nat → Int32)) (hP : va_P D vwCl [(aS, .inr (7, [.ref aG, .ref aR, .ref aS_lines, .ref aS_counts, .int s_size])), (aS_lines, .inl (cy.1, 6, .inl s_lines)), (aS_counts, .inl (cy.1, 6, .inl s_counts))] H0) (hD0 : va_D (fun _ => True) [(aS, .inr (7, [.ref aG, .ref aR, .ref aS_lines, .ref aS_counts, .int s_size])), (aS_lines, .inl (cy.1, 6, .inl s_lines)), (aS_counts, .inl (cy.1, 6, .inl s_counts))]) (hf : f_X7_append s_size s_lines s_counts x1 x2 = some r) : Wr l yX7_append cX7_append 3 (some Jvm.ClassFile.FieldType.boolean) ({ frames := 0, cells := 0, slots := 0, locals := 0 } : Room) ([.ref aS, .int x1, .int x2] : List Value) (some (.int (r.1))) D cy H0 [(aS, .inr (7, [.ref aG, .ref aR, .ref aS_lines, .ref aS_counts, .int s_size])), (aS_lines, .inl (cy.1, 6, .inl s_lines)), (aS_counts, .inl (cy.1, 6, .inl s_counts))] [(aS, .inr (7, [.ref aG, .ref aR, .ref aS_lines, .ref aS_counts, .int (r.2.1)])), (aS_lines, .inl (cy.1, 6, .inl (r.2.2.1))), (aS_counts, .inl (cy.1, 6, .inl (r.2.2.2)))] := by
  refine wr_of (by decide +kernel) (Nat.le_of_ble_eq_true rfl) hD0 ?_
  intro p e s m below meth c ls A S hr hlocks hk hl hD hS hA
  obtain ⟨hx, hb, hml, hown, hts⟩ := id S
  have hl : lv_has ls 3 [(0, .ref aS), (1, .int x1), (2, .int x2)] := hl
  rw [f_X7_append] at hf
  refine lv_aload_n hx hb dX7_append_0 rfl (lv_at hl 0 rfl) ?_
  refine va_get (D := D) (ci := 7) (v := .int s_size) (C := RX7) (T := TX7) (N := 5) hx hb hts iX7 hown hk.1 hP 0 rfl rfl 4 (by decide) (hts _ tw_257) (fun _ h9 => h9) rfl dX7_append_1 ?_
  refine lv_if_lt (tgt := 16) hx hb dX7_append_4 (by decide) (fun hc => ?_) (fun hc => ?_)
  · have hf := q_t hc hf
    refine lv_iconst (v := (0 : Int32)) hx hb dX7_append_16 (by decide) ?_
    have hf := Option.some.inj hf
    subst hf
    exact q_rzW (Or.inl rfl) hP hS hx hb hr hlocks dX7_append_17
  · have hf := q_f hc hf
    refine lv_aload_n hx hb dX7_append_7 rfl (lv_at hl 0 rfl) ?_
    refine va_get (D := D) (ci := 7) (v := .int s_size) (C := RX7) (T := TX7) (N := 5) hx hb hts iX7 hown hk.1 hP 0 rfl rfl 4 (by decide) (hts _ tw_257) (fun _ h9 => h9) rfl dX7_append_8 ?_
    refine lv_bipush (v := (6 : Int32)) hx hb dX7_append_11 (by decide) ?_
    refine lv_icmp_lt (tgt := 18) hx hb dX7_append_13 (by decide) (fun hc => ?_) (fun hc => ?_)
    · have hf := q_t hc hf
      refine lv_aload_n hx hb dX7_append_18 rfl (lv_at hl 0 rfl) ?_
      refine va_get (D := D) (ci := 7) (v := .ref aS_lines) (C := RX7) (T := TX7) (N := 5) hx hb hts iX7 hown hk.1 hP 0 rfl rfl 2 (by decide) (hts _ tw_255) (fun _ h9 => h9) rfl dX7_append_19 ?_
      refine lv_aload_n hx hb dX7_append_22 rfl (lv_at hl 0 rfl) ?_
      refine va_get (D := D) (ci := 7) (v := .int s_size) (C := RX7) (T := TX7) (N := 5) hx hb hts iX7 hown hk.1 hP 0 rfl rfl 4 (by decide) (hts _ tw_257) (fun _ h9 => h9) rfl dX7_append_23 ?_
      refine lv_iload_n hx hb dX7_append_26 rfl (lv_at hl 1 rfl) ?_
      obtain ⟨hi, hf⟩ := q_in hf
      refine va_iast hx hb hk.1 hP hD hS 1 0 rfl rfl hi dX7_append_27 (fun H locs hP hD hS => ?_)
      have hP : va_P D vwCl [(aS, .inr (7, [.ref aG, .ref aR, .ref aS_lines, .ref aS_counts, .int s_size])), (aS_lines, .inl (cy.1, 6, .inl (upd s_lines s_size.toNatClampNeg x1))), (aS_counts, .inl (cy.1, 6, .inl s_counts))] H := hP
      have hD : va_D A [(aS, .inr (7, [.ref aG, .ref aR, .ref aS_lines, .ref aS_counts, .int s_size])), (aS_lines, .inl (cy.1, 6, .inl (upd s_lines s_size.toNatClampNeg x1))), (aS_counts, .inl (cy.1, 6, .inl s_counts))] := hD
      refine lv_aload_n hx hb dX7_append_28 rfl (lv_at hl 0 rfl) ?_
      refine va_get (D := D) (ci := 7) (v := .ref aS_counts) (C := RX7) (T := TX7) (N := 5) hx hb hts iX7 hown hk.1 hP 0 rfl rfl 3 (by decide) (hts _ tw_256) (fun _ h9 => h9) rfl dX7_append_29 ?_
      refine lv_aload_n hx hb dX7_append_32 rfl (lv_at hl 0 rfl) ?_
      refine va_get (D := D) (ci := 7) (v := .int s_size) (C := RX7) (T := TX7) (N := 5) hx hb hts iX7 hown hk.1 hP 0 rfl rfl 4 (by decide) (hts _ tw_257) (fun _ h9 => h9) rfl dX7_append_33 ?_
      refine lv_iload_n hx hb dX7_append_36 rfl (lv_at hl 2 rfl) ?_
      obtain ⟨hi, hf⟩ := q_in hf
      refine va_iast hx hb hk.1 hP hD hS 2 0 rfl rfl hi dX7_append_37 (fun H locs hP hD hS => ?_)
      have hP : va_P D vwCl [(aS, .inr (7, [.ref aG, .ref aR, .ref aS_lines, .ref aS_counts, .int s_size])), (aS_lines, .inl (cy.1, 6, .inl (upd s_lines s_size.toNatClampNeg x1))), (aS_counts, .inl (cy.1, 6, .inl (upd s_counts s_size.toNatClampNeg x2)))] H := hP
      have hD : va_D A [(aS, .inr (7, [.ref aG, .ref aR, .ref aS_lines, .ref aS_counts, .int s_size])), (aS_lines, .inl (cy.1, 6, .inl (upd s_lines s_size.toNatClampNeg x1))), (aS_counts, .inl (cy.1, 6, .inl (upd s_counts s_size.toNatClampNeg x2)))] := hD
      refine lv_aload_n hx hb dX7_append_38 rfl (lv_at hl 0 rfl) ?_
      refine lv_dup hx hb dX7_append_39 rfl ?_
      refine va_get (D := D) (ci := 7) (v := .int s_size) (C := RX7) (T := TX7) (N := 5) hx hb hts iX7 hown hk.1 hP 0 rfl rfl 4 (by decide) (hts _ tw_257) (fun _ h9 => h9) rfl dX7_append_40 ?_
      refine lv_iconst (v := (1 : Int32)) hx hb dX7_append_43 (by decide) ?_
      refine lv_iadd hx hb dX7_append_44 ?_
      refine va_put (D := D) (ci := 7) (v := .int (s_size + (1 : Int32))) (ty := .int) (C := RX7) (T := TX7) (N := 5) hx hb hts iX7 tyX7 tyX7_ok nmX7 hown hk.1 hP hD hS 0 rfl rfl 4 (by decide) (hts _ tw_257) (fun _ h9 => h9) rfl (by decide +kernel) rfl rfl (Nat.le_of_ble_eq_true rfl) dX7_append_45 (fun H locs hP hD hS => ?_)
      have hP : va_P D vwCl [(aS, .inr (7, [.ref aG, .ref aR, .ref aS_lines, .ref aS_counts, .int (s_size + (1 : Int32))])), (aS_lines, .inl (cy.1, 6, .inl (upd s_lines s_size.toNatClampNeg x1))), (aS_counts, .inl (cy.1, 6, .inl (upd s_counts s_size.toNatClampNeg x2)))] H := hP
      have hD : va_D A [(aS, .inr (7, [.ref aG, .ref aR, .ref aS_lines, .ref aS_counts, .int (s_size + (1 : Int32))])), (aS_lines, .inl (cy.1, 6, .inl (upd s_lines s_size.toNatClampNeg x1))), (aS_counts, .inl (cy.1, 6, .inl (upd s_counts s_size.toNatClampNeg x2)))] := hD
      refine lv_iconst (v := (1 : Int32)) hx hb dX7_append_48 (by decide) ?_
      have hf := Option.some.inj hf
      subst hf
      exact q_rzW (Or.inr rfl) hP hS hx hb hr hlocks dX7_append_49
    · have hf := q_f hc hf
      refine lv_iconst (v := (0 : Int32)) hx hb dX7_append_16 (by decide) ?_
      have hf := Option.some.inj hf
      subst hf
      exact q_rzW (Or.inl rfl) hP hS hx hb hr hlocks dX7_append_17
def j_X7_cellsOn_52 (x1 : Int32) (k5 : Int32 → Int32 → Option (Int32)) (x3 : Int32) (x4 : Int32) (k0 : Int32) : Option (Int32) := if k0 = x1 then (k5 (x3 + 1) (x4 + 1)) else (k5 x3 (x4 + 1))
def lp_X7_cellsOn_5 (g_cells : Int32) (g_freeCount : Int32) (g_columns : Nat → Int32) (g_lines : Nat → Int32) (r_order : Nat → Int32) (x1 : Int32) (x2 : Int32) : Nat → Int32 → Int32 → Option (Int32)
  | 0, _, _ => none
  | n + 1, x3, x4 => if x2 ≤ x4 then (some x3) else ((f_X6_cellOf g_freeCount r_order x4).bind (fun z17 => if (8 : Int32) ≤ x1 then ((f_X0_columnOf g_cells g_columns z17).bind (fun z48 => j_X7_cellsOn_52 x1 (lp_X7_cellsOn_5 g_cells g_freeCount g_columns g_lines r_order x1 x2 n) x3 x4 ((8 : Int32) + z48))) else ((f_X0_lineOf g_cells g_lines z17).bind (fun z34 => j_X7_cellsOn_52 x1 (lp_X7_cellsOn_5 g_cells g_freeCount g_columns g_lines r_order x1 x2 n) x3 x4 z34))))
theorem lp_X7_cellsOn_5_s (g_cells : Int32) (g_freeCount : Int32) (g_columns : Nat → Int32) (g_lines : Nat → Int32) (r_order : Nat → Int32) (x1 : Int32) (x2 : Int32) (n : Nat) (x3 : Int32) (x4 : Int32) : lp_X7_cellsOn_5 g_cells g_freeCount g_columns g_lines r_order x1 x2 (n + 1) x3 x4 = (if x2 ≤ x4 then (some x3) else ((f_X6_cellOf g_freeCount r_order x4).bind (fun z17 => if (8 : Int32) ≤ x1 then ((f_X0_columnOf g_cells g_columns z17).bind (fun z48 => j_X7_cellsOn_52 x1 (lp_X7_cellsOn_5 g_cells g_freeCount g_columns g_lines r_order x1 x2 n) x3 x4 ((8 : Int32) + z48))) else ((f_X0_lineOf g_cells g_lines z17).bind (fun z34 => j_X7_cellsOn_52 x1 (lp_X7_cellsOn_5 g_cells g_freeCount g_columns g_lines r_order x1 x2 n) x3 x4 z34))))) := rfl
theorem lp_X7_cellsOn_5_z (g_cells : Int32) (g_freeCount : Int32) (g_columns : Nat → Int32) (g_lines : Nat → Int32) (r_order : Nat → Int32) (x1 : Int32) (x2 : Int32) (x3 : Int32) (x4 : Int32) : lp_X7_cellsOn_5 g_cells g_freeCount g_columns g_lines r_order x1 x2 0 x3 x4 = none := rfl
def f_X7_cellsOn (g_cells : Int32) (g_freeCount : Int32) (g_columns : Nat → Int32) (g_lines : Nat → Int32) (r_order : Nat → Int32) (x1 : Int32) (x2 : Int32) : Option (Int32) := lp_X7_cellsOn_5 g_cells g_freeCount g_columns g_lines r_order x1 x2 FU (0 : Int32) (0 : Int32)
theorem ok_X7_cellsOn : OkV yX7_cellsOn cX7_cellsOn 7 (some Jvm.ClassFile.FieldType.int) 2 := ⟨⟨tw_727, tw_10, by decide +kernel, by decide +kernel, by decide +kernel⟩, tw_726, tp_25⟩
set_option maxHeartbeats 4000000 in
set_option maxRecDepth 100000 in
theorem c_X7_cellsOn (l : Launch) (D : va_G) (cy : ClassId × ClassId × ClassId) (H0 : Heap) (aP aG aG_columns aG_lines aG_distances aG_weights aR aR_order aR_places aHr aS aS_lines aS_counts : Nat) (g_cells : Int32) (g_free : Int64) (g_freeCount : Int32) (g_columns : Nat → Int32) (g_lines : Nat → Int32) (r_madeBy : Int64) (r_thinned : Int32) (r_filled : Int32) (r_order : Nat → Int32) (s_size : Int32) (x1 : Int32) (x2 : Int32) (r : Int32) (hP : va_P D vwCl [(aG, .inr (0, [.ref aP, .ref aG_columns, .ref aG_lines, .ref aG_distances, .ref aG_weights, .int g_cells, .long g_free, .int g_freeCount])), (aG_columns, .inl (cy.1, 64, .inl g_columns)), (aG_lines, .inl (cy.1, 64, .inl g_lines)), (aR, .inr (6, [.ref aG, .ref aHr, .ref aR_order, .ref aR_places, .long r_madeBy, .int r_thinned, .int r_filled])), (aR_order, .inl (cy.1, 64, .inl r_order)), (aS, .inr (7, [.ref aG, .ref aR, .ref aS_lines, .ref aS_counts, .int s_size]))] H0) (hf : f_X7_cellsOn g_cells g_freeCount g_columns g_lines r_order x1 x2 = some r) : Rd l yX7_cellsOn cX7_cellsOn 7 (some Jvm.ClassFile.FieldType.int) ({ frames := 2, cells := 0, slots := 0, locals := 42 } : Room) ([.ref aS, .int x1, .int x2] : List Value) (some (.int r)) D cy H0 := by
  refine rd_of (by decide +kernel) (Nat.le_of_ble_eq_true rfl) ?_
  intro p e s m below meth c ls S hr hlocks hk hl
  obtain ⟨hx, hb, hml, hown, hts⟩ := id S
  have hl : lv_has ls 7 [(0, .ref aS), (1, .int x1), (2, .int x2)] := hl
  rw [f_X7_cellsOn] at hf
  have J5 : ∀ (n5 : Nat) (x3 : Int32) (x4 : Int32) (ls : Array Slot), lv_has ls 7 [(0, .ref aS), (1, .int x1), (2, .int x2), (3, .int x3), (4, .int x4)] → lp_X7_cellsOn_5 g_cells g_freeCount g_columns g_lines r_order x1 x2 n5 x3 x4 = some r → W p l e ({ frames := 2, cells := 0, slots := 0, locals := 42 } : Room) s m ([.ref aS, .int x1, .int x2] : List Value).toArray below meth c H0 [] 0 0 (MQ below (QR (some (.int r)) H0) ([.ref aS, .int x1, .int x2] : List Value).toArray s 0 0 (fun _ => False)) (F0 m 5 ls []) := by
    intro n5
    induction n5 with
    | zero =>
      intro x3 x4 ls hl hf
      rw [lp_X7_cellsOn_5_z] at hf
      cases hf
    | succ n5 ih5 =>
      have J52 : ∀ (x3 : Int32) (x4 : Int32) (k0 : Int32) (ls : Array Slot), lv_has ls 7 [(0, .ref aS), (1, .int x1), (2, .int x2), (3, .int x3), (4, .int x4)] → j_X7_cellsOn_52 x1 (lp_X7_cellsOn_5 g_cells g_freeCount g_columns g_lines r_order x1 x2 n5) x3 x4 k0 = some r → W p l e ({ frames := 2, cells := 0, slots := 0, locals := 42 } : Room) s m ([.ref aS, .int x1, .int x2] : List Value).toArray below meth c H0 [] 0 0 (MQ below (QR (some (.int r)) H0) ([.ref aS, .int x1, .int x2] : List Value).toArray s 0 0 (fun _ => False)) (F0 m 52 ls [.int k0]) := by
        intro x3 x4 k0 ls hl hf
        rw [j_X7_cellsOn_52] at hf
        refine lv_istore (lv' := [(6, .int k0), (0, .ref aS), (1, .int x1), (2, .int x2), (3, .int x3), (4, .int x4)]) hx hb dX7_cellsOn_52 hl (by decide) rfl (fun ls hl => ?_)
        refine lv_iload hx hb dX7_cellsOn_54 (lv_at hl 0 rfl) ?_
        refine lv_iload_n hx hb dX7_cellsOn_56 rfl (lv_at hl 2 rfl) ?_
        refine lv_icmp_ne (tgt := 63) hx hb dX7_cellsOn_57 (by decide) (fun hc => ?_) (fun hc => ?_)
        · have hf := q_f hc hf
          refine lv_iinc (v := (x4 + 1)) (lv' := [(4, .int (x4 + 1)), (6, .int k0), (0, .ref aS), (1, .int x1), (2, .int x2), (3, .int x3)]) hx hb dX7_cellsOn_63 hl (k := 5) rfl rfl (by decide) rfl (fun ls hl => ?_)
          refine lv_goto (tgt := 5) hx hb dX7_cellsOn_66 (by decide) ?_
          exact ih5 x3 (x4 + 1) ls (lv_sub hl [2, 3, 4, 5, 0] rfl) hf
        · have hf := q_t hc hf
          refine lv_iinc (v := (x3 + 1)) (lv' := [(3, .int (x3 + 1)), (6, .int k0), (0, .ref aS), (1, .int x1), (2, .int x2), (4, .int x4)]) hx hb dX7_cellsOn_60 hl (k := 4) rfl rfl (by decide) rfl (fun ls hl => ?_)
          refine lv_iinc (v := (x4 + 1)) (lv' := [(4, .int (x4 + 1)), (3, .int (x3 + 1)), (6, .int k0), (0, .ref aS), (1, .int x1), (2, .int x2)]) hx hb dX7_cellsOn_63 hl (k := 5) rfl rfl (by decide) rfl (fun ls hl => ?_)
          refine lv_goto (tgt := 5) hx hb dX7_cellsOn_66 (by decide) ?_
          exact ih5 (x3 + 1) (x4 + 1) ls (lv_sub hl [3, 4, 5, 1, 0] rfl) hf
      intro x3 x4 ls hl hf
      rw [lp_X7_cellsOn_5_s] at hf
      refine lv_iload hx hb dX7_cellsOn_5 (lv_at hl 4 rfl) ?_
      refine lv_iload_n hx hb dX7_cellsOn_7 rfl (lv_at hl 2 rfl) ?_
      refine lv_icmp_ge (tgt := 69) hx hb dX7_cellsOn_8 (by decide) (fun hc => ?_) (fun hc => ?_)
      · have hf := q_t hc hf
        refine lv_iload_n hx hb dX7_cellsOn_69 rfl (lv_at hl 3 rfl) ?_
        have hf := Option.some.inj hf
        subst hf
        exact q_riR hx hb hr hlocks dX7_cellsOn_70
      · have hf := q_f hc hf
        refine lv_aload_n hx hb dX7_cellsOn_11 rfl (lv_at hl 0 rfl) ?_
        refine va_get (D := D) (ci := 7) (v := .ref aR) (C := RX7) (T := TX7) (N := 5) hx hb hts iX7 hown hk.1 hP 5 rfl rfl 1 (by decide) (hts _ tw_254) (fun _ h9 => h9) rfl dX7_cellsOn_12 ?_
        refine lv_iload hx hb dX7_cellsOn_15 (lv_at hl 4 rfl) ?_
        obtain ⟨z17, hz17, hf⟩ := q_bind hf
        refine q_rdV (As := [.int x4]) (rest := []) (st2 := [.int z17]) S hk (c_X6_cellOf l D cy H0 aP aG aG_columns aG_lines aG_distances aG_weights aR aR_order aR_places aHr g_cells g_free g_freeCount r_madeBy r_thinned r_filled r_order x4 z17 (hP.sub [0, 3, 4] rfl) hz17) ok_X6_cellOf tw_728 ⟨rfl, rfl, Nat.le_of_ble_eq_true rfl, Nat.le_of_ble_eq_true rfl⟩ (va_recv hk.1 hP (ci := 6) (q0 := 3) rfl rfl) rfl hl.1 rfl (Nat.le_of_ble_eq_true rfl) dX7_cellsOn_17 ⟨Nat.zero_le _, Nat.zero_le _⟩ rfl ?_
        refine lv_istore (lv' := [(5, .int z17), (0, .ref aS), (1, .int x1), (2, .int x2), (3, .int x3), (4, .int x4)]) hx hb dX7_cellsOn_20 hl (by decide) rfl (fun ls hl => ?_)
        refine lv_iload_n hx hb dX7_cellsOn_22 rfl (lv_at hl 2 rfl) ?_
        refine lv_bipush (v := (8 : Int32)) hx hb dX7_cellsOn_23 (by decide) ?_
        refine lv_icmp_ge (tgt := 40) hx hb dX7_cellsOn_25 (by decide) (fun hc => ?_) (fun hc => ?_)
        · have hf := q_t hc hf
          refine lv_bipush (v := (8 : Int32)) hx hb dX7_cellsOn_40 (by decide) ?_
          refine lv_aload_n hx hb dX7_cellsOn_42 rfl (lv_at hl 1 rfl) ?_
          refine va_get (D := D) (ci := 7) (v := .ref aG) (C := RX7) (T := TX7) (N := 5) hx hb hts iX7 hown hk.1 hP 5 rfl rfl 0 (by decide) (hts _ tw_253) (fun _ h9 => h9) rfl dX7_cellsOn_43 ?_
          refine lv_iload hx hb dX7_cellsOn_46 (lv_at hl 0 rfl) ?_
          obtain ⟨z48, hz48, hf⟩ := q_bind hf
          refine q_rdV (As := [.int z17]) (rest := [.int (8 : Int32)]) (st2 := [.int z48, .int (8 : Int32)]) S hk (c_X0_columnOf l D cy H0 aP aG aG_columns aG_lines aG_distances aG_weights g_cells g_free g_freeCount g_columns z17 z48 (hP.sub [0, 1] rfl) hz48) ok_X0_columnOf tw_730 ⟨rfl, rfl, Nat.le_of_ble_eq_true rfl, Nat.le_of_ble_eq_true rfl⟩ (va_recv hk.1 hP (ci := 0) (q0 := 0) rfl rfl) rfl hl.1 rfl (Nat.le_of_ble_eq_true rfl) dX7_cellsOn_48 ⟨Nat.zero_le _, Nat.zero_le _⟩ rfl ?_
          refine lv_iadd hx hb dX7_cellsOn_51 ?_
          exact J52 x3 x4 ((8 : Int32) + z48) ls (lv_sub hl [1, 2, 3, 4, 5] rfl) hf
        · have hf := q_f hc hf
          refine lv_aload_n hx hb dX7_cellsOn_28 rfl (lv_at hl 1 rfl) ?_
          refine va_get (D := D) (ci := 7) (v := .ref aG) (C := RX7) (T := TX7) (N := 5) hx hb hts iX7 hown hk.1 hP 5 rfl rfl 0 (by decide) (hts _ tw_253) (fun _ h9 => h9) rfl dX7_cellsOn_29 ?_
          refine lv_iload hx hb dX7_cellsOn_32 (lv_at hl 0 rfl) ?_
          obtain ⟨z34, hz34, hf⟩ := q_bind hf
          refine q_rdV (As := [.int z17]) (rest := []) (st2 := [.int z34]) S hk (c_X0_lineOf l D cy H0 aP aG aG_columns aG_lines aG_distances aG_weights g_cells g_free g_freeCount g_lines z17 z34 (hP.sub [0, 2] rfl) hz34) ok_X0_lineOf tw_729 ⟨rfl, rfl, Nat.le_of_ble_eq_true rfl, Nat.le_of_ble_eq_true rfl⟩ (va_recv hk.1 hP (ci := 0) (q0 := 0) rfl rfl) rfl hl.1 rfl (Nat.le_of_ble_eq_true rfl) dX7_cellsOn_34 ⟨Nat.zero_le _, Nat.zero_le _⟩ rfl ?_
          refine lv_goto (tgt := 52) hx hb dX7_cellsOn_37 (by decide) ?_
          exact J52 x3 x4 z34 ls (lv_sub hl [1, 2, 3, 4, 5] rfl) hf
  refine lv_iconst (v := (0 : Int32)) hx hb dX7_cellsOn_0 (by decide) ?_
  refine lv_istore_n (lv' := [(3, .int (0 : Int32)), (0, .ref aS), (1, .int x1), (2, .int x2)]) hx hb dX7_cellsOn_1 rfl hl (by decide) rfl (fun ls hl => ?_)
  refine lv_iconst (v := (0 : Int32)) hx hb dX7_cellsOn_2 (by decide) ?_
  refine lv_istore (lv' := [(4, .int (0 : Int32)), (3, .int (0 : Int32)), (0, .ref aS), (1, .int x1), (2, .int x2)]) hx hb dX7_cellsOn_3 hl (by decide) rfl (fun ls hl => ?_)
  exact J5 FU (0 : Int32) (0 : Int32) ls (lv_sub hl [2, 3, 4, 1, 0] rfl) hf
def lp_X7_fits_2 (g_cells : Int32) (g_freeCount : Int32) (g_columns : Nat → Int32) (g_lines : Nat → Int32) (r_order : Nat → Int32) (s_size : Int32) (s_lines : Nat → Int32) (s_counts : Nat → Int32) (x1 : Int32) : Nat → Int32 → Option (Int32)
  | 0, _ => none
  | n + 1, x2 => if s_size ≤ x2 then (some (1 : Int32)) else (if inb x2 6 = true then ((f_X7_cellsOn g_cells g_freeCount g_columns g_lines r_order (s_lines x2.toNatClampNeg) x1).bind (fun z18 => if inb x2 6 = true then (if z18 = (s_counts x2.toNatClampNeg) then (lp_X7_fits_2 g_cells g_freeCount g_columns g_lines r_order s_size s_lines s_counts x1 n (x2 + 1)) else (some (0 : Int32))) else none)) else none)
theorem lp_X7_fits_2_s (g_cells : Int32) (g_freeCount : Int32) (g_columns : Nat → Int32) (g_lines : Nat → Int32) (r_order : Nat → Int32) (s_size : Int32) (s_lines : Nat → Int32) (s_counts : Nat → Int32) (x1 : Int32) (n : Nat) (x2 : Int32) : lp_X7_fits_2 g_cells g_freeCount g_columns g_lines r_order s_size s_lines s_counts x1 (n + 1) x2 = (if s_size ≤ x2 then (some (1 : Int32)) else (if inb x2 6 = true then ((f_X7_cellsOn g_cells g_freeCount g_columns g_lines r_order (s_lines x2.toNatClampNeg) x1).bind (fun z18 => if inb x2 6 = true then (if z18 = (s_counts x2.toNatClampNeg) then (lp_X7_fits_2 g_cells g_freeCount g_columns g_lines r_order s_size s_lines s_counts x1 n (x2 + 1)) else (some (0 : Int32))) else none)) else none)) := rfl
theorem lp_X7_fits_2_z (g_cells : Int32) (g_freeCount : Int32) (g_columns : Nat → Int32) (g_lines : Nat → Int32) (r_order : Nat → Int32) (s_size : Int32) (s_lines : Nat → Int32) (s_counts : Nat → Int32) (x1 : Int32) (x2 : Int32) : lp_X7_fits_2 g_cells g_freeCount g_columns g_lines r_order s_size s_lines s_counts x1 0 x2 = none := rfl
def f_X7_fits (g_cells : Int32) (g_freeCount : Int32) (g_columns : Nat → Int32) (g_lines : Nat → Int32) (r_order : Nat → Int32) (s_size : Int32) (s_lines : Nat → Int32) (s_counts : Nat → Int32) (x1 : Int32) : Option (Int32) := lp_X7_fits_2 g_cells g_freeCount g_columns g_lines r_order s_size s_lines s_counts x1 FU (0 : Int32)
theorem ok_X7_fits : OkV yX7_fits cX7_fits 3 (some Jvm.ClassFile.FieldType.boolean) 1 := ⟨⟨tw_723, tw_10, by decide +kernel, by decide +kernel, by decide +kernel⟩, tw_722, tp_24⟩
set_option maxHeartbeats 4000000 in
set_option maxRecDepth 100000 in
theorem c_X7_fits (l : Launch) (D : va_G) (cy : ClassId × ClassId × ClassId) (H0 : Heap) (aP aG aG_columns aG_lines aG_distances aG_weights aR aR_order aR_places aHr aS aS_lines aS_counts : Nat) (g_cells : Int32) (g_free : Int64) (g_freeCount : Int32) (g_columns : Nat → Int32) (g_lines : Nat → Int32) (r_madeBy : Int64) (r_thinned : Int32) (r_filled : Int32) (r_order : Nat → Int32) (s_size : Int32) (s_lines : Nat → Int32) (s_counts : Nat → Int32) (x1 : Int32) (r : Int32) (hP : va_P D vwCl [(aG, .inr (0, [.ref aP, .ref aG_columns, .ref aG_lines, .ref aG_distances, .ref aG_weights, .int g_cells, .long g_free, .int g_freeCount])), (aG_columns, .inl (cy.1, 64, .inl g_columns)), (aG_lines, .inl (cy.1, 64, .inl g_lines)), (aR, .inr (6, [.ref aG, .ref aHr, .ref aR_order, .ref aR_places, .long r_madeBy, .int r_thinned, .int r_filled])), (aR_order, .inl (cy.1, 64, .inl r_order)), (aS, .inr (7, [.ref aG, .ref aR, .ref aS_lines, .ref aS_counts, .int s_size])), (aS_lines, .inl (cy.1, 6, .inl s_lines)), (aS_counts, .inl (cy.1, 6, .inl s_counts))] H0) (hf : f_X7_fits g_cells g_freeCount g_columns g_lines r_order s_size s_lines s_counts x1 = some r) : Rd l yX7_fits cX7_fits 3 (some Jvm.ClassFile.FieldType.boolean) ({ frames := 3, cells := 0, slots := 0, locals := 68 } : Room) ([.ref aS, .int x1] : List Value) (some (.int r)) D cy H0 := by
  refine rd_of (by decide +kernel) (Nat.le_of_ble_eq_true rfl) ?_
  intro p e s m below meth c ls S hr hlocks hk hl
  obtain ⟨hx, hb, hml, hown, hts⟩ := id S
  have hl : lv_has ls 3 [(0, .ref aS), (1, .int x1)] := hl
  rw [f_X7_fits] at hf
  have J2 : ∀ (n2 : Nat) (x2 : Int32) (ls : Array Slot), lv_has ls 3 [(0, .ref aS), (1, .int x1), (2, .int x2)] → lp_X7_fits_2 g_cells g_freeCount g_columns g_lines r_order s_size s_lines s_counts x1 n2 x2 = some r → W p l e ({ frames := 3, cells := 0, slots := 0, locals := 68 } : Room) s m ([.ref aS, .int x1] : List Value).toArray below meth c H0 [] 0 0 (MQ below (QR (some (.int r)) H0) ([.ref aS, .int x1] : List Value).toArray s 0 0 (fun _ => False)) (F0 m 2 ls []) := by
    intro n2
    induction n2 with
    | zero =>
      intro x2 ls hl hf
      rw [lp_X7_fits_2_z] at hf
      cases hf
    | succ n2 ih2 =>
      intro x2 ls hl hf
      rw [lp_X7_fits_2_s] at hf
      refine lv_iload_n hx hb dX7_fits_2 rfl (lv_at hl 2 rfl) ?_
      refine lv_aload_n hx hb dX7_fits_3 rfl (lv_at hl 0 rfl) ?_
      refine va_get (D := D) (ci := 7) (v := .int s_size) (C := RX7) (T := TX7) (N := 5) hx hb hts iX7 hown hk.1 hP 5 rfl rfl 4 (by decide) (hts _ tw_257) (fun _ h9 => h9) rfl dX7_fits_4 ?_
      refine lv_icmp_ge (tgt := 38) hx hb dX7_fits_7 (by decide) (fun hc => ?_) (fun hc => ?_)
      · have hf := q_t hc hf
        refine lv_iconst (v := (1 : Int32)) hx hb dX7_fits_38 (by decide) ?_
        have hf := Option.some.inj hf
        subst hf
        exact q_rzR (Or.inr rfl) hx hb hr hlocks dX7_fits_39
      · have hf := q_f hc hf
        refine lv_aload_n hx hb dX7_fits_10 rfl (lv_at hl 0 rfl) ?_
        refine lv_aload_n hx hb dX7_fits_11 rfl (lv_at hl 0 rfl) ?_
        refine va_get (D := D) (ci := 7) (v := .ref aS_lines) (C := RX7) (T := TX7) (N := 5) hx hb hts iX7 hown hk.1 hP 5 rfl rfl 2 (by decide) (hts _ tw_255) (fun _ h9 => h9) rfl dX7_fits_12 ?_
        refine lv_iload_n hx hb dX7_fits_15 rfl (lv_at hl 2 rfl) ?_
        obtain ⟨hi, hf⟩ := q_in hf
        refine va_iald hx hb hk.1 hP 6 0 rfl rfl hi dX7_fits_16 ?_
        refine lv_iload_n hx hb dX7_fits_17 rfl (lv_at hl 1 rfl) ?_
        obtain ⟨z18, hz18, hf⟩ := q_bind hf
        refine q_rdV (As := [.int (s_lines x2.toNatClampNeg), .int x1]) (rest := []) (st2 := [.int z18]) S hk (c_X7_cellsOn l D cy H0 aP aG aG_columns aG_lines aG_distances aG_weights aR aR_order aR_places aHr aS aS_lines aS_counts g_cells g_free g_freeCount g_columns g_lines r_madeBy r_thinned r_filled r_order s_size (s_lines x2.toNatClampNeg) x1 z18 (hP.sub [0, 1, 2, 3, 4, 5] rfl) hz18) ok_X7_cellsOn tw_724 ⟨rfl, rfl, Nat.le_of_ble_eq_true rfl, Nat.le_of_ble_eq_true rfl⟩ (va_recv hk.1 hP (ci := 7) (q0 := 5) rfl rfl) rfl hl.1 rfl (Nat.le_of_ble_eq_true rfl) dX7_fits_18 ⟨Nat.zero_le _, Nat.zero_le _⟩ rfl ?_
        refine lv_aload_n hx hb dX7_fits_21 rfl (lv_at hl 0 rfl) ?_
        refine va_get (D := D) (ci := 7) (v := .ref aS_counts) (C := RX7) (T := TX7) (N := 5) hx hb hts iX7 hown hk.1 hP 5 rfl rfl 3 (by decide) (hts _ tw_256) (fun _ h9 => h9) rfl dX7_fits_22 ?_
        refine lv_iload_n hx hb dX7_fits_25 rfl (lv_at hl 2 rfl) ?_
        obtain ⟨hi, hf⟩ := q_in hf
        refine va_iald hx hb hk.1 hP 7 0 rfl rfl hi dX7_fits_26 ?_
        refine lv_icmp_eq (tgt := 32) hx hb dX7_fits_27 (by decide) (fun hc => ?_) (fun hc => ?_)
        · have hf := q_t hc hf
          refine lv_iinc (v := (x2 + 1)) (lv' := [(2, .int (x2 + 1)), (0, .ref aS), (1, .int x1)]) hx hb dX7_fits_32 hl (k := 2) rfl rfl (by decide) rfl (fun ls hl => ?_)
          refine lv_goto (tgt := 2) hx hb dX7_fits_35 (by decide) ?_
          exact ih2 (x2 + 1) ls (lv_sub hl [1, 2, 0] rfl) hf
        · have hf := q_f hc hf
          refine lv_iconst (v := (0 : Int32)) hx hb dX7_fits_30 (by decide) ?_
          have hf := Option.some.inj hf
          subst hf
          exact q_rzR (Or.inl rfl) hx hb hr hlocks dX7_fits_31
  refine lv_iconst (v := (0 : Int32)) hx hb dX7_fits_0 (by decide) ?_
  refine lv_istore_n (lv' := [(2, .int (0 : Int32)), (0, .ref aS), (1, .int x1)]) hx hb dX7_fits_1 rfl hl (by decide) rfl (fun ls hl => ?_)
  exact J2 FU (0 : Int32) ls (lv_sub hl [1, 2, 0] rfl) hf
def lp_X7_shadesThatFit_4 (g_cells : Int32) (g_freeCount : Int32) (g_columns : Nat → Int32) (g_lines : Nat → Int32) (r_order : Nat → Int32) (s_size : Int32) (s_lines : Nat → Int32) (s_counts : Nat → Int32) : Nat → Int32 → Int32 → Option (Int32)
  | 0, _, _ => none
  | n + 1, x1, x2 => if g_freeCount < x2 then (some x1) else ((f_X7_fits g_cells g_freeCount g_columns g_lines r_order s_size s_lines s_counts x2).bind (fun z17 => if z17 = 0 then (lp_X7_shadesThatFit_4 g_cells g_freeCount g_columns g_lines r_order s_size s_lines s_counts n x1 (x2 + 1)) else (lp_X7_shadesThatFit_4 g_cells g_freeCount g_columns g_lines r_order s_size s_lines s_counts n (x1 + 1) (x2 + 1))))
theorem lp_X7_shadesThatFit_4_s (g_cells : Int32) (g_freeCount : Int32) (g_columns : Nat → Int32) (g_lines : Nat → Int32) (r_order : Nat → Int32) (s_size : Int32) (s_lines : Nat → Int32) (s_counts : Nat → Int32) (n : Nat) (x1 : Int32) (x2 : Int32) : lp_X7_shadesThatFit_4 g_cells g_freeCount g_columns g_lines r_order s_size s_lines s_counts (n + 1) x1 x2 = (if g_freeCount < x2 then (some x1) else ((f_X7_fits g_cells g_freeCount g_columns g_lines r_order s_size s_lines s_counts x2).bind (fun z17 => if z17 = 0 then (lp_X7_shadesThatFit_4 g_cells g_freeCount g_columns g_lines r_order s_size s_lines s_counts n x1 (x2 + 1)) else (lp_X7_shadesThatFit_4 g_cells g_freeCount g_columns g_lines r_order s_size s_lines s_counts n (x1 + 1) (x2 + 1))))) := rfl
theorem lp_X7_shadesThatFit_4_z (g_cells : Int32) (g_freeCount : Int32) (g_columns : Nat → Int32) (g_lines : Nat → Int32) (r_order : Nat → Int32) (s_size : Int32) (s_lines : Nat → Int32) (s_counts : Nat → Int32) (x1 : Int32) (x2 : Int32) : lp_X7_shadesThatFit_4 g_cells g_freeCount g_columns g_lines r_order s_size s_lines s_counts 0 x1 x2 = none := rfl
def f_X7_shadesThatFit (g_cells : Int32) (g_freeCount : Int32) (g_columns : Nat → Int32) (g_lines : Nat → Int32) (r_order : Nat → Int32) (s_size : Int32) (s_lines : Nat → Int32) (s_counts : Nat → Int32) : Option (Int32) := lp_X7_shadesThatFit_4 g_cells g_freeCount g_columns g_lines r_order s_size s_lines s_counts FU (0 : Int32) (0 : Int32)
theorem ok_X7_shadesThatFit : OkV yX7_shadesThatFit cX7_shadesThatFit 3 (some Jvm.ClassFile.FieldType.int) 0 := ⟨⟨tw_719, tw_10, by decide +kernel, by decide +kernel, by decide +kernel⟩, tw_717, tw_718⟩
set_option maxHeartbeats 4000000 in
set_option maxRecDepth 100000 in
theorem c_X7_shadesThatFit (l : Launch) (D : va_G) (cy : ClassId × ClassId × ClassId) (H0 : Heap) (aP aG aG_columns aG_lines aG_distances aG_weights aR aR_order aR_places aHr aS aS_lines aS_counts : Nat) (g_cells : Int32) (g_free : Int64) (g_freeCount : Int32) (g_columns : Nat → Int32) (g_lines : Nat → Int32) (r_madeBy : Int64) (r_thinned : Int32) (r_filled : Int32) (r_order : Nat → Int32) (s_size : Int32) (s_lines : Nat → Int32) (s_counts : Nat → Int32) (r : Int32) (hP : va_P D vwCl [(aG, .inr (0, [.ref aP, .ref aG_columns, .ref aG_lines, .ref aG_distances, .ref aG_weights, .int g_cells, .long g_free, .int g_freeCount])), (aG_columns, .inl (cy.1, 64, .inl g_columns)), (aG_lines, .inl (cy.1, 64, .inl g_lines)), (aR, .inr (6, [.ref aG, .ref aHr, .ref aR_order, .ref aR_places, .long r_madeBy, .int r_thinned, .int r_filled])), (aR_order, .inl (cy.1, 64, .inl r_order)), (aS, .inr (7, [.ref aG, .ref aR, .ref aS_lines, .ref aS_counts, .int s_size])), (aS_lines, .inl (cy.1, 6, .inl s_lines)), (aS_counts, .inl (cy.1, 6, .inl s_counts))] H0) (hf : f_X7_shadesThatFit g_cells g_freeCount g_columns g_lines r_order s_size s_lines s_counts = some r) : Rd l yX7_shadesThatFit cX7_shadesThatFit 3 (some Jvm.ClassFile.FieldType.int) ({ frames := 4, cells := 0, slots := 0, locals := 90 } : Room) ([.ref aS] : List Value) (some (.int r)) D cy H0 := by
  refine rd_of (by decide +kernel) (Nat.le_of_ble_eq_true rfl) ?_
  intro p e s m below meth c ls S hr hlocks hk hl
  obtain ⟨hx, hb, hml, hown, hts⟩ := id S
  have hl : lv_has ls 3 [(0, .ref aS)] := hl
  rw [f_X7_shadesThatFit] at hf
  have J4 : ∀ (n4 : Nat) (x1 : Int32) (x2 : Int32) (ls : Array Slot), lv_has ls 3 [(0, .ref aS), (1, .int x1), (2, .int x2)] → lp_X7_shadesThatFit_4 g_cells g_freeCount g_columns g_lines r_order s_size s_lines s_counts n4 x1 x2 = some r → W p l e ({ frames := 4, cells := 0, slots := 0, locals := 90 } : Room) s m ([.ref aS] : List Value).toArray below meth c H0 [] 0 0 (MQ below (QR (some (.int r)) H0) ([.ref aS] : List Value).toArray s 0 0 (fun _ => False)) (F0 m 4 ls []) := by
    intro n4
    induction n4 with
    | zero =>
      intro x1 x2 ls hl hf
      rw [lp_X7_shadesThatFit_4_z] at hf
      cases hf
    | succ n4 ih4 =>
      intro x1 x2 ls hl hf
      rw [lp_X7_shadesThatFit_4_s] at hf
      refine lv_iload_n hx hb dX7_shadesThatFit_4 rfl (lv_at hl 2 rfl) ?_
      refine lv_aload_n hx hb dX7_shadesThatFit_5 rfl (lv_at hl 0 rfl) ?_
      refine va_get (D := D) (ci := 7) (v := .ref aG) (C := RX7) (T := TX7) (N := 5) hx hb hts iX7 hown hk.1 hP 5 rfl rfl 0 (by decide) (hts _ tw_253) (fun _ h9 => h9) rfl dX7_shadesThatFit_6 ?_
      refine va_get (D := D) (ci := 0) (v := .int g_freeCount) (C := RX0) (T := TX0) (N := 8) hx hb hts iX0 hown hk.1 hP 0 rfl rfl 7 (by decide) (hts _ tw_156) (fun _ h9 => h9) rfl dX7_shadesThatFit_9 ?_
      refine lv_icmp_gt (tgt := 32) hx hb dX7_shadesThatFit_12 (by decide) (fun hc => ?_) (fun hc => ?_)
      · have hf := q_t hc hf
        refine lv_iload_n hx hb dX7_shadesThatFit_32 rfl (lv_at hl 1 rfl) ?_
        have hf := Option.some.inj hf
        subst hf
        exact q_riR hx hb hr hlocks dX7_shadesThatFit_33
      · have hf := q_f hc hf
        refine lv_aload_n hx hb dX7_shadesThatFit_15 rfl (lv_at hl 0 rfl) ?_
        refine lv_iload_n hx hb dX7_shadesThatFit_16 rfl (lv_at hl 2 rfl) ?_
        obtain ⟨z17, hz17, hf⟩ := q_bind hf
        refine q_rdV (As := [.int x2]) (rest := []) (st2 := [.int z17]) S hk (c_X7_fits l D cy H0 aP aG aG_columns aG_lines aG_distances aG_weights aR aR_order aR_places aHr aS aS_lines aS_counts g_cells g_free g_freeCount g_columns g_lines r_madeBy r_thinned r_filled r_order s_size s_lines s_counts x2 z17 (hP.sub [0, 1, 2, 3, 4, 5, 6, 7] rfl) hz17) ok_X7_fits tw_720 ⟨rfl, rfl, Nat.le_of_ble_eq_true rfl, Nat.le_of_ble_eq_true rfl⟩ (va_recv hk.1 hP (ci := 7) (q0 := 5) rfl rfl) rfl hl.1 rfl (Nat.le_of_ble_eq_true rfl) dX7_shadesThatFit_17 ⟨Nat.zero_le _, Nat.zero_le _⟩ rfl ?_
        refine lv_if_eq (tgt := 26) hx hb dX7_shadesThatFit_20 (by decide) (fun hc => ?_) (fun hc => ?_)
        · have hf := q_t hc hf
          refine lv_iinc (v := (x2 + 1)) (lv' := [(2, .int (x2 + 1)), (0, .ref aS), (1, .int x1)]) hx hb dX7_shadesThatFit_26 hl (k := 2) rfl rfl (by decide) rfl (fun ls hl => ?_)
          refine lv_goto (tgt := 4) hx hb dX7_shadesThatFit_29 (by decide) ?_
          exact ih4 x1 (x2 + 1) ls (lv_sub hl [1, 2, 0] rfl) hf
        · have hf := q_f hc hf
          refine lv_iinc (v := (x1 + 1)) (lv' := [(1, .int (x1 + 1)), (0, .ref aS), (2, .int x2)]) hx hb dX7_shadesThatFit_23 hl (k := 1) rfl rfl (by decide) rfl (fun ls hl => ?_)
          refine lv_iinc (v := (x2 + 1)) (lv' := [(2, .int (x2 + 1)), (1, .int (x1 + 1)), (0, .ref aS)]) hx hb dX7_shadesThatFit_26 hl (k := 2) rfl rfl (by decide) rfl (fun ls hl => ?_)
          refine lv_goto (tgt := 4) hx hb dX7_shadesThatFit_29 (by decide) ?_
          exact ih4 (x1 + 1) (x2 + 1) ls (lv_sub hl [2, 1, 0] rfl) hf
  refine lv_iconst (v := (0 : Int32)) hx hb dX7_shadesThatFit_0 (by decide) ?_
  refine lv_istore_n (lv' := [(1, .int (0 : Int32)), (0, .ref aS)]) hx hb dX7_shadesThatFit_1 rfl hl (by decide) rfl (fun ls hl => ?_)
  refine lv_iconst (v := (0 : Int32)) hx hb dX7_shadesThatFit_2 (by decide) ?_
  refine lv_istore_n (lv' := [(2, .int (0 : Int32)), (1, .int (0 : Int32)), (0, .ref aS)]) hx hb dX7_shadesThatFit_3 rfl hl (by decide) rfl (fun ls hl => ?_)
  exact J4 FU (0 : Int32) (0 : Int32) ls (lv_sub hl [2, 1, 0] rfl) hf
def lp_X7_leastThatFits_2 (g_cells : Int32) (g_freeCount : Int32) (g_columns : Nat → Int32) (g_lines : Nat → Int32) (r_order : Nat → Int32) (s_size : Int32) (s_lines : Nat → Int32) (s_counts : Nat → Int32) : Nat → Int32 → Option (Int32)
  | 0, _ => none
  | n + 1, x1 => if g_freeCount < x1 then (some (-9 : Int32)) else ((f_X7_fits g_cells g_freeCount g_columns g_lines r_order s_size s_lines s_counts x1).bind (fun z15 => if z15 = 0 then (lp_X7_leastThatFits_2 g_cells g_freeCount g_columns g_lines r_order s_size s_lines s_counts n (x1 + 1)) else (some x1)))
theorem lp_X7_leastThatFits_2_s (g_cells : Int32) (g_freeCount : Int32) (g_columns : Nat → Int32) (g_lines : Nat → Int32) (r_order : Nat → Int32) (s_size : Int32) (s_lines : Nat → Int32) (s_counts : Nat → Int32) (n : Nat) (x1 : Int32) : lp_X7_leastThatFits_2 g_cells g_freeCount g_columns g_lines r_order s_size s_lines s_counts (n + 1) x1 = (if g_freeCount < x1 then (some (-9 : Int32)) else ((f_X7_fits g_cells g_freeCount g_columns g_lines r_order s_size s_lines s_counts x1).bind (fun z15 => if z15 = 0 then (lp_X7_leastThatFits_2 g_cells g_freeCount g_columns g_lines r_order s_size s_lines s_counts n (x1 + 1)) else (some x1)))) := rfl
theorem lp_X7_leastThatFits_2_z (g_cells : Int32) (g_freeCount : Int32) (g_columns : Nat → Int32) (g_lines : Nat → Int32) (r_order : Nat → Int32) (s_size : Int32) (s_lines : Nat → Int32) (s_counts : Nat → Int32) (x1 : Int32) : lp_X7_leastThatFits_2 g_cells g_freeCount g_columns g_lines r_order s_size s_lines s_counts 0 x1 = none := rfl
def f_X7_leastThatFits (g_cells : Int32) (g_freeCount : Int32) (g_columns : Nat → Int32) (g_lines : Nat → Int32) (r_order : Nat → Int32) (s_size : Int32) (s_lines : Nat → Int32) (s_counts : Nat → Int32) : Option (Int32) := lp_X7_leastThatFits_2 g_cells g_freeCount g_columns g_lines r_order s_size s_lines s_counts FU (0 : Int32)
theorem ok_X7_leastThatFits : OkV yX7_leastThatFits cX7_leastThatFits 2 (some Jvm.ClassFile.FieldType.int) 0 := ⟨⟨tw_734, tw_10, by decide +kernel, by decide +kernel, by decide +kernel⟩, tw_732, tw_733⟩
set_option maxHeartbeats 4000000 in
set_option maxRecDepth 100000 in
theorem c_X7_leastThatFits (l : Launch) (D : va_G) (cy : ClassId × ClassId × ClassId) (H0 : Heap) (aP aG aG_columns aG_lines aG_distances aG_weights aR aR_order aR_places aHr aS aS_lines aS_counts : Nat) (g_cells : Int32) (g_free : Int64) (g_freeCount : Int32) (g_columns : Nat → Int32) (g_lines : Nat → Int32) (r_madeBy : Int64) (r_thinned : Int32) (r_filled : Int32) (r_order : Nat → Int32) (s_size : Int32) (s_lines : Nat → Int32) (s_counts : Nat → Int32) (r : Int32) (hP : va_P D vwCl [(aG, .inr (0, [.ref aP, .ref aG_columns, .ref aG_lines, .ref aG_distances, .ref aG_weights, .int g_cells, .long g_free, .int g_freeCount])), (aG_columns, .inl (cy.1, 64, .inl g_columns)), (aG_lines, .inl (cy.1, 64, .inl g_lines)), (aR, .inr (6, [.ref aG, .ref aHr, .ref aR_order, .ref aR_places, .long r_madeBy, .int r_thinned, .int r_filled])), (aR_order, .inl (cy.1, 64, .inl r_order)), (aS, .inr (7, [.ref aG, .ref aR, .ref aS_lines, .ref aS_counts, .int s_size])), (aS_lines, .inl (cy.1, 6, .inl s_lines)), (aS_counts, .inl (cy.1, 6, .inl s_counts))] H0) (hf : f_X7_leastThatFits g_cells g_freeCount g_columns g_lines r_order s_size s_lines s_counts = some r) : Rd l yX7_leastThatFits cX7_leastThatFits 2 (some Jvm.ClassFile.FieldType.int) ({ frames := 4, cells := 0, slots := 0, locals := 90 } : Room) ([.ref aS] : List Value) (some (.int r)) D cy H0 := by
  refine rd_of (by decide +kernel) (Nat.le_of_ble_eq_true rfl) ?_
  intro p e s m below meth c ls S hr hlocks hk hl
  obtain ⟨hx, hb, hml, hown, hts⟩ := id S
  have hl : lv_has ls 2 [(0, .ref aS)] := hl
  rw [f_X7_leastThatFits] at hf
  have J2 : ∀ (n2 : Nat) (x1 : Int32) (ls : Array Slot), lv_has ls 2 [(0, .ref aS), (1, .int x1)] → lp_X7_leastThatFits_2 g_cells g_freeCount g_columns g_lines r_order s_size s_lines s_counts n2 x1 = some r → W p l e ({ frames := 4, cells := 0, slots := 0, locals := 90 } : Room) s m ([.ref aS] : List Value).toArray below meth c H0 [] 0 0 (MQ below (QR (some (.int r)) H0) ([.ref aS] : List Value).toArray s 0 0 (fun _ => False)) (F0 m 2 ls []) := by
    intro n2
    induction n2 with
    | zero =>
      intro x1 ls hl hf
      rw [lp_X7_leastThatFits_2_z] at hf
      cases hf
    | succ n2 ih2 =>
      intro x1 ls hl hf
      rw [lp_X7_leastThatFits_2_s] at hf
      refine lv_iload_n hx hb dX7_leastThatFits_2 rfl (lv_at hl 1 rfl) ?_
      refine lv_aload_n hx hb dX7_leastThatFits_3 rfl (lv_at hl 0 rfl) ?_
      refine va_get (D := D) (ci := 7) (v := .ref aG) (C := RX7) (T := TX7) (N := 5) hx hb hts iX7 hown hk.1 hP 5 rfl rfl 0 (by decide) (hts _ tw_253) (fun _ h9 => h9) rfl dX7_leastThatFits_4 ?_
      refine va_get (D := D) (ci := 0) (v := .int g_freeCount) (C := RX0) (T := TX0) (N := 8) hx hb hts iX0 hown hk.1 hP 0 rfl rfl 7 (by decide) (hts _ tw_156) (fun _ h9 => h9) rfl dX7_leastThatFits_7 ?_
      refine lv_icmp_gt (tgt := 29) hx hb dX7_leastThatFits_10 (by decide) (fun hc => ?_) (fun hc => ?_)
      · have hf := q_t hc hf
        refine lv_bipush (v := (-9 : Int32)) hx hb dX7_leastThatFits_29 (by decide) ?_
        have hf := Option.some.inj hf
        subst hf
        exact q_riR hx hb hr hlocks dX7_leastThatFits_31
      · have hf := q_f hc hf
        refine lv_aload_n hx hb dX7_leastThatFits_13 rfl (lv_at hl 0 rfl) ?_
        refine lv_iload_n hx hb dX7_leastThatFits_14 rfl (lv_at hl 1 rfl) ?_
        obtain ⟨z15, hz15, hf⟩ := q_bind hf
        refine q_rdV (As := [.int x1]) (rest := []) (st2 := [.int z15]) S hk (c_X7_fits l D cy H0 aP aG aG_columns aG_lines aG_distances aG_weights aR aR_order aR_places aHr aS aS_lines aS_counts g_cells g_free g_freeCount g_columns g_lines r_madeBy r_thinned r_filled r_order s_size s_lines s_counts x1 z15 (hP.sub [0, 1, 2, 3, 4, 5, 6, 7] rfl) hz15) ok_X7_fits tw_720 ⟨rfl, rfl, Nat.le_of_ble_eq_true rfl, Nat.le_of_ble_eq_true rfl⟩ (va_recv hk.1 hP (ci := 7) (q0 := 5) rfl rfl) rfl hl.1 rfl (Nat.le_of_ble_eq_true rfl) dX7_leastThatFits_15 ⟨Nat.zero_le _, Nat.zero_le _⟩ rfl ?_
        refine lv_if_eq (tgt := 23) hx hb dX7_leastThatFits_18 (by decide) (fun hc => ?_) (fun hc => ?_)
        · have hf := q_t hc hf
          refine lv_iinc (v := (x1 + 1)) (lv' := [(1, .int (x1 + 1)), (0, .ref aS)]) hx hb dX7_leastThatFits_23 hl (k := 1) rfl rfl (by decide) rfl (fun ls hl => ?_)
          refine lv_goto (tgt := 2) hx hb dX7_leastThatFits_26 (by decide) ?_
          exact ih2 (x1 + 1) ls (lv_sub hl [1, 0] rfl) hf
        · have hf := q_f hc hf
          refine lv_iload_n hx hb dX7_leastThatFits_21 rfl (lv_at hl 1 rfl) ?_
          have hf := Option.some.inj hf
          subst hf
          exact q_riR hx hb hr hlocks dX7_leastThatFits_22
  refine lv_iconst (v := (0 : Int32)) hx hb dX7_leastThatFits_0 (by decide) ?_
  refine lv_istore_n (lv' := [(1, .int (0 : Int32)), (0, .ref aS)]) hx hb dX7_leastThatFits_1 rfl hl (by decide) rfl (fun ls hl => ?_)
  exact J2 FU (0 : Int32) ls (lv_sub hl [1, 0] rfl) hf
def lp_X7_greatestThatFits_8 (g_cells : Int32) (g_freeCount : Int32) (g_columns : Nat → Int32) (g_lines : Nat → Int32) (r_order : Nat → Int32) (s_size : Int32) (s_lines : Nat → Int32) (s_counts : Nat → Int32) : Nat → Int32 → Option (Int32)
  | 0, _ => none
  | n + 1, x1 => if x1 < 0 then (some (-9 : Int32)) else ((f_X7_fits g_cells g_freeCount g_columns g_lines r_order s_size s_lines s_counts x1).bind (fun z14 => if z14 = 0 then (lp_X7_greatestThatFits_8 g_cells g_freeCount g_columns g_lines r_order s_size s_lines s_counts n (x1 + (-1))) else (some x1)))
theorem lp_X7_greatestThatFits_8_s (g_cells : Int32) (g_freeCount : Int32) (g_columns : Nat → Int32) (g_lines : Nat → Int32) (r_order : Nat → Int32) (s_size : Int32) (s_lines : Nat → Int32) (s_counts : Nat → Int32) (n : Nat) (x1 : Int32) : lp_X7_greatestThatFits_8 g_cells g_freeCount g_columns g_lines r_order s_size s_lines s_counts (n + 1) x1 = (if x1 < 0 then (some (-9 : Int32)) else ((f_X7_fits g_cells g_freeCount g_columns g_lines r_order s_size s_lines s_counts x1).bind (fun z14 => if z14 = 0 then (lp_X7_greatestThatFits_8 g_cells g_freeCount g_columns g_lines r_order s_size s_lines s_counts n (x1 + (-1))) else (some x1)))) := rfl
theorem lp_X7_greatestThatFits_8_z (g_cells : Int32) (g_freeCount : Int32) (g_columns : Nat → Int32) (g_lines : Nat → Int32) (r_order : Nat → Int32) (s_size : Int32) (s_lines : Nat → Int32) (s_counts : Nat → Int32) (x1 : Int32) : lp_X7_greatestThatFits_8 g_cells g_freeCount g_columns g_lines r_order s_size s_lines s_counts 0 x1 = none := rfl
def f_X7_greatestThatFits (g_cells : Int32) (g_freeCount : Int32) (g_columns : Nat → Int32) (g_lines : Nat → Int32) (r_order : Nat → Int32) (s_size : Int32) (s_lines : Nat → Int32) (s_counts : Nat → Int32) : Option (Int32) := lp_X7_greatestThatFits_8 g_cells g_freeCount g_columns g_lines r_order s_size s_lines s_counts FU g_freeCount
theorem ok_X7_greatestThatFits : OkV yX7_greatestThatFits cX7_greatestThatFits 2 (some Jvm.ClassFile.FieldType.int) 0 := ⟨⟨tw_738, tw_10, by decide +kernel, by decide +kernel, by decide +kernel⟩, tw_736, tw_737⟩
set_option maxHeartbeats 4000000 in
set_option maxRecDepth 100000 in
theorem c_X7_greatestThatFits (l : Launch) (D : va_G) (cy : ClassId × ClassId × ClassId) (H0 : Heap) (aP aG aG_columns aG_lines aG_distances aG_weights aR aR_order aR_places aHr aS aS_lines aS_counts : Nat) (g_cells : Int32) (g_free : Int64) (g_freeCount : Int32) (g_columns : Nat → Int32) (g_lines : Nat → Int32) (r_madeBy : Int64) (r_thinned : Int32) (r_filled : Int32) (r_order : Nat → Int32) (s_size : Int32) (s_lines : Nat → Int32) (s_counts : Nat → Int32) (r : Int32) (hP : va_P D vwCl [(aG, .inr (0, [.ref aP, .ref aG_columns, .ref aG_lines, .ref aG_distances, .ref aG_weights, .int g_cells, .long g_free, .int g_freeCount])), (aG_columns, .inl (cy.1, 64, .inl g_columns)), (aG_lines, .inl (cy.1, 64, .inl g_lines)), (aR, .inr (6, [.ref aG, .ref aHr, .ref aR_order, .ref aR_places, .long r_madeBy, .int r_thinned, .int r_filled])), (aR_order, .inl (cy.1, 64, .inl r_order)), (aS, .inr (7, [.ref aG, .ref aR, .ref aS_lines, .ref aS_counts, .int s_size])), (aS_lines, .inl (cy.1, 6, .inl s_lines)), (aS_counts, .inl (cy.1, 6, .inl s_counts))] H0) (hf : f_X7_greatestThatFits g_cells g_freeCount g_columns g_lines r_order s_size s_lines s_counts = some r) : Rd l yX7_greatestThatFits cX7_greatestThatFits 2 (some Jvm.ClassFile.FieldType.int) ({ frames := 4, cells := 0, slots := 0, locals := 90 } : Room) ([.ref aS] : List Value) (some (.int r)) D cy H0 := by
  refine rd_of (by decide +kernel) (Nat.le_of_ble_eq_true rfl) ?_
  intro p e s m below meth c ls S hr hlocks hk hl
  obtain ⟨hx, hb, hml, hown, hts⟩ := id S
  have hl : lv_has ls 2 [(0, .ref aS)] := hl
  rw [f_X7_greatestThatFits] at hf
  have J8 : ∀ (n8 : Nat) (x1 : Int32) (ls : Array Slot), lv_has ls 2 [(0, .ref aS), (1, .int x1)] → lp_X7_greatestThatFits_8 g_cells g_freeCount g_columns g_lines r_order s_size s_lines s_counts n8 x1 = some r → W p l e ({ frames := 4, cells := 0, slots := 0, locals := 90 } : Room) s m ([.ref aS] : List Value).toArray below meth c H0 [] 0 0 (MQ below (QR (some (.int r)) H0) ([.ref aS] : List Value).toArray s 0 0 (fun _ => False)) (F0 m 8 ls []) := by
    intro n8
    induction n8 with
    | zero =>
      intro x1 ls hl hf
      rw [lp_X7_greatestThatFits_8_z] at hf
      cases hf
    | succ n8 ih8 =>
      intro x1 ls hl hf
      rw [lp_X7_greatestThatFits_8_s] at hf
      refine lv_iload_n hx hb dX7_greatestThatFits_8 rfl (lv_at hl 1 rfl) ?_
      refine lv_if_lt (tgt := 28) hx hb dX7_greatestThatFits_9 (by decide) (fun hc => ?_) (fun hc => ?_)
      · have hf := q_t hc hf
        refine lv_bipush (v := (-9 : Int32)) hx hb dX7_greatestThatFits_28 (by decide) ?_
        have hf := Option.some.inj hf
        subst hf
        exact q_riR hx hb hr hlocks dX7_greatestThatFits_30
      · have hf := q_f hc hf
        refine lv_aload_n hx hb dX7_greatestThatFits_12 rfl (lv_at hl 0 rfl) ?_
        refine lv_iload_n hx hb dX7_greatestThatFits_13 rfl (lv_at hl 1 rfl) ?_
        obtain ⟨z14, hz14, hf⟩ := q_bind hf
        refine q_rdV (As := [.int x1]) (rest := []) (st2 := [.int z14]) S hk (c_X7_fits l D cy H0 aP aG aG_columns aG_lines aG_distances aG_weights aR aR_order aR_places aHr aS aS_lines aS_counts g_cells g_free g_freeCount g_columns g_lines r_madeBy r_thinned r_filled r_order s_size s_lines s_counts x1 z14 (hP.sub [0, 1, 2, 3, 4, 5, 6, 7] rfl) hz14) ok_X7_fits tw_720 ⟨rfl, rfl, Nat.le_of_ble_eq_true rfl, Nat.le_of_ble_eq_true rfl⟩ (va_recv hk.1 hP (ci := 7) (q0 := 5) rfl rfl) rfl hl.1 rfl (Nat.le_of_ble_eq_true rfl) dX7_greatestThatFits_14 ⟨Nat.zero_le _, Nat.zero_le _⟩ rfl ?_
        refine lv_if_eq (tgt := 22) hx hb dX7_greatestThatFits_17 (by decide) (fun hc => ?_) (fun hc => ?_)
        · have hf := q_t hc hf
          refine lv_iinc (v := (x1 + (-1))) (lv' := [(1, .int (x1 + (-1))), (0, .ref aS)]) hx hb dX7_greatestThatFits_22 hl (k := 1) rfl rfl (by decide) rfl (fun ls hl => ?_)
          refine lv_goto (tgt := 8) hx hb dX7_greatestThatFits_25 (by decide) ?_
          exact ih8 (x1 + (-1)) ls (lv_sub hl [1, 0] rfl) hf
        · have hf := q_f hc hf
          refine lv_iload_n hx hb dX7_greatestThatFits_20 rfl (lv_at hl 1 rfl) ?_
          have hf := Option.some.inj hf
          subst hf
          exact q_riR hx hb hr hlocks dX7_greatestThatFits_21
  refine lv_aload_n hx hb dX7_greatestThatFits_0 rfl (lv_at hl 0 rfl) ?_
  refine va_get (D := D) (ci := 7) (v := .ref aG) (C := RX7) (T := TX7) (N := 5) hx hb hts iX7 hown hk.1 hP 5 rfl rfl 0 (by decide) (hts _ tw_253) (fun _ h9 => h9) rfl dX7_greatestThatFits_1 ?_
  refine va_get (D := D) (ci := 0) (v := .int g_freeCount) (C := RX0) (T := TX0) (N := 8) hx hb hts iX0 hown hk.1 hP 0 rfl rfl 7 (by decide) (hts _ tw_156) (fun _ h9 => h9) rfl dX7_greatestThatFits_4 ?_
  refine lv_istore_n (lv' := [(1, .int g_freeCount), (0, .ref aS)]) hx hb dX7_greatestThatFits_7 rfl hl (by decide) rfl (fun ls hl => ?_)
  exact J8 FU g_freeCount ls (lv_sub hl [1, 0] rfl) hf
