def lp_X1_flip_43 (g_cells : Int32) (g_columns : Nat → Int32) (g_lines : Nat → Int32) (g_weights : Nat → Int32) (x1 : Int32) : Nat → Int32 → Int32 → Int64 → (Nat → Int32) → Option (Int64 × (Nat → Int32))
  | 0, _, _, _, _ => none
  | n + 1, x2, x3, hd_holders, hd_sums => if g_cells ≤ x3 then (some (hd_holders, hd_sums)) else (if inb x3 64 = true then ((f_X0_weight g_cells g_columns g_lines g_weights x1 x3).bind (fun z68 => if inb x3 64 = true then (lp_X1_flip_43 g_cells g_columns g_lines g_weights x1 n x2 (x3 + 1) hd_holders (upd hd_sums x3.toNatClampNeg ((hd_sums x3.toNatClampNeg) + (x2 * z68)))) else none)) else none)
theorem lp_X1_flip_43_s (g_cells : Int32) (g_columns : Nat → Int32) (g_lines : Nat → Int32) (g_weights : Nat → Int32) (x1 : Int32) (n : Nat) (x2 : Int32) (x3 : Int32) (hd_holders : Int64) (hd_sums : Nat → Int32) : lp_X1_flip_43 g_cells g_columns g_lines g_weights x1 (n + 1) x2 x3 hd_holders hd_sums = (if g_cells ≤ x3 then (some (hd_holders, hd_sums)) else (if inb x3 64 = true then ((f_X0_weight g_cells g_columns g_lines g_weights x1 x3).bind (fun z68 => if inb x3 64 = true then (lp_X1_flip_43 g_cells g_columns g_lines g_weights x1 n x2 (x3 + 1) hd_holders (upd hd_sums x3.toNatClampNeg ((hd_sums x3.toNatClampNeg) + (x2 * z68)))) else none)) else none)) := rfl
theorem lp_X1_flip_43_z (g_cells : Int32) (g_columns : Nat → Int32) (g_lines : Nat → Int32) (g_weights : Nat → Int32) (x1 : Int32) (x2 : Int32) (x3 : Int32) (hd_holders : Int64) (hd_sums : Nat → Int32) : lp_X1_flip_43 g_cells g_columns g_lines g_weights x1 0 x2 x3 hd_holders hd_sums = none := rfl
def j_X1_flip_28 (g_cells : Int32) (g_columns : Nat → Int32) (g_lines : Nat → Int32) (g_weights : Nat → Int32) (x1 : Int32) (k0 : Int32) (hd_holders : Int64) (hd_sums : Nat → Int32) : Option (Int64 × (Nat → Int32)) := lp_X1_flip_43 g_cells g_columns g_lines g_weights x1 FU k0 (0 : Int32) (hd_holders ^^^ (lsh (1 : Int64) x1)) hd_sums
def f_X1_flip (g_cells : Int32) (g_columns : Nat → Int32) (g_lines : Nat → Int32) (g_weights : Nat → Int32) (hd_holders : Int64) (hd_sums : Nat → Int32) (x1 : Int32) : Option (Int64 × (Nat → Int32)) := (f_X0_isCell g_cells x1).bind (fun z5 => if z5 = 0 then (some (hd_holders, hd_sums)) else ((f_X9_has hd_holders x1).bind (fun z17 => if z17 = 0 then (j_X1_flip_28 g_cells g_columns g_lines g_weights x1 (1 : Int32) hd_holders hd_sums) else (j_X1_flip_28 g_cells g_columns g_lines g_weights x1 (-1 : Int32) hd_holders hd_sums))))
theorem ok_X1_flip : OkV yX1_flip cX1_flip 4 none 1 := ⟨⟨tw_414, tw_7, by decide +kernel, by decide +kernel, by decide +kernel⟩, tw_412, tw_413⟩
set_option maxHeartbeats 4000000 in
set_option maxRecDepth 100000 in
theorem c_X1_flip (l : Launch) (D : va_G) (cy : ClassId × ClassId × ClassId) (H0 : Heap) (aP aG aG_columns aG_lines aG_distances aG_weights aHd aHd_sums : Nat) (g_cells : Int32) (g_free : Int64) (g_freeCount : Int32) (g_columns : Nat → Int32) (g_lines : Nat → Int32) (g_weights : Nat → Int32) (hd_holders : Int64) (hd_sums : Nat → Int32) (x1 : Int32) (r : Int64 × (Nat → Int32)) (hP : va_P D vwCl [(aG, .inr (0, [.ref aP, .ref aG_columns, .ref aG_lines, .ref aG_distances, .ref aG_weights, .int g_cells, .long g_free, .int g_freeCount])), (aG_columns, .inl (cy.1, 64, .inl g_columns)), (aG_lines, .inl (cy.1, 64, .inl g_lines)), (aG_weights, .inl (cy.1, 64, .inl g_weights)), (aHd, .inr (1, [.ref aG, .ref aHd_sums, .long hd_holders])), (aHd_sums, .inl (cy.1, 64, .inl hd_sums))] H0) (hD0 : va_D (fun _ => True) [(aG, .inr (0, [.ref aP, .ref aG_columns, .ref aG_lines, .ref aG_distances, .ref aG_weights, .int g_cells, .long g_free, .int g_freeCount])), (aG_columns, .inl (cy.1, 64, .inl g_columns)), (aG_lines, .inl (cy.1, 64, .inl g_lines)), (aG_weights, .inl (cy.1, 64, .inl g_weights)), (aHd, .inr (1, [.ref aG, .ref aHd_sums, .long hd_holders])), (aHd_sums, .inl (cy.1, 64, .inl hd_sums))]) (hf : f_X1_flip g_cells g_columns g_lines g_weights hd_holders hd_sums x1 = some r) : Wr l yX1_flip cX1_flip 4 none ({ frames := 2, cells := 0, slots := 0, locals := 43 } : Room) ([.ref aHd, .int x1] : List Value) none D cy H0 [(aG, .inr (0, [.ref aP, .ref aG_columns, .ref aG_lines, .ref aG_distances, .ref aG_weights, .int g_cells, .long g_free, .int g_freeCount])), (aG_columns, .inl (cy.1, 64, .inl g_columns)), (aG_lines, .inl (cy.1, 64, .inl g_lines)), (aG_weights, .inl (cy.1, 64, .inl g_weights)), (aHd, .inr (1, [.ref aG, .ref aHd_sums, .long hd_holders])), (aHd_sums, .inl (cy.1, 64, .inl hd_sums))] [(aG, .inr (0, [.ref aP, .ref aG_columns, .ref aG_lines, .ref aG_distances, .ref aG_weights, .int g_cells, .long g_free, .int g_freeCount])), (aG_columns, .inl (cy.1, 64, .inl g_columns)), (aG_lines, .inl (cy.1, 64, .inl g_lines)), (aG_weights, .inl (cy.1, 64, .inl g_weights)), (aHd, .inr (1, [.ref aG, .ref aHd_sums, .long (r.1)])), (aHd_sums, .inl (cy.1, 64, .inl (r.2)))] := by
  refine wr_of (by decide +kernel) (Nat.le_of_ble_eq_true rfl) hD0 ?_
  intro p e s m below meth c ls A S hr hlocks hk hl hD hS hA
  obtain ⟨hx, hb, hml, hown, hts⟩ := id S
  have hl : lv_has ls 4 [(0, .ref aHd), (1, .int x1)] := hl
  rw [f_X1_flip] at hf
  have J43 : ∀ (n43 : Nat) (x2 : Int32) (x3 : Int32) (hd_holders : Int64) (hd_sums : Nat → Int32) (H : Heap) (locs : List Loc) (ls : Array Slot), va_P D vwCl [(aG, .inr (0, [.ref aP, .ref aG_columns, .ref aG_lines, .ref aG_distances, .ref aG_weights, .int g_cells, .long g_free, .int g_freeCount])), (aG_columns, .inl (cy.1, 64, .inl g_columns)), (aG_lines, .inl (cy.1, 64, .inl g_lines)), (aG_weights, .inl (cy.1, 64, .inl g_weights)), (aHd, .inr (1, [.ref aG, .ref aHd_sums, .long hd_holders])), (aHd_sums, .inl (cy.1, 64, .inl hd_sums))] H → va_D A [(aG, .inr (0, [.ref aP, .ref aG_columns, .ref aG_lines, .ref aG_distances, .ref aG_weights, .int g_cells, .long g_free, .int g_freeCount])), (aG_columns, .inl (cy.1, 64, .inl g_columns)), (aG_lines, .inl (cy.1, 64, .inl g_lines)), (aG_weights, .inl (cy.1, 64, .inl g_weights)), (aHd, .inr (1, [.ref aG, .ref aHd_sums, .long hd_holders])), (aHd_sums, .inl (cy.1, 64, .inl hd_sums))] → va_S A H0 H locs → lv_has ls 4 [(0, .ref aHd), (1, .int x1), (2, .int x2), (3, .int x3)] → lp_X1_flip_43 g_cells g_columns g_lines g_weights x1 n43 x2 x3 hd_holders hd_sums = some r → W p l e ({ frames := 2, cells := 0, slots := 0, locals := 43 } : Room) s m ([.ref aHd, .int x1] : List Value).toArray below meth c H locs 0 0 (MQ below (QW none D [(aG, .inr (0, [.ref aP, .ref aG_columns, .ref aG_lines, .ref aG_distances, .ref aG_weights, .int g_cells, .long g_free, .int g_freeCount])), (aG_columns, .inl (cy.1, 64, .inl g_columns)), (aG_lines, .inl (cy.1, 64, .inl g_lines)), (aG_weights, .inl (cy.1, 64, .inl g_weights)), (aHd, .inr (1, [.ref aG, .ref aHd_sums, .long (r.1)])), (aHd_sums, .inl (cy.1, 64, .inl (r.2)))] H0 A) ([.ref aHd, .int x1] : List Value).toArray s 0 0 A) (F0 m 43 ls []) := by
    intro n43
    induction n43 with
    | zero =>
      intro x2 x3 hd_holders hd_sums H locs ls hP hD hS hl hf
      rw [lp_X1_flip_43_z] at hf
      cases hf
    | succ n43 ih43 =>
      intro x2 x3 hd_holders hd_sums H locs ls hP hD hS hl hf
      rw [lp_X1_flip_43_s] at hf
      refine lv_iload_n hx hb dX1_flip_43 rfl (lv_at hl 3 rfl) ?_
      refine lv_aload_n hx hb dX1_flip_44 rfl (lv_at hl 0 rfl) ?_
      refine va_get (D := D) (ci := 1) (v := .ref aG) (C := RX1) (T := TX1) (N := 3) hx hb hts iX1 hown hk.1 hP 4 rfl rfl 0 (by decide) (hts _ tw_183) (fun _ h9 => h9) rfl dX1_flip_45 ?_
      refine va_get (D := D) (ci := 0) (v := .int g_cells) (C := RX0) (T := TX0) (N := 8) hx hb hts iX0 hown hk.1 hP 0 rfl rfl 5 (by decide) (hts _ tw_147) (fun _ h9 => h9) rfl dX1_flip_48 ?_
      refine lv_icmp_ge (tgt := 80) hx hb dX1_flip_51 (by decide) (fun hc => ?_) (fun hc => ?_)
      · have hf := q_t hc hf
        have hf := Option.some.inj hf
        subst hf
        exact q_rvW hP hS hx hb hr hlocks dX1_flip_80
      · have hf := q_f hc hf
        refine lv_aload_n hx hb dX1_flip_54 rfl (lv_at hl 0 rfl) ?_
        refine va_get (D := D) (ci := 1) (v := .ref aHd_sums) (C := RX1) (T := TX1) (N := 3) hx hb hts iX1 hown hk.1 hP 4 rfl rfl 1 (by decide) (hts _ tw_184) (fun _ h9 => h9) rfl dX1_flip_55 ?_
        refine lv_iload_n hx hb dX1_flip_58 rfl (lv_at hl 3 rfl) ?_
        refine lv_dup2_11 hx hb dX1_flip_59 rfl rfl ?_
        obtain ⟨hi, hf⟩ := q_in hf
        refine va_iald hx hb hk.1 hP 5 0 rfl rfl hi dX1_flip_60 ?_
        refine lv_iload_n hx hb dX1_flip_61 rfl (lv_at hl 2 rfl) ?_
        refine lv_aload_n hx hb dX1_flip_62 rfl (lv_at hl 0 rfl) ?_
        refine va_get (D := D) (ci := 1) (v := .ref aG) (C := RX1) (T := TX1) (N := 3) hx hb hts iX1 hown hk.1 hP 4 rfl rfl 0 (by decide) (hts _ tw_183) (fun _ h9 => h9) rfl dX1_flip_63 ?_
        refine lv_iload_n hx hb dX1_flip_66 rfl (lv_at hl 1 rfl) ?_
        refine lv_iload_n hx hb dX1_flip_67 rfl (lv_at hl 3 rfl) ?_
        obtain ⟨z68, hz68, hf⟩ := q_bind hf
        refine q_rdV (As := [.int x1, .int x3]) (rest := [.int x2, .int (hd_sums x3.toNatClampNeg), .int x3, .ref aHd_sums]) (st2 := [.int z68, .int x2, .int (hd_sums x3.toNatClampNeg), .int x3, .ref aHd_sums]) S hk (c_X0_weight l D cy H aP aG aG_columns aG_lines aG_distances aG_weights g_cells g_free g_freeCount g_columns g_lines g_weights x1 x3 z68 (hP.sub [0, 1, 2, 3] rfl) hz68) ok_X0_weight tw_419 ⟨rfl, rfl, Nat.le_of_ble_eq_true rfl, Nat.le_of_ble_eq_true rfl⟩ (va_recv hk.1 hP (ci := 0) (q0 := 0) rfl rfl) rfl hl.1 rfl (Nat.le_of_ble_eq_true rfl) dX1_flip_68 ⟨Nat.zero_le _, Nat.zero_le _⟩ rfl ?_
        refine lv_imul hx hb dX1_flip_71 ?_
        refine lv_iadd hx hb dX1_flip_72 ?_
        obtain ⟨hi, hf⟩ := q_in hf
        refine va_iast hx hb hk.1 hP hD hS 5 0 rfl rfl hi dX1_flip_73 (fun H locs hP hD hS => ?_)
        have hP : va_P D vwCl [(aG, .inr (0, [.ref aP, .ref aG_columns, .ref aG_lines, .ref aG_distances, .ref aG_weights, .int g_cells, .long g_free, .int g_freeCount])), (aG_columns, .inl (cy.1, 64, .inl g_columns)), (aG_lines, .inl (cy.1, 64, .inl g_lines)), (aG_weights, .inl (cy.1, 64, .inl g_weights)), (aHd, .inr (1, [.ref aG, .ref aHd_sums, .long hd_holders])), (aHd_sums, .inl (cy.1, 64, .inl (upd hd_sums x3.toNatClampNeg ((hd_sums x3.toNatClampNeg) + (x2 * z68)))))] H := hP
        have hD : va_D A [(aG, .inr (0, [.ref aP, .ref aG_columns, .ref aG_lines, .ref aG_distances, .ref aG_weights, .int g_cells, .long g_free, .int g_freeCount])), (aG_columns, .inl (cy.1, 64, .inl g_columns)), (aG_lines, .inl (cy.1, 64, .inl g_lines)), (aG_weights, .inl (cy.1, 64, .inl g_weights)), (aHd, .inr (1, [.ref aG, .ref aHd_sums, .long hd_holders])), (aHd_sums, .inl (cy.1, 64, .inl (upd hd_sums x3.toNatClampNeg ((hd_sums x3.toNatClampNeg) + (x2 * z68)))))] := hD
        refine lv_iinc (v := (x3 + 1)) (lv' := [(3, .int (x3 + 1)), (0, .ref aHd), (1, .int x1), (2, .int x2)]) hx hb dX1_flip_74 hl (k := 3) rfl rfl (by decide) rfl (fun ls hl => ?_)
        refine lv_goto (tgt := 43) hx hb dX1_flip_77 (by decide) ?_
        exact ih43 x2 (x3 + 1) hd_holders (upd hd_sums x3.toNatClampNeg ((hd_sums x3.toNatClampNeg) + (x2 * z68))) H locs ls hP hD hS (lv_sub hl [1, 2, 3, 0] rfl) hf
  have J28 : ∀ (k0 : Int32) (hd_holders : Int64) (hd_sums : Nat → Int32) (H : Heap) (locs : List Loc) (ls : Array Slot), va_P D vwCl [(aG, .inr (0, [.ref aP, .ref aG_columns, .ref aG_lines, .ref aG_distances, .ref aG_weights, .int g_cells, .long g_free, .int g_freeCount])), (aG_columns, .inl (cy.1, 64, .inl g_columns)), (aG_lines, .inl (cy.1, 64, .inl g_lines)), (aG_weights, .inl (cy.1, 64, .inl g_weights)), (aHd, .inr (1, [.ref aG, .ref aHd_sums, .long hd_holders])), (aHd_sums, .inl (cy.1, 64, .inl hd_sums))] H → va_D A [(aG, .inr (0, [.ref aP, .ref aG_columns, .ref aG_lines, .ref aG_distances, .ref aG_weights, .int g_cells, .long g_free, .int g_freeCount])), (aG_columns, .inl (cy.1, 64, .inl g_columns)), (aG_lines, .inl (cy.1, 64, .inl g_lines)), (aG_weights, .inl (cy.1, 64, .inl g_weights)), (aHd, .inr (1, [.ref aG, .ref aHd_sums, .long hd_holders])), (aHd_sums, .inl (cy.1, 64, .inl hd_sums))] → va_S A H0 H locs → lv_has ls 4 [(0, .ref aHd), (1, .int x1)] → j_X1_flip_28 g_cells g_columns g_lines g_weights x1 k0 hd_holders hd_sums = some r → W p l e ({ frames := 2, cells := 0, slots := 0, locals := 43 } : Room) s m ([.ref aHd, .int x1] : List Value).toArray below meth c H locs 0 0 (MQ below (QW none D [(aG, .inr (0, [.ref aP, .ref aG_columns, .ref aG_lines, .ref aG_distances, .ref aG_weights, .int g_cells, .long g_free, .int g_freeCount])), (aG_columns, .inl (cy.1, 64, .inl g_columns)), (aG_lines, .inl (cy.1, 64, .inl g_lines)), (aG_weights, .inl (cy.1, 64, .inl g_weights)), (aHd, .inr (1, [.ref aG, .ref aHd_sums, .long (r.1)])), (aHd_sums, .inl (cy.1, 64, .inl (r.2)))] H0 A) ([.ref aHd, .int x1] : List Value).toArray s 0 0 A) (F0 m 28 ls [.int k0]) := by
    intro k0 hd_holders hd_sums H locs ls hP hD hS hl hf
    rw [j_X1_flip_28] at hf
    refine lv_istore_n (lv' := [(2, .int k0), (0, .ref aHd), (1, .int x1)]) hx hb dX1_flip_28 rfl hl (by decide) rfl (fun ls hl => ?_)
    refine lv_aload_n hx hb dX1_flip_29 rfl (lv_at hl 1 rfl) ?_
    refine lv_dup hx hb dX1_flip_30 rfl ?_
    refine va_get (D := D) (ci := 1) (v := .long hd_holders) (C := RX1) (T := TX1) (N := 3) hx hb hts iX1 hown hk.1 hP 4 rfl rfl 2 (by decide) (hts _ tw_185) (fun _ h9 => h9) rfl dX1_flip_31 ?_
    refine lv_lconst (v := (1 : Int64)) hx hb dX1_flip_34 (by decide) ?_
    refine lv_iload_n hx hb dX1_flip_35 rfl (lv_at hl 2 rfl) ?_
    refine lv_lshl (v := (lsh (1 : Int64) x1)) hx hb dX1_flip_36 rfl ?_
    refine lv_lxor hx hb dX1_flip_37 ?_
    refine va_put (D := D) (ci := 1) (v := .long (hd_holders ^^^ (lsh (1 : Int64) x1))) (ty := .long) (C := RX1) (T := TX1) (N := 3) hx hb hts iX1 tyX1 tyX1_ok nmX1 hown hk.1 hP hD hS 4 rfl rfl 2 (by decide) (hts _ tw_185) (fun _ h9 => h9) rfl (by decide +kernel) rfl rfl (Nat.le_of_ble_eq_true rfl) dX1_flip_38 (fun H locs hP hD hS => ?_)
    have hP : va_P D vwCl [(aG, .inr (0, [.ref aP, .ref aG_columns, .ref aG_lines, .ref aG_distances, .ref aG_weights, .int g_cells, .long g_free, .int g_freeCount])), (aG_columns, .inl (cy.1, 64, .inl g_columns)), (aG_lines, .inl (cy.1, 64, .inl g_lines)), (aG_weights, .inl (cy.1, 64, .inl g_weights)), (aHd, .inr (1, [.ref aG, .ref aHd_sums, .long (hd_holders ^^^ (lsh (1 : Int64) x1))])), (aHd_sums, .inl (cy.1, 64, .inl hd_sums))] H := hP
    have hD : va_D A [(aG, .inr (0, [.ref aP, .ref aG_columns, .ref aG_lines, .ref aG_distances, .ref aG_weights, .int g_cells, .long g_free, .int g_freeCount])), (aG_columns, .inl (cy.1, 64, .inl g_columns)), (aG_lines, .inl (cy.1, 64, .inl g_lines)), (aG_weights, .inl (cy.1, 64, .inl g_weights)), (aHd, .inr (1, [.ref aG, .ref aHd_sums, .long (hd_holders ^^^ (lsh (1 : Int64) x1))])), (aHd_sums, .inl (cy.1, 64, .inl hd_sums))] := hD
    refine lv_iconst (v := (0 : Int32)) hx hb dX1_flip_41 (by decide) ?_
    refine lv_istore_n (lv' := [(3, .int (0 : Int32)), (2, .int k0), (0, .ref aHd), (1, .int x1)]) hx hb dX1_flip_42 rfl hl (by decide) rfl (fun ls hl => ?_)
    exact J43 FU k0 (0 : Int32) (hd_holders ^^^ (lsh (1 : Int64) x1)) hd_sums H locs ls hP hD hS (lv_sub hl [2, 3, 1, 0] rfl) hf
  refine lv_aload_n hx hb dX1_flip_0 rfl (lv_at hl 0 rfl) ?_
  refine va_get (D := D) (ci := 1) (v := .ref aG) (C := RX1) (T := TX1) (N := 3) hx hb hts iX1 hown hk.1 hP 4 rfl rfl 0 (by decide) (hts _ tw_183) (fun _ h9 => h9) rfl dX1_flip_1 ?_
  refine lv_iload_n hx hb dX1_flip_4 rfl (lv_at hl 1 rfl) ?_
  obtain ⟨z5, hz5, hf⟩ := q_bind hf
  refine q_rdV (As := [.int x1]) (rest := []) (st2 := [.int z5]) S hk (c_X0_isCell l D cy H0 aP aG aG_columns aG_lines aG_distances aG_weights g_cells g_free g_freeCount x1 z5 (hP.sub [0] rfl) hz5) ok_X0_isCell tw_415 ⟨rfl, rfl, Nat.le_of_ble_eq_true rfl, Nat.le_of_ble_eq_true rfl⟩ (va_recv hk.1 hP (ci := 0) (q0 := 0) rfl rfl) rfl hl.1 rfl (Nat.le_of_ble_eq_true rfl) dX1_flip_5 ⟨Nat.zero_le _, Nat.zero_le _⟩ rfl ?_
  refine lv_if_ne (tgt := 12) hx hb dX1_flip_8 (by decide) (fun hc => ?_) (fun hc => ?_)
  · have hf := q_f hc hf
    refine lv_aload_n hx hb dX1_flip_12 rfl (lv_at hl 0 rfl) ?_
    refine va_get (D := D) (ci := 1) (v := .long hd_holders) (C := RX1) (T := TX1) (N := 3) hx hb hts iX1 hown hk.1 hP 4 rfl rfl 2 (by decide) (hts _ tw_185) (fun _ h9 => h9) rfl dX1_flip_13 ?_
    refine lv_iload_n hx hb dX1_flip_16 rfl (lv_at hl 1 rfl) ?_
    obtain ⟨z17, hz17, hf⟩ := q_bind hf
    refine q_rdN (As := [.long hd_holders, .int x1]) (rest := []) (st2 := [.int z17]) S hk (c_X9_has l D cy H0 hd_holders x1 z17 hz17) ok_X9_has hk.2.2.2.1 ⟨rfl, rfl, Nat.le_of_ble_eq_true rfl, Nat.le_of_ble_eq_true rfl⟩ rfl hl.1 rfl (Nat.le_of_ble_eq_true rfl) dX1_flip_17 ⟨Nat.zero_le _, Nat.zero_le _⟩ rfl ?_
    refine lv_if_eq (tgt := 27) hx hb dX1_flip_20 (by decide) (fun hc => ?_) (fun hc => ?_)
    · have hf := q_t hc hf
      refine lv_iconst (v := (1 : Int32)) hx hb dX1_flip_27 (by decide) ?_
      exact J28 (1 : Int32) hd_holders hd_sums H0 [] ls hP hD hS (lv_sub hl [0, 1] rfl) hf
    · have hf := q_f hc hf
      refine lv_iconst (v := (-1 : Int32)) hx hb dX1_flip_23 (by decide) ?_
      refine lv_goto (tgt := 28) hx hb dX1_flip_24 (by decide) ?_
      exact J28 (-1 : Int32) hd_holders hd_sums H0 [] ls hP hD hS (lv_sub hl [0, 1] rfl) hf
  · have hf := q_t hc hf
    have hf := Option.some.inj hf
    subst hf
    exact q_rvW hP hS hx hb hr hlocks dX1_flip_11
def lp_X1_become_10 (g_cells : Int32) (g_columns : Nat → Int32) (g_lines : Nat → Int32) (g_weights : Nat → Int32) : Nat → Int64 → Int32 → Int64 → (Nat → Int32) → Option (Int64 × (Nat → Int32))
  | 0, _, _, _, _ => none
  | n + 1, x3, x5, hd_holders, hd_sums => if g_cells ≤ x5 then (some (hd_holders, hd_sums)) else ((f_X9_has x3 x5).bind (fun z25 => if z25 = 0 then (lp_X1_become_10 g_cells g_columns g_lines g_weights n x3 (x5 + 1) hd_holders hd_sums) else ((f_X1_flip g_cells g_columns g_lines g_weights hd_holders hd_sums x5).bind (fun z34 => lp_X1_become_10 g_cells g_columns g_lines g_weights n x3 (x5 + 1) (z34.1) (z34.2)))))
theorem lp_X1_become_10_s (g_cells : Int32) (g_columns : Nat → Int32) (g_lines : Nat → Int32) (g_weights : Nat → Int32) (n : Nat) (x3 : Int64) (x5 : Int32) (hd_holders : Int64) (hd_sums : Nat → Int32) : lp_X1_become_10 g_cells g_columns g_lines g_weights (n + 1) x3 x5 hd_holders hd_sums = (if g_cells ≤ x5 then (some (hd_holders, hd_sums)) else ((f_X9_has x3 x5).bind (fun z25 => if z25 = 0 then (lp_X1_become_10 g_cells g_columns g_lines g_weights n x3 (x5 + 1) hd_holders hd_sums) else ((f_X1_flip g_cells g_columns g_lines g_weights hd_holders hd_sums x5).bind (fun z34 => lp_X1_become_10 g_cells g_columns g_lines g_weights n x3 (x5 + 1) (z34.1) (z34.2)))))) := rfl
theorem lp_X1_become_10_z (g_cells : Int32) (g_columns : Nat → Int32) (g_lines : Nat → Int32) (g_weights : Nat → Int32) (x3 : Int64) (x5 : Int32) (hd_holders : Int64) (hd_sums : Nat → Int32) : lp_X1_become_10 g_cells g_columns g_lines g_weights 0 x3 x5 hd_holders hd_sums = none := rfl
def f_X1_become (g_cells : Int32) (g_columns : Nat → Int32) (g_lines : Nat → Int32) (g_weights : Nat → Int32) (hd_holders : Int64) (hd_sums : Nat → Int32) (x1 : Int64) : Option (Int64 × (Nat → Int32)) := lp_X1_become_10 g_cells g_columns g_lines g_weights FU (hd_holders ^^^ x1) (0 : Int32) hd_holders hd_sums
theorem ok_X1_become : OkV yX1_become cX1_become 6 none 1 := ⟨⟨tw_409, tw_7, by decide +kernel, by decide +kernel, by decide +kernel⟩, tw_407, tw_408⟩
set_option maxHeartbeats 4000000 in
set_option maxRecDepth 100000 in
theorem c_X1_become (l : Launch) (D : va_G) (cy : ClassId × ClassId × ClassId) (H0 : Heap) (aP aG aG_columns aG_lines aG_distances aG_weights aHd aHd_sums : Nat) (g_cells : Int32) (g_free : Int64) (g_freeCount : Int32) (g_columns : Nat → Int32) (g_lines : Nat → Int32) (g_weights : Nat → Int32) (hd_holders : Int64) (hd_sums : Nat → Int32) (x1 : Int64) (r : Int64 × (Nat → Int32)) (hP : va_P D vwCl [(aG, .inr (0, [.ref aP, .ref aG_columns, .ref aG_lines, .ref aG_distances, .ref aG_weights, .int g_cells, .long g_free, .int g_freeCount])), (aG_columns, .inl (cy.1, 64, .inl g_columns)), (aG_lines, .inl (cy.1, 64, .inl g_lines)), (aG_weights, .inl (cy.1, 64, .inl g_weights)), (aHd, .inr (1, [.ref aG, .ref aHd_sums, .long hd_holders])), (aHd_sums, .inl (cy.1, 64, .inl hd_sums))] H0) (hD0 : va_D (fun _ => True) [(aG, .inr (0, [.ref aP, .ref aG_columns, .ref aG_lines, .ref aG_distances, .ref aG_weights, .int g_cells, .long g_free, .int g_freeCount])), (aG_columns, .inl (cy.1, 64, .inl g_columns)), (aG_lines, .inl (cy.1, 64, .inl g_lines)), (aG_weights, .inl (cy.1, 64, .inl g_weights)), (aHd, .inr (1, [.ref aG, .ref aHd_sums, .long hd_holders])), (aHd_sums, .inl (cy.1, 64, .inl hd_sums))]) (hf : f_X1_become g_cells g_columns g_lines g_weights hd_holders hd_sums x1 = some r) : Wr l yX1_become cX1_become 6 none ({ frames := 3, cells := 0, slots := 0, locals := 66 } : Room) ([.ref aHd, .long x1] : List Value) none D cy H0 [(aG, .inr (0, [.ref aP, .ref aG_columns, .ref aG_lines, .ref aG_distances, .ref aG_weights, .int g_cells, .long g_free, .int g_freeCount])), (aG_columns, .inl (cy.1, 64, .inl g_columns)), (aG_lines, .inl (cy.1, 64, .inl g_lines)), (aG_weights, .inl (cy.1, 64, .inl g_weights)), (aHd, .inr (1, [.ref aG, .ref aHd_sums, .long hd_holders])), (aHd_sums, .inl (cy.1, 64, .inl hd_sums))] [(aG, .inr (0, [.ref aP, .ref aG_columns, .ref aG_lines, .ref aG_distances, .ref aG_weights, .int g_cells, .long g_free, .int g_freeCount])), (aG_columns, .inl (cy.1, 64, .inl g_columns)), (aG_lines, .inl (cy.1, 64, .inl g_lines)), (aG_weights, .inl (cy.1, 64, .inl g_weights)), (aHd, .inr (1, [.ref aG, .ref aHd_sums, .long (r.1)])), (aHd_sums, .inl (cy.1, 64, .inl (r.2)))] := by
  refine wr_of (by decide +kernel) (Nat.le_of_ble_eq_true rfl) hD0 ?_
  intro p e s m below meth c ls A S hr hlocks hk hl hD hS hA
  obtain ⟨hx, hb, hml, hown, hts⟩ := id S
  have hl : lv_has ls 6 [(0, .ref aHd), (1, .long x1)] := hl
  rw [f_X1_become] at hf
  have J10 : ∀ (n10 : Nat) (x3 : Int64) (x5 : Int32) (hd_holders : Int64) (hd_sums : Nat → Int32) (H : Heap) (locs : List Loc) (ls : Array Slot), va_P D vwCl [(aG, .inr (0, [.ref aP, .ref aG_columns, .ref aG_lines, .ref aG_distances, .ref aG_weights, .int g_cells, .long g_free, .int g_freeCount])), (aG_columns, .inl (cy.1, 64, .inl g_columns)), (aG_lines, .inl (cy.1, 64, .inl g_lines)), (aG_weights, .inl (cy.1, 64, .inl g_weights)), (aHd, .inr (1, [.ref aG, .ref aHd_sums, .long hd_holders])), (aHd_sums, .inl (cy.1, 64, .inl hd_sums))] H → va_D A [(aG, .inr (0, [.ref aP, .ref aG_columns, .ref aG_lines, .ref aG_distances, .ref aG_weights, .int g_cells, .long g_free, .int g_freeCount])), (aG_columns, .inl (cy.1, 64, .inl g_columns)), (aG_lines, .inl (cy.1, 64, .inl g_lines)), (aG_weights, .inl (cy.1, 64, .inl g_weights)), (aHd, .inr (1, [.ref aG, .ref aHd_sums, .long hd_holders])), (aHd_sums, .inl (cy.1, 64, .inl hd_sums))] → va_S A H0 H locs → lv_has ls 6 [(0, .ref aHd), (3, .long x3), (5, .int x5)] → lp_X1_become_10 g_cells g_columns g_lines g_weights n10 x3 x5 hd_holders hd_sums = some r → W p l e ({ frames := 3, cells := 0, slots := 0, locals := 66 } : Room) s m ([.ref aHd, .long x1] : List Value).toArray below meth c H locs 0 0 (MQ below (QW none D [(aG, .inr (0, [.ref aP, .ref aG_columns, .ref aG_lines, .ref aG_distances, .ref aG_weights, .int g_cells, .long g_free, .int g_freeCount])), (aG_columns, .inl (cy.1, 64, .inl g_columns)), (aG_lines, .inl (cy.1, 64, .inl g_lines)), (aG_weights, .inl (cy.1, 64, .inl g_weights)), (aHd, .inr (1, [.ref aG, .ref aHd_sums, .long (r.1)])), (aHd_sums, .inl (cy.1, 64, .inl (r.2)))] H0 A) ([.ref aHd, .long x1] : List Value).toArray s 0 0 A) (F0 m 10 ls []) := by
    intro n10
    induction n10 with
    | zero =>
      intro x3 x5 hd_holders hd_sums H locs ls hP hD hS hl hf
      rw [lp_X1_become_10_z] at hf
      cases hf
    | succ n10 ih10 =>
      intro x3 x5 hd_holders hd_sums H locs ls hP hD hS hl hf
      rw [lp_X1_become_10_s] at hf
      refine lv_iload hx hb dX1_become_10 (lv_at hl 2 rfl) ?_
      refine lv_aload_n hx hb dX1_become_12 rfl (lv_at hl 0 rfl) ?_
      refine va_get (D := D) (ci := 1) (v := .ref aG) (C := RX1) (T := TX1) (N := 3) hx hb hts iX1 hown hk.1 hP 4 rfl rfl 0 (by decide) (hts _ tw_183) (fun _ h9 => h9) rfl dX1_become_13 ?_
      refine va_get (D := D) (ci := 0) (v := .int g_cells) (C := RX0) (T := TX0) (N := 8) hx hb hts iX0 hown hk.1 hP 0 rfl rfl 5 (by decide) (hts _ tw_147) (fun _ h9 => h9) rfl dX1_become_16 ?_
      refine lv_icmp_ge (tgt := 43) hx hb dX1_become_19 (by decide) (fun hc => ?_) (fun hc => ?_)
      · have hf := q_t hc hf
        have hf := Option.some.inj hf
        subst hf
        exact q_rvW hP hS hx hb hr hlocks dX1_become_43
      · have hf := q_f hc hf
        refine lv_lload_n hx hb dX1_become_22 rfl (lv_at hl 1 rfl) ?_
        refine lv_iload hx hb dX1_become_23 (lv_at hl 2 rfl) ?_
        obtain ⟨z25, hz25, hf⟩ := q_bind hf
        refine q_rdN (As := [.long x3, .int x5]) (rest := []) (st2 := [.int z25]) S hk (c_X9_has l D cy H x3 x5 z25 hz25) ok_X9_has hk.2.2.2.1 ⟨rfl, rfl, Nat.le_of_ble_eq_true rfl, Nat.le_of_ble_eq_true rfl⟩ rfl hl.1 rfl (Nat.le_of_ble_eq_true rfl) dX1_become_25 ⟨Nat.zero_le _, Nat.zero_le _⟩ rfl ?_
        refine lv_if_eq (tgt := 37) hx hb dX1_become_28 (by decide) (fun hc => ?_) (fun hc => ?_)
        · have hf := q_t hc hf
          refine lv_iinc (v := (x5 + 1)) (lv' := [(5, .int (x5 + 1)), (0, .ref aHd), (3, .long x3)]) hx hb dX1_become_37 hl (k := 2) rfl rfl (by decide) rfl (fun ls hl => ?_)
          refine lv_goto (tgt := 10) hx hb dX1_become_40 (by decide) ?_
          exact ih10 x3 (x5 + 1) hd_holders hd_sums H locs ls hP hD hS (lv_sub hl [1, 2, 0] rfl) hf
        · have hf := q_f hc hf
          refine lv_aload_n hx hb dX1_become_31 rfl (lv_at hl 0 rfl) ?_
          refine lv_iload hx hb dX1_become_32 (lv_at hl 2 rfl) ?_
          obtain ⟨z34, hz34, hf⟩ := q_bind hf
          refine q_wrV (As := [.int x5]) (rest := []) (st2 := []) (ws' := [(aG, .inr (0, [.ref aP, .ref aG_columns, .ref aG_lines, .ref aG_distances, .ref aG_weights, .int g_cells, .long g_free, .int g_freeCount])), (aG_columns, .inl (cy.1, 64, .inl g_columns)), (aG_lines, .inl (cy.1, 64, .inl g_lines)), (aG_weights, .inl (cy.1, 64, .inl g_weights)), (aHd, .inr (1, [.ref aG, .ref aHd_sums, .long (z34.1)])), (aHd_sums, .inl (cy.1, 64, .inl (z34.2)))]) S hk (c_X1_flip l D cy H aP aG aG_columns aG_lines aG_distances aG_weights aHd aHd_sums g_cells g_free g_freeCount g_columns g_lines g_weights hd_holders hd_sums x5 z34 (hP.sub [0, 1, 2, 3, 4, 5] rfl) (qD_sub hD [0, 1, 2, 3, 4, 5] (by decide) rfl) hz34) ok_X1_flip tw_411 ⟨rfl, rfl, Nat.le_of_ble_eq_true rfl, Nat.le_of_ble_eq_true rfl⟩ (va_recv hk.1 hP (ci := 1) (q0 := 4) rfl rfl) rfl hl.1 rfl (Nat.le_of_ble_eq_true rfl) dX1_become_34 ⟨Nat.zero_le _, Nat.zero_le _⟩ rfl hP hD hS hA [0, 1, 2, 3, 4, 5] rfl rfl rfl rfl (fun H locs hP hD hS => ?_)
          refine lv_iinc (v := (x5 + 1)) (lv' := [(5, .int (x5 + 1)), (0, .ref aHd), (3, .long x3)]) hx hb dX1_become_37 hl (k := 2) rfl rfl (by decide) rfl (fun ls hl => ?_)
          refine lv_goto (tgt := 10) hx hb dX1_become_40 (by decide) ?_
          exact ih10 x3 (x5 + 1) (z34.1) (z34.2) H locs ls hP hD hS (lv_sub hl [1, 2, 0] rfl) hf
  refine lv_aload_n hx hb dX1_become_0 rfl (lv_at hl 0 rfl) ?_
  refine va_get (D := D) (ci := 1) (v := .long hd_holders) (C := RX1) (T := TX1) (N := 3) hx hb hts iX1 hown hk.1 hP 4 rfl rfl 2 (by decide) (hts _ tw_185) (fun _ h9 => h9) rfl dX1_become_1 ?_
  refine lv_lload_n hx hb dX1_become_4 rfl (lv_at hl 1 rfl) ?_
  refine lv_lxor hx hb dX1_become_5 ?_
  refine lv_lstore_n (lv' := [(3, .long (hd_holders ^^^ x1)), (0, .ref aHd), (1, .long x1)]) hx hb dX1_become_6 rfl hl (by decide) rfl (fun ls hl => ?_)
  refine lv_iconst (v := (0 : Int32)) hx hb dX1_become_7 (by decide) ?_
  refine lv_istore (lv' := [(5, .int (0 : Int32)), (3, .long (hd_holders ^^^ x1)), (0, .ref aHd), (1, .long x1)]) hx hb dX1_become_8 hl (by decide) rfl (fun ls hl => ?_)
  exact J10 FU (hd_holders ^^^ x1) (0 : Int32) hd_holders hd_sums H0 [] ls hP hD hS (lv_sub hl [2, 1, 0] rfl) hf
def f_X1_begin (g_cells : Int32) (g_columns : Nat → Int32) (g_lines : Nat → Int32) (g_weights : Nat → Int32) (hd_holders : Int64) (hd_sums : Nat → Int32) (x1 : Int64) : Option (Int64 × (Nat → Int32)) := (f_J7_fill_53178 hd_sums (0 : Int32)).bind (fun z5 => (f_X1_become g_cells g_columns g_lines g_weights (0 : Int64) z5 x1).bind (fun z15 => some ((z15.1), (z15.2))))
theorem ok_X1_begin : OkV yX1_begin cX1_begin 3 none 1 := ⟨⟨tw_402, tw_7, by decide +kernel, by decide +kernel, by decide +kernel⟩, tw_400, tw_401⟩
set_option maxHeartbeats 4000000 in
set_option maxRecDepth 100000 in
theorem c_X1_begin (l : Launch) (D : va_G) (cy : ClassId × ClassId × ClassId) (H0 : Heap) (aP aG aG_columns aG_lines aG_distances aG_weights aHd aHd_sums : Nat) (g_cells : Int32) (g_free : Int64) (g_freeCount : Int32) (g_columns : Nat → Int32) (g_lines : Nat → Int32) (g_weights : Nat → Int32) (hd_holders : Int64) (hd_sums : Nat → Int32) (x1 : Int64) (r : Int64 × (Nat → Int32)) (hP : va_P D vwCl [(aG, .inr (0, [.ref aP, .ref aG_columns, .ref aG_lines, .ref aG_distances, .ref aG_weights, .int g_cells, .long g_free, .int g_freeCount])), (aG_columns, .inl (cy.1, 64, .inl g_columns)), (aG_lines, .inl (cy.1, 64, .inl g_lines)), (aG_weights, .inl (cy.1, 64, .inl g_weights)), (aHd, .inr (1, [.ref aG, .ref aHd_sums, .long hd_holders])), (aHd_sums, .inl (cy.1, 64, .inl hd_sums))] H0) (hD0 : va_D (fun _ => True) [(aG, .inr (0, [.ref aP, .ref aG_columns, .ref aG_lines, .ref aG_distances, .ref aG_weights, .int g_cells, .long g_free, .int g_freeCount])), (aG_columns, .inl (cy.1, 64, .inl g_columns)), (aG_lines, .inl (cy.1, 64, .inl g_lines)), (aG_weights, .inl (cy.1, 64, .inl g_weights)), (aHd, .inr (1, [.ref aG, .ref aHd_sums, .long hd_holders])), (aHd_sums, .inl (cy.1, 64, .inl hd_sums))]) (hf : f_X1_begin g_cells g_columns g_lines g_weights hd_holders hd_sums x1 = some r) : Wr l yX1_begin cX1_begin 3 none ({ frames := 4, cells := 0, slots := 0, locals := 91 } : Room) ([.ref aHd, .long x1] : List Value) none D cy H0 [(aG, .inr (0, [.ref aP, .ref aG_columns, .ref aG_lines, .ref aG_distances, .ref aG_weights, .int g_cells, .long g_free, .int g_freeCount])), (aG_columns, .inl (cy.1, 64, .inl g_columns)), (aG_lines, .inl (cy.1, 64, .inl g_lines)), (aG_weights, .inl (cy.1, 64, .inl g_weights)), (aHd, .inr (1, [.ref aG, .ref aHd_sums, .long hd_holders])), (aHd_sums, .inl (cy.1, 64, .inl hd_sums))] [(aG, .inr (0, [.ref aP, .ref aG_columns, .ref aG_lines, .ref aG_distances, .ref aG_weights, .int g_cells, .long g_free, .int g_freeCount])), (aG_columns, .inl (cy.1, 64, .inl g_columns)), (aG_lines, .inl (cy.1, 64, .inl g_lines)), (aG_weights, .inl (cy.1, 64, .inl g_weights)), (aHd, .inr (1, [.ref aG, .ref aHd_sums, .long (r.1)])), (aHd_sums, .inl (cy.1, 64, .inl (r.2)))] := by
  refine wr_of (by decide +kernel) (Nat.le_of_ble_eq_true rfl) hD0 ?_
  intro p e s m below meth c ls A S hr hlocks hk hl hD hS hA
  obtain ⟨hx, hb, hml, hown, hts⟩ := id S
  have hl : lv_has ls 3 [(0, .ref aHd), (1, .long x1)] := hl
  rw [f_X1_begin] at hf
  refine lv_aload_n hx hb dX1_begin_0 rfl (lv_at hl 0 rfl) ?_
  refine va_get (D := D) (ci := 1) (v := .ref aHd_sums) (C := RX1) (T := TX1) (N := 3) hx hb hts iX1 hown hk.1 hP 4 rfl rfl 1 (by decide) (hts _ tw_184) (fun _ h9 => h9) rfl dX1_begin_1 ?_
  refine lv_iconst (v := (0 : Int32)) hx hb dX1_begin_4 (by decide) ?_
  obtain ⟨z5, hz5, hf⟩ := q_bind hf
  refine q_wrS (As := [.ref aHd_sums, .int (0 : Int32)]) (rest := []) (st2 := []) (ws' := [(aG, .inr (0, [.ref aP, .ref aG_columns, .ref aG_lines, .ref aG_distances, .ref aG_weights, .int g_cells, .long g_free, .int g_freeCount])), (aG_columns, .inl (cy.1, 64, .inl g_columns)), (aG_lines, .inl (cy.1, 64, .inl g_lines)), (aG_weights, .inl (cy.1, 64, .inl g_weights)), (aHd, .inr (1, [.ref aG, .ref aHd_sums, .long hd_holders])), (aHd_sums, .inl (cy.1, 64, .inl z5))]) S hk (c_J7_fill_53178 l D cy H0 aHd_sums hd_sums (0 : Int32) z5 (hP.sub [5] rfl) (qD_sub hD [5] (by decide) rfl) hz5) ok_J7_fill_53178 tw_403 ⟨rfl, rfl, Nat.le_of_ble_eq_true rfl, Nat.le_of_ble_eq_true rfl⟩ rfl hl.1 rfl (Nat.le_of_ble_eq_true rfl) dX1_begin_5 ⟨Nat.zero_le _, Nat.zero_le _⟩ rfl hP hD hS hA [5] rfl rfl rfl rfl (fun H locs hP hD hS => ?_)
  refine lv_aload_n hx hb dX1_begin_8 rfl (lv_at hl 0 rfl) ?_
  refine lv_lconst (v := (0 : Int64)) hx hb dX1_begin_9 (by decide) ?_
  refine va_put (D := D) (ci := 1) (v := .long (0 : Int64)) (ty := .long) (C := RX1) (T := TX1) (N := 3) hx hb hts iX1 tyX1 tyX1_ok nmX1 hown hk.1 hP hD hS 4 rfl rfl 2 (by decide) (hts _ tw_185) (fun _ h9 => h9) rfl (by decide +kernel) rfl rfl (Nat.le_of_ble_eq_true rfl) dX1_begin_10 (fun H locs hP hD hS => ?_)
  have hP : va_P D vwCl [(aG, .inr (0, [.ref aP, .ref aG_columns, .ref aG_lines, .ref aG_distances, .ref aG_weights, .int g_cells, .long g_free, .int g_freeCount])), (aG_columns, .inl (cy.1, 64, .inl g_columns)), (aG_lines, .inl (cy.1, 64, .inl g_lines)), (aG_weights, .inl (cy.1, 64, .inl g_weights)), (aHd, .inr (1, [.ref aG, .ref aHd_sums, .long (0 : Int64)])), (aHd_sums, .inl (cy.1, 64, .inl z5))] H := hP
  have hD : va_D A [(aG, .inr (0, [.ref aP, .ref aG_columns, .ref aG_lines, .ref aG_distances, .ref aG_weights, .int g_cells, .long g_free, .int g_freeCount])), (aG_columns, .inl (cy.1, 64, .inl g_columns)), (aG_lines, .inl (cy.1, 64, .inl g_lines)), (aG_weights, .inl (cy.1, 64, .inl g_weights)), (aHd, .inr (1, [.ref aG, .ref aHd_sums, .long (0 : Int64)])), (aHd_sums, .inl (cy.1, 64, .inl z5))] := hD
  refine lv_aload_n hx hb dX1_begin_13 rfl (lv_at hl 0 rfl) ?_
  refine lv_lload_n hx hb dX1_begin_14 rfl (lv_at hl 1 rfl) ?_
  obtain ⟨z15, hz15, hf⟩ := q_bind hf
  refine q_wrV (As := [.long x1]) (rest := []) (st2 := []) (ws' := [(aG, .inr (0, [.ref aP, .ref aG_columns, .ref aG_lines, .ref aG_distances, .ref aG_weights, .int g_cells, .long g_free, .int g_freeCount])), (aG_columns, .inl (cy.1, 64, .inl g_columns)), (aG_lines, .inl (cy.1, 64, .inl g_lines)), (aG_weights, .inl (cy.1, 64, .inl g_weights)), (aHd, .inr (1, [.ref aG, .ref aHd_sums, .long (z15.1)])), (aHd_sums, .inl (cy.1, 64, .inl (z15.2)))]) S hk (c_X1_become l D cy H aP aG aG_columns aG_lines aG_distances aG_weights aHd aHd_sums g_cells g_free g_freeCount g_columns g_lines g_weights (0 : Int64) z5 x1 z15 (hP.sub [0, 1, 2, 3, 4, 5] rfl) (qD_sub hD [0, 1, 2, 3, 4, 5] (by decide) rfl) hz15) ok_X1_become tw_406 ⟨rfl, rfl, Nat.le_of_ble_eq_true rfl, Nat.le_of_ble_eq_true rfl⟩ (va_recv hk.1 hP (ci := 1) (q0 := 4) rfl rfl) rfl hl.1 rfl (Nat.le_of_ble_eq_true rfl) dX1_begin_15 ⟨Nat.zero_le _, Nat.zero_le _⟩ rfl hP hD hS hA [0, 1, 2, 3, 4, 5] rfl rfl rfl rfl (fun H locs hP hD hS => ?_)
  have hf := Option.some.inj hf
  subst hf
  exact q_rvW hP hS hx hb hr hlocks dX1_begin_18
def f_X1_size (hd_holders : Int64) : Option (Int32) := (f_J13_bitCount_95d88 hd_holders).bind (fun z4 => some z4)
theorem ok_X1_size : OkV yX1_size cX1_size 1 (some Jvm.ClassFile.FieldType.int) 0 := ⟨⟨tw_578, tw_7, by decide +kernel, by decide +kernel, by decide +kernel⟩, tw_576, tw_577⟩
set_option maxHeartbeats 4000000 in
set_option maxRecDepth 100000 in
theorem c_X1_size (l : Launch) (D : va_G) (cy : ClassId × ClassId × ClassId) (H0 : Heap) (aG aHd aHd_sums : Nat) (hd_holders : Int64) (r : Int32) (hP : va_P D vwCl [(aHd, .inr (1, [.ref aG, .ref aHd_sums, .long hd_holders]))] H0) (hf : f_X1_size hd_holders = some r) : Rd l yX1_size cX1_size 1 (some Jvm.ClassFile.FieldType.int) ({ frames := 1, cells := 0, slots := 0, locals := 21 } : Room) ([.ref aHd] : List Value) (some (.int r)) D cy H0 := by
  refine rd_of (by decide +kernel) (Nat.le_of_ble_eq_true rfl) ?_
  intro p e s m below meth c ls S hr hlocks hk hl
  obtain ⟨hx, hb, hml, hown, hts⟩ := id S
  have hl : lv_has ls 1 [(0, .ref aHd)] := hl
  rw [f_X1_size] at hf
  refine lv_aload_n hx hb dX1_size_0 rfl (lv_at hl 0 rfl) ?_
  refine va_get (D := D) (ci := 1) (v := .long hd_holders) (C := RX1) (T := TX1) (N := 3) hx hb hts iX1 hown hk.1 hP 0 rfl rfl 2 (by decide) (hts _ tw_185) (fun _ h9 => h9) rfl dX1_size_1 ?_
  obtain ⟨z4, hz4, hf⟩ := q_bind hf
  refine q_rdS (As := [.long hd_holders]) (rest := []) (st2 := [.int z4]) S hk (c_J13_bitCount_95d88 l D cy H0 hd_holders z4 hz4) ok_J13_bitCount_95d88 tw_579 ⟨rfl, rfl, Nat.le_of_ble_eq_true rfl, Nat.le_of_ble_eq_true rfl⟩ rfl hl.1 rfl (Nat.le_of_ble_eq_true rfl) dX1_size_4 ⟨Nat.zero_le _, Nat.zero_le _⟩ rfl ?_
  have hf := Option.some.inj hf
  subst hf
  exact q_riR hx hb hr hlocks dX1_size_7
def f_X1_sumAt (g_cells : Int32) (hd_sums : Nat → Int32) (x1 : Int32) : Option (Int32) := (f_X0_isCell g_cells x1).bind (fun z5 => if z5 = 0 then (some (0 : Int32)) else (if inb x1 64 = true then (some (hd_sums x1.toNatClampNeg)) else none))
theorem ok_X1_sumAt : OkV yX1_sumAt cX1_sumAt 2 (some Jvm.ClassFile.FieldType.int) 1 := ⟨⟨tw_520, tw_7, by decide +kernel, by decide +kernel, by decide +kernel⟩, tw_518, tw_519⟩
set_option maxHeartbeats 4000000 in
set_option maxRecDepth 100000 in
theorem c_X1_sumAt (l : Launch) (D : va_G) (cy : ClassId × ClassId × ClassId) (H0 : Heap) (aP aG aG_columns aG_lines aG_distances aG_weights aHd aHd_sums : Nat) (g_cells : Int32) (g_free : Int64) (g_freeCount : Int32) (hd_holders : Int64) (hd_sums : Nat → Int32) (x1 : Int32) (r : Int32) (hP : va_P D vwCl [(aG, .inr (0, [.ref aP, .ref aG_columns, .ref aG_lines, .ref aG_distances, .ref aG_weights, .int g_cells, .long g_free, .int g_freeCount])), (aHd, .inr (1, [.ref aG, .ref aHd_sums, .long hd_holders])), (aHd_sums, .inl (cy.1, 64, .inl hd_sums))] H0) (hf : f_X1_sumAt g_cells hd_sums x1 = some r) : Rd l yX1_sumAt cX1_sumAt 2 (some Jvm.ClassFile.FieldType.int) ({ frames := 1, cells := 0, slots := 0, locals := 21 } : Room) ([.ref aHd, .int x1] : List Value) (some (.int r)) D cy H0 := by
  refine rd_of (by decide +kernel) (Nat.le_of_ble_eq_true rfl) ?_
  intro p e s m below meth c ls S hr hlocks hk hl
  obtain ⟨hx, hb, hml, hown, hts⟩ := id S
  have hl : lv_has ls 2 [(0, .ref aHd), (1, .int x1)] := hl
  rw [f_X1_sumAt] at hf
  refine lv_aload_n hx hb dX1_sumAt_0 rfl (lv_at hl 0 rfl) ?_
  refine va_get (D := D) (ci := 1) (v := .ref aG) (C := RX1) (T := TX1) (N := 3) hx hb hts iX1 hown hk.1 hP 1 rfl rfl 0 (by decide) (hts _ tw_183) (fun _ h9 => h9) rfl dX1_sumAt_1 ?_
  refine lv_iload_n hx hb dX1_sumAt_4 rfl (lv_at hl 1 rfl) ?_
  obtain ⟨z5, hz5, hf⟩ := q_bind hf
  refine q_rdV (As := [.int x1]) (rest := []) (st2 := [.int z5]) S hk (c_X0_isCell l D cy H0 aP aG aG_columns aG_lines aG_distances aG_weights g_cells g_free g_freeCount x1 z5 (hP.sub [0] rfl) hz5) ok_X0_isCell tw_415 ⟨rfl, rfl, Nat.le_of_ble_eq_true rfl, Nat.le_of_ble_eq_true rfl⟩ (va_recv hk.1 hP (ci := 0) (q0 := 0) rfl rfl) rfl hl.1 rfl (Nat.le_of_ble_eq_true rfl) dX1_sumAt_5 ⟨Nat.zero_le _, Nat.zero_le _⟩ rfl ?_
  refine lv_if_eq (tgt := 20) hx hb dX1_sumAt_8 (by decide) (fun hc => ?_) (fun hc => ?_)
  · have hf := q_t hc hf
    refine lv_iconst (v := (0 : Int32)) hx hb dX1_sumAt_20 (by decide) ?_
    have hf := Option.some.inj hf
    subst hf
    exact q_riR hx hb hr hlocks dX1_sumAt_21
  · have hf := q_f hc hf
    refine lv_aload_n hx hb dX1_sumAt_11 rfl (lv_at hl 0 rfl) ?_
    refine va_get (D := D) (ci := 1) (v := .ref aHd_sums) (C := RX1) (T := TX1) (N := 3) hx hb hts iX1 hown hk.1 hP 1 rfl rfl 1 (by decide) (hts _ tw_184) (fun _ h9 => h9) rfl dX1_sumAt_12 ?_
    refine lv_iload_n hx hb dX1_sumAt_15 rfl (lv_at hl 1 rfl) ?_
    obtain ⟨hi, hf⟩ := q_in hf
    refine va_iald hx hb hk.1 hP 2 0 rfl rfl hi dX1_sumAt_16 ?_
    refine lv_goto (tgt := 21) hx hb dX1_sumAt_17 (by decide) ?_
    have hf := Option.some.inj hf
    subst hf
    exact q_riR hx hb hr hlocks dX1_sumAt_21
def j_X1_farthest_54 (k9 : Int32 → Int32 → Int32 → Option (Int32)) (x6 : Int32) (x7 : Int32) : Option (Int32) := k9 x6 x7 (x6 + 1)
def lp_X1_farthest_9 (g_cells : Int32) (hd_sums : Nat → Int32) (x1 : Int64) (x3 : Int32) : Nat → Int32 → Int32 → Int32 → Option (Int32)
  | 0, _, _, _ => none
  | n + 1, x4, x5, x6 => if g_cells ≤ x6 then (some x4) else (if inb x6 64 = true then ((f_X9_has x1 x6).bind (fun z35 => if z35 = 0 then (lp_X1_farthest_9 g_cells hd_sums x1 x3 n x4 x5 (x6 + 1)) else (if x4 = (-1 : Int32) then (j_X1_farthest_54 (lp_X1_farthest_9 g_cells hd_sums x1 x3 n) x6 (x3 * (hd_sums x6.toNatClampNeg))) else (if (x3 * (hd_sums x6.toNatClampNeg)) ≤ x5 then (lp_X1_farthest_9 g_cells hd_sums x1 x3 n x4 x5 (x6 + 1)) else (j_X1_farthest_54 (lp_X1_farthest_9 g_cells hd_sums x1 x3 n) x6 (x3 * (hd_sums x6.toNatClampNeg))))))) else none)
theorem lp_X1_farthest_9_s (g_cells : Int32) (hd_sums : Nat → Int32) (x1 : Int64) (x3 : Int32) (n : Nat) (x4 : Int32) (x5 : Int32) (x6 : Int32) : lp_X1_farthest_9 g_cells hd_sums x1 x3 (n + 1) x4 x5 x6 = (if g_cells ≤ x6 then (some x4) else (if inb x6 64 = true then ((f_X9_has x1 x6).bind (fun z35 => if z35 = 0 then (lp_X1_farthest_9 g_cells hd_sums x1 x3 n x4 x5 (x6 + 1)) else (if x4 = (-1 : Int32) then (j_X1_farthest_54 (lp_X1_farthest_9 g_cells hd_sums x1 x3 n) x6 (x3 * (hd_sums x6.toNatClampNeg))) else (if (x3 * (hd_sums x6.toNatClampNeg)) ≤ x5 then (lp_X1_farthest_9 g_cells hd_sums x1 x3 n x4 x5 (x6 + 1)) else (j_X1_farthest_54 (lp_X1_farthest_9 g_cells hd_sums x1 x3 n) x6 (x3 * (hd_sums x6.toNatClampNeg))))))) else none)) := rfl
theorem lp_X1_farthest_9_z (g_cells : Int32) (hd_sums : Nat → Int32) (x1 : Int64) (x3 : Int32) (x4 : Int32) (x5 : Int32) (x6 : Int32) : lp_X1_farthest_9 g_cells hd_sums x1 x3 0 x4 x5 x6 = none := rfl
def f_X1_farthest (g_cells : Int32) (hd_sums : Nat → Int32) (x1 : Int64) (x3 : Int32) : Option (Int32) := lp_X1_farthest_9 g_cells hd_sums x1 x3 FU (-1 : Int32) (0 : Int32) (0 : Int32)
theorem ok_X1_farthest : OkV yX1_farthest cX1_farthest 8 (some Jvm.ClassFile.FieldType.int) 2 := ⟨⟨tw_486, tw_7, by decide +kernel, by decide +kernel, by decide +kernel⟩, tw_485, tp_10⟩
set_option maxHeartbeats 4000000 in
set_option maxRecDepth 100000 in
theorem c_X1_farthest (l : Launch) (D : va_G) (cy : ClassId × ClassId × ClassId) (H0 : Heap) (aP aG aG_columns aG_lines aG_distances aG_weights aHd aHd_sums : Nat) (g_cells : Int32) (g_free : Int64) (g_freeCount : Int32) (hd_holders : Int64) (hd_sums : Nat → Int32) (x1 : Int64) (x3 : Int32) (r : Int32) (hP : va_P D vwCl [(aG, .inr (0, [.ref aP, .ref aG_columns, .ref aG_lines, .ref aG_distances, .ref aG_weights, .int g_cells, .long g_free, .int g_freeCount])), (aHd, .inr (1, [.ref aG, .ref aHd_sums, .long hd_holders])), (aHd_sums, .inl (cy.1, 64, .inl hd_sums))] H0) (hf : f_X1_farthest g_cells hd_sums x1 x3 = some r) : Rd l yX1_farthest cX1_farthest 8 (some Jvm.ClassFile.FieldType.int) ({ frames := 1, cells := 0, slots := 0, locals := 22 } : Room) ([.ref aHd, .long x1, .int x3] : List Value) (some (.int r)) D cy H0 := by
  refine rd_of (by decide +kernel) (Nat.le_of_ble_eq_true rfl) ?_
  intro p e s m below meth c ls S hr hlocks hk hl
  obtain ⟨hx, hb, hml, hown, hts⟩ := id S
  have hl : lv_has ls 8 [(0, .ref aHd), (1, .long x1), (3, .int x3)] := hl
  rw [f_X1_farthest] at hf
  have J9 : ∀ (n9 : Nat) (x4 : Int32) (x5 : Int32) (x6 : Int32) (ls : Array Slot), lv_has ls 8 [(0, .ref aHd), (1, .long x1), (3, .int x3), (4, .int x4), (5, .int x5), (6, .int x6)] → lp_X1_farthest_9 g_cells hd_sums x1 x3 n9 x4 x5 x6 = some r → W p l e ({ frames := 1, cells := 0, slots := 0, locals := 22 } : Room) s m ([.ref aHd, .long x1, .int x3] : List Value).toArray below meth c H0 [] 0 0 (MQ below (QR (some (.int r)) H0) ([.ref aHd, .long x1, .int x3] : List Value).toArray s 0 0 (fun _ => False)) (F0 m 9 ls []) := by
    intro n9
    induction n9 with
    | zero =>
      intro x4 x5 x6 ls hl hf
      rw [lp_X1_farthest_9_z] at hf
      cases hf
    | succ n9 ih9 =>
      have J54 : ∀ (x6 : Int32) (x7 : Int32) (ls : Array Slot), lv_has ls 8 [(0, .ref aHd), (1, .long x1), (3, .int x3), (6, .int x6), (7, .int x7)] → j_X1_farthest_54 (lp_X1_farthest_9 g_cells hd_sums x1 x3 n9) x6 x7 = some r → W p l e ({ frames := 1, cells := 0, slots := 0, locals := 22 } : Room) s m ([.ref aHd, .long x1, .int x3] : List Value).toArray below meth c H0 [] 0 0 (MQ below (QR (some (.int r)) H0) ([.ref aHd, .long x1, .int x3] : List Value).toArray s 0 0 (fun _ => False)) (F0 m 54 ls []) := by
        intro x6 x7 ls hl hf
        rw [j_X1_farthest_54] at hf
        refine lv_iload hx hb dX1_farthest_54 (lv_at hl 3 rfl) ?_
        refine lv_istore (lv' := [(4, .int x6), (0, .ref aHd), (1, .long x1), (3, .int x3), (6, .int x6), (7, .int x7)]) hx hb dX1_farthest_56 hl (by decide) rfl (fun ls hl => ?_)
        refine lv_iload hx hb dX1_farthest_58 (lv_at hl 5 rfl) ?_
        refine lv_istore (lv' := [(5, .int x7), (4, .int x6), (0, .ref aHd), (1, .long x1), (3, .int x3), (6, .int x6), (7, .int x7)]) hx hb dX1_farthest_60 hl (by decide) rfl (fun ls hl => ?_)
        refine lv_iinc (v := (x6 + 1)) (lv' := [(6, .int (x6 + 1)), (5, .int x7), (4, .int x6), (0, .ref aHd), (1, .long x1), (3, .int x3), (7, .int x7)]) hx hb dX1_farthest_62 hl (k := 5) rfl rfl (by decide) rfl (fun ls hl => ?_)
        refine lv_goto (tgt := 9) hx hb dX1_farthest_65 (by decide) ?_
        exact ih9 x6 x7 (x6 + 1) ls (lv_sub hl [3, 4, 5, 2, 1, 0] rfl) hf
      intro x4 x5 x6 ls hl hf
      rw [lp_X1_farthest_9_s] at hf
      refine lv_iload hx hb dX1_farthest_9 (lv_at hl 5 rfl) ?_
      refine lv_aload_n hx hb dX1_farthest_11 rfl (lv_at hl 0 rfl) ?_
      refine va_get (D := D) (ci := 1) (v := .ref aG) (C := RX1) (T := TX1) (N := 3) hx hb hts iX1 hown hk.1 hP 1 rfl rfl 0 (by decide) (hts _ tw_183) (fun _ h9 => h9) rfl dX1_farthest_12 ?_
      refine va_get (D := D) (ci := 0) (v := .int g_cells) (C := RX0) (T := TX0) (N := 8) hx hb hts iX0 hown hk.1 hP 0 rfl rfl 5 (by decide) (hts _ tw_147) (fun _ h9 => h9) rfl dX1_farthest_15 ?_
      refine lv_icmp_ge (tgt := 68) hx hb dX1_farthest_18 (by decide) (fun hc => ?_) (fun hc => ?_)
      · have hf := q_t hc hf
        refine lv_iload hx hb dX1_farthest_68 (lv_at hl 3 rfl) ?_
        have hf := Option.some.inj hf
        subst hf
        exact q_riR hx hb hr hlocks dX1_farthest_70
      · have hf := q_f hc hf
        refine lv_iload_n hx hb dX1_farthest_21 rfl (lv_at hl 2 rfl) ?_
        refine lv_aload_n hx hb dX1_farthest_22 rfl (lv_at hl 0 rfl) ?_
        refine va_get (D := D) (ci := 1) (v := .ref aHd_sums) (C := RX1) (T := TX1) (N := 3) hx hb hts iX1 hown hk.1 hP 1 rfl rfl 1 (by decide) (hts _ tw_184) (fun _ h9 => h9) rfl dX1_farthest_23 ?_
        refine lv_iload hx hb dX1_farthest_26 (lv_at hl 5 rfl) ?_
        obtain ⟨hi, hf⟩ := q_in hf
        refine va_iald hx hb hk.1 hP 2 0 rfl rfl hi dX1_farthest_28 ?_
        refine lv_imul hx hb dX1_farthest_29 ?_
        refine lv_istore (lv' := [(7, .int (x3 * (hd_sums x6.toNatClampNeg))), (0, .ref aHd), (1, .long x1), (3, .int x3), (4, .int x4), (5, .int x5), (6, .int x6)]) hx hb dX1_farthest_30 hl (by decide) rfl (fun ls hl => ?_)
        refine lv_lload_n hx hb dX1_farthest_32 rfl (lv_at hl 2 rfl) ?_
        refine lv_iload hx hb dX1_farthest_33 (lv_at hl 6 rfl) ?_
        obtain ⟨z35, hz35, hf⟩ := q_bind hf
        refine q_rdN (As := [.long x1, .int x6]) (rest := []) (st2 := [.int z35]) S hk (c_X9_has l D cy H0 x1 x6 z35 hz35) ok_X9_has hk.2.2.2.1 ⟨rfl, rfl, Nat.le_of_ble_eq_true rfl, Nat.le_of_ble_eq_true rfl⟩ rfl hl.1 rfl (Nat.le_of_ble_eq_true rfl) dX1_farthest_35 ⟨Nat.zero_le _, Nat.zero_le _⟩ rfl ?_
        refine lv_if_eq (tgt := 62) hx hb dX1_farthest_38 (by decide) (fun hc => ?_) (fun hc => ?_)
        · have hf := q_t hc hf
          refine lv_iinc (v := (x6 + 1)) (lv' := [(6, .int (x6 + 1)), (7, .int (x3 * (hd_sums x6.toNatClampNeg))), (0, .ref aHd), (1, .long x1), (3, .int x3), (4, .int x4), (5, .int x5)]) hx hb dX1_farthest_62 hl (k := 6) rfl rfl (by decide) rfl (fun ls hl => ?_)
          refine lv_goto (tgt := 9) hx hb dX1_farthest_65 (by decide) ?_
          exact ih9 x4 x5 (x6 + 1) ls (lv_sub hl [2, 3, 4, 5, 6, 0] rfl) hf
        · have hf := q_f hc hf
          refine lv_iload hx hb dX1_farthest_41 (lv_at hl 4 rfl) ?_
          refine lv_iconst (v := (-1 : Int32)) hx hb dX1_farthest_43 (by decide) ?_
          refine lv_icmp_eq (tgt := 54) hx hb dX1_farthest_44 (by decide) (fun hc => ?_) (fun hc => ?_)
          · have hf := q_t hc hf
            exact J54 x6 (x3 * (hd_sums x6.toNatClampNeg)) ls (lv_sub hl [1, 2, 3, 6, 0] rfl) hf
          · have hf := q_f hc hf
            refine lv_iload hx hb dX1_farthest_47 (lv_at hl 0 rfl) ?_
            refine lv_iload hx hb dX1_farthest_49 (lv_at hl 5 rfl) ?_
            refine lv_icmp_le (tgt := 62) hx hb dX1_farthest_51 (by decide) (fun hc => ?_) (fun hc => ?_)
            · have hf := q_t hc hf
              refine lv_iinc (v := (x6 + 1)) (lv' := [(6, .int (x6 + 1)), (7, .int (x3 * (hd_sums x6.toNatClampNeg))), (0, .ref aHd), (1, .long x1), (3, .int x3), (4, .int x4), (5, .int x5)]) hx hb dX1_farthest_62 hl (k := 6) rfl rfl (by decide) rfl (fun ls hl => ?_)
              refine lv_goto (tgt := 9) hx hb dX1_farthest_65 (by decide) ?_
              exact ih9 x4 x5 (x6 + 1) ls (lv_sub hl [2, 3, 4, 5, 6, 0] rfl) hf
            · have hf := q_f hc hf
              exact J54 x6 (x3 * (hd_sums x6.toNatClampNeg)) ls (lv_sub hl [1, 2, 3, 6, 0] rfl) hf
  refine lv_iconst (v := (-1 : Int32)) hx hb dX1_farthest_0 (by decide) ?_
  refine lv_istore (lv' := [(4, .int (-1 : Int32)), (0, .ref aHd), (1, .long x1), (3, .int x3)]) hx hb dX1_farthest_1 hl (by decide) rfl (fun ls hl => ?_)
  refine lv_iconst (v := (0 : Int32)) hx hb dX1_farthest_3 (by decide) ?_
  refine lv_istore (lv' := [(5, .int (0 : Int32)), (4, .int (-1 : Int32)), (0, .ref aHd), (1, .long x1), (3, .int x3)]) hx hb dX1_farthest_4 hl (by decide) rfl (fun ls hl => ?_)
  refine lv_iconst (v := (0 : Int32)) hx hb dX1_farthest_6 (by decide) ?_
  refine lv_istore (lv' := [(6, .int (0 : Int32)), (5, .int (0 : Int32)), (4, .int (-1 : Int32)), (0, .ref aHd), (1, .long x1), (3, .int x3)]) hx hb dX1_farthest_7 hl (by decide) rfl (fun ls hl => ?_)
  exact J9 FU (-1 : Int32) (0 : Int32) (0 : Int32) ls (lv_sub hl [3, 4, 5, 2, 1, 0] rfl) hf
def f_X1_most (g_cells : Int32) (hd_sums : Nat → Int32) (x1 : Int64) : Option (Int32) := (f_X1_farthest g_cells hd_sums x1 (1 : Int32)).bind (fun z3 => some z3)
theorem ok_X1_most : OkV yX1_most cX1_most 3 (some Jvm.ClassFile.FieldType.int) 1 := ⟨⟨tw_482, tw_7, by decide +kernel, by decide +kernel, by decide +kernel⟩, tw_480, tw_481⟩
set_option maxHeartbeats 4000000 in
set_option maxRecDepth 100000 in
theorem c_X1_most (l : Launch) (D : va_G) (cy : ClassId × ClassId × ClassId) (H0 : Heap) (aP aG aG_columns aG_lines aG_distances aG_weights aHd aHd_sums : Nat) (g_cells : Int32) (g_free : Int64) (g_freeCount : Int32) (hd_holders : Int64) (hd_sums : Nat → Int32) (x1 : Int64) (r : Int32) (hP : va_P D vwCl [(aG, .inr (0, [.ref aP, .ref aG_columns, .ref aG_lines, .ref aG_distances, .ref aG_weights, .int g_cells, .long g_free, .int g_freeCount])), (aHd, .inr (1, [.ref aG, .ref aHd_sums, .long hd_holders])), (aHd_sums, .inl (cy.1, 64, .inl hd_sums))] H0) (hf : f_X1_most g_cells hd_sums x1 = some r) : Rd l yX1_most cX1_most 3 (some Jvm.ClassFile.FieldType.int) ({ frames := 2, cells := 0, slots := 0, locals := 49 } : Room) ([.ref aHd, .long x1] : List Value) (some (.int r)) D cy H0 := by
  refine rd_of (by decide +kernel) (Nat.le_of_ble_eq_true rfl) ?_
  intro p e s m below meth c ls S hr hlocks hk hl
  obtain ⟨hx, hb, hml, hown, hts⟩ := id S
  have hl : lv_has ls 3 [(0, .ref aHd), (1, .long x1)] := hl
  rw [f_X1_most] at hf
  refine lv_aload_n hx hb dX1_most_0 rfl (lv_at hl 0 rfl) ?_
  refine lv_lload_n hx hb dX1_most_1 rfl (lv_at hl 1 rfl) ?_
  refine lv_iconst (v := (1 : Int32)) hx hb dX1_most_2 (by decide) ?_
  obtain ⟨z3, hz3, hf⟩ := q_bind hf
  refine q_rdV (As := [.long x1, .int (1 : Int32)]) (rest := []) (st2 := [.int z3]) S hk (c_X1_farthest l D cy H0 aP aG aG_columns aG_lines aG_distances aG_weights aHd aHd_sums g_cells g_free g_freeCount hd_holders hd_sums x1 (1 : Int32) z3 (hP.sub [0, 1, 2] rfl) hz3) ok_X1_farthest tw_483 ⟨rfl, rfl, Nat.le_of_ble_eq_true rfl, Nat.le_of_ble_eq_true rfl⟩ (va_recv hk.1 hP (ci := 1) (q0 := 1) rfl rfl) rfl hl.1 rfl (Nat.le_of_ble_eq_true rfl) dX1_most_3 ⟨Nat.zero_le _, Nat.zero_le _⟩ rfl ?_
  have hf := Option.some.inj hf
  subst hf
  exact q_riR hx hb hr hlocks dX1_most_6
def f_X1_least (g_cells : Int32) (hd_sums : Nat → Int32) (x1 : Int64) : Option (Int32) := (f_X1_farthest g_cells hd_sums x1 (-1 : Int32)).bind (fun z3 => some z3)
theorem ok_X1_least : OkV yX1_least cX1_least 3 (some Jvm.ClassFile.FieldType.int) 1 := ⟨⟨tw_495, tw_7, by decide +kernel, by decide +kernel, by decide +kernel⟩, tw_493, tw_494⟩
set_option maxHeartbeats 4000000 in
set_option maxRecDepth 100000 in
theorem c_X1_least (l : Launch) (D : va_G) (cy : ClassId × ClassId × ClassId) (H0 : Heap) (aP aG aG_columns aG_lines aG_distances aG_weights aHd aHd_sums : Nat) (g_cells : Int32) (g_free : Int64) (g_freeCount : Int32) (hd_holders : Int64) (hd_sums : Nat → Int32) (x1 : Int64) (r : Int32) (hP : va_P D vwCl [(aG, .inr (0, [.ref aP, .ref aG_columns, .ref aG_lines, .ref aG_distances, .ref aG_weights, .int g_cells, .long g_free, .int g_freeCount])), (aHd, .inr (1, [.ref aG, .ref aHd_sums, .long hd_holders])), (aHd_sums, .inl (cy.1, 64, .inl hd_sums))] H0) (hf : f_X1_least g_cells hd_sums x1 = some r) : Rd l yX1_least cX1_least 3 (some Jvm.ClassFile.FieldType.int) ({ frames := 2, cells := 0, slots := 0, locals := 49 } : Room) ([.ref aHd, .long x1] : List Value) (some (.int r)) D cy H0 := by
  refine rd_of (by decide +kernel) (Nat.le_of_ble_eq_true rfl) ?_
  intro p e s m below meth c ls S hr hlocks hk hl
  obtain ⟨hx, hb, hml, hown, hts⟩ := id S
  have hl : lv_has ls 3 [(0, .ref aHd), (1, .long x1)] := hl
  rw [f_X1_least] at hf
  refine lv_aload_n hx hb dX1_least_0 rfl (lv_at hl 0 rfl) ?_
  refine lv_lload_n hx hb dX1_least_1 rfl (lv_at hl 1 rfl) ?_
  refine lv_iconst (v := (-1 : Int32)) hx hb dX1_least_2 (by decide) ?_
  obtain ⟨z3, hz3, hf⟩ := q_bind hf
  refine q_rdV (As := [.long x1, .int (-1 : Int32)]) (rest := []) (st2 := [.int z3]) S hk (c_X1_farthest l D cy H0 aP aG aG_columns aG_lines aG_distances aG_weights aHd aHd_sums g_cells g_free g_freeCount hd_holders hd_sums x1 (-1 : Int32) z3 (hP.sub [0, 1, 2] rfl) hz3) ok_X1_farthest tw_483 ⟨rfl, rfl, Nat.le_of_ble_eq_true rfl, Nat.le_of_ble_eq_true rfl⟩ (va_recv hk.1 hP (ci := 1) (q0 := 1) rfl rfl) rfl hl.1 rfl (Nat.le_of_ble_eq_true rfl) dX1_least_3 ⟨Nat.zero_le _, Nat.zero_le _⟩ rfl ?_
  have hf := Option.some.inj hf
  subst hf
  exact q_riR hx hb hr hlocks dX1_least_6
def lp_X1_pairs_4 (g_cells : Int32) (g_columns : Nat → Int32) (g_lines : Nat → Int32) (g_weights : Nat → Int32) (hd_holders : Int64) (hd_sums : Nat → Int32) : Nat → Int32 → Int32 → Option (Int32)
  | 0, _, _ => none
  | n + 1, x1, x2 => if g_cells ≤ x2 then (some (x1 / (2 : Int32))) else ((f_X9_has hd_holders x2).bind (fun z20 => if z20 = 0 then (lp_X1_pairs_4 g_cells g_columns g_lines g_weights hd_holders hd_sums n x1 (x2 + 1)) else (if inb x2 64 = true then ((f_X0_weight g_cells g_columns g_lines g_weights x2 x2).bind (fun z39 => lp_X1_pairs_4 g_cells g_columns g_lines g_weights hd_holders hd_sums n (x1 + ((hd_sums x2.toNatClampNeg) - z39)) (x2 + 1))) else none)))
theorem lp_X1_pairs_4_s (g_cells : Int32) (g_columns : Nat → Int32) (g_lines : Nat → Int32) (g_weights : Nat → Int32) (hd_holders : Int64) (hd_sums : Nat → Int32) (n : Nat) (x1 : Int32) (x2 : Int32) : lp_X1_pairs_4 g_cells g_columns g_lines g_weights hd_holders hd_sums (n + 1) x1 x2 = (if g_cells ≤ x2 then (some (x1 / (2 : Int32))) else ((f_X9_has hd_holders x2).bind (fun z20 => if z20 = 0 then (lp_X1_pairs_4 g_cells g_columns g_lines g_weights hd_holders hd_sums n x1 (x2 + 1)) else (if inb x2 64 = true then ((f_X0_weight g_cells g_columns g_lines g_weights x2 x2).bind (fun z39 => lp_X1_pairs_4 g_cells g_columns g_lines g_weights hd_holders hd_sums n (x1 + ((hd_sums x2.toNatClampNeg) - z39)) (x2 + 1))) else none)))) := rfl
theorem lp_X1_pairs_4_z (g_cells : Int32) (g_columns : Nat → Int32) (g_lines : Nat → Int32) (g_weights : Nat → Int32) (hd_holders : Int64) (hd_sums : Nat → Int32) (x1 : Int32) (x2 : Int32) : lp_X1_pairs_4 g_cells g_columns g_lines g_weights hd_holders hd_sums 0 x1 x2 = none := rfl
def f_X1_pairs (g_cells : Int32) (g_columns : Nat → Int32) (g_lines : Nat → Int32) (g_weights : Nat → Int32) (hd_holders : Int64) (hd_sums : Nat → Int32) : Option (Int32) := lp_X1_pairs_4 g_cells g_columns g_lines g_weights hd_holders hd_sums FU (0 : Int32) (0 : Int32)
theorem ok_X1_pairs : OkV yX1_pairs cX1_pairs 3 (some Jvm.ClassFile.FieldType.int) 0 := ⟨⟨tw_503, tw_7, by decide +kernel, by decide +kernel, by decide +kernel⟩, tw_501, tw_502⟩
set_option maxHeartbeats 4000000 in
set_option maxRecDepth 100000 in
theorem c_X1_pairs (l : Launch) (D : va_G) (cy : ClassId × ClassId × ClassId) (H0 : Heap) (aP aG aG_columns aG_lines aG_distances aG_weights aHd aHd_sums : Nat) (g_cells : Int32) (g_free : Int64) (g_freeCount : Int32) (g_columns : Nat → Int32) (g_lines : Nat → Int32) (g_weights : Nat → Int32) (hd_holders : Int64) (hd_sums : Nat → Int32) (r : Int32) (hP : va_P D vwCl [(aG, .inr (0, [.ref aP, .ref aG_columns, .ref aG_lines, .ref aG_distances, .ref aG_weights, .int g_cells, .long g_free, .int g_freeCount])), (aG_columns, .inl (cy.1, 64, .inl g_columns)), (aG_lines, .inl (cy.1, 64, .inl g_lines)), (aG_weights, .inl (cy.1, 64, .inl g_weights)), (aHd, .inr (1, [.ref aG, .ref aHd_sums, .long hd_holders])), (aHd_sums, .inl (cy.1, 64, .inl hd_sums))] H0) (hf : f_X1_pairs g_cells g_columns g_lines g_weights hd_holders hd_sums = some r) : Rd l yX1_pairs cX1_pairs 3 (some Jvm.ClassFile.FieldType.int) ({ frames := 2, cells := 0, slots := 0, locals := 43 } : Room) ([.ref aHd] : List Value) (some (.int r)) D cy H0 := by
  refine rd_of (by decide +kernel) (Nat.le_of_ble_eq_true rfl) ?_
  intro p e s m below meth c ls S hr hlocks hk hl
  obtain ⟨hx, hb, hml, hown, hts⟩ := id S
  have hl : lv_has ls 3 [(0, .ref aHd)] := hl
  rw [f_X1_pairs] at hf
  have J4 : ∀ (n4 : Nat) (x1 : Int32) (x2 : Int32) (ls : Array Slot), lv_has ls 3 [(0, .ref aHd), (1, .int x1), (2, .int x2)] → lp_X1_pairs_4 g_cells g_columns g_lines g_weights hd_holders hd_sums n4 x1 x2 = some r → W p l e ({ frames := 2, cells := 0, slots := 0, locals := 43 } : Room) s m ([.ref aHd] : List Value).toArray below meth c H0 [] 0 0 (MQ below (QR (some (.int r)) H0) ([.ref aHd] : List Value).toArray s 0 0 (fun _ => False)) (F0 m 4 ls []) := by
    intro n4
    induction n4 with
    | zero =>
      intro x1 x2 ls hl hf
      rw [lp_X1_pairs_4_z] at hf
      cases hf
    | succ n4 ih4 =>
      intro x1 x2 ls hl hf
      rw [lp_X1_pairs_4_s] at hf
      refine lv_iload_n hx hb dX1_pairs_4 rfl (lv_at hl 2 rfl) ?_
      refine lv_aload_n hx hb dX1_pairs_5 rfl (lv_at hl 0 rfl) ?_
      refine va_get (D := D) (ci := 1) (v := .ref aG) (C := RX1) (T := TX1) (N := 3) hx hb hts iX1 hown hk.1 hP 4 rfl rfl 0 (by decide) (hts _ tw_183) (fun _ h9 => h9) rfl dX1_pairs_6 ?_
      refine va_get (D := D) (ci := 0) (v := .int g_cells) (C := RX0) (T := TX0) (N := 8) hx hb hts iX0 hown hk.1 hP 0 rfl rfl 5 (by decide) (hts _ tw_147) (fun _ h9 => h9) rfl dX1_pairs_9 ?_
      refine lv_icmp_ge (tgt := 51) hx hb dX1_pairs_12 (by decide) (fun hc => ?_) (fun hc => ?_)
      · have hf := q_t hc hf
        refine lv_iload_n hx hb dX1_pairs_51 rfl (lv_at hl 1 rfl) ?_
        refine lv_iconst (v := (2 : Int32)) hx hb dX1_pairs_52 (by decide) ?_
        refine lv_idiv hx hb dX1_pairs_53 (by decide) ?_
        have hf := Option.some.inj hf
        subst hf
        exact q_riR hx hb hr hlocks dX1_pairs_54
      · have hf := q_f hc hf
        refine lv_aload_n hx hb dX1_pairs_15 rfl (lv_at hl 0 rfl) ?_
        refine va_get (D := D) (ci := 1) (v := .long hd_holders) (C := RX1) (T := TX1) (N := 3) hx hb hts iX1 hown hk.1 hP 4 rfl rfl 2 (by decide) (hts _ tw_185) (fun _ h9 => h9) rfl dX1_pairs_16 ?_
        refine lv_iload_n hx hb dX1_pairs_19 rfl (lv_at hl 2 rfl) ?_
        obtain ⟨z20, hz20, hf⟩ := q_bind hf
        refine q_rdN (As := [.long hd_holders, .int x2]) (rest := []) (st2 := [.int z20]) S hk (c_X9_has l D cy H0 hd_holders x2 z20 hz20) ok_X9_has hk.2.2.2.1 ⟨rfl, rfl, Nat.le_of_ble_eq_true rfl, Nat.le_of_ble_eq_true rfl⟩ rfl hl.1 rfl (Nat.le_of_ble_eq_true rfl) dX1_pairs_20 ⟨Nat.zero_le _, Nat.zero_le _⟩ rfl ?_
        refine lv_if_eq (tgt := 45) hx hb dX1_pairs_23 (by decide) (fun hc => ?_) (fun hc => ?_)
        · have hf := q_t hc hf
          refine lv_iinc (v := (x2 + 1)) (lv' := [(2, .int (x2 + 1)), (0, .ref aHd), (1, .int x1)]) hx hb dX1_pairs_45 hl (k := 2) rfl rfl (by decide) rfl (fun ls hl => ?_)
          refine lv_goto (tgt := 4) hx hb dX1_pairs_48 (by decide) ?_
          exact ih4 x1 (x2 + 1) ls (lv_sub hl [1, 2, 0] rfl) hf
        · have hf := q_f hc hf
          refine lv_iload_n hx hb dX1_pairs_26 rfl (lv_at hl 1 rfl) ?_
          refine lv_aload_n hx hb dX1_pairs_27 rfl (lv_at hl 0 rfl) ?_
          refine va_get (D := D) (ci := 1) (v := .ref aHd_sums) (C := RX1) (T := TX1) (N := 3) hx hb hts iX1 hown hk.1 hP 4 rfl rfl 1 (by decide) (hts _ tw_184) (fun _ h9 => h9) rfl dX1_pairs_28 ?_
          refine lv_iload_n hx hb dX1_pairs_31 rfl (lv_at hl 2 rfl) ?_
          obtain ⟨hi, hf⟩ := q_in hf
          refine va_iald hx hb hk.1 hP 5 0 rfl rfl hi dX1_pairs_32 ?_
          refine lv_aload_n hx hb dX1_pairs_33 rfl (lv_at hl 0 rfl) ?_
          refine va_get (D := D) (ci := 1) (v := .ref aG) (C := RX1) (T := TX1) (N := 3) hx hb hts iX1 hown hk.1 hP 4 rfl rfl 0 (by decide) (hts _ tw_183) (fun _ h9 => h9) rfl dX1_pairs_34 ?_
          refine lv_iload_n hx hb dX1_pairs_37 rfl (lv_at hl 2 rfl) ?_
          refine lv_iload_n hx hb dX1_pairs_38 rfl (lv_at hl 2 rfl) ?_
          obtain ⟨z39, hz39, hf⟩ := q_bind hf
          refine q_rdV (As := [.int x2, .int x2]) (rest := [.int (hd_sums x2.toNatClampNeg), .int x1]) (st2 := [.int z39, .int (hd_sums x2.toNatClampNeg), .int x1]) S hk (c_X0_weight l D cy H0 aP aG aG_columns aG_lines aG_distances aG_weights g_cells g_free g_freeCount g_columns g_lines g_weights x2 x2 z39 (hP.sub [0, 1, 2, 3] rfl) hz39) ok_X0_weight tw_419 ⟨rfl, rfl, Nat.le_of_ble_eq_true rfl, Nat.le_of_ble_eq_true rfl⟩ (va_recv hk.1 hP (ci := 0) (q0 := 0) rfl rfl) rfl hl.1 rfl (Nat.le_of_ble_eq_true rfl) dX1_pairs_39 ⟨Nat.zero_le _, Nat.zero_le _⟩ rfl ?_
          refine lv_isub hx hb dX1_pairs_42 ?_
          refine lv_iadd hx hb dX1_pairs_43 ?_
          refine lv_istore_n (lv' := [(1, .int (x1 + ((hd_sums x2.toNatClampNeg) - z39))), (0, .ref aHd), (2, .int x2)]) hx hb dX1_pairs_44 rfl hl (by decide) rfl (fun ls hl => ?_)
          refine lv_iinc (v := (x2 + 1)) (lv' := [(2, .int (x2 + 1)), (1, .int (x1 + ((hd_sums x2.toNatClampNeg) - z39))), (0, .ref aHd)]) hx hb dX1_pairs_45 hl (k := 2) rfl rfl (by decide) rfl (fun ls hl => ?_)
          refine lv_goto (tgt := 4) hx hb dX1_pairs_48 (by decide) ?_
          exact ih4 (x1 + ((hd_sums x2.toNatClampNeg) - z39)) (x2 + 1) ls (lv_sub hl [2, 1, 0] rfl) hf
  refine lv_iconst (v := (0 : Int32)) hx hb dX1_pairs_0 (by decide) ?_
  refine lv_istore_n (lv' := [(1, .int (0 : Int32)), (0, .ref aHd)]) hx hb dX1_pairs_1 rfl hl (by decide) rfl (fun ls hl => ?_)
  refine lv_iconst (v := (0 : Int32)) hx hb dX1_pairs_2 (by decide) ?_
  refine lv_istore_n (lv' := [(2, .int (0 : Int32)), (1, .int (0 : Int32)), (0, .ref aHd)]) hx hb dX1_pairs_3 rfl hl (by decide) rfl (fun ls hl => ?_)
  exact J4 FU (0 : Int32) (0 : Int32) ls (lv_sub hl [2, 1, 0] rfl) hf
def f_X2_isImage (x1 : Int32) : Option (Int32) := if x1 < 0 then (some (0 : Int32)) else (if (2 : Int32) ≤ x1 then (some (0 : Int32)) else (some (1 : Int32)))
theorem ok_X2_isImage : OkV yX2_isImage cX2_isImage 2 (some Jvm.ClassFile.FieldType.boolean) 1 := ⟨⟨tw_746, tw_12, by decide +kernel, by decide +kernel, by decide +kernel⟩, tw_744, tw_745⟩
set_option maxHeartbeats 4000000 in
set_option maxRecDepth 100000 in
theorem c_X2_isImage (l : Launch) (D : va_G) (cy : ClassId × ClassId × ClassId) (H0 : Heap) (aI : Nat) (x1 : Int32) (r : Int32) (hf : f_X2_isImage x1 = some r) : Rd l yX2_isImage cX2_isImage 2 (some Jvm.ClassFile.FieldType.boolean) ({ frames := 0, cells := 0, slots := 0, locals := 0 } : Room) ([.ref aI, .int x1] : List Value) (some (.int r)) D cy H0 := by
  refine rd_of (by decide +kernel) (Nat.le_of_ble_eq_true rfl) ?_
  intro p e s m below meth c ls S hr hlocks hk hl
  obtain ⟨hx, hb, hml, hown, hts⟩ := id S
  have hl : lv_has ls 2 [(0, .ref aI), (1, .int x1)] := hl
  rw [f_X2_isImage] at hf
  refine lv_iload_n hx hb dX2_isImage_0 rfl (lv_at hl 1 rfl) ?_
  refine lv_if_lt (tgt := 13) hx hb dX2_isImage_1 (by decide) (fun hc => ?_) (fun hc => ?_)
  · have hf := q_t hc hf
    refine lv_iconst (v := (0 : Int32)) hx hb dX2_isImage_13 (by decide) ?_
    have hf := Option.some.inj hf
    subst hf
    exact q_rzR (Or.inl rfl) hx hb hr hlocks dX2_isImage_14
  · have hf := q_f hc hf
    refine lv_iload_n hx hb dX2_isImage_4 rfl (lv_at hl 1 rfl) ?_
    refine lv_iconst (v := (2 : Int32)) hx hb dX2_isImage_5 (by decide) ?_
    refine lv_icmp_ge (tgt := 13) hx hb dX2_isImage_6 (by decide) (fun hc => ?_) (fun hc => ?_)
    · have hf := q_t hc hf
      refine lv_iconst (v := (0 : Int32)) hx hb dX2_isImage_13 (by decide) ?_
      have hf := Option.some.inj hf
      subst hf
      exact q_rzR (Or.inl rfl) hx hb hr hlocks dX2_isImage_14
    · have hf := q_f hc hf
      refine lv_iconst (v := (1 : Int32)) hx hb dX2_isImage_9 (by decide) ?_
      refine lv_goto (tgt := 14) hx hb dX2_isImage_10 (by decide) ?_
      have hf := Option.some.inj hf
      subst hf
      exact q_rzR (Or.inr rfl) hx hb hr hlocks dX2_isImage_14
def f_X2_isKept (i_kept : Nat → Int32) (x1 : Int32) : Option (Int32) := (f_X2_isImage x1).bind (fun z2 => if z2 = 0 then (some (0 : Int32)) else (if inb x1 2 = true then (if (i_kept x1.toNatClampNeg) = 0 then (some (0 : Int32)) else (some (1 : Int32))) else none))
theorem ok_X2_isKept : OkV yX2_isKept cX2_isKept 2 (some Jvm.ClassFile.FieldType.boolean) 1 := ⟨⟨tw_760, tw_12, by decide +kernel, by decide +kernel, by decide +kernel⟩, tw_758, tw_759⟩
set_option maxHeartbeats 4000000 in
set_option maxRecDepth 100000 in
theorem c_X2_isKept (l : Launch) (D : va_G) (cy : ClassId × ClassId × ClassId) (H0 : Heap) (aI aI_dots aI_kept : Nat) (i_kept : Nat → Int32) (x1 : Int32) (r : Int32) (hP : va_P D vwCl [(aI, .inr (2, [.ref aI_dots, .ref aI_kept])), (aI_kept, .inl (cy.2.2, 2, .inl i_kept))] H0) (hf : f_X2_isKept i_kept x1 = some r) : Rd l yX2_isKept cX2_isKept 2 (some Jvm.ClassFile.FieldType.boolean) ({ frames := 1, cells := 0, slots := 0, locals := 21 } : Room) ([.ref aI, .int x1] : List Value) (some (.int r)) D cy H0 := by
  refine rd_of (by decide +kernel) (Nat.le_of_ble_eq_true rfl) ?_
  intro p e s m below meth c ls S hr hlocks hk hl
  obtain ⟨hx, hb, hml, hown, hts⟩ := id S
  have hl : lv_has ls 2 [(0, .ref aI), (1, .int x1)] := hl
  rw [f_X2_isKept] at hf
  refine lv_aload_n hx hb dX2_isKept_0 rfl (lv_at hl 0 rfl) ?_
  refine lv_iload_n hx hb dX2_isKept_1 rfl (lv_at hl 1 rfl) ?_
  obtain ⟨z2, hz2, hf⟩ := q_bind hf
  refine q_rdV (As := [.int x1]) (rest := []) (st2 := [.int z2]) S hk (c_X2_isImage l D cy H0 aI x1 z2 hz2) ok_X2_isImage tw_751 ⟨rfl, rfl, Nat.le_of_ble_eq_true rfl, Nat.le_of_ble_eq_true rfl⟩ (va_recv hk.1 hP (ci := 2) (q0 := 0) rfl rfl) rfl hl.1 rfl (Nat.le_of_ble_eq_true rfl) dX2_isKept_2 ⟨Nat.zero_le _, Nat.zero_le _⟩ rfl ?_
  refine lv_if_eq (tgt := 21) hx hb dX2_isKept_5 (by decide) (fun hc => ?_) (fun hc => ?_)
  · have hf := q_t hc hf
    refine lv_iconst (v := (0 : Int32)) hx hb dX2_isKept_21 (by decide) ?_
    have hf := Option.some.inj hf
    subst hf
    exact q_rzR (Or.inl rfl) hx hb hr hlocks dX2_isKept_22
  · have hf := q_f hc hf
    refine lv_aload_n hx hb dX2_isKept_8 rfl (lv_at hl 0 rfl) ?_
    refine va_get (D := D) (ci := 2) (v := .ref aI_kept) (C := RX2) (T := TX2) (N := 2) hx hb hts iX2 hown hk.1 hP 0 rfl rfl 1 (by decide) (hts _ tw_292) (fun _ h9 => h9) rfl dX2_isKept_9 ?_
    refine lv_iload_n hx hb dX2_isKept_12 rfl (lv_at hl 1 rfl) ?_
    obtain ⟨hi, hf⟩ := q_in hf
    refine va_zald hx hb hk.1 hP 1 2 rfl rfl hi dX2_isKept_13 ?_
    refine lv_if_eq (tgt := 21) hx hb dX2_isKept_14 (by decide) (fun hc => ?_) (fun hc => ?_)
    · have hf := q_t hc hf
      refine lv_iconst (v := (0 : Int32)) hx hb dX2_isKept_21 (by decide) ?_
      have hf := Option.some.inj hf
      subst hf
      exact q_rzR (Or.inl rfl) hx hb hr hlocks dX2_isKept_22
    · have hf := q_f hc hf
      refine lv_iconst (v := (1 : Int32)) hx hb dX2_isKept_17 (by decide) ?_
      refine lv_goto (tgt := 22) hx hb dX2_isKept_18 (by decide) ?_
      have hf := Option.some.inj hf
      subst hf
      exact q_rzR (Or.inr rfl) hx hb hr hlocks dX2_isKept_22
def f_X2_put (i_dots : Nat → Int64) (i_kept : Nat → Int32) (x1 : Int32) (x2 : Int64) : Option ((Nat → Int64) × (Nat → Int32)) := (f_X2_isImage x1).bind (fun z2 => if z2 = 0 then (some (i_dots, i_kept)) else (if inb x1 2 = true then (if inb x1 2 = true then (some ((vp_updL i_dots x1.toNatClampNeg x2), (upd i_kept x1.toNatClampNeg (1 : Int32)))) else none) else none))
theorem ok_X2_put : OkV yX2_put cX2_put 4 none 2 := ⟨⟨tw_750, tw_12, by decide +kernel, by decide +kernel, by decide +kernel⟩, tw_748, tw_749⟩
set_option maxHeartbeats 4000000 in
set_option maxRecDepth 100000 in
theorem c_X2_put (l : Launch) (D : va_G) (cy : ClassId × ClassId × ClassId) (H0 : Heap) (aI aI_dots aI_kept : Nat) (i_dots : Nat → Int64) (i_kept : Nat → Int32) (x1 : Int32) (x2 : Int64) (r : (Nat → Int64) × (Nat → Int32)) (hP : va_P D vwCl [(aI, .inr (2, [.ref aI_dots, .ref aI_kept])), (aI_dots, .inl (cy.2.1, 2, .inr (.inl i_dots))), (aI_kept, .inl (cy.2.2, 2, .inl i_kept))] H0) (hD0 : va_D (fun _ => True) [(aI, .inr (2, [.ref aI_dots, .ref aI_kept])), (aI_dots, .inl (cy.2.1, 2, .inr (.inl i_dots))), (aI_kept, .inl (cy.2.2, 2, .inl i_kept))]) (hf : f_X2_put i_dots i_kept x1 x2 = some r) : Wr l yX2_put cX2_put 4 none ({ frames := 1, cells := 0, slots := 0, locals := 21 } : Room) ([.ref aI, .int x1, .long x2] : List Value) none D cy H0 [(aI, .inr (2, [.ref aI_dots, .ref aI_kept])), (aI_dots, .inl (cy.2.1, 2, .inr (.inl i_dots))), (aI_kept, .inl (cy.2.2, 2, .inl i_kept))] [(aI, .inr (2, [.ref aI_dots, .ref aI_kept])), (aI_dots, .inl (cy.2.1, 2, .inr (.inl (r.1)))), (aI_kept, .inl (cy.2.2, 2, .inl (r.2)))] := by
  refine wr_of (by decide +kernel) (Nat.le_of_ble_eq_true rfl) hD0 ?_
  intro p e s m below meth c ls A S hr hlocks hk hl hD hS hA
  obtain ⟨hx, hb, hml, hown, hts⟩ := id S
  have hl : lv_has ls 4 [(0, .ref aI), (1, .int x1), (2, .long x2)] := hl
  rw [f_X2_put] at hf
  refine lv_aload_n hx hb dX2_put_0 rfl (lv_at hl 0 rfl) ?_
  refine lv_iload_n hx hb dX2_put_1 rfl (lv_at hl 1 rfl) ?_
  obtain ⟨z2, hz2, hf⟩ := q_bind hf
  refine q_rdV (As := [.int x1]) (rest := []) (st2 := [.int z2]) S hk (c_X2_isImage l D cy H0 aI x1 z2 hz2) ok_X2_isImage tw_751 ⟨rfl, rfl, Nat.le_of_ble_eq_true rfl, Nat.le_of_ble_eq_true rfl⟩ (va_recv hk.1 hP (ci := 2) (q0 := 0) rfl rfl) rfl hl.1 rfl (Nat.le_of_ble_eq_true rfl) dX2_put_2 ⟨Nat.zero_le _, Nat.zero_le _⟩ rfl ?_
  refine lv_if_eq (tgt := 22) hx hb dX2_put_5 (by decide) (fun hc => ?_) (fun hc => ?_)
  · have hf := q_t hc hf
    have hf := Option.some.inj hf
    subst hf
    exact q_rvW hP hS hx hb hr hlocks dX2_put_22
  · have hf := q_f hc hf
    refine lv_aload_n hx hb dX2_put_8 rfl (lv_at hl 0 rfl) ?_
    refine va_get (D := D) (ci := 2) (v := .ref aI_dots) (C := RX2) (T := TX2) (N := 2) hx hb hts iX2 hown hk.1 hP 0 rfl rfl 0 (by decide) (hts _ tw_291) (fun _ h9 => h9) rfl dX2_put_9 ?_
    refine lv_iload_n hx hb dX2_put_12 rfl (lv_at hl 1 rfl) ?_
    refine lv_lload_n hx hb dX2_put_13 rfl (lv_at hl 2 rfl) ?_
    obtain ⟨hi, hf⟩ := q_in hf
    refine va_last hx hb hk.1 hP hD hS 1 1 rfl rfl hi dX2_put_14 (fun H locs hP hD hS => ?_)
    have hP : va_P D vwCl [(aI, .inr (2, [.ref aI_dots, .ref aI_kept])), (aI_dots, .inl (cy.2.1, 2, .inr (.inl (vp_updL i_dots x1.toNatClampNeg x2)))), (aI_kept, .inl (cy.2.2, 2, .inl i_kept))] H := hP
    have hD : va_D A [(aI, .inr (2, [.ref aI_dots, .ref aI_kept])), (aI_dots, .inl (cy.2.1, 2, .inr (.inl (vp_updL i_dots x1.toNatClampNeg x2)))), (aI_kept, .inl (cy.2.2, 2, .inl i_kept))] := hD
    refine lv_aload_n hx hb dX2_put_15 rfl (lv_at hl 0 rfl) ?_
    refine va_get (D := D) (ci := 2) (v := .ref aI_kept) (C := RX2) (T := TX2) (N := 2) hx hb hts iX2 hown hk.1 hP 0 rfl rfl 1 (by decide) (hts _ tw_292) (fun _ h9 => h9) rfl dX2_put_16 ?_
    refine lv_iload_n hx hb dX2_put_19 rfl (lv_at hl 1 rfl) ?_
    refine lv_iconst (v := (1 : Int32)) hx hb dX2_put_20 (by decide) ?_
    obtain ⟨hi, hf⟩ := q_in hf
    refine va_zast hx hb hk.1 hP hD hS 2 2 rfl rfl hi dX2_put_21 (fun H locs hP hD hS => ?_)
    have hP : va_P D vwCl [(aI, .inr (2, [.ref aI_dots, .ref aI_kept])), (aI_dots, .inl (cy.2.1, 2, .inr (.inl (vp_updL i_dots x1.toNatClampNeg x2)))), (aI_kept, .inl (cy.2.2, 2, .inl (upd i_kept x1.toNatClampNeg (1 : Int32))))] H := hP
    have hD : va_D A [(aI, .inr (2, [.ref aI_dots, .ref aI_kept])), (aI_dots, .inl (cy.2.1, 2, .inr (.inl (vp_updL i_dots x1.toNatClampNeg x2)))), (aI_kept, .inl (cy.2.2, 2, .inl (upd i_kept x1.toNatClampNeg (1 : Int32))))] := hD
    have hf := Option.some.inj hf
    subst hf
    exact q_rvW hP hS hx hb hr hlocks dX2_put_22
def f_X2_dotsOf (i_dots : Nat → Int64) (x1 : Int32) : Option (Int64) := (f_X2_isImage x1).bind (fun z2 => if z2 = 0 then (some (0 : Int64)) else (if inb x1 2 = true then (some (i_dots x1.toNatClampNeg)) else none))
theorem ok_X2_dotsOf : OkV yX2_dotsOf cX2_dotsOf 2 (some Jvm.ClassFile.FieldType.long) 1 := ⟨⟨tw_764, tw_12, by decide +kernel, by decide +kernel, by decide +kernel⟩, tw_762, tw_763⟩
set_option maxHeartbeats 4000000 in
set_option maxRecDepth 100000 in
theorem c_X2_dotsOf (l : Launch) (D : va_G) (cy : ClassId × ClassId × ClassId) (H0 : Heap) (aI aI_dots aI_kept : Nat) (i_dots : Nat → Int64) (x1 : Int32) (r : Int64) (hP : va_P D vwCl [(aI, .inr (2, [.ref aI_dots, .ref aI_kept])), (aI_dots, .inl (cy.2.1, 2, .inr (.inl i_dots)))] H0) (hf : f_X2_dotsOf i_dots x1 = some r) : Rd l yX2_dotsOf cX2_dotsOf 2 (some Jvm.ClassFile.FieldType.long) ({ frames := 1, cells := 0, slots := 0, locals := 21 } : Room) ([.ref aI, .int x1] : List Value) (some (.long r)) D cy H0 := by
  refine rd_of (by decide +kernel) (Nat.le_of_ble_eq_true rfl) ?_
  intro p e s m below meth c ls S hr hlocks hk hl
  obtain ⟨hx, hb, hml, hown, hts⟩ := id S
  have hl : lv_has ls 2 [(0, .ref aI), (1, .int x1)] := hl
  rw [f_X2_dotsOf] at hf
  refine lv_aload_n hx hb dX2_dotsOf_0 rfl (lv_at hl 0 rfl) ?_
  refine lv_iload_n hx hb dX2_dotsOf_1 rfl (lv_at hl 1 rfl) ?_
  obtain ⟨z2, hz2, hf⟩ := q_bind hf
  refine q_rdV (As := [.int x1]) (rest := []) (st2 := [.int z2]) S hk (c_X2_isImage l D cy H0 aI x1 z2 hz2) ok_X2_isImage tw_751 ⟨rfl, rfl, Nat.le_of_ble_eq_true rfl, Nat.le_of_ble_eq_true rfl⟩ (va_recv hk.1 hP (ci := 2) (q0 := 0) rfl rfl) rfl hl.1 rfl (Nat.le_of_ble_eq_true rfl) dX2_dotsOf_2 ⟨Nat.zero_le _, Nat.zero_le _⟩ rfl ?_
  refine lv_if_eq (tgt := 17) hx hb dX2_dotsOf_5 (by decide) (fun hc => ?_) (fun hc => ?_)
  · have hf := q_t hc hf
    refine lv_lconst (v := (0 : Int64)) hx hb dX2_dotsOf_17 (by decide) ?_
    have hf := Option.some.inj hf
    subst hf
    exact q_rlR hx hb hr hlocks dX2_dotsOf_18
  · have hf := q_f hc hf
    refine lv_aload_n hx hb dX2_dotsOf_8 rfl (lv_at hl 0 rfl) ?_
    refine va_get (D := D) (ci := 2) (v := .ref aI_dots) (C := RX2) (T := TX2) (N := 2) hx hb hts iX2 hown hk.1 hP 0 rfl rfl 0 (by decide) (hts _ tw_291) (fun _ h9 => h9) rfl dX2_dotsOf_9 ?_
    refine lv_iload_n hx hb dX2_dotsOf_12 rfl (lv_at hl 1 rfl) ?_
    obtain ⟨hi, hf⟩ := q_in hf
    refine va_lald hx hb hk.1 hP 1 1 rfl rfl hi dX2_dotsOf_13 ?_
    refine lv_goto (tgt := 18) hx hb dX2_dotsOf_14 (by decide) ?_
    have hf := Option.some.inj hf
    subst hf
    exact q_rlR hx hb hr hlocks dX2_dotsOf_18
def lp_X2_drop_2 : Nat → Int32 → (Nat → Int32) → Option ((Nat → Int32))
  | 0, _, _ => none
  | n + 1, x1, i_kept => if (2 : Int32) ≤ x1 then (some i_kept) else (if inb x1 2 = true then (lp_X2_drop_2 n (x1 + 1) (upd i_kept x1.toNatClampNeg (0 : Int32))) else none)
theorem lp_X2_drop_2_s (n : Nat) (x1 : Int32) (i_kept : Nat → Int32) : lp_X2_drop_2 (n + 1) x1 i_kept = (if (2 : Int32) ≤ x1 then (some i_kept) else (if inb x1 2 = true then (lp_X2_drop_2 n (x1 + 1) (upd i_kept x1.toNatClampNeg (0 : Int32))) else none)) := rfl
theorem lp_X2_drop_2_z (x1 : Int32) (i_kept : Nat → Int32) : lp_X2_drop_2 0 x1 i_kept = none := rfl
def f_X2_drop (i_kept : Nat → Int32) : Option ((Nat → Int32)) := lp_X2_drop_2 FU (0 : Int32) i_kept
theorem ok_X2_drop : OkV yX2_drop cX2_drop 2 none 0 := ⟨⟨tw_438, tw_12, by decide +kernel, by decide +kernel, by decide +kernel⟩, tw_436, tw_437⟩
set_option maxHeartbeats 4000000 in
set_option maxRecDepth 100000 in
theorem c_X2_drop (l : Launch) (D : va_G) (cy : ClassId × ClassId × ClassId) (H0 : Heap) (aI aI_dots aI_kept : Nat) (i_kept : Nat → Int32) (r : (Nat → Int32)) (hP : va_P D vwCl [(aI, .inr (2, [.ref aI_dots, .ref aI_kept])), (aI_kept, .inl (cy.2.2, 2, .inl i_kept))] H0) (hD0 : va_D (fun _ => True) [(aI, .inr (2, [.ref aI_dots, .ref aI_kept])), (aI_kept, .inl (cy.2.2, 2, .inl i_kept))]) (hf : f_X2_drop i_kept = some r) : Wr l yX2_drop cX2_drop 2 none ({ frames := 0, cells := 0, slots := 0, locals := 0 } : Room) ([.ref aI] : List Value) none D cy H0 [(aI, .inr (2, [.ref aI_dots, .ref aI_kept])), (aI_kept, .inl (cy.2.2, 2, .inl i_kept))] [(aI, .inr (2, [.ref aI_dots, .ref aI_kept])), (aI_kept, .inl (cy.2.2, 2, .inl r))] := by
  refine wr_of (by decide +kernel) (Nat.le_of_ble_eq_true rfl) hD0 ?_
  intro p e s m below meth c ls A S hr hlocks hk hl hD hS hA
  obtain ⟨hx, hb, hml, hown, hts⟩ := id S
  have hl : lv_has ls 2 [(0, .ref aI)] := hl
  rw [f_X2_drop] at hf
  have J2 : ∀ (n2 : Nat) (x1 : Int32) (i_kept : Nat → Int32) (H : Heap) (locs : List Loc) (ls : Array Slot), va_P D vwCl [(aI, .inr (2, [.ref aI_dots, .ref aI_kept])), (aI_kept, .inl (cy.2.2, 2, .inl i_kept))] H → va_D A [(aI, .inr (2, [.ref aI_dots, .ref aI_kept])), (aI_kept, .inl (cy.2.2, 2, .inl i_kept))] → va_S A H0 H locs → lv_has ls 2 [(0, .ref aI), (1, .int x1)] → lp_X2_drop_2 n2 x1 i_kept = some r → W p l e ({ frames := 0, cells := 0, slots := 0, locals := 0 } : Room) s m ([.ref aI] : List Value).toArray below meth c H locs 0 0 (MQ below (QW none D [(aI, .inr (2, [.ref aI_dots, .ref aI_kept])), (aI_kept, .inl (cy.2.2, 2, .inl r))] H0 A) ([.ref aI] : List Value).toArray s 0 0 A) (F0 m 2 ls []) := by
    intro n2
    induction n2 with
    | zero =>
      intro x1 i_kept H locs ls hP hD hS hl hf
      rw [lp_X2_drop_2_z] at hf
      cases hf
    | succ n2 ih2 =>
      intro x1 i_kept H locs ls hP hD hS hl hf
      rw [lp_X2_drop_2_s] at hf
      refine lv_iload_n hx hb dX2_drop_2 rfl (lv_at hl 1 rfl) ?_
      refine lv_iconst (v := (2 : Int32)) hx hb dX2_drop_3 (by decide) ?_
      refine lv_icmp_ge (tgt := 20) hx hb dX2_drop_4 (by decide) (fun hc => ?_) (fun hc => ?_)
      · have hf := q_t hc hf
        have hf := Option.some.inj hf
        subst hf
        exact q_rvW hP hS hx hb hr hlocks dX2_drop_20
      · have hf := q_f hc hf
        refine lv_aload_n hx hb dX2_drop_7 rfl (lv_at hl 0 rfl) ?_
        refine va_get (D := D) (ci := 2) (v := .ref aI_kept) (C := RX2) (T := TX2) (N := 2) hx hb hts iX2 hown hk.1 hP 0 rfl rfl 1 (by decide) (hts _ tw_292) (fun _ h9 => h9) rfl dX2_drop_8 ?_
        refine lv_iload_n hx hb dX2_drop_11 rfl (lv_at hl 1 rfl) ?_
        refine lv_iconst (v := (0 : Int32)) hx hb dX2_drop_12 (by decide) ?_
        obtain ⟨hi, hf⟩ := q_in hf
        refine va_zast hx hb hk.1 hP hD hS 1 2 rfl rfl hi dX2_drop_13 (fun H locs hP hD hS => ?_)
        have hP : va_P D vwCl [(aI, .inr (2, [.ref aI_dots, .ref aI_kept])), (aI_kept, .inl (cy.2.2, 2, .inl (upd i_kept x1.toNatClampNeg (0 : Int32))))] H := hP
        have hD : va_D A [(aI, .inr (2, [.ref aI_dots, .ref aI_kept])), (aI_kept, .inl (cy.2.2, 2, .inl (upd i_kept x1.toNatClampNeg (0 : Int32))))] := hD
        refine lv_iinc (v := (x1 + 1)) (lv' := [(1, .int (x1 + 1)), (0, .ref aI)]) hx hb dX2_drop_14 hl (k := 1) rfl rfl (by decide) rfl (fun ls hl => ?_)
        refine lv_goto (tgt := 2) hx hb dX2_drop_17 (by decide) ?_
        exact ih2 (x1 + 1) (upd i_kept x1.toNatClampNeg (0 : Int32)) H locs ls hP hD hS (lv_sub hl [1, 0] rfl) hf
  refine lv_iconst (v := (0 : Int32)) hx hb dX2_drop_0 (by decide) ?_
  refine lv_istore_n (lv' := [(1, .int (0 : Int32)), (0, .ref aI)]) hx hb dX2_drop_1 rfl hl (by decide) rfl (fun ls hl => ?_)
  exact J2 FU (0 : Int32) i_kept H0 [] ls hP hD hS (lv_sub hl [1, 0] rfl) hf
def j_X3_remember_30 (x1 : Int64) (pa_size : Int32) (pa_known : Nat → Int64) : Option (Int32 × (Nat → Int64)) := if inb pa_size 10 = true then (some ((pa_size + (1 : Int32)), (vp_updL pa_known pa_size.toNatClampNeg x1))) else none
def f_X3_remember (pa_size : Int32) (pa_known : Nat → Int64) (x1 : Int64) : Option (Int32 × (Nat → Int64)) := if pa_size < (10 : Int32) then (j_X3_remember_30 x1 pa_size pa_known) else (j_X3_remember_30 x1 (9 : Int32) (va_cpy pa_known pa_known 1 0 9))
theorem ok_X3_remember : OkV yX3_remember cX3_remember 3 none 1 := ⟨⟨tw_462, tw_11, by decide +kernel, by decide +kernel, by decide +kernel⟩, tw_460, tw_461⟩
set_option maxHeartbeats 4000000 in
set_option maxRecDepth 100000 in
theorem c_X3_remember (l : Launch) (D : va_G) (cy : ClassId × ClassId × ClassId) (H0 : Heap) (aPa aPa_known : Nat) (pa_size : Int32) (pa_known : Nat → Int64) (x1 : Int64) (r : Int32 × (Nat → Int64)) (hP : va_P D vwCl [(aPa, .inr (3, [.ref aPa_known, .int pa_size])), (aPa_known, .inl (cy.2.1, 10, .inr (.inl pa_known)))] H0) (hD0 : va_D (fun _ => True) [(aPa, .inr (3, [.ref aPa_known, .int pa_size])), (aPa_known, .inl (cy.2.1, 10, .inr (.inl pa_known)))]) (hf : f_X3_remember pa_size pa_known x1 = some r) : Wr l yX3_remember cX3_remember 3 none ({ frames := 1, cells := 0, slots := 0, locals := 26 } : Room) ([.ref aPa, .long x1] : List Value) none D cy H0 [(aPa, .inr (3, [.ref aPa_known, .int pa_size])), (aPa_known, .inl (cy.2.1, 10, .inr (.inl pa_known)))] [(aPa, .inr (3, [.ref aPa_known, .int (r.1)])), (aPa_known, .inl (cy.2.1, 10, .inr (.inl (r.2))))] := by
  refine wr_of (by decide +kernel) (Nat.le_of_ble_eq_true rfl) hD0 ?_
  intro p e s m below meth c ls A S hr hlocks hk hl hD hS hA
  obtain ⟨hx, hb, hml, hown, hts⟩ := id S
  have hl : lv_has ls 3 [(0, .ref aPa), (1, .long x1)] := hl
  rw [f_X3_remember] at hf
  have J30 : ∀ (pa_size : Int32) (pa_known : Nat → Int64) (H : Heap) (locs : List Loc) (ls : Array Slot), va_P D vwCl [(aPa, .inr (3, [.ref aPa_known, .int pa_size])), (aPa_known, .inl (cy.2.1, 10, .inr (.inl pa_known)))] H → va_D A [(aPa, .inr (3, [.ref aPa_known, .int pa_size])), (aPa_known, .inl (cy.2.1, 10, .inr (.inl pa_known)))] → va_S A H0 H locs → lv_has ls 3 [(0, .ref aPa), (1, .long x1)] → j_X3_remember_30 x1 pa_size pa_known = some r → W p l e ({ frames := 1, cells := 0, slots := 0, locals := 26 } : Room) s m ([.ref aPa, .long x1] : List Value).toArray below meth c H locs 0 0 (MQ below (QW none D [(aPa, .inr (3, [.ref aPa_known, .int (r.1)])), (aPa_known, .inl (cy.2.1, 10, .inr (.inl (r.2))))] H0 A) ([.ref aPa, .long x1] : List Value).toArray s 0 0 A) (F0 m 30 ls []) := by
    intro pa_size pa_known H locs ls hP hD hS hl hf
    rw [j_X3_remember_30] at hf
    refine lv_aload_n hx hb dX3_remember_30 rfl (lv_at hl 0 rfl) ?_
    refine va_get (D := D) (ci := 3) (v := .ref aPa_known) (C := RX3) (T := TX3) (N := 2) hx hb hts iX3 hown hk.1 hP 0 rfl rfl 0 (by decide) (hts _ tw_276) (fun _ h9 => h9) rfl dX3_remember_31 ?_
    refine lv_aload_n hx hb dX3_remember_34 rfl (lv_at hl 0 rfl) ?_
    refine va_get (D := D) (ci := 3) (v := .int pa_size) (C := RX3) (T := TX3) (N := 2) hx hb hts iX3 hown hk.1 hP 0 rfl rfl 1 (by decide) (hts _ tw_277) (fun _ h9 => h9) rfl dX3_remember_35 ?_
    refine lv_lload_n hx hb dX3_remember_38 rfl (lv_at hl 1 rfl) ?_
    obtain ⟨hi, hf⟩ := q_in hf
    refine va_last hx hb hk.1 hP hD hS 1 1 rfl rfl hi dX3_remember_39 (fun H locs hP hD hS => ?_)
    have hP : va_P D vwCl [(aPa, .inr (3, [.ref aPa_known, .int pa_size])), (aPa_known, .inl (cy.2.1, 10, .inr (.inl (vp_updL pa_known pa_size.toNatClampNeg x1))))] H := hP
    have hD : va_D A [(aPa, .inr (3, [.ref aPa_known, .int pa_size])), (aPa_known, .inl (cy.2.1, 10, .inr (.inl (vp_updL pa_known pa_size.toNatClampNeg x1))))] := hD
    refine lv_aload_n hx hb dX3_remember_40 rfl (lv_at hl 0 rfl) ?_
    refine lv_dup hx hb dX3_remember_41 rfl ?_
    refine va_get (D := D) (ci := 3) (v := .int pa_size) (C := RX3) (T := TX3) (N := 2) hx hb hts iX3 hown hk.1 hP 0 rfl rfl 1 (by decide) (hts _ tw_277) (fun _ h9 => h9) rfl dX3_remember_42 ?_
    refine lv_iconst (v := (1 : Int32)) hx hb dX3_remember_45 (by decide) ?_
    refine lv_iadd hx hb dX3_remember_46 ?_
    refine va_put (D := D) (ci := 3) (v := .int (pa_size + (1 : Int32))) (ty := .int) (C := RX3) (T := TX3) (N := 2) hx hb hts iX3 tyX3 tyX3_ok nmX3 hown hk.1 hP hD hS 0 rfl rfl 1 (by decide) (hts _ tw_277) (fun _ h9 => h9) rfl (by decide +kernel) rfl rfl (Nat.le_of_ble_eq_true rfl) dX3_remember_47 (fun H locs hP hD hS => ?_)
    have hP : va_P D vwCl [(aPa, .inr (3, [.ref aPa_known, .int (pa_size + (1 : Int32))])), (aPa_known, .inl (cy.2.1, 10, .inr (.inl (vp_updL pa_known pa_size.toNatClampNeg x1))))] H := hP
    have hD : va_D A [(aPa, .inr (3, [.ref aPa_known, .int (pa_size + (1 : Int32))])), (aPa_known, .inl (cy.2.1, 10, .inr (.inl (vp_updL pa_known pa_size.toNatClampNeg x1))))] := hD
    have hf := Option.some.inj hf
    subst hf
    exact q_rvW hP hS hx hb hr hlocks dX3_remember_50
  refine lv_aload_n hx hb dX3_remember_0 rfl (lv_at hl 0 rfl) ?_
  refine va_get (D := D) (ci := 3) (v := .int pa_size) (C := RX3) (T := TX3) (N := 2) hx hb hts iX3 hown hk.1 hP 0 rfl rfl 1 (by decide) (hts _ tw_277) (fun _ h9 => h9) rfl dX3_remember_1 ?_
  refine lv_bipush (v := (10 : Int32)) hx hb dX3_remember_4 (by decide) ?_
  refine lv_icmp_lt (tgt := 30) hx hb dX3_remember_6 (by decide) (fun hc => ?_) (fun hc => ?_)
  · have hf := q_t hc hf
    exact J30 pa_size pa_known H0 [] ls hP hD hS (lv_sub hl [0, 1] rfl) hf
  · have hf := q_f hc hf
    refine lv_aload_n hx hb dX3_remember_9 rfl (lv_at hl 0 rfl) ?_
    refine va_get (D := D) (ci := 3) (v := .ref aPa_known) (C := RX3) (T := TX3) (N := 2) hx hb hts iX3 hown hk.1 hP 0 rfl rfl 0 (by decide) (hts _ tw_276) (fun _ h9 => h9) rfl dX3_remember_10 ?_
    refine lv_iconst (v := (1 : Int32)) hx hb dX3_remember_13 (by decide) ?_
    refine lv_aload_n hx hb dX3_remember_14 rfl (lv_at hl 0 rfl) ?_
    refine va_get (D := D) (ci := 3) (v := .ref aPa_known) (C := RX3) (T := TX3) (N := 2) hx hb hts iX3 hown hk.1 hP 0 rfl rfl 0 (by decide) (hts _ tw_276) (fun _ h9 => h9) rfl dX3_remember_15 ?_
    refine lv_iconst (v := (0 : Int32)) hx hb dX3_remember_18 (by decide) ?_
    refine lv_bipush (v := (9 : Int32)) hx hb dX3_remember_19 (by decide) ?_
    refine va_copyl hx hb (hml.trans hl.1.symm) hown (hts _ tw_463) (hts _ tw_465) (hts _ tw_464) (hts _ tw_15) hk.1 hP hD hS 1 1 1 1 rfl rfl rfl rfl rfl (by decide) (by decide) (by decide) (by decide) (by decide) (fun _ _ => rfl) (Nat.le_of_ble_eq_true rfl) (Nat.le_of_ble_eq_true rfl) dX3_remember_21 (fun H locs hP hD hS => ?_)
    have hP : va_P D vwCl [(aPa, .inr (3, [.ref aPa_known, .int pa_size])), (aPa_known, .inl (cy.2.1, 10, .inr (.inl (va_cpy pa_known pa_known 1 0 9))))] H := hP
    have hD : va_D A [(aPa, .inr (3, [.ref aPa_known, .int pa_size])), (aPa_known, .inl (cy.2.1, 10, .inr (.inl (va_cpy pa_known pa_known 1 0 9))))] := hD
    refine lv_aload_n hx hb dX3_remember_24 rfl (lv_at hl 0 rfl) ?_
    refine lv_bipush (v := (9 : Int32)) hx hb dX3_remember_25 (by decide) ?_
    refine va_put (D := D) (ci := 3) (v := .int (9 : Int32)) (ty := .int) (C := RX3) (T := TX3) (N := 2) hx hb hts iX3 tyX3 tyX3_ok nmX3 hown hk.1 hP hD hS 0 rfl rfl 1 (by decide) (hts _ tw_277) (fun _ h9 => h9) rfl (by decide +kernel) rfl rfl (Nat.le_of_ble_eq_true rfl) dX3_remember_27 (fun H locs hP hD hS => ?_)
    have hP : va_P D vwCl [(aPa, .inr (3, [.ref aPa_known, .int (9 : Int32)])), (aPa_known, .inl (cy.2.1, 10, .inr (.inl (va_cpy pa_known pa_known 1 0 9))))] H := hP
    have hD : va_D A [(aPa, .inr (3, [.ref aPa_known, .int (9 : Int32)])), (aPa_known, .inl (cy.2.1, 10, .inr (.inl (va_cpy pa_known pa_known 1 0 9))))] := hD
    exact J30 (9 : Int32) (va_cpy pa_known pa_known 1 0 9) H locs ls hP hD hS (lv_sub hl [0, 1] rfl) hf
def f_X3_latest (pa_size : Int32) (pa_known : Nat → Int64) : Option (Int64 × Int32) := if (1 : Int32) ≤ pa_size then (if inb (pa_size - (1 : Int32)) 10 = true then (some ((pa_known (pa_size - (1 : Int32)).toNatClampNeg), (pa_size - (1 : Int32)))) else none) else (some ((0 : Int64), pa_size))
theorem ok_X3_latest : OkV yX3_latest cX3_latest 1 (some Jvm.ClassFile.FieldType.long) 0 := ⟨⟨tw_511, tw_11, by decide +kernel, by decide +kernel, by decide +kernel⟩, tw_509, tw_510⟩
set_option maxHeartbeats 4000000 in
set_option maxRecDepth 100000 in
theorem c_X3_latest (l : Launch) (D : va_G) (cy : ClassId × ClassId × ClassId) (H0 : Heap) (aPa aPa_known : Nat) (pa_size : Int32) (pa_known : Nat → Int64) (r : Int64 × Int32) (hP : va_P D vwCl [(aPa, .inr (3, [.ref aPa_known, .int pa_size])), (aPa_known, .inl (cy.2.1, 10, .inr (.inl pa_known)))] H0) (hD0 : va_D (fun _ => True) [(aPa, .inr (3, [.ref aPa_known, .int pa_size])), (aPa_known, .inl (cy.2.1, 10, .inr (.inl pa_known)))]) (hf : f_X3_latest pa_size pa_known = some r) : Wr l yX3_latest cX3_latest 1 (some Jvm.ClassFile.FieldType.long) ({ frames := 0, cells := 0, slots := 0, locals := 0 } : Room) ([.ref aPa] : List Value) (some (.long (r.1))) D cy H0 [(aPa, .inr (3, [.ref aPa_known, .int pa_size])), (aPa_known, .inl (cy.2.1, 10, .inr (.inl pa_known)))] [(aPa, .inr (3, [.ref aPa_known, .int (r.2)])), (aPa_known, .inl (cy.2.1, 10, .inr (.inl pa_known)))] := by
  refine wr_of (by decide +kernel) (Nat.le_of_ble_eq_true rfl) hD0 ?_
  intro p e s m below meth c ls A S hr hlocks hk hl hD hS hA
  obtain ⟨hx, hb, hml, hown, hts⟩ := id S
  have hl : lv_has ls 1 [(0, .ref aPa)] := hl
  rw [f_X3_latest] at hf
  refine lv_aload_n hx hb dX3_latest_0 rfl (lv_at hl 0 rfl) ?_
  refine va_get (D := D) (ci := 3) (v := .int pa_size) (C := RX3) (T := TX3) (N := 2) hx hb hts iX3 hown hk.1 hP 0 rfl rfl 1 (by decide) (hts _ tw_277) (fun _ h9 => h9) rfl dX3_latest_1 ?_
  refine lv_iconst (v := (1 : Int32)) hx hb dX3_latest_4 (by decide) ?_
  refine lv_icmp_ge (tgt := 10) hx hb dX3_latest_5 (by decide) (fun hc => ?_) (fun hc => ?_)
  · have hf := q_t hc hf
    refine lv_aload_n hx hb dX3_latest_10 rfl (lv_at hl 0 rfl) ?_
    refine lv_dup hx hb dX3_latest_11 rfl ?_
    refine va_get (D := D) (ci := 3) (v := .int pa_size) (C := RX3) (T := TX3) (N := 2) hx hb hts iX3 hown hk.1 hP 0 rfl rfl 1 (by decide) (hts _ tw_277) (fun _ h9 => h9) rfl dX3_latest_12 ?_
    refine lv_iconst (v := (1 : Int32)) hx hb dX3_latest_15 (by decide) ?_
    refine lv_isub hx hb dX3_latest_16 ?_
    refine va_put (D := D) (ci := 3) (v := .int (pa_size - (1 : Int32))) (ty := .int) (C := RX3) (T := TX3) (N := 2) hx hb hts iX3 tyX3 tyX3_ok nmX3 hown hk.1 hP hD hS 0 rfl rfl 1 (by decide) (hts _ tw_277) (fun _ h9 => h9) rfl (by decide +kernel) rfl rfl (Nat.le_of_ble_eq_true rfl) dX3_latest_17 (fun H locs hP hD hS => ?_)
    have hP : va_P D vwCl [(aPa, .inr (3, [.ref aPa_known, .int (pa_size - (1 : Int32))])), (aPa_known, .inl (cy.2.1, 10, .inr (.inl pa_known)))] H := hP
    have hD : va_D A [(aPa, .inr (3, [.ref aPa_known, .int (pa_size - (1 : Int32))])), (aPa_known, .inl (cy.2.1, 10, .inr (.inl pa_known)))] := hD
    refine lv_aload_n hx hb dX3_latest_20 rfl (lv_at hl 0 rfl) ?_
    refine va_get (D := D) (ci := 3) (v := .ref aPa_known) (C := RX3) (T := TX3) (N := 2) hx hb hts iX3 hown hk.1 hP 0 rfl rfl 0 (by decide) (hts _ tw_276) (fun _ h9 => h9) rfl dX3_latest_21 ?_
    refine lv_aload_n hx hb dX3_latest_24 rfl (lv_at hl 0 rfl) ?_
    refine va_get (D := D) (ci := 3) (v := .int (pa_size - (1 : Int32))) (C := RX3) (T := TX3) (N := 2) hx hb hts iX3 hown hk.1 hP 0 rfl rfl 1 (by decide) (hts _ tw_277) (fun _ h9 => h9) rfl dX3_latest_25 ?_
    obtain ⟨hi, hf⟩ := q_in hf
    refine va_lald hx hb hk.1 hP 1 1 rfl rfl hi dX3_latest_28 ?_
    have hf := Option.some.inj hf
    subst hf
    exact q_rlW hP hS hx hb hr hlocks dX3_latest_29
  · have hf := q_f hc hf
    refine lv_lconst (v := (0 : Int64)) hx hb dX3_latest_8 (by decide) ?_
    have hf := Option.some.inj hf
    subst hf
    exact q_rlW hP hS hx hb hr hlocks dX3_latest_9
