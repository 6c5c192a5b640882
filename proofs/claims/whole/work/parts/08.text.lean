def f_X8_append (t_length : Int32) (t_letters : Nat → Int32) (x1 : Int32) : Option (Int32 × Int32 × (Nat → Int32)) := if t_length < 0 then (some ((0 : Int32), t_length, t_letters)) else (if t_length < (150 : Int32) then (if inb t_length 150 = true then (some ((1 : Int32), (t_length + (1 : Int32)), (upd t_letters t_length.toNatClampNeg x1))) else none) else (some ((0 : Int32), t_length, t_letters)))
theorem ok_X8_append : OkV yX8_append cX8_append 2 (some Jvm.ClassFile.FieldType.boolean) 1 := ⟨⟨tw_337, tw_2, by decide +kernel, by decide +kernel, by decide +kernel⟩, tw_335, tw_336⟩
set_option maxHeartbeats 4000000 in
set_option maxRecDepth 100000 in
theorem c_X8_append (l : Launch) (D : va_G) (cy : ClassId × ClassId × ClassId) (H0 : Heap) (aT aT_letters : Nat) (t_length : Int32) (t_place : Int32) (t_next : Int32) (t_token : Int32) (t_value : Int32) (t_letters : Nat → Int32) (x1 : Int32) (r : Int32 × Int32 × (Nat → Int32)) (hP : va_P D vwCl [(aT, .inr (8, [.ref aT_letters, .int t_length, .int t_place, .int t_next, .int t_token, .int t_value])), (aT_letters, .inl (cy.1, 150, .inl t_letters))] H0) (hD0 : va_D (fun _ => True) [(aT, .inr (8, [.ref aT_letters, .int t_length, .int t_place, .int t_next, .int t_token, .int t_value])), (aT_letters, .inl (cy.1, 150, .inl t_letters))]) (hf : f_X8_append t_length t_letters x1 = some r) : Wr l yX8_append cX8_append 2 (some Jvm.ClassFile.FieldType.boolean) ({ frames := 0, cells := 0, slots := 0, locals := 0 } : Room) ([.ref aT, .int x1] : List Value) (some (.int (r.1))) D cy H0 [(aT, .inr (8, [.ref aT_letters, .int t_length, .int t_place, .int t_next, .int t_token, .int t_value])), (aT_letters, .inl (cy.1, 150, .inl t_letters))] [(aT, .inr (8, [.ref aT_letters, .int (r.2.1), .int t_place, .int t_next, .int t_token, .int t_value])), (aT_letters, .inl (cy.1, 150, .inl (r.2.2)))] := by
  refine wr_of (by decide +kernel) (Nat.le_of_ble_eq_true rfl) hD0 ?_
  intro p e s m below meth c ls A S hr hlocks hk hl hD hS hA
  obtain ⟨hx, hb, hml, hown, hts⟩ := id S
  have hl : lv_has ls 2 [(0, .ref aT), (1, .int x1)] := hl
  rw [f_X8_append] at hf
  refine lv_aload_n hx hb dX8_append_0 rfl (lv_at hl 0 rfl) ?_
  refine va_get (D := D) (ci := 8) (v := .int t_length) (C := RX8) (T := TX8) (N := 6) hx hb hts iX8 hown hk.1 hP 0 rfl rfl 1 (by decide) (hts _ tw_31) (fun _ h9 => h9) rfl dX8_append_1 ?_
  refine lv_if_lt (tgt := 19) hx hb dX8_append_4 (by decide) (fun hc => ?_) (fun hc => ?_)
  · have hf := q_t hc hf
    refine lv_iconst (v := (0 : Int32)) hx hb dX8_append_19 (by decide) ?_
    have hf := Option.some.inj hf
    subst hf
    exact q_rzW (Or.inl rfl) hP hS hx hb hr hlocks dX8_append_20
  · have hf := q_f hc hf
    refine lv_aload_n hx hb dX8_append_7 rfl (lv_at hl 0 rfl) ?_
    refine va_get (D := D) (ci := 8) (v := .int t_length) (C := RX8) (T := TX8) (N := 6) hx hb hts iX8 hown hk.1 hP 0 rfl rfl 1 (by decide) (hts _ tw_31) (fun _ h9 => h9) rfl dX8_append_8 ?_
    refine lv_aload_n hx hb dX8_append_11 rfl (lv_at hl 0 rfl) ?_
    refine va_get (D := D) (ci := 8) (v := .ref aT_letters) (C := RX8) (T := TX8) (N := 6) hx hb hts iX8 hown hk.1 hP 0 rfl rfl 0 (by decide) (hts _ tw_30) (fun _ h9 => h9) rfl dX8_append_12 ?_
    refine va_alen (v := (150 : Int32)) hx hb hk.1 hP 1 0 rfl rfl rfl dX8_append_15 ?_
    refine lv_icmp_lt (tgt := 21) hx hb dX8_append_16 (by decide) (fun hc => ?_) (fun hc => ?_)
    · have hf := q_t hc hf
      refine lv_aload_n hx hb dX8_append_21 rfl (lv_at hl 0 rfl) ?_
      refine va_get (D := D) (ci := 8) (v := .ref aT_letters) (C := RX8) (T := TX8) (N := 6) hx hb hts iX8 hown hk.1 hP 0 rfl rfl 0 (by decide) (hts _ tw_30) (fun _ h9 => h9) rfl dX8_append_22 ?_
      refine lv_aload_n hx hb dX8_append_25 rfl (lv_at hl 0 rfl) ?_
      refine va_get (D := D) (ci := 8) (v := .int t_length) (C := RX8) (T := TX8) (N := 6) hx hb hts iX8 hown hk.1 hP 0 rfl rfl 1 (by decide) (hts _ tw_31) (fun _ h9 => h9) rfl dX8_append_26 ?_
      refine lv_iload_n hx hb dX8_append_29 rfl (lv_at hl 1 rfl) ?_
      obtain ⟨hi, hf⟩ := q_in hf
      refine va_iast hx hb hk.1 hP hD hS 1 0 rfl rfl hi dX8_append_30 (fun H locs hP hD hS => ?_)
      have hP : va_P D vwCl [(aT, .inr (8, [.ref aT_letters, .int t_length, .int t_place, .int t_next, .int t_token, .int t_value])), (aT_letters, .inl (cy.1, 150, .inl (upd t_letters t_length.toNatClampNeg x1)))] H := hP
      have hD : va_D A [(aT, .inr (8, [.ref aT_letters, .int t_length, .int t_place, .int t_next, .int t_token, .int t_value])), (aT_letters, .inl (cy.1, 150, .inl (upd t_letters t_length.toNatClampNeg x1)))] := hD
      refine lv_aload_n hx hb dX8_append_31 rfl (lv_at hl 0 rfl) ?_
      refine lv_dup hx hb dX8_append_32 rfl ?_
      refine va_get (D := D) (ci := 8) (v := .int t_length) (C := RX8) (T := TX8) (N := 6) hx hb hts iX8 hown hk.1 hP 0 rfl rfl 1 (by decide) (hts _ tw_31) (fun _ h9 => h9) rfl dX8_append_33 ?_
      refine lv_iconst (v := (1 : Int32)) hx hb dX8_append_36 (by decide) ?_
      refine lv_iadd hx hb dX8_append_37 ?_
      refine va_put (D := D) (ci := 8) (v := .int (t_length + (1 : Int32))) (ty := .int) (C := RX8) (T := TX8) (N := 6) hx hb hts iX8 tyX8 tyX8_ok nmX8 hown hk.1 hP hD hS 0 rfl rfl 1 (by decide) (hts _ tw_31) (fun _ h9 => h9) rfl (by decide +kernel) rfl rfl (Nat.le_of_ble_eq_true rfl) dX8_append_38 (fun H locs hP hD hS => ?_)
      have hP : va_P D vwCl [(aT, .inr (8, [.ref aT_letters, .int (t_length + (1 : Int32)), .int t_place, .int t_next, .int t_token, .int t_value])), (aT_letters, .inl (cy.1, 150, .inl (upd t_letters t_length.toNatClampNeg x1)))] H := hP
      have hD : va_D A [(aT, .inr (8, [.ref aT_letters, .int (t_length + (1 : Int32)), .int t_place, .int t_next, .int t_token, .int t_value])), (aT_letters, .inl (cy.1, 150, .inl (upd t_letters t_length.toNatClampNeg x1)))] := hD
      refine lv_iconst (v := (1 : Int32)) hx hb dX8_append_41 (by decide) ?_
      have hf := Option.some.inj hf
      subst hf
      exact q_rzW (Or.inr rfl) hP hS hx hb hr hlocks dX8_append_42
    · have hf := q_f hc hf
      refine lv_iconst (v := (0 : Int32)) hx hb dX8_append_19 (by decide) ?_
      have hf := Option.some.inj hf
      subst hf
      exact q_rzW (Or.inl rfl) hP hS hx hb hr hlocks dX8_append_20
def f_X8_isDigit (x0 : Int32) : Option (Int32) := if x0 < (48 : Int32) then (some (0 : Int32)) else (if (57 : Int32) < x0 then (some (0 : Int32)) else (some (1 : Int32)))
theorem ok_X8_isDigit : OkS yX8_isDigit cX8_isDigit 1 (some Jvm.ClassFile.FieldType.boolean) 1 := ⟨⟨tw_357, tw_2, by decide +kernel, by decide +kernel, by decide +kernel⟩, tw_356⟩
set_option maxHeartbeats 4000000 in
set_option maxRecDepth 100000 in
theorem c_X8_isDigit (l : Launch) (D : va_G) (cy : ClassId × ClassId × ClassId) (H0 : Heap) (x0 : Int32) (r : Int32) (hf : f_X8_isDigit x0 = some r) : Rd l yX8_isDigit cX8_isDigit 1 (some Jvm.ClassFile.FieldType.boolean) ({ frames := 0, cells := 0, slots := 0, locals := 0 } : Room) ([.int x0] : List Value) (some (.int r)) D cy H0 := by
  refine rd_of (by decide +kernel) (Nat.le_of_ble_eq_true rfl) ?_
  intro p e s m below meth c ls S hr hlocks hk hl
  obtain ⟨hx, hb, hml, hown, hts⟩ := id S
  have hl : lv_has ls 1 [(0, .int x0)] := hl
  rw [f_X8_isDigit] at hf
  refine lv_iload_n hx hb dX8_isDigit_0 rfl (lv_at hl 0 rfl) ?_
  refine lv_bipush (v := (48 : Int32)) hx hb dX8_isDigit_1 (by decide) ?_
  refine lv_icmp_lt (tgt := 16) hx hb dX8_isDigit_3 (by decide) (fun hc => ?_) (fun hc => ?_)
  · have hf := q_t hc hf
    refine lv_iconst (v := (0 : Int32)) hx hb dX8_isDigit_16 (by decide) ?_
    have hf := Option.some.inj hf
    subst hf
    exact q_rzR (Or.inl rfl) hx hb hr hlocks dX8_isDigit_17
  · have hf := q_f hc hf
    refine lv_iload_n hx hb dX8_isDigit_6 rfl (lv_at hl 0 rfl) ?_
    refine lv_bipush (v := (57 : Int32)) hx hb dX8_isDigit_7 (by decide) ?_
    refine lv_icmp_gt (tgt := 16) hx hb dX8_isDigit_9 (by decide) (fun hc => ?_) (fun hc => ?_)
    · have hf := q_t hc hf
      refine lv_iconst (v := (0 : Int32)) hx hb dX8_isDigit_16 (by decide) ?_
      have hf := Option.some.inj hf
      subst hf
      exact q_rzR (Or.inl rfl) hx hb hr hlocks dX8_isDigit_17
    · have hf := q_f hc hf
      refine lv_iconst (v := (1 : Int32)) hx hb dX8_isDigit_12 (by decide) ?_
      refine lv_goto (tgt := 17) hx hb dX8_isDigit_13 (by decide) ?_
      have hf := Option.some.inj hf
      subst hf
      exact q_rzR (Or.inr rfl) hx hb hr hlocks dX8_isDigit_17
def j_X8_readDigits_121 (k1 : Int32) (t_next : Int32) (t_token : Int32) (t_value : Int32) : Option (Int32 × Int32 × Int32) := some (t_next, k1, t_value)
def j_X8_readDigits_96 (k0 : Int32) (t_next : Int32) (t_token : Int32) (t_value : Int32) : Option (Int32 × Int32 × Int32) := if k0 = 0 then (if t_value ≤ (999 : Int32) then (j_X8_readDigits_121 (256 : Int32) t_next t_token t_value) else (j_X8_readDigits_121 (257 : Int32) t_next t_token t_value)) else (j_X8_readDigits_121 (257 : Int32) t_next t_token t_value)
def j_X8_readDigits_74 (t_place : Int32) (x1 : Int32) (t_next : Int32) (t_token : Int32) (t_value : Int32) : Option (Int32 × Int32 × Int32) := if x1 = 0 then (if t_next ≤ (t_place + (1 : Int32)) then (j_X8_readDigits_96 (0 : Int32) t_next t_token t_value) else (j_X8_readDigits_96 (1 : Int32) t_next t_token t_value)) else (j_X8_readDigits_96 (0 : Int32) t_next t_token t_value)
def lp_X8_readDigits_5 (t_length : Int32) (t_place : Int32) (t_letters : Nat → Int32) (x1 : Int32) : Nat → Int32 → Int32 → Int32 → Option (Int32 × Int32 × Int32)
  | 0, _, _, _ => none
  | n + 1, t_next, t_token, t_value => if t_length ≤ t_next then (j_X8_readDigits_74 t_place x1 t_next t_token t_value) else (if inb t_next 150 = true then ((f_X8_isDigit (t_letters t_next.toNatClampNeg)).bind (fun z25 => if z25 = 0 then (j_X8_readDigits_74 t_place x1 t_next t_token t_value) else (if inb t_next 150 = true then (lp_X8_readDigits_5 t_length t_place t_letters x1 n (t_next + (1 : Int32)) t_token (if (1000 : Int32) < ((((10 : Int32) * t_value) + (t_letters t_next.toNatClampNeg)) - (48 : Int32)) then (1000 : Int32) else ((((10 : Int32) * t_value) + (t_letters t_next.toNatClampNeg)) - (48 : Int32)))) else none))) else none)
theorem lp_X8_readDigits_5_s (t_length : Int32) (t_place : Int32) (t_letters : Nat → Int32) (x1 : Int32) (n : Nat) (t_next : Int32) (t_token : Int32) (t_value : Int32) : lp_X8_readDigits_5 t_length t_place t_letters x1 (n + 1) t_next t_token t_value = (if t_length ≤ t_next then (j_X8_readDigits_74 t_place x1 t_next t_token t_value) else (if inb t_next 150 = true then ((f_X8_isDigit (t_letters t_next.toNatClampNeg)).bind (fun z25 => if z25 = 0 then (j_X8_readDigits_74 t_place x1 t_next t_token t_value) else (if inb t_next 150 = true then (lp_X8_readDigits_5 t_length t_place t_letters x1 n (t_next + (1 : Int32)) t_token (if (1000 : Int32) < ((((10 : Int32) * t_value) + (t_letters t_next.toNatClampNeg)) - (48 : Int32)) then (1000 : Int32) else ((((10 : Int32) * t_value) + (t_letters t_next.toNatClampNeg)) - (48 : Int32)))) else none))) else none)) := rfl
theorem lp_X8_readDigits_5_z (t_length : Int32) (t_place : Int32) (t_letters : Nat → Int32) (x1 : Int32) (t_next : Int32) (t_token : Int32) (t_value : Int32) : lp_X8_readDigits_5 t_length t_place t_letters x1 0 t_next t_token t_value = none := rfl
def f_X8_readDigits (t_length : Int32) (t_place : Int32) (t_next : Int32) (t_token : Int32) (t_value : Int32) (t_letters : Nat → Int32) (x1 : Int32) : Option (Int32 × Int32 × Int32) := lp_X8_readDigits_5 t_length t_place t_letters x1 FU t_next t_token x1
theorem ok_X8_readDigits : OkV yX8_readDigits cX8_readDigits 3 none 1 := ⟨⟨tw_361, tw_2, by decide +kernel, by decide +kernel, by decide +kernel⟩, tw_360, tp_1⟩
set_option maxHeartbeats 4000000 in
set_option maxRecDepth 100000 in
theorem c_X8_readDigits (l : Launch) (D : va_G) (cy : ClassId × ClassId × ClassId) (H0 : Heap) (aT aT_letters : Nat) (t_length : Int32) (t_place : Int32) (t_next : Int32) (t_token : Int32) (t_value : Int32) (t_letters : Nat → Int32) (x1 : Int32) (r : Int32 × Int32 × Int32) (hP : va_P D vwCl [(aT, .inr (8, [.ref aT_letters, .int t_length, .int t_place, .int t_next, .int t_token, .int t_value])), (aT_letters, .inl (cy.1, 150, .inl t_letters))] H0) (hD0 : va_D (fun _ => True) [(aT, .inr (8, [.ref aT_letters, .int t_length, .int t_place, .int t_next, .int t_token, .int t_value])), (aT_letters, .inl (cy.1, 150, .inl t_letters))]) (hf : f_X8_readDigits t_length t_place t_next t_token t_value t_letters x1 = some r) : Wr l yX8_readDigits cX8_readDigits 3 none ({ frames := 1, cells := 0, slots := 0, locals := 21 } : Room) ([.ref aT, .int x1] : List Value) none D cy H0 [(aT, .inr (8, [.ref aT_letters, .int t_length, .int t_place, .int t_next, .int t_token, .int t_value])), (aT_letters, .inl (cy.1, 150, .inl t_letters))] [(aT, .inr (8, [.ref aT_letters, .int t_length, .int t_place, .int (r.1), .int (r.2.1), .int (r.2.2)])), (aT_letters, .inl (cy.1, 150, .inl t_letters))] := by
  refine wr_of (by decide +kernel) (Nat.le_of_ble_eq_true rfl) hD0 ?_
  intro p e s m below meth c ls A S hr hlocks hk hl hD hS hA
  obtain ⟨hx, hb, hml, hown, hts⟩ := id S
  have hl : lv_has ls 3 [(0, .ref aT), (1, .int x1)] := hl
  rw [f_X8_readDigits] at hf
  have J121 : ∀ (k1 : Int32) (t_next : Int32) (t_token : Int32) (t_value : Int32) (H : Heap) (locs : List Loc) (ls : Array Slot), va_P D vwCl [(aT, .inr (8, [.ref aT_letters, .int t_length, .int t_place, .int t_next, .int t_token, .int t_value])), (aT_letters, .inl (cy.1, 150, .inl t_letters))] H → va_D A [(aT, .inr (8, [.ref aT_letters, .int t_length, .int t_place, .int t_next, .int t_token, .int t_value])), (aT_letters, .inl (cy.1, 150, .inl t_letters))] → va_S A H0 H locs → lv_has ls 3 [] → j_X8_readDigits_121 k1 t_next t_token t_value = some r → W p l e ({ frames := 1, cells := 0, slots := 0, locals := 21 } : Room) s m ([.ref aT, .int x1] : List Value).toArray below meth c H locs 0 0 (MQ below (QW none D [(aT, .inr (8, [.ref aT_letters, .int t_length, .int t_place, .int (r.1), .int (r.2.1), .int (r.2.2)])), (aT_letters, .inl (cy.1, 150, .inl t_letters))] H0 A) ([.ref aT, .int x1] : List Value).toArray s 0 0 A) (F0 m 121 ls [.int k1, .ref aT]) := by
    intro k1 t_next t_token t_value H locs ls hP hD hS hl hf
    rw [j_X8_readDigits_121] at hf
    refine va_put (D := D) (ci := 8) (v := .int k1) (ty := .int) (C := RX8) (T := TX8) (N := 6) hx hb hts iX8 tyX8 tyX8_ok nmX8 hown hk.1 hP hD hS 0 rfl rfl 4 (by decide) (hts _ tw_35) (fun _ h9 => h9) rfl (by decide +kernel) rfl rfl (Nat.le_of_ble_eq_true rfl) dX8_readDigits_121 (fun H locs hP hD hS => ?_)
    have hP : va_P D vwCl [(aT, .inr (8, [.ref aT_letters, .int t_length, .int t_place, .int t_next, .int k1, .int t_value])), (aT_letters, .inl (cy.1, 150, .inl t_letters))] H := hP
    have hD : va_D A [(aT, .inr (8, [.ref aT_letters, .int t_length, .int t_place, .int t_next, .int k1, .int t_value])), (aT_letters, .inl (cy.1, 150, .inl t_letters))] := hD
    have hf := Option.some.inj hf
    subst hf
    exact q_rvW hP hS hx hb hr hlocks dX8_readDigits_124
  have J96 : ∀ (k0 : Int32) (t_next : Int32) (t_token : Int32) (t_value : Int32) (H : Heap) (locs : List Loc) (ls : Array Slot), va_P D vwCl [(aT, .inr (8, [.ref aT_letters, .int t_length, .int t_place, .int t_next, .int t_token, .int t_value])), (aT_letters, .inl (cy.1, 150, .inl t_letters))] H → va_D A [(aT, .inr (8, [.ref aT_letters, .int t_length, .int t_place, .int t_next, .int t_token, .int t_value])), (aT_letters, .inl (cy.1, 150, .inl t_letters))] → va_S A H0 H locs → lv_has ls 3 [(0, .ref aT)] → j_X8_readDigits_96 k0 t_next t_token t_value = some r → W p l e ({ frames := 1, cells := 0, slots := 0, locals := 21 } : Room) s m ([.ref aT, .int x1] : List Value).toArray below meth c H locs 0 0 (MQ below (QW none D [(aT, .inr (8, [.ref aT_letters, .int t_length, .int t_place, .int (r.1), .int (r.2.1), .int (r.2.2)])), (aT_letters, .inl (cy.1, 150, .inl t_letters))] H0 A) ([.ref aT, .int x1] : List Value).toArray s 0 0 A) (F0 m 96 ls [.int k0]) := by
    intro k0 t_next t_token t_value H locs ls hP hD hS hl hf
    rw [j_X8_readDigits_96] at hf
    refine lv_istore_n (lv' := [(2, .int k0), (0, .ref aT)]) hx hb dX8_readDigits_96 rfl hl (by decide) rfl (fun ls hl => ?_)
    refine lv_aload_n hx hb dX8_readDigits_97 rfl (lv_at hl 1 rfl) ?_
    refine lv_iload_n hx hb dX8_readDigits_98 rfl (lv_at hl 0 rfl) ?_
    refine lv_if_ne (tgt := 112) hx hb dX8_readDigits_99 (by decide) (fun hc => ?_) (fun hc => ?_)
    · have hf := q_f hc hf
      refine lv_sipush (v := (257 : Int32)) hx hb dX8_readDigits_112 (by decide) ?_
      refine lv_goto (tgt := 121) hx hb dX8_readDigits_115 (by decide) ?_
      exact J121 (257 : Int32) t_next t_token t_value H locs ls hP hD hS (lv_sub hl [] rfl) hf
    · have hf := q_t hc hf
      refine lv_aload_n hx hb dX8_readDigits_102 rfl (lv_at hl 1 rfl) ?_
      refine va_get (D := D) (ci := 8) (v := .int t_value) (C := RX8) (T := TX8) (N := 6) hx hb hts iX8 hown hk.1 hP 0 rfl rfl 5 (by decide) (hts _ tw_36) (fun _ h9 => h9) rfl dX8_readDigits_103 ?_
      refine lv_sipush (v := (999 : Int32)) hx hb dX8_readDigits_106 (by decide) ?_
      refine lv_icmp_le (tgt := 118) hx hb dX8_readDigits_109 (by decide) (fun hc => ?_) (fun hc => ?_)
      · have hf := q_t hc hf
        refine lv_sipush (v := (256 : Int32)) hx hb dX8_readDigits_118 (by decide) ?_
        exact J121 (256 : Int32) t_next t_token t_value H locs ls hP hD hS (lv_sub hl [] rfl) hf
      · have hf := q_f hc hf
        refine lv_sipush (v := (257 : Int32)) hx hb dX8_readDigits_112 (by decide) ?_
        refine lv_goto (tgt := 121) hx hb dX8_readDigits_115 (by decide) ?_
        exact J121 (257 : Int32) t_next t_token t_value H locs ls hP hD hS (lv_sub hl [] rfl) hf
  have J74 : ∀ (t_next : Int32) (t_token : Int32) (t_value : Int32) (H : Heap) (locs : List Loc) (ls : Array Slot), va_P D vwCl [(aT, .inr (8, [.ref aT_letters, .int t_length, .int t_place, .int t_next, .int t_token, .int t_value])), (aT_letters, .inl (cy.1, 150, .inl t_letters))] H → va_D A [(aT, .inr (8, [.ref aT_letters, .int t_length, .int t_place, .int t_next, .int t_token, .int t_value])), (aT_letters, .inl (cy.1, 150, .inl t_letters))] → va_S A H0 H locs → lv_has ls 3 [(0, .ref aT), (1, .int x1)] → j_X8_readDigits_74 t_place x1 t_next t_token t_value = some r → W p l e ({ frames := 1, cells := 0, slots := 0, locals := 21 } : Room) s m ([.ref aT, .int x1] : List Value).toArray below meth c H locs 0 0 (MQ below (QW none D [(aT, .inr (8, [.ref aT_letters, .int t_length, .int t_place, .int (r.1), .int (r.2.1), .int (r.2.2)])), (aT_letters, .inl (cy.1, 150, .inl t_letters))] H0 A) ([.ref aT, .int x1] : List Value).toArray s 0 0 A) (F0 m 74 ls []) := by
    intro t_next t_token t_value H locs ls hP hD hS hl hf
    rw [j_X8_readDigits_74] at hf
    refine lv_iload_n hx hb dX8_readDigits_74 rfl (lv_at hl 1 rfl) ?_
    refine lv_if_ne (tgt := 95) hx hb dX8_readDigits_75 (by decide) (fun hc => ?_) (fun hc => ?_)
    · have hf := q_f hc hf
      refine lv_iconst (v := (0 : Int32)) hx hb dX8_readDigits_95 (by decide) ?_
      exact J96 (0 : Int32) t_next t_token t_value H locs ls hP hD hS (lv_sub hl [0] rfl) hf
    · have hf := q_t hc hf
      refine lv_aload_n hx hb dX8_readDigits_78 rfl (lv_at hl 0 rfl) ?_
      refine va_get (D := D) (ci := 8) (v := .int t_next) (C := RX8) (T := TX8) (N := 6) hx hb hts iX8 hown hk.1 hP 0 rfl rfl 3 (by decide) (hts _ tw_34) (fun _ h9 => h9) rfl dX8_readDigits_79 ?_
      refine lv_aload_n hx hb dX8_readDigits_82 rfl (lv_at hl 0 rfl) ?_
      refine va_get (D := D) (ci := 8) (v := .int t_place) (C := RX8) (T := TX8) (N := 6) hx hb hts iX8 hown hk.1 hP 0 rfl rfl 2 (by decide) (hts _ tw_33) (fun _ h9 => h9) rfl dX8_readDigits_83 ?_
      refine lv_iconst (v := (1 : Int32)) hx hb dX8_readDigits_86 (by decide) ?_
      refine lv_iadd hx hb dX8_readDigits_87 ?_
      refine lv_icmp_le (tgt := 95) hx hb dX8_readDigits_88 (by decide) (fun hc => ?_) (fun hc => ?_)
      · have hf := q_t hc hf
        refine lv_iconst (v := (0 : Int32)) hx hb dX8_readDigits_95 (by decide) ?_
        exact J96 (0 : Int32) t_next t_token t_value H locs ls hP hD hS (lv_sub hl [0] rfl) hf
      · have hf := q_f hc hf
        refine lv_iconst (v := (1 : Int32)) hx hb dX8_readDigits_91 (by decide) ?_
        refine lv_goto (tgt := 96) hx hb dX8_readDigits_92 (by decide) ?_
        exact J96 (1 : Int32) t_next t_token t_value H locs ls hP hD hS (lv_sub hl [0] rfl) hf
  have J5 : ∀ (n5 : Nat) (t_next : Int32) (t_token : Int32) (t_value : Int32) (H : Heap) (locs : List Loc) (ls : Array Slot), va_P D vwCl [(aT, .inr (8, [.ref aT_letters, .int t_length, .int t_place, .int t_next, .int t_token, .int t_value])), (aT_letters, .inl (cy.1, 150, .inl t_letters))] H → va_D A [(aT, .inr (8, [.ref aT_letters, .int t_length, .int t_place, .int t_next, .int t_token, .int t_value])), (aT_letters, .inl (cy.1, 150, .inl t_letters))] → va_S A H0 H locs → lv_has ls 3 [(0, .ref aT), (1, .int x1)] → lp_X8_readDigits_5 t_length t_place t_letters x1 n5 t_next t_token t_value = some r → W p l e ({ frames := 1, cells := 0, slots := 0, locals := 21 } : Room) s m ([.ref aT, .int x1] : List Value).toArray below meth c H locs 0 0 (MQ below (QW none D [(aT, .inr (8, [.ref aT_letters, .int t_length, .int t_place, .int (r.1), .int (r.2.1), .int (r.2.2)])), (aT_letters, .inl (cy.1, 150, .inl t_letters))] H0 A) ([.ref aT, .int x1] : List Value).toArray s 0 0 A) (F0 m 5 ls []) := by
    intro n5
    induction n5 with
    | zero =>
      intro t_next t_token t_value H locs ls hP hD hS hl hf
      rw [lp_X8_readDigits_5_z] at hf
      cases hf
    | succ n5 ih5 =>
      intro t_next t_token t_value H locs ls hP hD hS hl hf
      rw [lp_X8_readDigits_5_s] at hf
      refine lv_aload_n hx hb dX8_readDigits_5 rfl (lv_at hl 0 rfl) ?_
      refine va_get (D := D) (ci := 8) (v := .int t_next) (C := RX8) (T := TX8) (N := 6) hx hb hts iX8 hown hk.1 hP 0 rfl rfl 3 (by decide) (hts _ tw_34) (fun _ h9 => h9) rfl dX8_readDigits_6 ?_
      refine lv_aload_n hx hb dX8_readDigits_9 rfl (lv_at hl 0 rfl) ?_
      refine va_get (D := D) (ci := 8) (v := .int t_length) (C := RX8) (T := TX8) (N := 6) hx hb hts iX8 hown hk.1 hP 0 rfl rfl 1 (by decide) (hts _ tw_31) (fun _ h9 => h9) rfl dX8_readDigits_10 ?_
      refine lv_icmp_ge (tgt := 74) hx hb dX8_readDigits_13 (by decide) (fun hc => ?_) (fun hc => ?_)
      · have hf := q_t hc hf
        exact J74 t_next t_token t_value H locs ls hP hD hS (lv_sub hl [0, 1] rfl) hf
      · have hf := q_f hc hf
        refine lv_aload_n hx hb dX8_readDigits_16 rfl (lv_at hl 0 rfl) ?_
        refine va_get (D := D) (ci := 8) (v := .ref aT_letters) (C := RX8) (T := TX8) (N := 6) hx hb hts iX8 hown hk.1 hP 0 rfl rfl 0 (by decide) (hts _ tw_30) (fun _ h9 => h9) rfl dX8_readDigits_17 ?_
        refine lv_aload_n hx hb dX8_readDigits_20 rfl (lv_at hl 0 rfl) ?_
        refine va_get (D := D) (ci := 8) (v := .int t_next) (C := RX8) (T := TX8) (N := 6) hx hb hts iX8 hown hk.1 hP 0 rfl rfl 3 (by decide) (hts _ tw_34) (fun _ h9 => h9) rfl dX8_readDigits_21 ?_
        obtain ⟨hi, hf⟩ := q_in hf
        refine va_iald hx hb hk.1 hP 1 0 rfl rfl hi dX8_readDigits_24 ?_
        obtain ⟨z25, hz25, hf⟩ := q_bind hf
        refine q_rdS (As := [.int (t_letters t_next.toNatClampNeg)]) (rest := []) (st2 := [.int z25]) S hk (c_X8_isDigit l D cy H (t_letters t_next.toNatClampNeg) z25 hz25) ok_X8_isDigit tw_355 ⟨rfl, rfl, Nat.le_of_ble_eq_true rfl, Nat.le_of_ble_eq_true rfl⟩ rfl hl.1 rfl (Nat.le_of_ble_eq_true rfl) dX8_readDigits_25 ⟨Nat.zero_le _, Nat.zero_le _⟩ rfl ?_
        refine lv_if_eq (tgt := 74) hx hb dX8_readDigits_28 (by decide) (fun hc => ?_) (fun hc => ?_)
        · have hf := q_t hc hf
          exact J74 t_next t_token t_value H locs ls hP hD hS (lv_sub hl [0, 1] rfl) hf
        · have hf := q_f hc hf
          refine lv_aload_n hx hb dX8_readDigits_31 rfl (lv_at hl 0 rfl) ?_
          refine lv_bipush (v := (10 : Int32)) hx hb dX8_readDigits_32 (by decide) ?_
          refine lv_aload_n hx hb dX8_readDigits_34 rfl (lv_at hl 0 rfl) ?_
          refine va_get (D := D) (ci := 8) (v := .int t_value) (C := RX8) (T := TX8) (N := 6) hx hb hts iX8 hown hk.1 hP 0 rfl rfl 5 (by decide) (hts _ tw_36) (fun _ h9 => h9) rfl dX8_readDigits_35 ?_
          refine lv_imul hx hb dX8_readDigits_38 ?_
          refine lv_aload_n hx hb dX8_readDigits_39 rfl (lv_at hl 0 rfl) ?_
          refine va_get (D := D) (ci := 8) (v := .ref aT_letters) (C := RX8) (T := TX8) (N := 6) hx hb hts iX8 hown hk.1 hP 0 rfl rfl 0 (by decide) (hts _ tw_30) (fun _ h9 => h9) rfl dX8_readDigits_40 ?_
          refine lv_aload_n hx hb dX8_readDigits_43 rfl (lv_at hl 0 rfl) ?_
          refine va_get (D := D) (ci := 8) (v := .int t_next) (C := RX8) (T := TX8) (N := 6) hx hb hts iX8 hown hk.1 hP 0 rfl rfl 3 (by decide) (hts _ tw_34) (fun _ h9 => h9) rfl dX8_readDigits_44 ?_
          obtain ⟨hi, hf⟩ := q_in hf
          refine va_iald hx hb hk.1 hP 1 0 rfl rfl hi dX8_readDigits_47 ?_
          refine lv_iadd hx hb dX8_readDigits_48 ?_
          refine lv_bipush (v := (48 : Int32)) hx hb dX8_readDigits_49 (by decide) ?_
          refine lv_isub hx hb dX8_readDigits_51 ?_
          refine lv_sipush (v := (1000 : Int32)) hx hb dX8_readDigits_52 (by decide) ?_
          refine va_mmin hx hb (hml.trans hl.1.symm) hown (hts _ tw_362) (hts _ tw_125) (hts _ tw_5) (hts _ tw_126) (Nat.le_of_ble_eq_true rfl) (Nat.le_of_ble_eq_true rfl) (Nat.zero_le _) (Nat.zero_le _) dX8_readDigits_55 ?_
          refine va_put (D := D) (ci := 8) (v := .int (if (1000 : Int32) < ((((10 : Int32) * t_value) + (t_letters t_next.toNatClampNeg)) - (48 : Int32)) then (1000 : Int32) else ((((10 : Int32) * t_value) + (t_letters t_next.toNatClampNeg)) - (48 : Int32)))) (ty := .int) (C := RX8) (T := TX8) (N := 6) hx hb hts iX8 tyX8 tyX8_ok nmX8 hown hk.1 hP hD hS 0 rfl rfl 5 (by decide) (hts _ tw_36) (fun _ h9 => h9) rfl (by decide +kernel) rfl rfl (Nat.le_of_ble_eq_true rfl) dX8_readDigits_58 (fun H locs hP hD hS => ?_)
          have hP : va_P D vwCl [(aT, .inr (8, [.ref aT_letters, .int t_length, .int t_place, .int t_next, .int t_token, .int (if (1000 : Int32) < ((((10 : Int32) * t_value) + (t_letters t_next.toNatClampNeg)) - (48 : Int32)) then (1000 : Int32) else ((((10 : Int32) * t_value) + (t_letters t_next.toNatClampNeg)) - (48 : Int32)))])), (aT_letters, .inl (cy.1, 150, .inl t_letters))] H := hP
          have hD : va_D A [(aT, .inr (8, [.ref aT_letters, .int t_length, .int t_place, .int t_next, .int t_token, .int (if (1000 : Int32) < ((((10 : Int32) * t_value) + (t_letters t_next.toNatClampNeg)) - (48 : Int32)) then (1000 : Int32) else ((((10 : Int32) * t_value) + (t_letters t_next.toNatClampNeg)) - (48 : Int32)))])), (aT_letters, .inl (cy.1, 150, .inl t_letters))] := hD
          refine lv_aload_n hx hb dX8_readDigits_61 rfl (lv_at hl 0 rfl) ?_
          refine lv_dup hx hb dX8_readDigits_62 rfl ?_
          refine va_get (D := D) (ci := 8) (v := .int t_next) (C := RX8) (T := TX8) (N := 6) hx hb hts iX8 hown hk.1 hP 0 rfl rfl 3 (by decide) (hts _ tw_34) (fun _ h9 => h9) rfl dX8_readDigits_63 ?_
          refine lv_iconst (v := (1 : Int32)) hx hb dX8_readDigits_66 (by decide) ?_
          refine lv_iadd hx hb dX8_readDigits_67 ?_
          refine va_put (D := D) (ci := 8) (v := .int (t_next + (1 : Int32))) (ty := .int) (C := RX8) (T := TX8) (N := 6) hx hb hts iX8 tyX8 tyX8_ok nmX8 hown hk.1 hP hD hS 0 rfl rfl 3 (by decide) (hts _ tw_34) (fun _ h9 => h9) rfl (by decide +kernel) rfl rfl (Nat.le_of_ble_eq_true rfl) dX8_readDigits_68 (fun H locs hP hD hS => ?_)
          have hP : va_P D vwCl [(aT, .inr (8, [.ref aT_letters, .int t_length, .int t_place, .int (t_next + (1 : Int32)), .int t_token, .int (if (1000 : Int32) < ((((10 : Int32) * t_value) + (t_letters t_next.toNatClampNeg)) - (48 : Int32)) then (1000 : Int32) else ((((10 : Int32) * t_value) + (t_letters t_next.toNatClampNeg)) - (48 : Int32)))])), (aT_letters, .inl (cy.1, 150, .inl t_letters))] H := hP
          have hD : va_D A [(aT, .inr (8, [.ref aT_letters, .int t_length, .int t_place, .int (t_next + (1 : Int32)), .int t_token, .int (if (1000 : Int32) < ((((10 : Int32) * t_value) + (t_letters t_next.toNatClampNeg)) - (48 : Int32)) then (1000 : Int32) else ((((10 : Int32) * t_value) + (t_letters t_next.toNatClampNeg)) - (48 : Int32)))])), (aT_letters, .inl (cy.1, 150, .inl t_letters))] := hD
          refine lv_goto (tgt := 5) hx hb dX8_readDigits_71 (by decide) ?_
          exact ih5 (t_next + (1 : Int32)) t_token (if (1000 : Int32) < ((((10 : Int32) * t_value) + (t_letters t_next.toNatClampNeg)) - (48 : Int32)) then (1000 : Int32) else ((((10 : Int32) * t_value) + (t_letters t_next.toNatClampNeg)) - (48 : Int32))) H locs ls hP hD hS (lv_sub hl [0, 1] rfl) hf
  refine lv_aload_n hx hb dX8_readDigits_0 rfl (lv_at hl 0 rfl) ?_
  refine lv_iload_n hx hb dX8_readDigits_1 rfl (lv_at hl 1 rfl) ?_
  refine va_put (D := D) (ci := 8) (v := .int x1) (ty := .int) (C := RX8) (T := TX8) (N := 6) hx hb hts iX8 tyX8 tyX8_ok nmX8 hown hk.1 hP hD hS 0 rfl rfl 5 (by decide) (hts _ tw_36) (fun _ h9 => h9) rfl (by decide +kernel) rfl rfl (Nat.le_of_ble_eq_true rfl) dX8_readDigits_2 (fun H locs hP hD hS => ?_)
  have hP : va_P D vwCl [(aT, .inr (8, [.ref aT_letters, .int t_length, .int t_place, .int t_next, .int t_token, .int x1])), (aT_letters, .inl (cy.1, 150, .inl t_letters))] H := hP
  have hD : va_D A [(aT, .inr (8, [.ref aT_letters, .int t_length, .int t_place, .int t_next, .int t_token, .int x1])), (aT_letters, .inl (cy.1, 150, .inl t_letters))] := hD
  exact J5 FU t_next t_token x1 H locs ls hP hD hS (lv_sub hl [0, 1] rfl) hf
def j_X8_step_38 (t_length : Int32) (t_letters : Nat → Int32) (t_place : Int32) (t_next : Int32) (t_token : Int32) (t_value : Int32) : Option (Int32 × Int32 × Int32 × Int32) := if t_next < t_length then (if inb t_next 150 = true then ((f_X8_isDigit (t_letters t_next.toNatClampNeg)).bind (fun z92 => if z92 = 0 then (some (t_next, (t_next + (1 : Int32)), (t_letters t_next.toNatClampNeg), t_value)) else ((f_X8_readDigits t_length t_next (t_next + (1 : Int32)) (t_letters t_next.toNatClampNeg) t_value t_letters ((t_letters t_next.toNatClampNeg) - (48 : Int32))).bind (fun z106 => some (t_next, (z106.1), (z106.2.1), (z106.2.2)))))) else none) else (some (t_next, t_next, (258 : Int32), t_value))
def lp_X8_step_0 (t_length : Int32) (t_letters : Nat → Int32) : Nat → Int32 → Int32 → Int32 → Int32 → Option (Int32 × Int32 × Int32 × Int32)
  | 0, _, _, _, _ => none
  | n + 1, t_place, t_next, t_token, t_value => if t_length ≤ t_next then (j_X8_step_38 t_length t_letters t_place t_next t_token t_value) else (if inb t_next 150 = true then (if (t_letters t_next.toNatClampNeg) = (32 : Int32) then (lp_X8_step_0 t_length t_letters n t_place (t_next + (1 : Int32)) t_token t_value) else (j_X8_step_38 t_length t_letters t_place t_next t_token t_value)) else none)
theorem lp_X8_step_0_s (t_length : Int32) (t_letters : Nat → Int32) (n : Nat) (t_place : Int32) (t_next : Int32) (t_token : Int32) (t_value : Int32) : lp_X8_step_0 t_length t_letters (n + 1) t_place t_next t_token t_value = (if t_length ≤ t_next then (j_X8_step_38 t_length t_letters t_place t_next t_token t_value) else (if inb t_next 150 = true then (if (t_letters t_next.toNatClampNeg) = (32 : Int32) then (lp_X8_step_0 t_length t_letters n t_place (t_next + (1 : Int32)) t_token t_value) else (j_X8_step_38 t_length t_letters t_place t_next t_token t_value)) else none)) := rfl
theorem lp_X8_step_0_z (t_length : Int32) (t_letters : Nat → Int32) (t_place : Int32) (t_next : Int32) (t_token : Int32) (t_value : Int32) : lp_X8_step_0 t_length t_letters 0 t_place t_next t_token t_value = none := rfl
def f_X8_step (t_length : Int32) (t_place : Int32) (t_next : Int32) (t_token : Int32) (t_value : Int32) (t_letters : Nat → Int32) : Option (Int32 × Int32 × Int32 × Int32) := lp_X8_step_0 t_length t_letters FU t_place t_next t_token t_value
theorem ok_X8_step : OkV yX8_step cX8_step 1 none 0 := ⟨⟨tw_354, tw_2, by decide +kernel, by decide +kernel, by decide +kernel⟩, tw_353, tp_0⟩
set_option maxHeartbeats 4000000 in
set_option maxRecDepth 100000 in
theorem c_X8_step (l : Launch) (D : va_G) (cy : ClassId × ClassId × ClassId) (H0 : Heap) (aT aT_letters : Nat) (t_length : Int32) (t_place : Int32) (t_next : Int32) (t_token : Int32) (t_value : Int32) (t_letters : Nat → Int32) (r : Int32 × Int32 × Int32 × Int32) (hP : va_P D vwCl [(aT, .inr (8, [.ref aT_letters, .int t_length, .int t_place, .int t_next, .int t_token, .int t_value])), (aT_letters, .inl (cy.1, 150, .inl t_letters))] H0) (hD0 : va_D (fun _ => True) [(aT, .inr (8, [.ref aT_letters, .int t_length, .int t_place, .int t_next, .int t_token, .int t_value])), (aT_letters, .inl (cy.1, 150, .inl t_letters))]) (hf : f_X8_step t_length t_place t_next t_token t_value t_letters = some r) : Wr l yX8_step cX8_step 1 none ({ frames := 2, cells := 0, slots := 0, locals := 43 } : Room) ([.ref aT] : List Value) none D cy H0 [(aT, .inr (8, [.ref aT_letters, .int t_length, .int t_place, .int t_next, .int t_token, .int t_value])), (aT_letters, .inl (cy.1, 150, .inl t_letters))] [(aT, .inr (8, [.ref aT_letters, .int t_length, .int (r.1), .int (r.2.1), .int (r.2.2.1), .int (r.2.2.2)])), (aT_letters, .inl (cy.1, 150, .inl t_letters))] := by
  refine wr_of (by decide +kernel) (Nat.le_of_ble_eq_true rfl) hD0 ?_
  intro p e s m below meth c ls A S hr hlocks hk hl hD hS hA
  obtain ⟨hx, hb, hml, hown, hts⟩ := id S
  have hl : lv_has ls 1 [(0, .ref aT)] := hl
  rw [f_X8_step] at hf
  have J38 : ∀ (t_place : Int32) (t_next : Int32) (t_token : Int32) (t_value : Int32) (H : Heap) (locs : List Loc) (ls : Array Slot), va_P D vwCl [(aT, .inr (8, [.ref aT_letters, .int t_length, .int t_place, .int t_next, .int t_token, .int t_value])), (aT_letters, .inl (cy.1, 150, .inl t_letters))] H → va_D A [(aT, .inr (8, [.ref aT_letters, .int t_length, .int t_place, .int t_next, .int t_token, .int t_value])), (aT_letters, .inl (cy.1, 150, .inl t_letters))] → va_S A H0 H locs → lv_has ls 1 [(0, .ref aT)] → j_X8_step_38 t_length t_letters t_place t_next t_token t_value = some r → W p l e ({ frames := 2, cells := 0, slots := 0, locals := 43 } : Room) s m ([.ref aT] : List Value).toArray below meth c H locs 0 0 (MQ below (QW none D [(aT, .inr (8, [.ref aT_letters, .int t_length, .int (r.1), .int (r.2.1), .int (r.2.2.1), .int (r.2.2.2)])), (aT_letters, .inl (cy.1, 150, .inl t_letters))] H0 A) ([.ref aT] : List Value).toArray s 0 0 A) (F0 m 38 ls []) := by
    intro t_place t_next t_token t_value H locs ls hP hD hS hl hf
    rw [j_X8_step_38] at hf
    refine lv_aload_n hx hb dX8_step_38 rfl (lv_at hl 0 rfl) ?_
    refine lv_aload_n hx hb dX8_step_39 rfl (lv_at hl 0 rfl) ?_
    refine va_get (D := D) (ci := 8) (v := .int t_next) (C := RX8) (T := TX8) (N := 6) hx hb hts iX8 hown hk.1 hP 0 rfl rfl 3 (by decide) (hts _ tw_34) (fun _ h9 => h9) rfl dX8_step_40 ?_
    refine va_put (D := D) (ci := 8) (v := .int t_next) (ty := .int) (C := RX8) (T := TX8) (N := 6) hx hb hts iX8 tyX8 tyX8_ok nmX8 hown hk.1 hP hD hS 0 rfl rfl 2 (by decide) (hts _ tw_33) (fun _ h9 => h9) rfl (by decide +kernel) rfl rfl (Nat.le_of_ble_eq_true rfl) dX8_step_43 (fun H locs hP hD hS => ?_)
    have hP : va_P D vwCl [(aT, .inr (8, [.ref aT_letters, .int t_length, .int t_next, .int t_next, .int t_token, .int t_value])), (aT_letters, .inl (cy.1, 150, .inl t_letters))] H := hP
    have hD : va_D A [(aT, .inr (8, [.ref aT_letters, .int t_length, .int t_next, .int t_next, .int t_token, .int t_value])), (aT_letters, .inl (cy.1, 150, .inl t_letters))] := hD
    refine lv_aload_n hx hb dX8_step_46 rfl (lv_at hl 0 rfl) ?_
    refine va_get (D := D) (ci := 8) (v := .int t_next) (C := RX8) (T := TX8) (N := 6) hx hb hts iX8 hown hk.1 hP 0 rfl rfl 3 (by decide) (hts _ tw_34) (fun _ h9 => h9) rfl dX8_step_47 ?_
    refine lv_aload_n hx hb dX8_step_50 rfl (lv_at hl 0 rfl) ?_
    refine va_get (D := D) (ci := 8) (v := .int t_length) (C := RX8) (T := TX8) (N := 6) hx hb hts iX8 hown hk.1 hP 0 rfl rfl 1 (by decide) (hts _ tw_31) (fun _ h9 => h9) rfl dX8_step_51 ?_
    refine lv_icmp_lt (tgt := 65) hx hb dX8_step_54 (by decide) (fun hc => ?_) (fun hc => ?_)
    · have hf := q_t hc hf
      refine lv_aload_n hx hb dX8_step_65 rfl (lv_at hl 0 rfl) ?_
      refine lv_aload_n hx hb dX8_step_66 rfl (lv_at hl 0 rfl) ?_
      refine va_get (D := D) (ci := 8) (v := .ref aT_letters) (C := RX8) (T := TX8) (N := 6) hx hb hts iX8 hown hk.1 hP 0 rfl rfl 0 (by decide) (hts _ tw_30) (fun _ h9 => h9) rfl dX8_step_67 ?_
      refine lv_aload_n hx hb dX8_step_70 rfl (lv_at hl 0 rfl) ?_
      refine va_get (D := D) (ci := 8) (v := .int t_next) (C := RX8) (T := TX8) (N := 6) hx hb hts iX8 hown hk.1 hP 0 rfl rfl 3 (by decide) (hts _ tw_34) (fun _ h9 => h9) rfl dX8_step_71 ?_
      obtain ⟨hi, hf⟩ := q_in hf
      refine va_iald hx hb hk.1 hP 1 0 rfl rfl hi dX8_step_74 ?_
      refine va_put (D := D) (ci := 8) (v := .int (t_letters t_next.toNatClampNeg)) (ty := .int) (C := RX8) (T := TX8) (N := 6) hx hb hts iX8 tyX8 tyX8_ok nmX8 hown hk.1 hP hD hS 0 rfl rfl 4 (by decide) (hts _ tw_35) (fun _ h9 => h9) rfl (by decide +kernel) rfl rfl (Nat.le_of_ble_eq_true rfl) dX8_step_75 (fun H locs hP hD hS => ?_)
      have hP : va_P D vwCl [(aT, .inr (8, [.ref aT_letters, .int t_length, .int t_next, .int t_next, .int (t_letters t_next.toNatClampNeg), .int t_value])), (aT_letters, .inl (cy.1, 150, .inl t_letters))] H := hP
      have hD : va_D A [(aT, .inr (8, [.ref aT_letters, .int t_length, .int t_next, .int t_next, .int (t_letters t_next.toNatClampNeg), .int t_value])), (aT_letters, .inl (cy.1, 150, .inl t_letters))] := hD
      refine lv_aload_n hx hb dX8_step_78 rfl (lv_at hl 0 rfl) ?_
      refine lv_dup hx hb dX8_step_79 rfl ?_
      refine va_get (D := D) (ci := 8) (v := .int t_next) (C := RX8) (T := TX8) (N := 6) hx hb hts iX8 hown hk.1 hP 0 rfl rfl 3 (by decide) (hts _ tw_34) (fun _ h9 => h9) rfl dX8_step_80 ?_
      refine lv_iconst (v := (1 : Int32)) hx hb dX8_step_83 (by decide) ?_
      refine lv_iadd hx hb dX8_step_84 ?_
      refine va_put (D := D) (ci := 8) (v := .int (t_next + (1 : Int32))) (ty := .int) (C := RX8) (T := TX8) (N := 6) hx hb hts iX8 tyX8 tyX8_ok nmX8 hown hk.1 hP hD hS 0 rfl rfl 3 (by decide) (hts _ tw_34) (fun _ h9 => h9) rfl (by decide +kernel) rfl rfl (Nat.le_of_ble_eq_true rfl) dX8_step_85 (fun H locs hP hD hS => ?_)
      have hP : va_P D vwCl [(aT, .inr (8, [.ref aT_letters, .int t_length, .int t_next, .int (t_next + (1 : Int32)), .int (t_letters t_next.toNatClampNeg), .int t_value])), (aT_letters, .inl (cy.1, 150, .inl t_letters))] H := hP
      have hD : va_D A [(aT, .inr (8, [.ref aT_letters, .int t_length, .int t_next, .int (t_next + (1 : Int32)), .int (t_letters t_next.toNatClampNeg), .int t_value])), (aT_letters, .inl (cy.1, 150, .inl t_letters))] := hD
      refine lv_aload_n hx hb dX8_step_88 rfl (lv_at hl 0 rfl) ?_
      refine va_get (D := D) (ci := 8) (v := .int (t_letters t_next.toNatClampNeg)) (C := RX8) (T := TX8) (N := 6) hx hb hts iX8 hown hk.1 hP 0 rfl rfl 4 (by decide) (hts _ tw_35) (fun _ h9 => h9) rfl dX8_step_89 ?_
      obtain ⟨z92, hz92, hf⟩ := q_bind hf
      refine q_rdS (As := [.int (t_letters t_next.toNatClampNeg)]) (rest := []) (st2 := [.int z92]) S hk (c_X8_isDigit l D cy H (t_letters t_next.toNatClampNeg) z92 hz92) ok_X8_isDigit tw_355 ⟨rfl, rfl, Nat.le_of_ble_eq_true rfl, Nat.le_of_ble_eq_true rfl⟩ rfl hl.1 rfl (Nat.le_of_ble_eq_true rfl) dX8_step_92 ⟨Nat.zero_le _, Nat.zero_le _⟩ rfl ?_
      refine lv_if_eq (tgt := 109) hx hb dX8_step_95 (by decide) (fun hc => ?_) (fun hc => ?_)
      · have hf := q_t hc hf
        have hf := Option.some.inj hf
        subst hf
        exact q_rvW hP hS hx hb hr hlocks dX8_step_109
      · have hf := q_f hc hf
        refine lv_aload_n hx hb dX8_step_98 rfl (lv_at hl 0 rfl) ?_
        refine lv_aload_n hx hb dX8_step_99 rfl (lv_at hl 0 rfl) ?_
        refine va_get (D := D) (ci := 8) (v := .int (t_letters t_next.toNatClampNeg)) (C := RX8) (T := TX8) (N := 6) hx hb hts iX8 hown hk.1 hP 0 rfl rfl 4 (by decide) (hts _ tw_35) (fun _ h9 => h9) rfl dX8_step_100 ?_
        refine lv_bipush (v := (48 : Int32)) hx hb dX8_step_103 (by decide) ?_
        refine lv_isub hx hb dX8_step_105 ?_
        obtain ⟨z106, hz106, hf⟩ := q_bind hf
        refine q_wrV (As := [.int ((t_letters t_next.toNatClampNeg) - (48 : Int32))]) (rest := []) (st2 := []) (ws' := [(aT, .inr (8, [.ref aT_letters, .int t_length, .int t_next, .int (z106.1), .int (z106.2.1), .int (z106.2.2)])), (aT_letters, .inl (cy.1, 150, .inl t_letters))]) S hk (c_X8_readDigits l D cy H aT aT_letters t_length t_next (t_next + (1 : Int32)) (t_letters t_next.toNatClampNeg) t_value t_letters ((t_letters t_next.toNatClampNeg) - (48 : Int32)) z106 (hP.sub [0, 1] rfl) (qD_sub hD [0, 1] (by decide) rfl) hz106) ok_X8_readDigits tw_358 ⟨rfl, rfl, Nat.le_of_ble_eq_true rfl, Nat.le_of_ble_eq_true rfl⟩ (va_recv hk.1 hP (ci := 8) (q0 := 0) rfl rfl) rfl hl.1 rfl (Nat.le_of_ble_eq_true rfl) dX8_step_106 ⟨Nat.zero_le _, Nat.zero_le _⟩ rfl hP hD hS hA [0, 1] rfl rfl rfl rfl (fun H locs hP hD hS => ?_)
        have hf := Option.some.inj hf
        subst hf
        exact q_rvW hP hS hx hb hr hlocks dX8_step_109
    · have hf := q_f hc hf
      refine lv_aload_n hx hb dX8_step_57 rfl (lv_at hl 0 rfl) ?_
      refine lv_sipush (v := (258 : Int32)) hx hb dX8_step_58 (by decide) ?_
      refine va_put (D := D) (ci := 8) (v := .int (258 : Int32)) (ty := .int) (C := RX8) (T := TX8) (N := 6) hx hb hts iX8 tyX8 tyX8_ok nmX8 hown hk.1 hP hD hS 0 rfl rfl 4 (by decide) (hts _ tw_35) (fun _ h9 => h9) rfl (by decide +kernel) rfl rfl (Nat.le_of_ble_eq_true rfl) dX8_step_61 (fun H locs hP hD hS => ?_)
      have hP : va_P D vwCl [(aT, .inr (8, [.ref aT_letters, .int t_length, .int t_next, .int t_next, .int (258 : Int32), .int t_value])), (aT_letters, .inl (cy.1, 150, .inl t_letters))] H := hP
      have hD : va_D A [(aT, .inr (8, [.ref aT_letters, .int t_length, .int t_next, .int t_next, .int (258 : Int32), .int t_value])), (aT_letters, .inl (cy.1, 150, .inl t_letters))] := hD
      have hf := Option.some.inj hf
      subst hf
      exact q_rvW hP hS hx hb hr hlocks dX8_step_64
  have J0 : ∀ (n0 : Nat) (t_place : Int32) (t_next : Int32) (t_token : Int32) (t_value : Int32) (H : Heap) (locs : List Loc) (ls : Array Slot), va_P D vwCl [(aT, .inr (8, [.ref aT_letters, .int t_length, .int t_place, .int t_next, .int t_token, .int t_value])), (aT_letters, .inl (cy.1, 150, .inl t_letters))] H → va_D A [(aT, .inr (8, [.ref aT_letters, .int t_length, .int t_place, .int t_next, .int t_token, .int t_value])), (aT_letters, .inl (cy.1, 150, .inl t_letters))] → va_S A H0 H locs → lv_has ls 1 [(0, .ref aT)] → lp_X8_step_0 t_length t_letters n0 t_place t_next t_token t_value = some r → W p l e ({ frames := 2, cells := 0, slots := 0, locals := 43 } : Room) s m ([.ref aT] : List Value).toArray below meth c H locs 0 0 (MQ below (QW none D [(aT, .inr (8, [.ref aT_letters, .int t_length, .int (r.1), .int (r.2.1), .int (r.2.2.1), .int (r.2.2.2)])), (aT_letters, .inl (cy.1, 150, .inl t_letters))] H0 A) ([.ref aT] : List Value).toArray s 0 0 A) (F0 m 0 ls []) := by
    intro n0
    induction n0 with
    | zero =>
      intro t_place t_next t_token t_value H locs ls hP hD hS hl hf
      rw [lp_X8_step_0_z] at hf
      cases hf
    | succ n0 ih0 =>
      intro t_place t_next t_token t_value H locs ls hP hD hS hl hf
      rw [lp_X8_step_0_s] at hf
      refine lv_aload_n hx hb dX8_step_0 rfl (lv_at hl 0 rfl) ?_
      refine va_get (D := D) (ci := 8) (v := .int t_next) (C := RX8) (T := TX8) (N := 6) hx hb hts iX8 hown hk.1 hP 0 rfl rfl 3 (by decide) (hts _ tw_34) (fun _ h9 => h9) rfl dX8_step_1 ?_
      refine lv_aload_n hx hb dX8_step_4 rfl (lv_at hl 0 rfl) ?_
      refine va_get (D := D) (ci := 8) (v := .int t_length) (C := RX8) (T := TX8) (N := 6) hx hb hts iX8 hown hk.1 hP 0 rfl rfl 1 (by decide) (hts _ tw_31) (fun _ h9 => h9) rfl dX8_step_5 ?_
      refine lv_icmp_ge (tgt := 38) hx hb dX8_step_8 (by decide) (fun hc => ?_) (fun hc => ?_)
      · have hf := q_t hc hf
        exact J38 t_place t_next t_token t_value H locs ls hP hD hS (lv_sub hl [0] rfl) hf
      · have hf := q_f hc hf
        refine lv_aload_n hx hb dX8_step_11 rfl (lv_at hl 0 rfl) ?_
        refine va_get (D := D) (ci := 8) (v := .ref aT_letters) (C := RX8) (T := TX8) (N := 6) hx hb hts iX8 hown hk.1 hP 0 rfl rfl 0 (by decide) (hts _ tw_30) (fun _ h9 => h9) rfl dX8_step_12 ?_
        refine lv_aload_n hx hb dX8_step_15 rfl (lv_at hl 0 rfl) ?_
        refine va_get (D := D) (ci := 8) (v := .int t_next) (C := RX8) (T := TX8) (N := 6) hx hb hts iX8 hown hk.1 hP 0 rfl rfl 3 (by decide) (hts _ tw_34) (fun _ h9 => h9) rfl dX8_step_16 ?_
        obtain ⟨hi, hf⟩ := q_in hf
        refine va_iald hx hb hk.1 hP 1 0 rfl rfl hi dX8_step_19 ?_
        refine lv_bipush (v := (32 : Int32)) hx hb dX8_step_20 (by decide) ?_
        refine lv_icmp_ne (tgt := 38) hx hb dX8_step_22 (by decide) (fun hc => ?_) (fun hc => ?_)
        · have hf := q_f hc hf
          exact J38 t_place t_next t_token t_value H locs ls hP hD hS (lv_sub hl [0] rfl) hf
        · have hf := q_t hc hf
          refine lv_aload_n hx hb dX8_step_25 rfl (lv_at hl 0 rfl) ?_
          refine lv_dup hx hb dX8_step_26 rfl ?_
          refine va_get (D := D) (ci := 8) (v := .int t_next) (C := RX8) (T := TX8) (N := 6) hx hb hts iX8 hown hk.1 hP 0 rfl rfl 3 (by decide) (hts _ tw_34) (fun _ h9 => h9) rfl dX8_step_27 ?_
          refine lv_iconst (v := (1 : Int32)) hx hb dX8_step_30 (by decide) ?_
          refine lv_iadd hx hb dX8_step_31 ?_
          refine va_put (D := D) (ci := 8) (v := .int (t_next + (1 : Int32))) (ty := .int) (C := RX8) (T := TX8) (N := 6) hx hb hts iX8 tyX8 tyX8_ok nmX8 hown hk.1 hP hD hS 0 rfl rfl 3 (by decide) (hts _ tw_34) (fun _ h9 => h9) rfl (by decide +kernel) rfl rfl (Nat.le_of_ble_eq_true rfl) dX8_step_32 (fun H locs hP hD hS => ?_)
          have hP : va_P D vwCl [(aT, .inr (8, [.ref aT_letters, .int t_length, .int t_place, .int (t_next + (1 : Int32)), .int t_token, .int t_value])), (aT_letters, .inl (cy.1, 150, .inl t_letters))] H := hP
          have hD : va_D A [(aT, .inr (8, [.ref aT_letters, .int t_length, .int t_place, .int (t_next + (1 : Int32)), .int t_token, .int t_value])), (aT_letters, .inl (cy.1, 150, .inl t_letters))] := hD
          refine lv_goto (tgt := 0) hx hb dX8_step_35 (by decide) ?_
          exact ih0 t_place (t_next + (1 : Int32)) t_token t_value H locs ls hP hD hS (lv_sub hl [0] rfl) hf
  exact J0 FU t_place t_next t_token t_value H0 [] ls hP hD hS (lv_sub hl [0] rfl) hf
def f_X8_stepToNumber (t_length : Int32) (t_place : Int32) (t_next : Int32) (t_token : Int32) (t_value : Int32) (t_letters : Nat → Int32) (x1 : Int32) (x2 : Int32) : Option (Int32 × Int32 × Int32 × Int32 × Int32) := (f_X8_step t_length t_place t_next t_token t_value t_letters).bind (fun z1 => if (z1.2.2.1) = (256 : Int32) then (if (z1.2.2.2) < x1 then (some ((0 : Int32), (z1.1), (z1.2.1), (z1.2.2.1), (z1.2.2.2))) else (if x2 < (z1.2.2.2) then (some ((0 : Int32), (z1.1), (z1.2.1), (z1.2.2.1), (z1.2.2.2))) else (some ((1 : Int32), (z1.1), (z1.2.1), (z1.2.2.1), (z1.2.2.2))))) else (some ((0 : Int32), (z1.1), (z1.2.1), (z1.2.2.1), (z1.2.2.2))))
theorem ok_X8_stepToNumber : OkV yX8_stepToNumber cX8_stepToNumber 3 (some Jvm.ClassFile.FieldType.boolean) 2 := ⟨⟨tw_374, tw_2, by decide +kernel, by decide +kernel, by decide +kernel⟩, tw_373, tp_4⟩
set_option maxHeartbeats 4000000 in
set_option maxRecDepth 100000 in
theorem c_X8_stepToNumber (l : Launch) (D : va_G) (cy : ClassId × ClassId × ClassId) (H0 : Heap) (aT aT_letters : Nat) (t_length : Int32) (t_place : Int32) (t_next : Int32) (t_token : Int32) (t_value : Int32) (t_letters : Nat → Int32) (x1 : Int32) (x2 : Int32) (r : Int32 × Int32 × Int32 × Int32 × Int32) (hP : va_P D vwCl [(aT, .inr (8, [.ref aT_letters, .int t_length, .int t_place, .int t_next, .int t_token, .int t_value])), (aT_letters, .inl (cy.1, 150, .inl t_letters))] H0) (hD0 : va_D (fun _ => True) [(aT, .inr (8, [.ref aT_letters, .int t_length, .int t_place, .int t_next, .int t_token, .int t_value])), (aT_letters, .inl (cy.1, 150, .inl t_letters))]) (hf : f_X8_stepToNumber t_length t_place t_next t_token t_value t_letters x1 x2 = some r) : Wr l yX8_stepToNumber cX8_stepToNumber 3 (some Jvm.ClassFile.FieldType.boolean) ({ frames := 3, cells := 0, slots := 0, locals := 63 } : Room) ([.ref aT, .int x1, .int x2] : List Value) (some (.int (r.1))) D cy H0 [(aT, .inr (8, [.ref aT_letters, .int t_length, .int t_place, .int t_next, .int t_token, .int t_value])), (aT_letters, .inl (cy.1, 150, .inl t_letters))] [(aT, .inr (8, [.ref aT_letters, .int t_length, .int (r.2.1), .int (r.2.2.1), .int (r.2.2.2.1), .int (r.2.2.2.2)])), (aT_letters, .inl (cy.1, 150, .inl t_letters))] := by
  refine wr_of (by decide +kernel) (Nat.le_of_ble_eq_true rfl) hD0 ?_
  intro p e s m below meth c ls A S hr hlocks hk hl hD hS hA
  obtain ⟨hx, hb, hml, hown, hts⟩ := id S
  have hl : lv_has ls 3 [(0, .ref aT), (1, .int x1), (2, .int x2)] := hl
  rw [f_X8_stepToNumber] at hf
  refine lv_aload_n hx hb dX8_stepToNumber_0 rfl (lv_at hl 0 rfl) ?_
  obtain ⟨z1, hz1, hf⟩ := q_bind hf
  refine q_wrV (As := []) (rest := []) (st2 := []) (ws' := [(aT, .inr (8, [.ref aT_letters, .int t_length, .int (z1.1), .int (z1.2.1), .int (z1.2.2.1), .int (z1.2.2.2)])), (aT_letters, .inl (cy.1, 150, .inl t_letters))]) S hk (c_X8_step l D cy H0 aT aT_letters t_length t_place t_next t_token t_value t_letters z1 (hP.sub [0, 1] rfl) (qD_sub hD [0, 1] (by decide) rfl) hz1) ok_X8_step tw_351 ⟨rfl, rfl, Nat.le_of_ble_eq_true rfl, Nat.le_of_ble_eq_true rfl⟩ (va_recv hk.1 hP (ci := 8) (q0 := 0) rfl rfl) rfl hl.1 rfl (Nat.le_of_ble_eq_true rfl) dX8_stepToNumber_1 ⟨Nat.zero_le _, Nat.zero_le _⟩ rfl hP hD hS hA [0, 1] rfl rfl rfl rfl (fun H locs hP hD hS => ?_)
  refine lv_aload_n hx hb dX8_stepToNumber_4 rfl (lv_at hl 0 rfl) ?_
  refine va_get (D := D) (ci := 8) (v := .int (z1.2.2.1)) (C := RX8) (T := TX8) (N := 6) hx hb hts iX8 hown hk.1 hP 0 rfl rfl 4 (by decide) (hts _ tw_35) (fun _ h9 => h9) rfl dX8_stepToNumber_5 ?_
  refine lv_sipush (v := (256 : Int32)) hx hb dX8_stepToNumber_8 (by decide) ?_
  refine lv_icmp_ne (tgt := 34) hx hb dX8_stepToNumber_11 (by decide) (fun hc => ?_) (fun hc => ?_)
  · have hf := q_f hc hf
    refine lv_iconst (v := (0 : Int32)) hx hb dX8_stepToNumber_34 (by decide) ?_
    have hf := Option.some.inj hf
    subst hf
    exact q_rzW (Or.inl rfl) hP hS hx hb hr hlocks dX8_stepToNumber_35
  · have hf := q_t hc hf
    refine lv_aload_n hx hb dX8_stepToNumber_14 rfl (lv_at hl 0 rfl) ?_
    refine va_get (D := D) (ci := 8) (v := .int (z1.2.2.2)) (C := RX8) (T := TX8) (N := 6) hx hb hts iX8 hown hk.1 hP 0 rfl rfl 5 (by decide) (hts _ tw_36) (fun _ h9 => h9) rfl dX8_stepToNumber_15 ?_
    refine lv_iload_n hx hb dX8_stepToNumber_18 rfl (lv_at hl 1 rfl) ?_
    refine lv_icmp_lt (tgt := 34) hx hb dX8_stepToNumber_19 (by decide) (fun hc => ?_) (fun hc => ?_)
    · have hf := q_t hc hf
      refine lv_iconst (v := (0 : Int32)) hx hb dX8_stepToNumber_34 (by decide) ?_
      have hf := Option.some.inj hf
      subst hf
      exact q_rzW (Or.inl rfl) hP hS hx hb hr hlocks dX8_stepToNumber_35
    · have hf := q_f hc hf
      refine lv_aload_n hx hb dX8_stepToNumber_22 rfl (lv_at hl 0 rfl) ?_
      refine va_get (D := D) (ci := 8) (v := .int (z1.2.2.2)) (C := RX8) (T := TX8) (N := 6) hx hb hts iX8 hown hk.1 hP 0 rfl rfl 5 (by decide) (hts _ tw_36) (fun _ h9 => h9) rfl dX8_stepToNumber_23 ?_
      refine lv_iload_n hx hb dX8_stepToNumber_26 rfl (lv_at hl 2 rfl) ?_
      refine lv_icmp_gt (tgt := 34) hx hb dX8_stepToNumber_27 (by decide) (fun hc => ?_) (fun hc => ?_)
      · have hf := q_t hc hf
        refine lv_iconst (v := (0 : Int32)) hx hb dX8_stepToNumber_34 (by decide) ?_
        have hf := Option.some.inj hf
        subst hf
        exact q_rzW (Or.inl rfl) hP hS hx hb hr hlocks dX8_stepToNumber_35
      · have hf := q_f hc hf
        refine lv_iconst (v := (1 : Int32)) hx hb dX8_stepToNumber_30 (by decide) ?_
        refine lv_goto (tgt := 35) hx hb dX8_stepToNumber_31 (by decide) ?_
        have hf := Option.some.inj hf
        subst hf
        exact q_rzW (Or.inr rfl) hP hS hx hb hr hlocks dX8_stepToNumber_35
def f_X8_readCell (t_length : Int32) (t_place : Int32) (t_next : Int32) (t_token : Int32) (t_value : Int32) (t_letters : Nat → Int32) (q_width : Int32) (q_height : Int32) (q_shut : Int64) (q_dots : Int64) (x2 : Int32) : Option (Int32 × Int32 × Int32 × Int32 × Int32 × Int64 × Int64) := (f_X8_stepToNumber t_length t_place t_next t_token t_value t_letters (0 : Int32) (q_width - (1 : Int32))).bind (fun z8 => if (z8.1) = 0 then (some ((0 : Int32), (z8.2.1), (z8.2.2.1), (z8.2.2.2.1), (z8.2.2.2.2), q_shut, q_dots)) else ((f_X8_stepToNumber t_length (z8.2.1) (z8.2.2.1) (z8.2.2.2.1) (z8.2.2.2.2) t_letters (0 : Int32) (q_height - (1 : Int32))).bind (fun z29 => if (z29.1) = 0 then (some ((0 : Int32), (z29.2.1), (z29.2.2.1), (z29.2.2.2.1), (z29.2.2.2.2), q_shut, q_dots)) else ((f_X5_numberOf q_width q_height (z8.2.2.2.2) (z29.2.2.2.2)).bind (fun z43 => if z43 = (-1 : Int32) then (some ((0 : Int32), (z29.2.1), (z29.2.2.1), (z29.2.2.2.1), (z29.2.2.2.2), q_shut, q_dots)) else ((f_X9_has (q_shut ||| q_dots) z43).bind (fun z65 => if z65 = 0 then (if x2 = 0 then (some ((1 : Int32), (z29.2.1), (z29.2.2.1), (z29.2.2.2.1), (z29.2.2.2.2), q_shut, (q_dots ||| (lsh (1 : Int64) z43)))) else (some ((1 : Int32), (z29.2.1), (z29.2.2.1), (z29.2.2.2.1), (z29.2.2.2.2), (q_shut ||| (lsh (1 : Int64) z43)), q_dots))) else (some ((0 : Int32), (z29.2.1), (z29.2.2.1), (z29.2.2.2.1), (z29.2.2.2.2), q_shut, q_dots)))))))))
theorem ok_X8_readCell : OkV yX8_readCell cX8_readCell 5 (some Jvm.ClassFile.FieldType.boolean) 2 := ⟨⟨tw_386, tw_2, by decide +kernel, by decide +kernel, by decide +kernel⟩, tw_385, tp_7⟩
set_option maxHeartbeats 4000000 in
set_option maxRecDepth 100000 in
theorem c_X8_readCell (l : Launch) (D : va_G) (cy : ClassId × ClassId × ClassId) (H0 : Heap) (aT aT_letters aQ : Nat) (t_length : Int32) (t_place : Int32) (t_next : Int32) (t_token : Int32) (t_value : Int32) (t_letters : Nat → Int32) (q_width : Int32) (q_height : Int32) (q_kernel : Int32) (q_power : Int32) (q_fall : Int32) (q_ax : Int32) (q_ay : Int32) (q_shut : Int64) (q_dots : Int64) (x2 : Int32) (r : Int32 × Int32 × Int32 × Int32 × Int32 × Int64 × Int64) (hP : va_P D vwCl [(aT, .inr (8, [.ref aT_letters, .int t_length, .int t_place, .int t_next, .int t_token, .int t_value])), (aT_letters, .inl (cy.1, 150, .inl t_letters)), (aQ, .inr (5, [.int q_width, .int q_height, .int q_kernel, .int q_power, .int q_fall, .int q_ax, .int q_ay, .long q_shut, .long q_dots]))] H0) (hD0 : va_D (fun _ => True) [(aT, .inr (8, [.ref aT_letters, .int t_length, .int t_place, .int t_next, .int t_token, .int t_value])), (aT_letters, .inl (cy.1, 150, .inl t_letters)), (aQ, .inr (5, [.int q_width, .int q_height, .int q_kernel, .int q_power, .int q_fall, .int q_ax, .int q_ay, .long q_shut, .long q_dots]))]) (hf : f_X8_readCell t_length t_place t_next t_token t_value t_letters q_width q_height q_shut q_dots x2 = some r) : Wr l yX8_readCell cX8_readCell 5 (some Jvm.ClassFile.FieldType.boolean) ({ frames := 4, cells := 0, slots := 0, locals := 85 } : Room) ([.ref aT, .ref aQ, .int x2] : List Value) (some (.int (r.1))) D cy H0 [(aT, .inr (8, [.ref aT_letters, .int t_length, .int t_place, .int t_next, .int t_token, .int t_value])), (aT_letters, .inl (cy.1, 150, .inl t_letters)), (aQ, .inr (5, [.int q_width, .int q_height, .int q_kernel, .int q_power, .int q_fall, .int q_ax, .int q_ay, .long q_shut, .long q_dots]))] [(aT, .inr (8, [.ref aT_letters, .int t_length, .int (r.2.1), .int (r.2.2.1), .int (r.2.2.2.1), .int (r.2.2.2.2.1)])), (aT_letters, .inl (cy.1, 150, .inl t_letters)), (aQ, .inr (5, [.int q_width, .int q_height, .int q_kernel, .int q_power, .int q_fall, .int q_ax, .int q_ay, .long (r.2.2.2.2.2.1), .long (r.2.2.2.2.2.2)]))] := by
  refine wr_of (by decide +kernel) (Nat.le_of_ble_eq_true rfl) hD0 ?_
  intro p e s m below meth c ls A S hr hlocks hk hl hD hS hA
  obtain ⟨hx, hb, hml, hown, hts⟩ := id S
  have hl : lv_has ls 5 [(0, .ref aT), (1, .ref aQ), (2, .int x2)] := hl
  rw [f_X8_readCell] at hf
  refine lv_aload_n hx hb dX8_readCell_0 rfl (lv_at hl 0 rfl) ?_
  refine lv_iconst (v := (0 : Int32)) hx hb dX8_readCell_1 (by decide) ?_
  refine lv_aload_n hx hb dX8_readCell_2 rfl (lv_at hl 1 rfl) ?_
  refine va_get (D := D) (ci := 5) (v := .int q_width) (C := RX5) (T := TX5) (N := 9) hx hb hts iX5 hown hk.1 hP 2 rfl rfl 0 (by decide) (hts _ tw_63) (fun _ h9 => h9) rfl dX8_readCell_3 ?_
  refine lv_iconst (v := (1 : Int32)) hx hb dX8_readCell_6 (by decide) ?_
  refine lv_isub hx hb dX8_readCell_7 ?_
  obtain ⟨z8, hz8, hf⟩ := q_bind hf
  refine q_wrV (As := [.int (0 : Int32), .int (q_width - (1 : Int32))]) (rest := []) (st2 := [.int (z8.1)]) (ws' := [(aT, .inr (8, [.ref aT_letters, .int t_length, .int (z8.2.1), .int (z8.2.2.1), .int (z8.2.2.2.1), .int (z8.2.2.2.2)])), (aT_letters, .inl (cy.1, 150, .inl t_letters)), (aQ, .inr (5, [.int q_width, .int q_height, .int q_kernel, .int q_power, .int q_fall, .int q_ax, .int q_ay, .long q_shut, .long q_dots]))]) S hk (c_X8_stepToNumber l D cy H0 aT aT_letters t_length t_place t_next t_token t_value t_letters (0 : Int32) (q_width - (1 : Int32)) z8 (hP.sub [0, 1] rfl) (qD_sub hD [0, 1] (by decide) rfl) hz8) ok_X8_stepToNumber tw_371 ⟨rfl, rfl, Nat.le_of_ble_eq_true rfl, Nat.le_of_ble_eq_true rfl⟩ (va_recv hk.1 hP (ci := 8) (q0 := 0) rfl rfl) rfl hl.1 rfl (Nat.le_of_ble_eq_true rfl) dX8_readCell_8 ⟨Nat.zero_le _, Nat.zero_le _⟩ rfl hP hD hS hA [0, 1] rfl rfl rfl rfl (fun H locs hP hD hS => ?_)
  refine lv_if_ne (tgt := 16) hx hb dX8_readCell_11 (by decide) (fun hc => ?_) (fun hc => ?_)
  · have hf := q_f hc hf
    refine lv_aload_n hx hb dX8_readCell_16 rfl (lv_at hl 0 rfl) ?_
    refine va_get (D := D) (ci := 8) (v := .int (z8.2.2.2.2)) (C := RX8) (T := TX8) (N := 6) hx hb hts iX8 hown hk.1 hP 0 rfl rfl 5 (by decide) (hts _ tw_36) (fun _ h9 => h9) rfl dX8_readCell_17 ?_
    refine lv_istore_n (lv' := [(3, .int (z8.2.2.2.2)), (0, .ref aT), (1, .ref aQ), (2, .int x2)]) hx hb dX8_readCell_20 rfl hl (by decide) rfl (fun ls hl => ?_)
    refine lv_aload_n hx hb dX8_readCell_21 rfl (lv_at hl 1 rfl) ?_
    refine lv_iconst (v := (0 : Int32)) hx hb dX8_readCell_22 (by decide) ?_
    refine lv_aload_n hx hb dX8_readCell_23 rfl (lv_at hl 2 rfl) ?_
    refine va_get (D := D) (ci := 5) (v := .int q_height) (C := RX5) (T := TX5) (N := 9) hx hb hts iX5 hown hk.1 hP 2 rfl rfl 1 (by decide) (hts _ tw_67) (fun _ h9 => h9) rfl dX8_readCell_24 ?_
    refine lv_iconst (v := (1 : Int32)) hx hb dX8_readCell_27 (by decide) ?_
    refine lv_isub hx hb dX8_readCell_28 ?_
    obtain ⟨z29, hz29, hf⟩ := q_bind hf
    refine q_wrV (As := [.int (0 : Int32), .int (q_height - (1 : Int32))]) (rest := []) (st2 := [.int (z29.1)]) (ws' := [(aT, .inr (8, [.ref aT_letters, .int t_length, .int (z29.2.1), .int (z29.2.2.1), .int (z29.2.2.2.1), .int (z29.2.2.2.2)])), (aT_letters, .inl (cy.1, 150, .inl t_letters)), (aQ, .inr (5, [.int q_width, .int q_height, .int q_kernel, .int q_power, .int q_fall, .int q_ax, .int q_ay, .long q_shut, .long q_dots]))]) S hk (c_X8_stepToNumber l D cy H aT aT_letters t_length (z8.2.1) (z8.2.2.1) (z8.2.2.2.1) (z8.2.2.2.2) t_letters (0 : Int32) (q_height - (1 : Int32)) z29 (hP.sub [0, 1] rfl) (qD_sub hD [0, 1] (by decide) rfl) hz29) ok_X8_stepToNumber tw_371 ⟨rfl, rfl, Nat.le_of_ble_eq_true rfl, Nat.le_of_ble_eq_true rfl⟩ (va_recv hk.1 hP (ci := 8) (q0 := 0) rfl rfl) rfl hl.1 rfl (Nat.le_of_ble_eq_true rfl) dX8_readCell_29 ⟨Nat.zero_le _, Nat.zero_le _⟩ rfl hP hD hS hA [0, 1] rfl rfl rfl rfl (fun H locs hP hD hS => ?_)
    refine lv_if_ne (tgt := 37) hx hb dX8_readCell_32 (by decide) (fun hc => ?_) (fun hc => ?_)
    · have hf := q_f hc hf
      refine lv_aload_n hx hb dX8_readCell_37 rfl (lv_at hl 2 rfl) ?_
      refine lv_iload_n hx hb dX8_readCell_38 rfl (lv_at hl 0 rfl) ?_
      refine lv_aload_n hx hb dX8_readCell_39 rfl (lv_at hl 1 rfl) ?_
      refine va_get (D := D) (ci := 8) (v := .int (z29.2.2.2.2)) (C := RX8) (T := TX8) (N := 6) hx hb hts iX8 hown hk.1 hP 0 rfl rfl 5 (by decide) (hts _ tw_36) (fun _ h9 => h9) rfl dX8_readCell_40 ?_
      obtain ⟨z43, hz43, hf⟩ := q_bind hf
      refine q_rdV (As := [.int (z8.2.2.2.2), .int (z29.2.2.2.2)]) (rest := []) (st2 := [.int z43]) S hk (c_X5_numberOf l D cy H aQ q_width q_height q_kernel q_power q_fall q_ax q_ay q_shut q_dots (z8.2.2.2.2) (z29.2.2.2.2) z43 (hP.sub [2] rfl) hz43) ok_X5_numberOf tw_387 ⟨rfl, rfl, Nat.le_of_ble_eq_true rfl, Nat.le_of_ble_eq_true rfl⟩ (va_recv hk.1 hP (ci := 5) (q0 := 2) rfl rfl) rfl hl.1 rfl (Nat.le_of_ble_eq_true rfl) dX8_readCell_43 ⟨Nat.zero_le _, Nat.zero_le _⟩ rfl ?_
      refine lv_istore (lv' := [(4, .int z43), (3, .int (z8.2.2.2.2)), (0, .ref aT), (1, .ref aQ), (2, .int x2)]) hx hb dX8_readCell_46 hl (by decide) rfl (fun ls hl => ?_)
      refine lv_iload hx hb dX8_readCell_48 (lv_at hl 0 rfl) ?_
      refine lv_iconst (v := (-1 : Int32)) hx hb dX8_readCell_50 (by decide) ?_
      refine lv_icmp_eq (tgt := 71) hx hb dX8_readCell_51 (by decide) (fun hc => ?_) (fun hc => ?_)
      · have hf := q_t hc hf
        refine lv_iconst (v := (0 : Int32)) hx hb dX8_readCell_71 (by decide) ?_
        have hf := Option.some.inj hf
        subst hf
        exact q_rzW (Or.inl rfl) hP hS hx hb hr hlocks dX8_readCell_72
      · have hf := q_f hc hf
        refine lv_aload_n hx hb dX8_readCell_54 rfl (lv_at hl 3 rfl) ?_
        refine va_get (D := D) (ci := 5) (v := .long q_shut) (C := RX5) (T := TX5) (N := 9) hx hb hts iX5 hown hk.1 hP 2 rfl rfl 7 (by decide) (hts _ tw_87) (fun _ h9 => h9) rfl dX8_readCell_55 ?_
        refine lv_aload_n hx hb dX8_readCell_58 rfl (lv_at hl 3 rfl) ?_
        refine va_get (D := D) (ci := 5) (v := .long q_dots) (C := RX5) (T := TX5) (N := 9) hx hb hts iX5 hown hk.1 hP 2 rfl rfl 8 (by decide) (hts _ tw_90) (fun _ h9 => h9) rfl dX8_readCell_59 ?_
        refine lv_lor hx hb dX8_readCell_62 ?_
        refine lv_iload hx hb dX8_readCell_63 (lv_at hl 0 rfl) ?_
        obtain ⟨z65, hz65, hf⟩ := q_bind hf
        refine q_rdN (As := [.long (q_shut ||| q_dots), .int z43]) (rest := []) (st2 := [.int z65]) S hk (c_X9_has l D cy H (q_shut ||| q_dots) z43 z65 hz65) ok_X9_has hk.2.2.2.2.2.2 ⟨rfl, rfl, Nat.le_of_ble_eq_true rfl, Nat.le_of_ble_eq_true rfl⟩ rfl hl.1 rfl (Nat.le_of_ble_eq_true rfl) dX8_readCell_65 ⟨Nat.zero_le _, Nat.zero_le _⟩ rfl ?_
        refine lv_if_eq (tgt := 73) hx hb dX8_readCell_68 (by decide) (fun hc => ?_) (fun hc => ?_)
        · have hf := q_t hc hf
          refine lv_iload_n hx hb dX8_readCell_73 rfl (lv_at hl 4 rfl) ?_
          refine lv_if_eq (tgt := 93) hx hb dX8_readCell_74 (by decide) (fun hc => ?_) (fun hc => ?_)
          · have hf := q_t hc hf
            refine lv_aload_n hx hb dX8_readCell_93 rfl (lv_at hl 3 rfl) ?_
            refine lv_dup hx hb dX8_readCell_94 rfl ?_
            refine va_get (D := D) (ci := 5) (v := .long q_dots) (C := RX5) (T := TX5) (N := 9) hx hb hts iX5 hown hk.1 hP 2 rfl rfl 8 (by decide) (hts _ tw_90) (fun _ h9 => h9) rfl dX8_readCell_95 ?_
            refine lv_lconst (v := (1 : Int64)) hx hb dX8_readCell_98 (by decide) ?_
            refine lv_iload hx hb dX8_readCell_99 (lv_at hl 0 rfl) ?_
            refine lv_lshl (v := (lsh (1 : Int64) z43)) hx hb dX8_readCell_101 rfl ?_
            refine lv_lor hx hb dX8_readCell_102 ?_
            refine va_put (D := D) (ci := 5) (v := .long (q_dots ||| (lsh (1 : Int64) z43))) (ty := .long) (C := RX5) (T := TX5) (N := 9) hx hb hts iX5 tyX5 tyX5_ok nmX5 hown hk.1 hP hD hS 2 rfl rfl 8 (by decide) (hts _ tw_90) (fun _ h9 => h9) rfl (by decide +kernel) rfl rfl (Nat.le_of_ble_eq_true rfl) dX8_readCell_103 (fun H locs hP hD hS => ?_)
            have hP : va_P D vwCl [(aT, .inr (8, [.ref aT_letters, .int t_length, .int (z29.2.1), .int (z29.2.2.1), .int (z29.2.2.2.1), .int (z29.2.2.2.2)])), (aT_letters, .inl (cy.1, 150, .inl t_letters)), (aQ, .inr (5, [.int q_width, .int q_height, .int q_kernel, .int q_power, .int q_fall, .int q_ax, .int q_ay, .long q_shut, .long (q_dots ||| (lsh (1 : Int64) z43))]))] H := hP
            have hD : va_D A [(aT, .inr (8, [.ref aT_letters, .int t_length, .int (z29.2.1), .int (z29.2.2.1), .int (z29.2.2.2.1), .int (z29.2.2.2.2)])), (aT_letters, .inl (cy.1, 150, .inl t_letters)), (aQ, .inr (5, [.int q_width, .int q_height, .int q_kernel, .int q_power, .int q_fall, .int q_ax, .int q_ay, .long q_shut, .long (q_dots ||| (lsh (1 : Int64) z43))]))] := hD
            refine lv_iconst (v := (1 : Int32)) hx hb dX8_readCell_106 (by decide) ?_
            have hf := Option.some.inj hf
            subst hf
            exact q_rzW (Or.inr rfl) hP hS hx hb hr hlocks dX8_readCell_107
          · have hf := q_f hc hf
            refine lv_aload_n hx hb dX8_readCell_77 rfl (lv_at hl 3 rfl) ?_
            refine lv_dup hx hb dX8_readCell_78 rfl ?_
            refine va_get (D := D) (ci := 5) (v := .long q_shut) (C := RX5) (T := TX5) (N := 9) hx hb hts iX5 hown hk.1 hP 2 rfl rfl 7 (by decide) (hts _ tw_87) (fun _ h9 => h9) rfl dX8_readCell_79 ?_
            refine lv_lconst (v := (1 : Int64)) hx hb dX8_readCell_82 (by decide) ?_
            refine lv_iload hx hb dX8_readCell_83 (lv_at hl 0 rfl) ?_
            refine lv_lshl (v := (lsh (1 : Int64) z43)) hx hb dX8_readCell_85 rfl ?_
            refine lv_lor hx hb dX8_readCell_86 ?_
            refine va_put (D := D) (ci := 5) (v := .long (q_shut ||| (lsh (1 : Int64) z43))) (ty := .long) (C := RX5) (T := TX5) (N := 9) hx hb hts iX5 tyX5 tyX5_ok nmX5 hown hk.1 hP hD hS 2 rfl rfl 7 (by decide) (hts _ tw_87) (fun _ h9 => h9) rfl (by decide +kernel) rfl rfl (Nat.le_of_ble_eq_true rfl) dX8_readCell_87 (fun H locs hP hD hS => ?_)
            have hP : va_P D vwCl [(aT, .inr (8, [.ref aT_letters, .int t_length, .int (z29.2.1), .int (z29.2.2.1), .int (z29.2.2.2.1), .int (z29.2.2.2.2)])), (aT_letters, .inl (cy.1, 150, .inl t_letters)), (aQ, .inr (5, [.int q_width, .int q_height, .int q_kernel, .int q_power, .int q_fall, .int q_ax, .int q_ay, .long (q_shut ||| (lsh (1 : Int64) z43)), .long q_dots]))] H := hP
            have hD : va_D A [(aT, .inr (8, [.ref aT_letters, .int t_length, .int (z29.2.1), .int (z29.2.2.1), .int (z29.2.2.2.1), .int (z29.2.2.2.2)])), (aT_letters, .inl (cy.1, 150, .inl t_letters)), (aQ, .inr (5, [.int q_width, .int q_height, .int q_kernel, .int q_power, .int q_fall, .int q_ax, .int q_ay, .long (q_shut ||| (lsh (1 : Int64) z43)), .long q_dots]))] := hD
            refine lv_goto (tgt := 106) hx hb dX8_readCell_90 (by decide) ?_
            refine lv_iconst (v := (1 : Int32)) hx hb dX8_readCell_106 (by decide) ?_
            have hf := Option.some.inj hf
            subst hf
            exact q_rzW (Or.inr rfl) hP hS hx hb hr hlocks dX8_readCell_107
        · have hf := q_f hc hf
          refine lv_iconst (v := (0 : Int32)) hx hb dX8_readCell_71 (by decide) ?_
          have hf := Option.some.inj hf
          subst hf
          exact q_rzW (Or.inl rfl) hP hS hx hb hr hlocks dX8_readCell_72
    · have hf := q_t hc hf
      refine lv_iconst (v := (0 : Int32)) hx hb dX8_readCell_35 (by decide) ?_
      have hf := Option.some.inj hf
      subst hf
      exact q_rzW (Or.inl rfl) hP hS hx hb hr hlocks dX8_readCell_36
  · have hf := q_t hc hf
    refine lv_iconst (v := (0 : Int32)) hx hb dX8_readCell_14 (by decide) ?_
    have hf := Option.some.inj hf
    subst hf
    exact q_rzW (Or.inl rfl) hP hS hx hb hr hlocks dX8_readCell_15
def f_X8_readStretch (t_length : Int32) (t_place : Int32) (t_next : Int32) (t_token : Int32) (t_value : Int32) (t_letters : Nat → Int32) (q_ax : Int32) (q_ay : Int32) : Option (Int32 × Int32 × Int32 × Int32 × Int32 × Int32 × Int32) := (f_X8_stepToNumber t_length t_place t_next t_token t_value t_letters (1 : Int32) (4 : Int32)).bind (fun z3 => if (z3.1) = 0 then (some ((0 : Int32), (z3.2.1), (z3.2.2.1), (z3.2.2.2.1), (z3.2.2.2.2), q_ax, q_ay)) else ((f_X8_stepToNumber t_length (z3.2.1) (z3.2.2.1) (z3.2.2.2.1) (z3.2.2.2.2) t_letters (1 : Int32) (4 : Int32)).bind (fun z22 => if (z22.1) = 0 then (some ((0 : Int32), (z22.2.1), (z22.2.2.1), (z22.2.2.2.1), (z22.2.2.2.2), (z3.2.2.2.2), q_ay)) else (some ((1 : Int32), (z22.2.1), (z22.2.2.1), (z22.2.2.2.1), (z22.2.2.2.2), (z3.2.2.2.2), (z22.2.2.2.2))))))
theorem ok_X8_readStretch : OkV yX8_readStretch cX8_readStretch 2 (some Jvm.ClassFile.FieldType.boolean) 1 := ⟨⟨tw_382, tw_2, by decide +kernel, by decide +kernel, by decide +kernel⟩, tw_381, tp_6⟩
set_option maxHeartbeats 4000000 in
set_option maxRecDepth 100000 in
theorem c_X8_readStretch (l : Launch) (D : va_G) (cy : ClassId × ClassId × ClassId) (H0 : Heap) (aT aT_letters aQ : Nat) (t_length : Int32) (t_place : Int32) (t_next : Int32) (t_token : Int32) (t_value : Int32) (t_letters : Nat → Int32) (q_width : Int32) (q_height : Int32) (q_kernel : Int32) (q_power : Int32) (q_fall : Int32) (q_ax : Int32) (q_ay : Int32) (q_shut : Int64) (q_dots : Int64) (r : Int32 × Int32 × Int32 × Int32 × Int32 × Int32 × Int32) (hP : va_P D vwCl [(aT, .inr (8, [.ref aT_letters, .int t_length, .int t_place, .int t_next, .int t_token, .int t_value])), (aT_letters, .inl (cy.1, 150, .inl t_letters)), (aQ, .inr (5, [.int q_width, .int q_height, .int q_kernel, .int q_power, .int q_fall, .int q_ax, .int q_ay, .long q_shut, .long q_dots]))] H0) (hD0 : va_D (fun _ => True) [(aT, .inr (8, [.ref aT_letters, .int t_length, .int t_place, .int t_next, .int t_token, .int t_value])), (aT_letters, .inl (cy.1, 150, .inl t_letters)), (aQ, .inr (5, [.int q_width, .int q_height, .int q_kernel, .int q_power, .int q_fall, .int q_ax, .int q_ay, .long q_shut, .long q_dots]))]) (hf : f_X8_readStretch t_length t_place t_next t_token t_value t_letters q_ax q_ay = some r) : Wr l yX8_readStretch cX8_readStretch 2 (some Jvm.ClassFile.FieldType.boolean) ({ frames := 4, cells := 0, slots := 0, locals := 85 } : Room) ([.ref aT, .ref aQ] : List Value) (some (.int (r.1))) D cy H0 [(aT, .inr (8, [.ref aT_letters, .int t_length, .int t_place, .int t_next, .int t_token, .int t_value])), (aT_letters, .inl (cy.1, 150, .inl t_letters)), (aQ, .inr (5, [.int q_width, .int q_height, .int q_kernel, .int q_power, .int q_fall, .int q_ax, .int q_ay, .long q_shut, .long q_dots]))] [(aT, .inr (8, [.ref aT_letters, .int t_length, .int (r.2.1), .int (r.2.2.1), .int (r.2.2.2.1), .int (r.2.2.2.2.1)])), (aT_letters, .inl (cy.1, 150, .inl t_letters)), (aQ, .inr (5, [.int q_width, .int q_height, .int q_kernel, .int q_power, .int q_fall, .int (r.2.2.2.2.2.1), .int (r.2.2.2.2.2.2), .long q_shut, .long q_dots]))] := by
  refine wr_of (by decide +kernel) (Nat.le_of_ble_eq_true rfl) hD0 ?_
  intro p e s m below meth c ls A S hr hlocks hk hl hD hS hA
  obtain ⟨hx, hb, hml, hown, hts⟩ := id S
  have hl : lv_has ls 2 [(0, .ref aT), (1, .ref aQ)] := hl
  rw [f_X8_readStretch] at hf
  refine lv_aload_n hx hb dX8_readStretch_0 rfl (lv_at hl 0 rfl) ?_
  refine lv_iconst (v := (1 : Int32)) hx hb dX8_readStretch_1 (by decide) ?_
  refine lv_iconst (v := (4 : Int32)) hx hb dX8_readStretch_2 (by decide) ?_
  obtain ⟨z3, hz3, hf⟩ := q_bind hf
  refine q_wrV (As := [.int (1 : Int32), .int (4 : Int32)]) (rest := []) (st2 := [.int (z3.1)]) (ws' := [(aT, .inr (8, [.ref aT_letters, .int t_length, .int (z3.2.1), .int (z3.2.2.1), .int (z3.2.2.2.1), .int (z3.2.2.2.2)])), (aT_letters, .inl (cy.1, 150, .inl t_letters)), (aQ, .inr (5, [.int q_width, .int q_height, .int q_kernel, .int q_power, .int q_fall, .int q_ax, .int q_ay, .long q_shut, .long q_dots]))]) S hk (c_X8_stepToNumber l D cy H0 aT aT_letters t_length t_place t_next t_token t_value t_letters (1 : Int32) (4 : Int32) z3 (hP.sub [0, 1] rfl) (qD_sub hD [0, 1] (by decide) rfl) hz3) ok_X8_stepToNumber tw_371 ⟨rfl, rfl, Nat.le_of_ble_eq_true rfl, Nat.le_of_ble_eq_true rfl⟩ (va_recv hk.1 hP (ci := 8) (q0 := 0) rfl rfl) rfl hl.1 rfl (Nat.le_of_ble_eq_true rfl) dX8_readStretch_3 ⟨Nat.zero_le _, Nat.zero_le _⟩ rfl hP hD hS hA [0, 1] rfl rfl rfl rfl (fun H locs hP hD hS => ?_)
  refine lv_if_ne (tgt := 11) hx hb dX8_readStretch_6 (by decide) (fun hc => ?_) (fun hc => ?_)
  · have hf := q_f hc hf
    refine lv_aload_n hx hb dX8_readStretch_11 rfl (lv_at hl 1 rfl) ?_
    refine lv_aload_n hx hb dX8_readStretch_12 rfl (lv_at hl 0 rfl) ?_
    refine va_get (D := D) (ci := 8) (v := .int (z3.2.2.2.2)) (C := RX8) (T := TX8) (N := 6) hx hb hts iX8 hown hk.1 hP 0 rfl rfl 5 (by decide) (hts _ tw_36) (fun _ h9 => h9) rfl dX8_readStretch_13 ?_
    refine va_put (D := D) (ci := 5) (v := .int (z3.2.2.2.2)) (ty := .int) (C := RX5) (T := TX5) (N := 9) hx hb hts iX5 tyX5 tyX5_ok nmX5 hown hk.1 hP hD hS 2 rfl rfl 5 (by decide) (hts _ tw_79) (fun _ h9 => h9) rfl (by decide +kernel) rfl rfl (Nat.le_of_ble_eq_true rfl) dX8_readStretch_16 (fun H locs hP hD hS => ?_)
    have hP : va_P D vwCl [(aT, .inr (8, [.ref aT_letters, .int t_length, .int (z3.2.1), .int (z3.2.2.1), .int (z3.2.2.2.1), .int (z3.2.2.2.2)])), (aT_letters, .inl (cy.1, 150, .inl t_letters)), (aQ, .inr (5, [.int q_width, .int q_height, .int q_kernel, .int q_power, .int q_fall, .int (z3.2.2.2.2), .int q_ay, .long q_shut, .long q_dots]))] H := hP
    have hD : va_D A [(aT, .inr (8, [.ref aT_letters, .int t_length, .int (z3.2.1), .int (z3.2.2.1), .int (z3.2.2.2.1), .int (z3.2.2.2.2)])), (aT_letters, .inl (cy.1, 150, .inl t_letters)), (aQ, .inr (5, [.int q_width, .int q_height, .int q_kernel, .int q_power, .int q_fall, .int (z3.2.2.2.2), .int q_ay, .long q_shut, .long q_dots]))] := hD
    refine lv_aload_n hx hb dX8_readStretch_19 rfl (lv_at hl 0 rfl) ?_
    refine lv_iconst (v := (1 : Int32)) hx hb dX8_readStretch_20 (by decide) ?_
    refine lv_iconst (v := (4 : Int32)) hx hb dX8_readStretch_21 (by decide) ?_
    obtain ⟨z22, hz22, hf⟩ := q_bind hf
    refine q_wrV (As := [.int (1 : Int32), .int (4 : Int32)]) (rest := []) (st2 := [.int (z22.1)]) (ws' := [(aT, .inr (8, [.ref aT_letters, .int t_length, .int (z22.2.1), .int (z22.2.2.1), .int (z22.2.2.2.1), .int (z22.2.2.2.2)])), (aT_letters, .inl (cy.1, 150, .inl t_letters)), (aQ, .inr (5, [.int q_width, .int q_height, .int q_kernel, .int q_power, .int q_fall, .int (z3.2.2.2.2), .int q_ay, .long q_shut, .long q_dots]))]) S hk (c_X8_stepToNumber l D cy H aT aT_letters t_length (z3.2.1) (z3.2.2.1) (z3.2.2.2.1) (z3.2.2.2.2) t_letters (1 : Int32) (4 : Int32) z22 (hP.sub [0, 1] rfl) (qD_sub hD [0, 1] (by decide) rfl) hz22) ok_X8_stepToNumber tw_371 ⟨rfl, rfl, Nat.le_of_ble_eq_true rfl, Nat.le_of_ble_eq_true rfl⟩ (va_recv hk.1 hP (ci := 8) (q0 := 0) rfl rfl) rfl hl.1 rfl (Nat.le_of_ble_eq_true rfl) dX8_readStretch_22 ⟨Nat.zero_le _, Nat.zero_le _⟩ rfl hP hD hS hA [0, 1] rfl rfl rfl rfl (fun H locs hP hD hS => ?_)
    refine lv_if_ne (tgt := 30) hx hb dX8_readStretch_25 (by decide) (fun hc => ?_) (fun hc => ?_)
    · have hf := q_f hc hf
      refine lv_aload_n hx hb dX8_readStretch_30 rfl (lv_at hl 1 rfl) ?_
      refine lv_aload_n hx hb dX8_readStretch_31 rfl (lv_at hl 0 rfl) ?_
      refine va_get (D := D) (ci := 8) (v := .int (z22.2.2.2.2)) (C := RX8) (T := TX8) (N := 6) hx hb hts iX8 hown hk.1 hP 0 rfl rfl 5 (by decide) (hts _ tw_36) (fun _ h9 => h9) rfl dX8_readStretch_32 ?_
      refine va_put (D := D) (ci := 5) (v := .int (z22.2.2.2.2)) (ty := .int) (C := RX5) (T := TX5) (N := 9) hx hb hts iX5 tyX5 tyX5_ok nmX5 hown hk.1 hP hD hS 2 rfl rfl 6 (by decide) (hts _ tw_82) (fun _ h9 => h9) rfl (by decide +kernel) rfl rfl (Nat.le_of_ble_eq_true rfl) dX8_readStretch_35 (fun H locs hP hD hS => ?_)
      have hP : va_P D vwCl [(aT, .inr (8, [.ref aT_letters, .int t_length, .int (z22.2.1), .int (z22.2.2.1), .int (z22.2.2.2.1), .int (z22.2.2.2.2)])), (aT_letters, .inl (cy.1, 150, .inl t_letters)), (aQ, .inr (5, [.int q_width, .int q_height, .int q_kernel, .int q_power, .int q_fall, .int (z3.2.2.2.2), .int (z22.2.2.2.2), .long q_shut, .long q_dots]))] H := hP
      have hD : va_D A [(aT, .inr (8, [.ref aT_letters, .int t_length, .int (z22.2.1), .int (z22.2.2.1), .int (z22.2.2.2.1), .int (z22.2.2.2.2)])), (aT_letters, .inl (cy.1, 150, .inl t_letters)), (aQ, .inr (5, [.int q_width, .int q_height, .int q_kernel, .int q_power, .int q_fall, .int (z3.2.2.2.2), .int (z22.2.2.2.2), .long q_shut, .long q_dots]))] := hD
      refine lv_iconst (v := (1 : Int32)) hx hb dX8_readStretch_38 (by decide) ?_
      have hf := Option.some.inj hf
      subst hf
      exact q_rzW (Or.inr rfl) hP hS hx hb hr hlocks dX8_readStretch_39
    · have hf := q_t hc hf
      refine lv_iconst (v := (0 : Int32)) hx hb dX8_readStretch_28 (by decide) ?_
      have hf := Option.some.inj hf
      subst hf
      exact q_rzW (Or.inl rfl) hP hS hx hb hr hlocks dX8_readStretch_29
  · have hf := q_t hc hf
    refine lv_iconst (v := (0 : Int32)) hx hb dX8_readStretch_9 (by decide) ?_
    have hf := Option.some.inj hf
    subst hf
    exact q_rzW (Or.inl rfl) hP hS hx hb hr hlocks dX8_readStretch_10
def f_X8_readKernel (t_length : Int32) (t_place : Int32) (t_next : Int32) (t_token : Int32) (t_value : Int32) (t_letters : Nat → Int32) (q_kernel : Int32) (q_power : Int32) (q_fall : Int32) : Option (Int32 × Int32 × Int32 × Int32 × Int32 × Int32 × Int32 × Int32) := (f_X8_stepToNumber t_length t_place t_next t_token t_value t_letters (0 : Int32) (2 : Int32)).bind (fun z3 => if (z3.1) = 0 then (some ((0 : Int32), (z3.2.1), (z3.2.2.1), (z3.2.2.2.1), (z3.2.2.2.2), q_kernel, q_power, q_fall)) else ((f_X8_stepToNumber t_length (z3.2.1) (z3.2.2.1) (z3.2.2.2.1) (z3.2.2.2.2) t_letters (1 : Int32) (999 : Int32)).bind (fun z24 => if (z24.1) = 0 then (some ((0 : Int32), (z24.2.1), (z24.2.2.1), (z24.2.2.2.1), (z24.2.2.2.2), (z3.2.2.2.2), q_power, q_fall)) else ((f_X8_stepToNumber t_length (z24.2.1) (z24.2.2.1) (z24.2.2.2.1) (z24.2.2.2.2) t_letters (1 : Int32) (99 : Int32)).bind (fun z44 => if (z44.1) = 0 then (some ((0 : Int32), (z44.2.1), (z44.2.2.1), (z44.2.2.2.1), (z44.2.2.2.2), (z3.2.2.2.2), (z24.2.2.2.2), q_fall)) else (some ((1 : Int32), (z44.2.1), (z44.2.2.1), (z44.2.2.2.1), (z44.2.2.2.2), (z3.2.2.2.2), (z24.2.2.2.2), (z44.2.2.2.2))))))))
theorem ok_X8_readKernel : OkV yX8_readKernel cX8_readKernel 2 (some Jvm.ClassFile.FieldType.boolean) 1 := ⟨⟨tw_378, tw_2, by decide +kernel, by decide +kernel, by decide +kernel⟩, tw_377, tp_5⟩
set_option maxHeartbeats 4000000 in
set_option maxRecDepth 100000 in
theorem c_X8_readKernel (l : Launch) (D : va_G) (cy : ClassId × ClassId × ClassId) (H0 : Heap) (aT aT_letters aQ : Nat) (t_length : Int32) (t_place : Int32) (t_next : Int32) (t_token : Int32) (t_value : Int32) (t_letters : Nat → Int32) (q_width : Int32) (q_height : Int32) (q_kernel : Int32) (q_power : Int32) (q_fall : Int32) (q_ax : Int32) (q_ay : Int32) (q_shut : Int64) (q_dots : Int64) (r : Int32 × Int32 × Int32 × Int32 × Int32 × Int32 × Int32 × Int32) (hP : va_P D vwCl [(aT, .inr (8, [.ref aT_letters, .int t_length, .int t_place, .int t_next, .int t_token, .int t_value])), (aT_letters, .inl (cy.1, 150, .inl t_letters)), (aQ, .inr (5, [.int q_width, .int q_height, .int q_kernel, .int q_power, .int q_fall, .int q_ax, .int q_ay, .long q_shut, .long q_dots]))] H0) (hD0 : va_D (fun _ => True) [(aT, .inr (8, [.ref aT_letters, .int t_length, .int t_place, .int t_next, .int t_token, .int t_value])), (aT_letters, .inl (cy.1, 150, .inl t_letters)), (aQ, .inr (5, [.int q_width, .int q_height, .int q_kernel, .int q_power, .int q_fall, .int q_ax, .int q_ay, .long q_shut, .long q_dots]))]) (hf : f_X8_readKernel t_length t_place t_next t_token t_value t_letters q_kernel q_power q_fall = some r) : Wr l yX8_readKernel cX8_readKernel 2 (some Jvm.ClassFile.FieldType.boolean) ({ frames := 4, cells := 0, slots := 0, locals := 85 } : Room) ([.ref aT, .ref aQ] : List Value) (some (.int (r.1))) D cy H0 [(aT, .inr (8, [.ref aT_letters, .int t_length, .int t_place, .int t_next, .int t_token, .int t_value])), (aT_letters, .inl (cy.1, 150, .inl t_letters)), (aQ, .inr (5, [.int q_width, .int q_height, .int q_kernel, .int q_power, .int q_fall, .int q_ax, .int q_ay, .long q_shut, .long q_dots]))] [(aT, .inr (8, [.ref aT_letters, .int t_length, .int (r.2.1), .int (r.2.2.1), .int (r.2.2.2.1), .int (r.2.2.2.2.1)])), (aT_letters, .inl (cy.1, 150, .inl t_letters)), (aQ, .inr (5, [.int q_width, .int q_height, .int (r.2.2.2.2.2.1), .int (r.2.2.2.2.2.2.1), .int (r.2.2.2.2.2.2.2), .int q_ax, .int q_ay, .long q_shut, .long q_dots]))] := by
  refine wr_of (by decide +kernel) (Nat.le_of_ble_eq_true rfl) hD0 ?_
  intro p e s m below meth c ls A S hr hlocks hk hl hD hS hA
  obtain ⟨hx, hb, hml, hown, hts⟩ := id S
  have hl : lv_has ls 2 [(0, .ref aT), (1, .ref aQ)] := hl
  rw [f_X8_readKernel] at hf
  refine lv_aload_n hx hb dX8_readKernel_0 rfl (lv_at hl 0 rfl) ?_
  refine lv_iconst (v := (0 : Int32)) hx hb dX8_readKernel_1 (by decide) ?_
  refine lv_iconst (v := (2 : Int32)) hx hb dX8_readKernel_2 (by decide) ?_
  obtain ⟨z3, hz3, hf⟩ := q_bind hf
  refine q_wrV (As := [.int (0 : Int32), .int (2 : Int32)]) (rest := []) (st2 := [.int (z3.1)]) (ws' := [(aT, .inr (8, [.ref aT_letters, .int t_length, .int (z3.2.1), .int (z3.2.2.1), .int (z3.2.2.2.1), .int (z3.2.2.2.2)])), (aT_letters, .inl (cy.1, 150, .inl t_letters)), (aQ, .inr (5, [.int q_width, .int q_height, .int q_kernel, .int q_power, .int q_fall, .int q_ax, .int q_ay, .long q_shut, .long q_dots]))]) S hk (c_X8_stepToNumber l D cy H0 aT aT_letters t_length t_place t_next t_token t_value t_letters (0 : Int32) (2 : Int32) z3 (hP.sub [0, 1] rfl) (qD_sub hD [0, 1] (by decide) rfl) hz3) ok_X8_stepToNumber tw_371 ⟨rfl, rfl, Nat.le_of_ble_eq_true rfl, Nat.le_of_ble_eq_true rfl⟩ (va_recv hk.1 hP (ci := 8) (q0 := 0) rfl rfl) rfl hl.1 rfl (Nat.le_of_ble_eq_true rfl) dX8_readKernel_3 ⟨Nat.zero_le _, Nat.zero_le _⟩ rfl hP hD hS hA [0, 1] rfl rfl rfl rfl (fun H locs hP hD hS => ?_)
  refine lv_if_ne (tgt := 11) hx hb dX8_readKernel_6 (by decide) (fun hc => ?_) (fun hc => ?_)
  · have hf := q_f hc hf
    refine lv_aload_n hx hb dX8_readKernel_11 rfl (lv_at hl 1 rfl) ?_
    refine lv_aload_n hx hb dX8_readKernel_12 rfl (lv_at hl 0 rfl) ?_
    refine va_get (D := D) (ci := 8) (v := .int (z3.2.2.2.2)) (C := RX8) (T := TX8) (N := 6) hx hb hts iX8 hown hk.1 hP 0 rfl rfl 5 (by decide) (hts _ tw_36) (fun _ h9 => h9) rfl dX8_readKernel_13 ?_
    refine va_put (D := D) (ci := 5) (v := .int (z3.2.2.2.2)) (ty := .int) (C := RX5) (T := TX5) (N := 9) hx hb hts iX5 tyX5 tyX5_ok nmX5 hown hk.1 hP hD hS 2 rfl rfl 2 (by decide) (hts _ tw_70) (fun _ h9 => h9) rfl (by decide +kernel) rfl rfl (Nat.le_of_ble_eq_true rfl) dX8_readKernel_16 (fun H locs hP hD hS => ?_)
    have hP : va_P D vwCl [(aT, .inr (8, [.ref aT_letters, .int t_length, .int (z3.2.1), .int (z3.2.2.1), .int (z3.2.2.2.1), .int (z3.2.2.2.2)])), (aT_letters, .inl (cy.1, 150, .inl t_letters)), (aQ, .inr (5, [.int q_width, .int q_height, .int (z3.2.2.2.2), .int q_power, .int q_fall, .int q_ax, .int q_ay, .long q_shut, .long q_dots]))] H := hP
    have hD : va_D A [(aT, .inr (8, [.ref aT_letters, .int t_length, .int (z3.2.1), .int (z3.2.2.1), .int (z3.2.2.2.1), .int (z3.2.2.2.2)])), (aT_letters, .inl (cy.1, 150, .inl t_letters)), (aQ, .inr (5, [.int q_width, .int q_height, .int (z3.2.2.2.2), .int q_power, .int q_fall, .int q_ax, .int q_ay, .long q_shut, .long q_dots]))] := hD
    refine lv_aload_n hx hb dX8_readKernel_19 rfl (lv_at hl 0 rfl) ?_
    refine lv_iconst (v := (1 : Int32)) hx hb dX8_readKernel_20 (by decide) ?_
    refine lv_sipush (v := (999 : Int32)) hx hb dX8_readKernel_21 (by decide) ?_
    obtain ⟨z24, hz24, hf⟩ := q_bind hf
    refine q_wrV (As := [.int (1 : Int32), .int (999 : Int32)]) (rest := []) (st2 := [.int (z24.1)]) (ws' := [(aT, .inr (8, [.ref aT_letters, .int t_length, .int (z24.2.1), .int (z24.2.2.1), .int (z24.2.2.2.1), .int (z24.2.2.2.2)])), (aT_letters, .inl (cy.1, 150, .inl t_letters)), (aQ, .inr (5, [.int q_width, .int q_height, .int (z3.2.2.2.2), .int q_power, .int q_fall, .int q_ax, .int q_ay, .long q_shut, .long q_dots]))]) S hk (c_X8_stepToNumber l D cy H aT aT_letters t_length (z3.2.1) (z3.2.2.1) (z3.2.2.2.1) (z3.2.2.2.2) t_letters (1 : Int32) (999 : Int32) z24 (hP.sub [0, 1] rfl) (qD_sub hD [0, 1] (by decide) rfl) hz24) ok_X8_stepToNumber tw_371 ⟨rfl, rfl, Nat.le_of_ble_eq_true rfl, Nat.le_of_ble_eq_true rfl⟩ (va_recv hk.1 hP (ci := 8) (q0 := 0) rfl rfl) rfl hl.1 rfl (Nat.le_of_ble_eq_true rfl) dX8_readKernel_24 ⟨Nat.zero_le _, Nat.zero_le _⟩ rfl hP hD hS hA [0, 1] rfl rfl rfl rfl (fun H locs hP hD hS => ?_)
    refine lv_if_ne (tgt := 32) hx hb dX8_readKernel_27 (by decide) (fun hc => ?_) (fun hc => ?_)
    · have hf := q_f hc hf
      refine lv_aload_n hx hb dX8_readKernel_32 rfl (lv_at hl 1 rfl) ?_
      refine lv_aload_n hx hb dX8_readKernel_33 rfl (lv_at hl 0 rfl) ?_
      refine va_get (D := D) (ci := 8) (v := .int (z24.2.2.2.2)) (C := RX8) (T := TX8) (N := 6) hx hb hts iX8 hown hk.1 hP 0 rfl rfl 5 (by decide) (hts _ tw_36) (fun _ h9 => h9) rfl dX8_readKernel_34 ?_
      refine va_put (D := D) (ci := 5) (v := .int (z24.2.2.2.2)) (ty := .int) (C := RX5) (T := TX5) (N := 9) hx hb hts iX5 tyX5 tyX5_ok nmX5 hown hk.1 hP hD hS 2 rfl rfl 3 (by decide) (hts _ tw_73) (fun _ h9 => h9) rfl (by decide +kernel) rfl rfl (Nat.le_of_ble_eq_true rfl) dX8_readKernel_37 (fun H locs hP hD hS => ?_)
      have hP : va_P D vwCl [(aT, .inr (8, [.ref aT_letters, .int t_length, .int (z24.2.1), .int (z24.2.2.1), .int (z24.2.2.2.1), .int (z24.2.2.2.2)])), (aT_letters, .inl (cy.1, 150, .inl t_letters)), (aQ, .inr (5, [.int q_width, .int q_height, .int (z3.2.2.2.2), .int (z24.2.2.2.2), .int q_fall, .int q_ax, .int q_ay, .long q_shut, .long q_dots]))] H := hP
      have hD : va_D A [(aT, .inr (8, [.ref aT_letters, .int t_length, .int (z24.2.1), .int (z24.2.2.1), .int (z24.2.2.2.1), .int (z24.2.2.2.2)])), (aT_letters, .inl (cy.1, 150, .inl t_letters)), (aQ, .inr (5, [.int q_width, .int q_height, .int (z3.2.2.2.2), .int (z24.2.2.2.2), .int q_fall, .int q_ax, .int q_ay, .long q_shut, .long q_dots]))] := hD
      refine lv_aload_n hx hb dX8_readKernel_40 rfl (lv_at hl 0 rfl) ?_
      refine lv_iconst (v := (1 : Int32)) hx hb dX8_readKernel_41 (by decide) ?_
      refine lv_bipush (v := (99 : Int32)) hx hb dX8_readKernel_42 (by decide) ?_
      obtain ⟨z44, hz44, hf⟩ := q_bind hf
      refine q_wrV (As := [.int (1 : Int32), .int (99 : Int32)]) (rest := []) (st2 := [.int (z44.1)]) (ws' := [(aT, .inr (8, [.ref aT_letters, .int t_length, .int (z44.2.1), .int (z44.2.2.1), .int (z44.2.2.2.1), .int (z44.2.2.2.2)])), (aT_letters, .inl (cy.1, 150, .inl t_letters)), (aQ, .inr (5, [.int q_width, .int q_height, .int (z3.2.2.2.2), .int (z24.2.2.2.2), .int q_fall, .int q_ax, .int q_ay, .long q_shut, .long q_dots]))]) S hk (c_X8_stepToNumber l D cy H aT aT_letters t_length (z24.2.1) (z24.2.2.1) (z24.2.2.2.1) (z24.2.2.2.2) t_letters (1 : Int32) (99 : Int32) z44 (hP.sub [0, 1] rfl) (qD_sub hD [0, 1] (by decide) rfl) hz44) ok_X8_stepToNumber tw_371 ⟨rfl, rfl, Nat.le_of_ble_eq_true rfl, Nat.le_of_ble_eq_true rfl⟩ (va_recv hk.1 hP (ci := 8) (q0 := 0) rfl rfl) rfl hl.1 rfl (Nat.le_of_ble_eq_true rfl) dX8_readKernel_44 ⟨Nat.zero_le _, Nat.zero_le _⟩ rfl hP hD hS hA [0, 1] rfl rfl rfl rfl (fun H locs hP hD hS => ?_)
      refine lv_if_ne (tgt := 52) hx hb dX8_readKernel_47 (by decide) (fun hc => ?_) (fun hc => ?_)
      · have hf := q_f hc hf
        refine lv_aload_n hx hb dX8_readKernel_52 rfl (lv_at hl 1 rfl) ?_
        refine lv_aload_n hx hb dX8_readKernel_53 rfl (lv_at hl 0 rfl) ?_
        refine va_get (D := D) (ci := 8) (v := .int (z44.2.2.2.2)) (C := RX8) (T := TX8) (N := 6) hx hb hts iX8 hown hk.1 hP 0 rfl rfl 5 (by decide) (hts _ tw_36) (fun _ h9 => h9) rfl dX8_readKernel_54 ?_
        refine va_put (D := D) (ci := 5) (v := .int (z44.2.2.2.2)) (ty := .int) (C := RX5) (T := TX5) (N := 9) hx hb hts iX5 tyX5 tyX5_ok nmX5 hown hk.1 hP hD hS 2 rfl rfl 4 (by decide) (hts _ tw_76) (fun _ h9 => h9) rfl (by decide +kernel) rfl rfl (Nat.le_of_ble_eq_true rfl) dX8_readKernel_57 (fun H locs hP hD hS => ?_)
        have hP : va_P D vwCl [(aT, .inr (8, [.ref aT_letters, .int t_length, .int (z44.2.1), .int (z44.2.2.1), .int (z44.2.2.2.1), .int (z44.2.2.2.2)])), (aT_letters, .inl (cy.1, 150, .inl t_letters)), (aQ, .inr (5, [.int q_width, .int q_height, .int (z3.2.2.2.2), .int (z24.2.2.2.2), .int (z44.2.2.2.2), .int q_ax, .int q_ay, .long q_shut, .long q_dots]))] H := hP
        have hD : va_D A [(aT, .inr (8, [.ref aT_letters, .int t_length, .int (z44.2.1), .int (z44.2.2.1), .int (z44.2.2.2.1), .int (z44.2.2.2.2)])), (aT_letters, .inl (cy.1, 150, .inl t_letters)), (aQ, .inr (5, [.int q_width, .int q_height, .int (z3.2.2.2.2), .int (z24.2.2.2.2), .int (z44.2.2.2.2), .int q_ax, .int q_ay, .long q_shut, .long q_dots]))] := hD
        refine lv_iconst (v := (1 : Int32)) hx hb dX8_readKernel_60 (by decide) ?_
        have hf := Option.some.inj hf
        subst hf
        exact q_rzW (Or.inr rfl) hP hS hx hb hr hlocks dX8_readKernel_61
      · have hf := q_t hc hf
        refine lv_iconst (v := (0 : Int32)) hx hb dX8_readKernel_50 (by decide) ?_
        have hf := Option.some.inj hf
        subst hf
        exact q_rzW (Or.inl rfl) hP hS hx hb hr hlocks dX8_readKernel_51
    · have hf := q_t hc hf
      refine lv_iconst (v := (0 : Int32)) hx hb dX8_readKernel_30 (by decide) ?_
      have hf := Option.some.inj hf
      subst hf
      exact q_rzW (Or.inl rfl) hP hS hx hb hr hlocks dX8_readKernel_31
  · have hf := q_t hc hf
    refine lv_iconst (v := (0 : Int32)) hx hb dX8_readKernel_9 (by decide) ?_
    have hf := Option.some.inj hf
    subst hf
    exact q_rzW (Or.inl rfl) hP hS hx hb hr hlocks dX8_readKernel_10
def f_X8_readMeasures (t_length : Int32) (t_place : Int32) (t_next : Int32) (t_token : Int32) (t_value : Int32) (t_letters : Nat → Int32) (q_width : Int32) (q_height : Int32) : Option (Int32 × Int32 × Int32 × Int32 × Int32 × Int32 × Int32) := (f_X8_stepToNumber t_length t_place t_next t_token t_value t_letters (1 : Int32) (8 : Int32)).bind (fun z4 => if (z4.1) = 0 then (some ((0 : Int32), (z4.2.1), (z4.2.2.1), (z4.2.2.2.1), (z4.2.2.2.2), q_width, q_height)) else ((f_X8_stepToNumber t_length (z4.2.1) (z4.2.2.1) (z4.2.2.2.1) (z4.2.2.2.2) t_letters (1 : Int32) (8 : Int32)).bind (fun z24 => if (z24.1) = 0 then (some ((0 : Int32), (z24.2.1), (z24.2.2.1), (z24.2.2.2.1), (z24.2.2.2.2), (z4.2.2.2.2), q_height)) else (some ((1 : Int32), (z24.2.1), (z24.2.2.1), (z24.2.2.2.1), (z24.2.2.2.2), (z4.2.2.2.2), (z24.2.2.2.2))))))
theorem ok_X8_readMeasures : OkV yX8_readMeasures cX8_readMeasures 2 (some Jvm.ClassFile.FieldType.boolean) 1 := ⟨⟨tw_370, tw_2, by decide +kernel, by decide +kernel, by decide +kernel⟩, tw_369, tp_3⟩
set_option maxHeartbeats 4000000 in
set_option maxRecDepth 100000 in
theorem c_X8_readMeasures (l : Launch) (D : va_G) (cy : ClassId × ClassId × ClassId) (H0 : Heap) (aT aT_letters aQ : Nat) (t_length : Int32) (t_place : Int32) (t_next : Int32) (t_token : Int32) (t_value : Int32) (t_letters : Nat → Int32) (q_width : Int32) (q_height : Int32) (q_kernel : Int32) (q_power : Int32) (q_fall : Int32) (q_ax : Int32) (q_ay : Int32) (q_shut : Int64) (q_dots : Int64) (r : Int32 × Int32 × Int32 × Int32 × Int32 × Int32 × Int32) (hP : va_P D vwCl [(aT, .inr (8, [.ref aT_letters, .int t_length, .int t_place, .int t_next, .int t_token, .int t_value])), (aT_letters, .inl (cy.1, 150, .inl t_letters)), (aQ, .inr (5, [.int q_width, .int q_height, .int q_kernel, .int q_power, .int q_fall, .int q_ax, .int q_ay, .long q_shut, .long q_dots]))] H0) (hD0 : va_D (fun _ => True) [(aT, .inr (8, [.ref aT_letters, .int t_length, .int t_place, .int t_next, .int t_token, .int t_value])), (aT_letters, .inl (cy.1, 150, .inl t_letters)), (aQ, .inr (5, [.int q_width, .int q_height, .int q_kernel, .int q_power, .int q_fall, .int q_ax, .int q_ay, .long q_shut, .long q_dots]))]) (hf : f_X8_readMeasures t_length t_place t_next t_token t_value t_letters q_width q_height = some r) : Wr l yX8_readMeasures cX8_readMeasures 2 (some Jvm.ClassFile.FieldType.boolean) ({ frames := 4, cells := 0, slots := 0, locals := 85 } : Room) ([.ref aT, .ref aQ] : List Value) (some (.int (r.1))) D cy H0 [(aT, .inr (8, [.ref aT_letters, .int t_length, .int t_place, .int t_next, .int t_token, .int t_value])), (aT_letters, .inl (cy.1, 150, .inl t_letters)), (aQ, .inr (5, [.int q_width, .int q_height, .int q_kernel, .int q_power, .int q_fall, .int q_ax, .int q_ay, .long q_shut, .long q_dots]))] [(aT, .inr (8, [.ref aT_letters, .int t_length, .int (r.2.1), .int (r.2.2.1), .int (r.2.2.2.1), .int (r.2.2.2.2.1)])), (aT_letters, .inl (cy.1, 150, .inl t_letters)), (aQ, .inr (5, [.int (r.2.2.2.2.2.1), .int (r.2.2.2.2.2.2), .int q_kernel, .int q_power, .int q_fall, .int q_ax, .int q_ay, .long q_shut, .long q_dots]))] := by
  refine wr_of (by decide +kernel) (Nat.le_of_ble_eq_true rfl) hD0 ?_
  intro p e s m below meth c ls A S hr hlocks hk hl hD hS hA
  obtain ⟨hx, hb, hml, hown, hts⟩ := id S
  have hl : lv_has ls 2 [(0, .ref aT), (1, .ref aQ)] := hl
  rw [f_X8_readMeasures] at hf
  refine lv_aload_n hx hb dX8_readMeasures_0 rfl (lv_at hl 0 rfl) ?_
  refine lv_iconst (v := (1 : Int32)) hx hb dX8_readMeasures_1 (by decide) ?_
  refine lv_bipush (v := (8 : Int32)) hx hb dX8_readMeasures_2 (by decide) ?_
  obtain ⟨z4, hz4, hf⟩ := q_bind hf
  refine q_wrV (As := [.int (1 : Int32), .int (8 : Int32)]) (rest := []) (st2 := [.int (z4.1)]) (ws' := [(aT, .inr (8, [.ref aT_letters, .int t_length, .int (z4.2.1), .int (z4.2.2.1), .int (z4.2.2.2.1), .int (z4.2.2.2.2)])), (aT_letters, .inl (cy.1, 150, .inl t_letters)), (aQ, .inr (5, [.int q_width, .int q_height, .int q_kernel, .int q_power, .int q_fall, .int q_ax, .int q_ay, .long q_shut, .long q_dots]))]) S hk (c_X8_stepToNumber l D cy H0 aT aT_letters t_length t_place t_next t_token t_value t_letters (1 : Int32) (8 : Int32) z4 (hP.sub [0, 1] rfl) (qD_sub hD [0, 1] (by decide) rfl) hz4) ok_X8_stepToNumber tw_371 ⟨rfl, rfl, Nat.le_of_ble_eq_true rfl, Nat.le_of_ble_eq_true rfl⟩ (va_recv hk.1 hP (ci := 8) (q0 := 0) rfl rfl) rfl hl.1 rfl (Nat.le_of_ble_eq_true rfl) dX8_readMeasures_4 ⟨Nat.zero_le _, Nat.zero_le _⟩ rfl hP hD hS hA [0, 1] rfl rfl rfl rfl (fun H locs hP hD hS => ?_)
  refine lv_if_ne (tgt := 12) hx hb dX8_readMeasures_7 (by decide) (fun hc => ?_) (fun hc => ?_)
  · have hf := q_f hc hf
    refine lv_aload_n hx hb dX8_readMeasures_12 rfl (lv_at hl 1 rfl) ?_
    refine lv_aload_n hx hb dX8_readMeasures_13 rfl (lv_at hl 0 rfl) ?_
    refine va_get (D := D) (ci := 8) (v := .int (z4.2.2.2.2)) (C := RX8) (T := TX8) (N := 6) hx hb hts iX8 hown hk.1 hP 0 rfl rfl 5 (by decide) (hts _ tw_36) (fun _ h9 => h9) rfl dX8_readMeasures_14 ?_
    refine va_put (D := D) (ci := 5) (v := .int (z4.2.2.2.2)) (ty := .int) (C := RX5) (T := TX5) (N := 9) hx hb hts iX5 tyX5 tyX5_ok nmX5 hown hk.1 hP hD hS 2 rfl rfl 0 (by decide) (hts _ tw_63) (fun _ h9 => h9) rfl (by decide +kernel) rfl rfl (Nat.le_of_ble_eq_true rfl) dX8_readMeasures_17 (fun H locs hP hD hS => ?_)
    have hP : va_P D vwCl [(aT, .inr (8, [.ref aT_letters, .int t_length, .int (z4.2.1), .int (z4.2.2.1), .int (z4.2.2.2.1), .int (z4.2.2.2.2)])), (aT_letters, .inl (cy.1, 150, .inl t_letters)), (aQ, .inr (5, [.int (z4.2.2.2.2), .int q_height, .int q_kernel, .int q_power, .int q_fall, .int q_ax, .int q_ay, .long q_shut, .long q_dots]))] H := hP
    have hD : va_D A [(aT, .inr (8, [.ref aT_letters, .int t_length, .int (z4.2.1), .int (z4.2.2.1), .int (z4.2.2.2.1), .int (z4.2.2.2.2)])), (aT_letters, .inl (cy.1, 150, .inl t_letters)), (aQ, .inr (5, [.int (z4.2.2.2.2), .int q_height, .int q_kernel, .int q_power, .int q_fall, .int q_ax, .int q_ay, .long q_shut, .long q_dots]))] := hD
    refine lv_aload_n hx hb dX8_readMeasures_20 rfl (lv_at hl 0 rfl) ?_
    refine lv_iconst (v := (1 : Int32)) hx hb dX8_readMeasures_21 (by decide) ?_
    refine lv_bipush (v := (8 : Int32)) hx hb dX8_readMeasures_22 (by decide) ?_
    obtain ⟨z24, hz24, hf⟩ := q_bind hf
    refine q_wrV (As := [.int (1 : Int32), .int (8 : Int32)]) (rest := []) (st2 := [.int (z24.1)]) (ws' := [(aT, .inr (8, [.ref aT_letters, .int t_length, .int (z24.2.1), .int (z24.2.2.1), .int (z24.2.2.2.1), .int (z24.2.2.2.2)])), (aT_letters, .inl (cy.1, 150, .inl t_letters)), (aQ, .inr (5, [.int (z4.2.2.2.2), .int q_height, .int q_kernel, .int q_power, .int q_fall, .int q_ax, .int q_ay, .long q_shut, .long q_dots]))]) S hk (c_X8_stepToNumber l D cy H aT aT_letters t_length (z4.2.1) (z4.2.2.1) (z4.2.2.2.1) (z4.2.2.2.2) t_letters (1 : Int32) (8 : Int32) z24 (hP.sub [0, 1] rfl) (qD_sub hD [0, 1] (by decide) rfl) hz24) ok_X8_stepToNumber tw_371 ⟨rfl, rfl, Nat.le_of_ble_eq_true rfl, Nat.le_of_ble_eq_true rfl⟩ (va_recv hk.1 hP (ci := 8) (q0 := 0) rfl rfl) rfl hl.1 rfl (Nat.le_of_ble_eq_true rfl) dX8_readMeasures_24 ⟨Nat.zero_le _, Nat.zero_le _⟩ rfl hP hD hS hA [0, 1] rfl rfl rfl rfl (fun H locs hP hD hS => ?_)
    refine lv_if_ne (tgt := 32) hx hb dX8_readMeasures_27 (by decide) (fun hc => ?_) (fun hc => ?_)
    · have hf := q_f hc hf
      refine lv_aload_n hx hb dX8_readMeasures_32 rfl (lv_at hl 1 rfl) ?_
      refine lv_aload_n hx hb dX8_readMeasures_33 rfl (lv_at hl 0 rfl) ?_
      refine va_get (D := D) (ci := 8) (v := .int (z24.2.2.2.2)) (C := RX8) (T := TX8) (N := 6) hx hb hts iX8 hown hk.1 hP 0 rfl rfl 5 (by decide) (hts _ tw_36) (fun _ h9 => h9) rfl dX8_readMeasures_34 ?_
      refine va_put (D := D) (ci := 5) (v := .int (z24.2.2.2.2)) (ty := .int) (C := RX5) (T := TX5) (N := 9) hx hb hts iX5 tyX5 tyX5_ok nmX5 hown hk.1 hP hD hS 2 rfl rfl 1 (by decide) (hts _ tw_67) (fun _ h9 => h9) rfl (by decide +kernel) rfl rfl (Nat.le_of_ble_eq_true rfl) dX8_readMeasures_37 (fun H locs hP hD hS => ?_)
      have hP : va_P D vwCl [(aT, .inr (8, [.ref aT_letters, .int t_length, .int (z24.2.1), .int (z24.2.2.1), .int (z24.2.2.2.1), .int (z24.2.2.2.2)])), (aT_letters, .inl (cy.1, 150, .inl t_letters)), (aQ, .inr (5, [.int (z4.2.2.2.2), .int (z24.2.2.2.2), .int q_kernel, .int q_power, .int q_fall, .int q_ax, .int q_ay, .long q_shut, .long q_dots]))] H := hP
      have hD : va_D A [(aT, .inr (8, [.ref aT_letters, .int t_length, .int (z24.2.1), .int (z24.2.2.1), .int (z24.2.2.2.1), .int (z24.2.2.2.2)])), (aT_letters, .inl (cy.1, 150, .inl t_letters)), (aQ, .inr (5, [.int (z4.2.2.2.2), .int (z24.2.2.2.2), .int q_kernel, .int q_power, .int q_fall, .int q_ax, .int q_ay, .long q_shut, .long q_dots]))] := hD
      refine lv_iconst (v := (1 : Int32)) hx hb dX8_readMeasures_40 (by decide) ?_
      have hf := Option.some.inj hf
      subst hf
      exact q_rzW (Or.inr rfl) hP hS hx hb hr hlocks dX8_readMeasures_41
    · have hf := q_t hc hf
      refine lv_iconst (v := (0 : Int32)) hx hb dX8_readMeasures_30 (by decide) ?_
      have hf := Option.some.inj hf
      subst hf
      exact q_rzW (Or.inl rfl) hP hS hx hb hr hlocks dX8_readMeasures_31
  · have hf := q_t hc hf
    refine lv_iconst (v := (0 : Int32)) hx hb dX8_readMeasures_10 (by decide) ?_
    have hf := Option.some.inj hf
    subst hf
    exact q_rzW (Or.inl rfl) hP hS hx hb hr hlocks dX8_readMeasures_11
def j_X8_readItem_117 (t_length : Int32) (t_letters : Nat → Int32) (x3 : Int32) (t_place : Int32) (t_next : Int32) (t_token : Int32) (t_value : Int32) (q_width : Int32) (q_height : Int32) (q_kernel : Int32) (q_power : Int32) (q_fall : Int32) (q_ax : Int32) (q_ay : Int32) (q_shut : Int64) (q_dots : Int64) : Option (Int32 × Int32 × Int32 × Int32 × Int32 × Int32 × Int32 × Int32 × Int32 × Int32 × Int32 × Int32 × Int64 × Int64) := if x3 = 0 then (some ((0 : Int32), t_place, t_next, t_token, t_value, q_width, q_height, q_kernel, q_power, q_fall, q_ax, q_ay, q_shut, q_dots)) else ((f_X8_step t_length t_place t_next t_token t_value t_letters).bind (fun z124 => if (z124.2.2.1) = (59 : Int32) then (some ((1 : Int32), (z124.1), (z124.2.1), (z124.2.2.1), (z124.2.2.2), q_width, q_height, q_kernel, q_power, q_fall, q_ax, q_ay, q_shut, q_dots)) else (some ((0 : Int32), (z124.1), (z124.2.1), (z124.2.2.1), (z124.2.2.2), q_width, q_height, q_kernel, q_power, q_fall, q_ax, q_ay, q_shut, q_dots))))
def f_X8_readItem (t_length : Int32) (t_place : Int32) (t_next : Int32) (t_token : Int32) (t_value : Int32) (t_letters : Nat → Int32) (q_width : Int32) (q_height : Int32) (q_kernel : Int32) (q_power : Int32) (q_fall : Int32) (q_ax : Int32) (q_ay : Int32) (q_shut : Int64) (q_dots : Int64) (x2 : Int32) : Option (Int32 × Int32 × Int32 × Int32 × Int32 × Int32 × Int32 × Int32 × Int32 × Int32 × Int32 × Int32 × Int64 × Int64) := if t_token = (97 : Int32) then ((f_X8_readStretch t_length t_place t_next t_token t_value t_letters q_ax q_ay).bind (fun z88 => j_X8_readItem_117 t_length t_letters (z88.1) (z88.2.1) (z88.2.2.1) (z88.2.2.2.1) (z88.2.2.2.2.1) q_width q_height q_kernel q_power q_fall (z88.2.2.2.2.2.1) (z88.2.2.2.2.2.2) q_shut q_dots)) else (if t_token = (100 : Int32) then ((f_X8_readCell t_length t_place t_next t_token t_value t_letters q_width q_height q_shut q_dots (0 : Int32)).bind (fun z108 => j_X8_readItem_117 t_length t_letters (z108.1) (z108.2.1) (z108.2.2.1) (z108.2.2.2.1) (z108.2.2.2.2.1) q_width q_height q_kernel q_power q_fall q_ax q_ay (z108.2.2.2.2.2.1) (z108.2.2.2.2.2.2))) else (if t_token = (103 : Int32) then (if x2 = 0 then (j_X8_readItem_117 t_length t_letters (0 : Int32) t_place t_next t_token t_value q_width q_height q_kernel q_power q_fall q_ax q_ay q_shut q_dots) else ((f_X8_readMeasures t_length t_place t_next t_token t_value t_letters q_width q_height).bind (fun z62 => if (z62.1) = 0 then (j_X8_readItem_117 t_length t_letters (0 : Int32) (z62.2.1) (z62.2.2.1) (z62.2.2.2.1) (z62.2.2.2.2.1) (z62.2.2.2.2.2.1) (z62.2.2.2.2.2.2) q_kernel q_power q_fall q_ax q_ay q_shut q_dots) else (j_X8_readItem_117 t_length t_letters (1 : Int32) (z62.2.1) (z62.2.2.1) (z62.2.2.2.1) (z62.2.2.2.2.1) (z62.2.2.2.2.2.1) (z62.2.2.2.2.2.2) q_kernel q_power q_fall q_ax q_ay q_shut q_dots)))) else (if t_token = (107 : Int32) then ((f_X8_readKernel t_length t_place t_next t_token t_value t_letters q_kernel q_power q_fall).bind (fun z79 => j_X8_readItem_117 t_length t_letters (z79.1) (z79.2.1) (z79.2.2.1) (z79.2.2.2.1) (z79.2.2.2.2.1) q_width q_height (z79.2.2.2.2.2.1) (z79.2.2.2.2.2.2.1) (z79.2.2.2.2.2.2.2) q_ax q_ay q_shut q_dots)) else (if t_token = (115 : Int32) then ((f_X8_readCell t_length t_place t_next t_token t_value t_letters q_width q_height q_shut q_dots (1 : Int32)).bind (fun z98 => j_X8_readItem_117 t_length t_letters (z98.1) (z98.2.1) (z98.2.2.1) (z98.2.2.2.1) (z98.2.2.2.2.1) q_width q_height q_kernel q_power q_fall q_ax q_ay (z98.2.2.2.2.2.1) (z98.2.2.2.2.2.2))) else (j_X8_readItem_117 t_length t_letters (0 : Int32) t_place t_next t_token t_value q_width q_height q_kernel q_power q_fall q_ax q_ay q_shut q_dots)))))
theorem ok_X8_readItem : OkV yX8_readItem cX8_readItem 4 (some Jvm.ClassFile.FieldType.boolean) 2 := ⟨⟨tw_366, tw_2, by decide +kernel, by decide +kernel, by decide +kernel⟩, tw_365, tp_2⟩
set_option maxHeartbeats 4000000 in
set_option maxRecDepth 100000 in
theorem c_X8_readItem (l : Launch) (D : va_G) (cy : ClassId × ClassId × ClassId) (H0 : Heap) (aT aT_letters aQ : Nat) (t_length : Int32) (t_place : Int32) (t_next : Int32) (t_token : Int32) (t_value : Int32) (t_letters : Nat → Int32) (q_width : Int32) (q_height : Int32) (q_kernel : Int32) (q_power : Int32) (q_fall : Int32) (q_ax : Int32) (q_ay : Int32) (q_shut : Int64) (q_dots : Int64) (x2 : Int32) (r : Int32 × Int32 × Int32 × Int32 × Int32 × Int32 × Int32 × Int32 × Int32 × Int32 × Int32 × Int32 × Int64 × Int64) (hP : va_P D vwCl [(aT, .inr (8, [.ref aT_letters, .int t_length, .int t_place, .int t_next, .int t_token, .int t_value])), (aT_letters, .inl (cy.1, 150, .inl t_letters)), (aQ, .inr (5, [.int q_width, .int q_height, .int q_kernel, .int q_power, .int q_fall, .int q_ax, .int q_ay, .long q_shut, .long q_dots]))] H0) (hD0 : va_D (fun _ => True) [(aT, .inr (8, [.ref aT_letters, .int t_length, .int t_place, .int t_next, .int t_token, .int t_value])), (aT_letters, .inl (cy.1, 150, .inl t_letters)), (aQ, .inr (5, [.int q_width, .int q_height, .int q_kernel, .int q_power, .int q_fall, .int q_ax, .int q_ay, .long q_shut, .long q_dots]))]) (hf : f_X8_readItem t_length t_place t_next t_token t_value t_letters q_width q_height q_kernel q_power q_fall q_ax q_ay q_shut q_dots x2 = some r) : Wr l yX8_readItem cX8_readItem 4 (some Jvm.ClassFile.FieldType.boolean) ({ frames := 5, cells := 0, slots := 0, locals := 109 } : Room) ([.ref aT, .ref aQ, .int x2] : List Value) (some (.int (r.1))) D cy H0 [(aT, .inr (8, [.ref aT_letters, .int t_length, .int t_place, .int t_next, .int t_token, .int t_value])), (aT_letters, .inl (cy.1, 150, .inl t_letters)), (aQ, .inr (5, [.int q_width, .int q_height, .int q_kernel, .int q_power, .int q_fall, .int q_ax, .int q_ay, .long q_shut, .long q_dots]))] [(aT, .inr (8, [.ref aT_letters, .int t_length, .int (r.2.1), .int (r.2.2.1), .int (r.2.2.2.1), .int (r.2.2.2.2.1)])), (aT_letters, .inl (cy.1, 150, .inl t_letters)), (aQ, .inr (5, [.int (r.2.2.2.2.2.1), .int (r.2.2.2.2.2.2.1), .int (r.2.2.2.2.2.2.2.1), .int (r.2.2.2.2.2.2.2.2.1), .int (r.2.2.2.2.2.2.2.2.2.1), .int (r.2.2.2.2.2.2.2.2.2.2.1), .int (r.2.2.2.2.2.2.2.2.2.2.2.1), .long (r.2.2.2.2.2.2.2.2.2.2.2.2.1), .long (r.2.2.2.2.2.2.2.2.2.2.2.2.2)]))] := by
  refine wr_of (by decide +kernel) (Nat.le_of_ble_eq_true rfl) hD0 ?_
  intro p e s m below meth c ls A S hr hlocks hk hl hD hS hA
  obtain ⟨hx, hb, hml, hown, hts⟩ := id S
  have hl : lv_has ls 4 [(0, .ref aT), (1, .ref aQ), (2, .int x2)] := hl
  rw [f_X8_readItem] at hf
  have J117 : ∀ (x3 : Int32) (t_place : Int32) (t_next : Int32) (t_token : Int32) (t_value : Int32) (q_width : Int32) (q_height : Int32) (q_kernel : Int32) (q_power : Int32) (q_fall : Int32) (q_ax : Int32) (q_ay : Int32) (q_shut : Int64) (q_dots : Int64) (H : Heap) (locs : List Loc) (ls : Array Slot), va_P D vwCl [(aT, .inr (8, [.ref aT_letters, .int t_length, .int t_place, .int t_next, .int t_token, .int t_value])), (aT_letters, .inl (cy.1, 150, .inl t_letters)), (aQ, .inr (5, [.int q_width, .int q_height, .int q_kernel, .int q_power, .int q_fall, .int q_ax, .int q_ay, .long q_shut, .long q_dots]))] H → va_D A [(aT, .inr (8, [.ref aT_letters, .int t_length, .int t_place, .int t_next, .int t_token, .int t_value])), (aT_letters, .inl (cy.1, 150, .inl t_letters)), (aQ, .inr (5, [.int q_width, .int q_height, .int q_kernel, .int q_power, .int q_fall, .int q_ax, .int q_ay, .long q_shut, .long q_dots]))] → va_S A H0 H locs → lv_has ls 4 [(0, .ref aT), (3, .int x3)] → j_X8_readItem_117 t_length t_letters x3 t_place t_next t_token t_value q_width q_height q_kernel q_power q_fall q_ax q_ay q_shut q_dots = some r → W p l e ({ frames := 5, cells := 0, slots := 0, locals := 109 } : Room) s m ([.ref aT, .ref aQ, .int x2] : List Value).toArray below meth c H locs 0 0 (MQ below (QW (some (.int (r.1))) D [(aT, .inr (8, [.ref aT_letters, .int t_length, .int (r.2.1), .int (r.2.2.1), .int (r.2.2.2.1), .int (r.2.2.2.2.1)])), (aT_letters, .inl (cy.1, 150, .inl t_letters)), (aQ, .inr (5, [.int (r.2.2.2.2.2.1), .int (r.2.2.2.2.2.2.1), .int (r.2.2.2.2.2.2.2.1), .int (r.2.2.2.2.2.2.2.2.1), .int (r.2.2.2.2.2.2.2.2.2.1), .int (r.2.2.2.2.2.2.2.2.2.2.1), .int (r.2.2.2.2.2.2.2.2.2.2.2.1), .long (r.2.2.2.2.2.2.2.2.2.2.2.2.1), .long (r.2.2.2.2.2.2.2.2.2.2.2.2.2)]))] H0 A) ([.ref aT, .ref aQ, .int x2] : List Value).toArray s 0 0 A) (F0 m 117 ls []) := by
    intro x3 t_place t_next t_token t_value q_width q_height q_kernel q_power q_fall q_ax q_ay q_shut q_dots H locs ls hP hD hS hl hf
    rw [j_X8_readItem_117] at hf
    refine lv_iload_n hx hb dX8_readItem_117 rfl (lv_at hl 1 rfl) ?_
    refine lv_if_ne (tgt := 123) hx hb dX8_readItem_118 (by decide) (fun hc => ?_) (fun hc => ?_)
    · have hf := q_f hc hf
      refine lv_aload_n hx hb dX8_readItem_123 rfl (lv_at hl 0 rfl) ?_
      obtain ⟨z124, hz124, hf⟩ := q_bind hf
      refine q_wrV (As := []) (rest := []) (st2 := []) (ws' := [(aT, .inr (8, [.ref aT_letters, .int t_length, .int (z124.1), .int (z124.2.1), .int (z124.2.2.1), .int (z124.2.2.2)])), (aT_letters, .inl (cy.1, 150, .inl t_letters)), (aQ, .inr (5, [.int q_width, .int q_height, .int q_kernel, .int q_power, .int q_fall, .int q_ax, .int q_ay, .long q_shut, .long q_dots]))]) S hk (c_X8_step l D cy H aT aT_letters t_length t_place t_next t_token t_value t_letters z124 (hP.sub [0, 1] rfl) (qD_sub hD [0, 1] (by decide) rfl) hz124) ok_X8_step tw_351 ⟨rfl, rfl, Nat.le_of_ble_eq_true rfl, Nat.le_of_ble_eq_true rfl⟩ (va_recv hk.1 hP (ci := 8) (q0 := 0) rfl rfl) rfl hl.1 rfl (Nat.le_of_ble_eq_true rfl) dX8_readItem_124 ⟨Nat.zero_le _, Nat.zero_le _⟩ rfl hP hD hS hA [0, 1] rfl rfl rfl rfl (fun H locs hP hD hS => ?_)
      refine lv_aload_n hx hb dX8_readItem_127 rfl (lv_at hl 0 rfl) ?_
      refine va_get (D := D) (ci := 8) (v := .int (z124.2.2.1)) (C := RX8) (T := TX8) (N := 6) hx hb hts iX8 hown hk.1 hP 0 rfl rfl 4 (by decide) (hts _ tw_35) (fun _ h9 => h9) rfl dX8_readItem_128 ?_
      refine lv_bipush (v := (59 : Int32)) hx hb dX8_readItem_131 (by decide) ?_
      refine lv_icmp_ne (tgt := 140) hx hb dX8_readItem_133 (by decide) (fun hc => ?_) (fun hc => ?_)
      · have hf := q_f hc hf
        refine lv_iconst (v := (0 : Int32)) hx hb dX8_readItem_140 (by decide) ?_
        have hf := Option.some.inj hf
        subst hf
        exact q_rzW (Or.inl rfl) hP hS hx hb hr hlocks dX8_readItem_141
      · have hf := q_t hc hf
        refine lv_iconst (v := (1 : Int32)) hx hb dX8_readItem_136 (by decide) ?_
        refine lv_goto (tgt := 141) hx hb dX8_readItem_137 (by decide) ?_
        have hf := Option.some.inj hf
        subst hf
        exact q_rzW (Or.inr rfl) hP hS hx hb hr hlocks dX8_readItem_141
    · have hf := q_t hc hf
      refine lv_iconst (v := (0 : Int32)) hx hb dX8_readItem_121 (by decide) ?_
      have hf := Option.some.inj hf
      subst hf
      exact q_rzW (Or.inl rfl) hP hS hx hb hr hlocks dX8_readItem_122
  refine lv_aload_n hx hb dX8_readItem_0 rfl (lv_at hl 0 rfl) ?_
  refine va_get (D := D) (ci := 8) (v := .int t_token) (C := RX8) (T := TX8) (N := 6) hx hb hts iX8 hown hk.1 hP 0 rfl rfl 4 (by decide) (hts _ tw_35) (fun _ h9 => h9) rfl dX8_readItem_1 ?_
  by_cases hc97 : t_token = (97 : Int32)
  · have hf := q_t hc97 hf
    refine lv_lookup (off := 82) (tgt := 86) hx hb dX8_readItem_4 (by decide) (by rw [hc97]; rfl) (by decide) ?_
    refine lv_aload_n hx hb dX8_readItem_86 rfl (lv_at hl 0 rfl) ?_
    refine lv_aload_n hx hb dX8_readItem_87 rfl (lv_at hl 1 rfl) ?_
    obtain ⟨z88, hz88, hf⟩ := q_bind hf
    refine q_wrV (As := [.ref aQ]) (rest := []) (st2 := [.int (z88.1)]) (ws' := [(aT, .inr (8, [.ref aT_letters, .int t_length, .int (z88.2.1), .int (z88.2.2.1), .int (z88.2.2.2.1), .int (z88.2.2.2.2.1)])), (aT_letters, .inl (cy.1, 150, .inl t_letters)), (aQ, .inr (5, [.int q_width, .int q_height, .int q_kernel, .int q_power, .int q_fall, .int (z88.2.2.2.2.2.1), .int (z88.2.2.2.2.2.2), .long q_shut, .long q_dots]))]) S hk (c_X8_readStretch l D cy H0 aT aT_letters aQ t_length t_place t_next t_token t_value t_letters q_width q_height q_kernel q_power q_fall q_ax q_ay q_shut q_dots z88 (hP.sub [0, 1, 2] rfl) (qD_sub hD [0, 1, 2] (by decide) rfl) hz88) ok_X8_readStretch tw_379 ⟨rfl, rfl, Nat.le_of_ble_eq_true rfl, Nat.le_of_ble_eq_true rfl⟩ (va_recv hk.1 hP (ci := 8) (q0 := 0) rfl rfl) rfl hl.1 rfl (Nat.le_of_ble_eq_true rfl) dX8_readItem_88 ⟨Nat.zero_le _, Nat.zero_le _⟩ rfl hP hD hS hA [0, 1, 2] rfl rfl rfl rfl (fun H locs hP hD hS => ?_)
    refine lv_istore_n (lv' := [(3, .int (z88.1)), (0, .ref aT), (1, .ref aQ), (2, .int x2)]) hx hb dX8_readItem_91 rfl hl (by decide) rfl (fun ls hl => ?_)
    refine lv_goto (tgt := 117) hx hb dX8_readItem_92 (by decide) ?_
    exact J117 (z88.1) (z88.2.1) (z88.2.2.1) (z88.2.2.2.1) (z88.2.2.2.2.1) q_width q_height q_kernel q_power q_fall (z88.2.2.2.2.2.1) (z88.2.2.2.2.2.2) q_shut q_dots H locs ls hP hD hS (lv_sub hl [1, 0] rfl) hf
  · have hf := q_f hc97 hf
    by_cases hc100 : t_token = (100 : Int32)
    · have hf := q_t hc100 hf
      refine lv_lookup (off := 101) (tgt := 105) hx hb dX8_readItem_4 (by decide) (by show Op.lookupswitch.offset [(97, 82), (100, 101), (103, 52), (107, 73), (115, 91)] 111 _ = _; rw [lv_osw (a := 97) hc97 (by decide)]; rw [hc100]; rfl) (by decide) ?_
      refine lv_aload_n hx hb dX8_readItem_105 rfl (lv_at hl 0 rfl) ?_
      refine lv_aload_n hx hb dX8_readItem_106 rfl (lv_at hl 1 rfl) ?_
      refine lv_iconst (v := (0 : Int32)) hx hb dX8_readItem_107 (by decide) ?_
      obtain ⟨z108, hz108, hf⟩ := q_bind hf
      refine q_wrV (As := [.ref aQ, .int (0 : Int32)]) (rest := []) (st2 := [.int (z108.1)]) (ws' := [(aT, .inr (8, [.ref aT_letters, .int t_length, .int (z108.2.1), .int (z108.2.2.1), .int (z108.2.2.2.1), .int (z108.2.2.2.2.1)])), (aT_letters, .inl (cy.1, 150, .inl t_letters)), (aQ, .inr (5, [.int q_width, .int q_height, .int q_kernel, .int q_power, .int q_fall, .int q_ax, .int q_ay, .long (z108.2.2.2.2.2.1), .long (z108.2.2.2.2.2.2)]))]) S hk (c_X8_readCell l D cy H0 aT aT_letters aQ t_length t_place t_next t_token t_value t_letters q_width q_height q_kernel q_power q_fall q_ax q_ay q_shut q_dots (0 : Int32) z108 (hP.sub [0, 1, 2] rfl) (qD_sub hD [0, 1, 2] (by decide) rfl) hz108) ok_X8_readCell tw_383 ⟨rfl, rfl, Nat.le_of_ble_eq_true rfl, Nat.le_of_ble_eq_true rfl⟩ (va_recv hk.1 hP (ci := 8) (q0 := 0) rfl rfl) rfl hl.1 rfl (Nat.le_of_ble_eq_true rfl) dX8_readItem_108 ⟨Nat.zero_le _, Nat.zero_le _⟩ rfl hP hD hS hA [0, 1, 2] rfl rfl rfl rfl (fun H locs hP hD hS => ?_)
      refine lv_istore_n (lv' := [(3, .int (z108.1)), (0, .ref aT), (1, .ref aQ), (2, .int x2)]) hx hb dX8_readItem_111 rfl hl (by decide) rfl (fun ls hl => ?_)
      refine lv_goto (tgt := 117) hx hb dX8_readItem_112 (by decide) ?_
      exact J117 (z108.1) (z108.2.1) (z108.2.2.1) (z108.2.2.2.1) (z108.2.2.2.2.1) q_width q_height q_kernel q_power q_fall q_ax q_ay (z108.2.2.2.2.2.1) (z108.2.2.2.2.2.2) H locs ls hP hD hS (lv_sub hl [1, 0] rfl) hf
    · have hf := q_f hc100 hf
      by_cases hc103 : t_token = (103 : Int32)
      · have hf := q_t hc103 hf
        refine lv_lookup (off := 52) (tgt := 56) hx hb dX8_readItem_4 (by decide) (by show Op.lookupswitch.offset [(97, 82), (100, 101), (103, 52), (107, 73), (115, 91)] 111 _ = _; rw [lv_osw (a := 97) hc97 (by decide), lv_osw (a := 100) hc100 (by decide)]; rw [hc103]; rfl) (by decide) ?_
        refine lv_iload_n hx hb dX8_readItem_56 rfl (lv_at hl 2 rfl) ?_
        refine lv_if_eq (tgt := 72) hx hb dX8_readItem_57 (by decide) (fun hc => ?_) (fun hc => ?_)
        · have hf := q_t hc hf
          refine lv_iconst (v := (0 : Int32)) hx hb dX8_readItem_72 (by decide) ?_
          refine lv_istore_n (lv' := [(3, .int (0 : Int32)), (0, .ref aT), (1, .ref aQ), (2, .int x2)]) hx hb dX8_readItem_73 rfl hl (by decide) rfl (fun ls hl => ?_)
          refine lv_goto (tgt := 117) hx hb dX8_readItem_74 (by decide) ?_
          exact J117 (0 : Int32) t_place t_next t_token t_value q_width q_height q_kernel q_power q_fall q_ax q_ay q_shut q_dots H0 [] ls hP hD hS (lv_sub hl [1, 0] rfl) hf
        · have hf := q_f hc hf
          refine lv_aload_n hx hb dX8_readItem_60 rfl (lv_at hl 0 rfl) ?_
          refine lv_aload_n hx hb dX8_readItem_61 rfl (lv_at hl 1 rfl) ?_
          obtain ⟨z62, hz62, hf⟩ := q_bind hf
          refine q_wrV (As := [.ref aQ]) (rest := []) (st2 := [.int (z62.1)]) (ws' := [(aT, .inr (8, [.ref aT_letters, .int t_length, .int (z62.2.1), .int (z62.2.2.1), .int (z62.2.2.2.1), .int (z62.2.2.2.2.1)])), (aT_letters, .inl (cy.1, 150, .inl t_letters)), (aQ, .inr (5, [.int (z62.2.2.2.2.2.1), .int (z62.2.2.2.2.2.2), .int q_kernel, .int q_power, .int q_fall, .int q_ax, .int q_ay, .long q_shut, .long q_dots]))]) S hk (c_X8_readMeasures l D cy H0 aT aT_letters aQ t_length t_place t_next t_token t_value t_letters q_width q_height q_kernel q_power q_fall q_ax q_ay q_shut q_dots z62 (hP.sub [0, 1, 2] rfl) (qD_sub hD [0, 1, 2] (by decide) rfl) hz62) ok_X8_readMeasures tw_367 ⟨rfl, rfl, Nat.le_of_ble_eq_true rfl, Nat.le_of_ble_eq_true rfl⟩ (va_recv hk.1 hP (ci := 8) (q0 := 0) rfl rfl) rfl hl.1 rfl (Nat.le_of_ble_eq_true rfl) dX8_readItem_62 ⟨Nat.zero_le _, Nat.zero_le _⟩ rfl hP hD hS hA [0, 1, 2] rfl rfl rfl rfl (fun H locs hP hD hS => ?_)
          refine lv_if_eq (tgt := 72) hx hb dX8_readItem_65 (by decide) (fun hc => ?_) (fun hc => ?_)
          · have hf := q_t hc hf
            refine lv_iconst (v := (0 : Int32)) hx hb dX8_readItem_72 (by decide) ?_
            refine lv_istore_n (lv' := [(3, .int (0 : Int32)), (0, .ref aT), (1, .ref aQ), (2, .int x2)]) hx hb dX8_readItem_73 rfl hl (by decide) rfl (fun ls hl => ?_)
            refine lv_goto (tgt := 117) hx hb dX8_readItem_74 (by decide) ?_
            exact J117 (0 : Int32) (z62.2.1) (z62.2.2.1) (z62.2.2.2.1) (z62.2.2.2.2.1) (z62.2.2.2.2.2.1) (z62.2.2.2.2.2.2) q_kernel q_power q_fall q_ax q_ay q_shut q_dots H locs ls hP hD hS (lv_sub hl [1, 0] rfl) hf
          · have hf := q_f hc hf
            refine lv_iconst (v := (1 : Int32)) hx hb dX8_readItem_68 (by decide) ?_
            refine lv_goto (tgt := 73) hx hb dX8_readItem_69 (by decide) ?_
            refine lv_istore_n (lv' := [(3, .int (1 : Int32)), (0, .ref aT), (1, .ref aQ), (2, .int x2)]) hx hb dX8_readItem_73 rfl hl (by decide) rfl (fun ls hl => ?_)
            refine lv_goto (tgt := 117) hx hb dX8_readItem_74 (by decide) ?_
            exact J117 (1 : Int32) (z62.2.1) (z62.2.2.1) (z62.2.2.2.1) (z62.2.2.2.2.1) (z62.2.2.2.2.2.1) (z62.2.2.2.2.2.2) q_kernel q_power q_fall q_ax q_ay q_shut q_dots H locs ls hP hD hS (lv_sub hl [1, 0] rfl) hf
      · have hf := q_f hc103 hf
        by_cases hc107 : t_token = (107 : Int32)
        · have hf := q_t hc107 hf
          refine lv_lookup (off := 73) (tgt := 77) hx hb dX8_readItem_4 (by decide) (by show Op.lookupswitch.offset [(97, 82), (100, 101), (103, 52), (107, 73), (115, 91)] 111 _ = _; rw [lv_osw (a := 97) hc97 (by decide), lv_osw (a := 100) hc100 (by decide), lv_osw (a := 103) hc103 (by decide)]; rw [hc107]; rfl) (by decide) ?_
          refine lv_aload_n hx hb dX8_readItem_77 rfl (lv_at hl 0 rfl) ?_
          refine lv_aload_n hx hb dX8_readItem_78 rfl (lv_at hl 1 rfl) ?_
          obtain ⟨z79, hz79, hf⟩ := q_bind hf
          refine q_wrV (As := [.ref aQ]) (rest := []) (st2 := [.int (z79.1)]) (ws' := [(aT, .inr (8, [.ref aT_letters, .int t_length, .int (z79.2.1), .int (z79.2.2.1), .int (z79.2.2.2.1), .int (z79.2.2.2.2.1)])), (aT_letters, .inl (cy.1, 150, .inl t_letters)), (aQ, .inr (5, [.int q_width, .int q_height, .int (z79.2.2.2.2.2.1), .int (z79.2.2.2.2.2.2.1), .int (z79.2.2.2.2.2.2.2), .int q_ax, .int q_ay, .long q_shut, .long q_dots]))]) S hk (c_X8_readKernel l D cy H0 aT aT_letters aQ t_length t_place t_next t_token t_value t_letters q_width q_height q_kernel q_power q_fall q_ax q_ay q_shut q_dots z79 (hP.sub [0, 1, 2] rfl) (qD_sub hD [0, 1, 2] (by decide) rfl) hz79) ok_X8_readKernel tw_375 ⟨rfl, rfl, Nat.le_of_ble_eq_true rfl, Nat.le_of_ble_eq_true rfl⟩ (va_recv hk.1 hP (ci := 8) (q0 := 0) rfl rfl) rfl hl.1 rfl (Nat.le_of_ble_eq_true rfl) dX8_readItem_79 ⟨Nat.zero_le _, Nat.zero_le _⟩ rfl hP hD hS hA [0, 1, 2] rfl rfl rfl rfl (fun H locs hP hD hS => ?_)
          refine lv_istore_n (lv' := [(3, .int (z79.1)), (0, .ref aT), (1, .ref aQ), (2, .int x2)]) hx hb dX8_readItem_82 rfl hl (by decide) rfl (fun ls hl => ?_)
          refine lv_goto (tgt := 117) hx hb dX8_readItem_83 (by decide) ?_
          exact J117 (z79.1) (z79.2.1) (z79.2.2.1) (z79.2.2.2.1) (z79.2.2.2.2.1) q_width q_height (z79.2.2.2.2.2.1) (z79.2.2.2.2.2.2.1) (z79.2.2.2.2.2.2.2) q_ax q_ay q_shut q_dots H locs ls hP hD hS (lv_sub hl [1, 0] rfl) hf
        · have hf := q_f hc107 hf
          by_cases hc115 : t_token = (115 : Int32)
          · have hf := q_t hc115 hf
            refine lv_lookup (off := 91) (tgt := 95) hx hb dX8_readItem_4 (by decide) (by show Op.lookupswitch.offset [(97, 82), (100, 101), (103, 52), (107, 73), (115, 91)] 111 _ = _; rw [lv_osw (a := 97) hc97 (by decide), lv_osw (a := 100) hc100 (by decide), lv_osw (a := 103) hc103 (by decide), lv_osw (a := 107) hc107 (by decide)]; rw [hc115]; rfl) (by decide) ?_
            refine lv_aload_n hx hb dX8_readItem_95 rfl (lv_at hl 0 rfl) ?_
            refine lv_aload_n hx hb dX8_readItem_96 rfl (lv_at hl 1 rfl) ?_
            refine lv_iconst (v := (1 : Int32)) hx hb dX8_readItem_97 (by decide) ?_
            obtain ⟨z98, hz98, hf⟩ := q_bind hf
            refine q_wrV (As := [.ref aQ, .int (1 : Int32)]) (rest := []) (st2 := [.int (z98.1)]) (ws' := [(aT, .inr (8, [.ref aT_letters, .int t_length, .int (z98.2.1), .int (z98.2.2.1), .int (z98.2.2.2.1), .int (z98.2.2.2.2.1)])), (aT_letters, .inl (cy.1, 150, .inl t_letters)), (aQ, .inr (5, [.int q_width, .int q_height, .int q_kernel, .int q_power, .int q_fall, .int q_ax, .int q_ay, .long (z98.2.2.2.2.2.1), .long (z98.2.2.2.2.2.2)]))]) S hk (c_X8_readCell l D cy H0 aT aT_letters aQ t_length t_place t_next t_token t_value t_letters q_width q_height q_kernel q_power q_fall q_ax q_ay q_shut q_dots (1 : Int32) z98 (hP.sub [0, 1, 2] rfl) (qD_sub hD [0, 1, 2] (by decide) rfl) hz98) ok_X8_readCell tw_383 ⟨rfl, rfl, Nat.le_of_ble_eq_true rfl, Nat.le_of_ble_eq_true rfl⟩ (va_recv hk.1 hP (ci := 8) (q0 := 0) rfl rfl) rfl hl.1 rfl (Nat.le_of_ble_eq_true rfl) dX8_readItem_98 ⟨Nat.zero_le _, Nat.zero_le _⟩ rfl hP hD hS hA [0, 1, 2] rfl rfl rfl rfl (fun H locs hP hD hS => ?_)
            refine lv_istore_n (lv' := [(3, .int (z98.1)), (0, .ref aT), (1, .ref aQ), (2, .int x2)]) hx hb dX8_readItem_101 rfl hl (by decide) rfl (fun ls hl => ?_)
            refine lv_goto (tgt := 117) hx hb dX8_readItem_102 (by decide) ?_
            exact J117 (z98.1) (z98.2.1) (z98.2.2.1) (z98.2.2.2.1) (z98.2.2.2.2.1) q_width q_height q_kernel q_power q_fall q_ax q_ay (z98.2.2.2.2.2.1) (z98.2.2.2.2.2.2) H locs ls hP hD hS (lv_sub hl [1, 0] rfl) hf
          · have hf := q_f hc115 hf
            refine lv_lookup (off := 111) (tgt := 115) hx hb dX8_readItem_4 (by decide) (by show Op.lookupswitch.offset [(97, 82), (100, 101), (103, 52), (107, 73), (115, 91)] 111 _ = _; rw [lv_osw (a := 97) hc97 (by decide), lv_osw (a := 100) hc100 (by decide), lv_osw (a := 103) hc103 (by decide), lv_osw (a := 107) hc107 (by decide), lv_osw (a := 115) hc115 (by decide)]; rfl) (by decide) ?_
            refine lv_iconst (v := (0 : Int32)) hx hb dX8_readItem_115 (by decide) ?_
            refine lv_istore_n (lv' := [(3, .int (0 : Int32)), (0, .ref aT), (1, .ref aQ), (2, .int x2)]) hx hb dX8_readItem_116 rfl hl (by decide) rfl (fun ls hl => ?_)
            exact J117 (0 : Int32) t_place t_next t_token t_value q_width q_height q_kernel q_power q_fall q_ax q_ay q_shut q_dots H0 [] ls hP hD hS (lv_sub hl [1, 0] rfl) hf
def j_X8_readInto_43 (t_length : Int32) (t_letters : Nat → Int32) (k15 : Int32 → Int32 → Int32 → Int32 → Int32 → Int32 → Int32 → Int32 → Int32 → Int32 → Int32 → Int32 → Int64 → Int64 → Option (Int32 × Int32 × Int32 × Int32 × Int32 × Int32 × Int32 × Int32 × Int32 × Int32 × Int32 × Int32 × Int64 × Int64)) (x2 : Int32) (k2 : Int32) (t_place : Int32) (t_next : Int32) (t_token : Int32) (t_value : Int32) (q_width : Int32) (q_height : Int32) (q_kernel : Int32) (q_power : Int32) (q_fall : Int32) (q_ax : Int32) (q_ay : Int32) (q_shut : Int64) (q_dots : Int64) : Option (Int32 × Int32 × Int32 × Int32 × Int32 × Int32 × Int32 × Int32 × Int32 × Int32 × Int32 × Int32 × Int64 × Int64) := (f_X8_readItem t_length t_place t_next t_token t_value t_letters q_width q_height q_kernel q_power q_fall q_ax q_ay q_shut q_dots k2).bind (fun z43 => if (z43.1) = 0 then (some (((-10 : Int32) - (z43.2.1)), (z43.2.1), (z43.2.2.1), (z43.2.2.2.1), (z43.2.2.2.2.1), (z43.2.2.2.2.2.1), (z43.2.2.2.2.2.2.1), (z43.2.2.2.2.2.2.2.1), (z43.2.2.2.2.2.2.2.2.1), (z43.2.2.2.2.2.2.2.2.2.1), (z43.2.2.2.2.2.2.2.2.2.2.1), (z43.2.2.2.2.2.2.2.2.2.2.2.1), (z43.2.2.2.2.2.2.2.2.2.2.2.2.1), (z43.2.2.2.2.2.2.2.2.2.2.2.2.2))) else ((f_X8_step t_length (z43.2.1) (z43.2.2.1) (z43.2.2.2.1) (z43.2.2.2.2.1) t_letters).bind (fun z61 => k15 (x2 + 1) (z61.1) (z61.2.1) (z61.2.2.1) (z61.2.2.2) (z43.2.2.2.2.2.1) (z43.2.2.2.2.2.2.1) (z43.2.2.2.2.2.2.2.1) (z43.2.2.2.2.2.2.2.2.1) (z43.2.2.2.2.2.2.2.2.2.1) (z43.2.2.2.2.2.2.2.2.2.2.1) (z43.2.2.2.2.2.2.2.2.2.2.2.1) (z43.2.2.2.2.2.2.2.2.2.2.2.2.1) (z43.2.2.2.2.2.2.2.2.2.2.2.2.2))))
def lp_X8_readInto_15 (t_length : Int32) (t_letters : Nat → Int32) : Nat → Int32 → Int32 → Int32 → Int32 → Int32 → Int32 → Int32 → Int32 → Int32 → Int32 → Int32 → Int32 → Int64 → Int64 → Option (Int32 × Int32 × Int32 × Int32 × Int32 × Int32 × Int32 × Int32 × Int32 × Int32 × Int32 × Int32 × Int64 × Int64)
  | 0, _, _, _, _, _, _, _, _, _, _, _, _, _, _ => none
  | n + 1, x2, t_place, t_next, t_token, t_value, q_width, q_height, q_kernel, q_power, q_fall, q_ax, q_ay, q_shut, q_dots => if t_token = (258 : Int32) then (some (x2, t_place, t_next, t_token, t_value, q_width, q_height, q_kernel, q_power, q_fall, q_ax, q_ay, q_shut, q_dots)) else (if (150 : Int32) ≤ x2 then (some (x2, t_place, t_next, t_token, t_value, q_width, q_height, q_kernel, q_power, q_fall, q_ax, q_ay, q_shut, q_dots)) else (if x2 = 0 then (j_X8_readInto_43 t_length t_letters (lp_X8_readInto_15 t_length t_letters n) x2 (1 : Int32) t_place t_next t_token t_value q_width q_height q_kernel q_power q_fall q_ax q_ay q_shut q_dots) else (j_X8_readInto_43 t_length t_letters (lp_X8_readInto_15 t_length t_letters n) x2 (0 : Int32) t_place t_next t_token t_value q_width q_height q_kernel q_power q_fall q_ax q_ay q_shut q_dots)))
theorem lp_X8_readInto_15_s (t_length : Int32) (t_letters : Nat → Int32) (n : Nat) (x2 : Int32) (t_place : Int32) (t_next : Int32) (t_token : Int32) (t_value : Int32) (q_width : Int32) (q_height : Int32) (q_kernel : Int32) (q_power : Int32) (q_fall : Int32) (q_ax : Int32) (q_ay : Int32) (q_shut : Int64) (q_dots : Int64) : lp_X8_readInto_15 t_length t_letters (n + 1) x2 t_place t_next t_token t_value q_width q_height q_kernel q_power q_fall q_ax q_ay q_shut q_dots = (if t_token = (258 : Int32) then (some (x2, t_place, t_next, t_token, t_value, q_width, q_height, q_kernel, q_power, q_fall, q_ax, q_ay, q_shut, q_dots)) else (if (150 : Int32) ≤ x2 then (some (x2, t_place, t_next, t_token, t_value, q_width, q_height, q_kernel, q_power, q_fall, q_ax, q_ay, q_shut, q_dots)) else (if x2 = 0 then (j_X8_readInto_43 t_length t_letters (lp_X8_readInto_15 t_length t_letters n) x2 (1 : Int32) t_place t_next t_token t_value q_width q_height q_kernel q_power q_fall q_ax q_ay q_shut q_dots) else (j_X8_readInto_43 t_length t_letters (lp_X8_readInto_15 t_length t_letters n) x2 (0 : Int32) t_place t_next t_token t_value q_width q_height q_kernel q_power q_fall q_ax q_ay q_shut q_dots)))) := rfl
theorem lp_X8_readInto_15_z (t_length : Int32) (t_letters : Nat → Int32) (x2 : Int32) (t_place : Int32) (t_next : Int32) (t_token : Int32) (t_value : Int32) (q_width : Int32) (q_height : Int32) (q_kernel : Int32) (q_power : Int32) (q_fall : Int32) (q_ax : Int32) (q_ay : Int32) (q_shut : Int64) (q_dots : Int64) : lp_X8_readInto_15 t_length t_letters 0 x2 t_place t_next t_token t_value q_width q_height q_kernel q_power q_fall q_ax q_ay q_shut q_dots = none := rfl
def f_X8_readInto (t_length : Int32) (t_place : Int32) (t_next : Int32) (t_token : Int32) (t_value : Int32) (t_letters : Nat → Int32) (q_width : Int32) (q_height : Int32) (q_kernel : Int32) (q_power : Int32) (q_fall : Int32) (q_ax : Int32) (q_ay : Int32) (q_shut : Int64) (q_dots : Int64) : Option (Int32 × Int32 × Int32 × Int32 × Int32 × Int32 × Int32 × Int32 × Int32 × Int32 × Int32 × Int32 × Int64 × Int64) := (f_X5_reset q_width q_height q_kernel q_power q_fall q_ax q_ay q_shut q_dots).bind (fun z1 => (f_X8_step t_length t_place (0 : Int32) t_token t_value t_letters).bind (fun z10 => lp_X8_readInto_15 t_length t_letters FU (0 : Int32) (z10.1) (z10.2.1) (z10.2.2.1) (z10.2.2.2) (z1.1) (z1.2.1) (z1.2.2.1) (z1.2.2.2.1) (z1.2.2.2.2.1) (z1.2.2.2.2.2.1) (z1.2.2.2.2.2.2.1) (z1.2.2.2.2.2.2.2.1) (z1.2.2.2.2.2.2.2.2)))
theorem ok_X8_readInto : OkV yX8_readInto cX8_readInto 3 (some Jvm.ClassFile.FieldType.int) 1 := ⟨⟨tw_349, tw_2, by decide +kernel, by decide +kernel, by decide +kernel⟩, tw_347, tw_348⟩
set_option maxHeartbeats 4000000 in
set_option maxRecDepth 100000 in
theorem c_X8_readInto (l : Launch) (D : va_G) (cy : ClassId × ClassId × ClassId) (H0 : Heap) (aT aT_letters aQ : Nat) (t_length : Int32) (t_place : Int32) (t_next : Int32) (t_token : Int32) (t_value : Int32) (t_letters : Nat → Int32) (q_width : Int32) (q_height : Int32) (q_kernel : Int32) (q_power : Int32) (q_fall : Int32) (q_ax : Int32) (q_ay : Int32) (q_shut : Int64) (q_dots : Int64) (r : Int32 × Int32 × Int32 × Int32 × Int32 × Int32 × Int32 × Int32 × Int32 × Int32 × Int32 × Int32 × Int64 × Int64) (hP : va_P D vwCl [(aT, .inr (8, [.ref aT_letters, .int t_length, .int t_place, .int t_next, .int t_token, .int t_value])), (aT_letters, .inl (cy.1, 150, .inl t_letters)), (aQ, .inr (5, [.int q_width, .int q_height, .int q_kernel, .int q_power, .int q_fall, .int q_ax, .int q_ay, .long q_shut, .long q_dots]))] H0) (hD0 : va_D (fun _ => True) [(aT, .inr (8, [.ref aT_letters, .int t_length, .int t_place, .int t_next, .int t_token, .int t_value])), (aT_letters, .inl (cy.1, 150, .inl t_letters)), (aQ, .inr (5, [.int q_width, .int q_height, .int q_kernel, .int q_power, .int q_fall, .int q_ax, .int q_ay, .long q_shut, .long q_dots]))]) (hf : f_X8_readInto t_length t_place t_next t_token t_value t_letters q_width q_height q_kernel q_power q_fall q_ax q_ay q_shut q_dots = some r) : Wr l yX8_readInto cX8_readInto 3 (some Jvm.ClassFile.FieldType.int) ({ frames := 6, cells := 0, slots := 0, locals := 132 } : Room) ([.ref aT, .ref aQ] : List Value) (some (.int (r.1))) D cy H0 [(aT, .inr (8, [.ref aT_letters, .int t_length, .int t_place, .int t_next, .int t_token, .int t_value])), (aT_letters, .inl (cy.1, 150, .inl t_letters)), (aQ, .inr (5, [.int q_width, .int q_height, .int q_kernel, .int q_power, .int q_fall, .int q_ax, .int q_ay, .long q_shut, .long q_dots]))] [(aT, .inr (8, [.ref aT_letters, .int t_length, .int (r.2.1), .int (r.2.2.1), .int (r.2.2.2.1), .int (r.2.2.2.2.1)])), (aT_letters, .inl (cy.1, 150, .inl t_letters)), (aQ, .inr (5, [.int (r.2.2.2.2.2.1), .int (r.2.2.2.2.2.2.1), .int (r.2.2.2.2.2.2.2.1), .int (r.2.2.2.2.2.2.2.2.1), .int (r.2.2.2.2.2.2.2.2.2.1), .int (r.2.2.2.2.2.2.2.2.2.2.1), .int (r.2.2.2.2.2.2.2.2.2.2.2.1), .long (r.2.2.2.2.2.2.2.2.2.2.2.2.1), .long (r.2.2.2.2.2.2.2.2.2.2.2.2.2)]))] := by
  refine wr_of (by decide +kernel) (Nat.le_of_ble_eq_true rfl) hD0 ?_
  intro p e s m below meth c ls A S hr hlocks hk hl hD hS hA
  obtain ⟨hx, hb, hml, hown, hts⟩ := id S
  have hl : lv_has ls 3 [(0, .ref aT), (1, .ref aQ)] := hl
  rw [f_X8_readInto] at hf
  have J15 : ∀ (n15 : Nat) (x2 : Int32) (t_place : Int32) (t_next : Int32) (t_token : Int32) (t_value : Int32) (q_width : Int32) (q_height : Int32) (q_kernel : Int32) (q_power : Int32) (q_fall : Int32) (q_ax : Int32) (q_ay : Int32) (q_shut : Int64) (q_dots : Int64) (H : Heap) (locs : List Loc) (ls : Array Slot), va_P D vwCl [(aT, .inr (8, [.ref aT_letters, .int t_length, .int t_place, .int t_next, .int t_token, .int t_value])), (aT_letters, .inl (cy.1, 150, .inl t_letters)), (aQ, .inr (5, [.int q_width, .int q_height, .int q_kernel, .int q_power, .int q_fall, .int q_ax, .int q_ay, .long q_shut, .long q_dots]))] H → va_D A [(aT, .inr (8, [.ref aT_letters, .int t_length, .int t_place, .int t_next, .int t_token, .int t_value])), (aT_letters, .inl (cy.1, 150, .inl t_letters)), (aQ, .inr (5, [.int q_width, .int q_height, .int q_kernel, .int q_power, .int q_fall, .int q_ax, .int q_ay, .long q_shut, .long q_dots]))] → va_S A H0 H locs → lv_has ls 3 [(0, .ref aT), (1, .ref aQ), (2, .int x2)] → lp_X8_readInto_15 t_length t_letters n15 x2 t_place t_next t_token t_value q_width q_height q_kernel q_power q_fall q_ax q_ay q_shut q_dots = some r → W p l e ({ frames := 6, cells := 0, slots := 0, locals := 132 } : Room) s m ([.ref aT, .ref aQ] : List Value).toArray below meth c H locs 0 0 (MQ below (QW (some (.int (r.1))) D [(aT, .inr (8, [.ref aT_letters, .int t_length, .int (r.2.1), .int (r.2.2.1), .int (r.2.2.2.1), .int (r.2.2.2.2.1)])), (aT_letters, .inl (cy.1, 150, .inl t_letters)), (aQ, .inr (5, [.int (r.2.2.2.2.2.1), .int (r.2.2.2.2.2.2.1), .int (r.2.2.2.2.2.2.2.1), .int (r.2.2.2.2.2.2.2.2.1), .int (r.2.2.2.2.2.2.2.2.2.1), .int (r.2.2.2.2.2.2.2.2.2.2.1), .int (r.2.2.2.2.2.2.2.2.2.2.2.1), .long (r.2.2.2.2.2.2.2.2.2.2.2.2.1), .long (r.2.2.2.2.2.2.2.2.2.2.2.2.2)]))] H0 A) ([.ref aT, .ref aQ] : List Value).toArray s 0 0 A) (F0 m 15 ls []) := by
    intro n15
    induction n15 with
    | zero =>
      intro x2 t_place t_next t_token t_value q_width q_height q_kernel q_power q_fall q_ax q_ay q_shut q_dots H locs ls hP hD hS hl hf
      rw [lp_X8_readInto_15_z] at hf
      cases hf
    | succ n15 ih15 =>
      have J43 : ∀ (x2 : Int32) (k2 : Int32) (t_place : Int32) (t_next : Int32) (t_token : Int32) (t_value : Int32) (q_width : Int32) (q_height : Int32) (q_kernel : Int32) (q_power : Int32) (q_fall : Int32) (q_ax : Int32) (q_ay : Int32) (q_shut : Int64) (q_dots : Int64) (H : Heap) (locs : List Loc) (ls : Array Slot), va_P D vwCl [(aT, .inr (8, [.ref aT_letters, .int t_length, .int t_place, .int t_next, .int t_token, .int t_value])), (aT_letters, .inl (cy.1, 150, .inl t_letters)), (aQ, .inr (5, [.int q_width, .int q_height, .int q_kernel, .int q_power, .int q_fall, .int q_ax, .int q_ay, .long q_shut, .long q_dots]))] H → va_D A [(aT, .inr (8, [.ref aT_letters, .int t_length, .int t_place, .int t_next, .int t_token, .int t_value])), (aT_letters, .inl (cy.1, 150, .inl t_letters)), (aQ, .inr (5, [.int q_width, .int q_height, .int q_kernel, .int q_power, .int q_fall, .int q_ax, .int q_ay, .long q_shut, .long q_dots]))] → va_S A H0 H locs → lv_has ls 3 [(0, .ref aT), (1, .ref aQ), (2, .int x2)] → j_X8_readInto_43 t_length t_letters (lp_X8_readInto_15 t_length t_letters n15) x2 k2 t_place t_next t_token t_value q_width q_height q_kernel q_power q_fall q_ax q_ay q_shut q_dots = some r → W p l e ({ frames := 6, cells := 0, slots := 0, locals := 132 } : Room) s m ([.ref aT, .ref aQ] : List Value).toArray below meth c H locs 0 0 (MQ below (QW (some (.int (r.1))) D [(aT, .inr (8, [.ref aT_letters, .int t_length, .int (r.2.1), .int (r.2.2.1), .int (r.2.2.2.1), .int (r.2.2.2.2.1)])), (aT_letters, .inl (cy.1, 150, .inl t_letters)), (aQ, .inr (5, [.int (r.2.2.2.2.2.1), .int (r.2.2.2.2.2.2.1), .int (r.2.2.2.2.2.2.2.1), .int (r.2.2.2.2.2.2.2.2.1), .int (r.2.2.2.2.2.2.2.2.2.1), .int (r.2.2.2.2.2.2.2.2.2.2.1), .int (r.2.2.2.2.2.2.2.2.2.2.2.1), .long (r.2.2.2.2.2.2.2.2.2.2.2.2.1), .long (r.2.2.2.2.2.2.2.2.2.2.2.2.2)]))] H0 A) ([.ref aT, .ref aQ] : List Value).toArray s 0 0 A) (F0 m 43 ls [.int k2, .ref aQ, .ref aT]) := by
        intro x2 k2 t_place t_next t_token t_value q_width q_height q_kernel q_power q_fall q_ax q_ay q_shut q_dots H locs ls hP hD hS hl hf
        rw [j_X8_readInto_43] at hf
        obtain ⟨z43, hz43, hf⟩ := q_bind hf
        refine q_wrV (As := [.ref aQ, .int k2]) (rest := []) (st2 := [.int (z43.1)]) (ws' := [(aT, .inr (8, [.ref aT_letters, .int t_length, .int (z43.2.1), .int (z43.2.2.1), .int (z43.2.2.2.1), .int (z43.2.2.2.2.1)])), (aT_letters, .inl (cy.1, 150, .inl t_letters)), (aQ, .inr (5, [.int (z43.2.2.2.2.2.1), .int (z43.2.2.2.2.2.2.1), .int (z43.2.2.2.2.2.2.2.1), .int (z43.2.2.2.2.2.2.2.2.1), .int (z43.2.2.2.2.2.2.2.2.2.1), .int (z43.2.2.2.2.2.2.2.2.2.2.1), .int (z43.2.2.2.2.2.2.2.2.2.2.2.1), .long (z43.2.2.2.2.2.2.2.2.2.2.2.2.1), .long (z43.2.2.2.2.2.2.2.2.2.2.2.2.2)]))]) S hk (c_X8_readItem l D cy H aT aT_letters aQ t_length t_place t_next t_token t_value t_letters q_width q_height q_kernel q_power q_fall q_ax q_ay q_shut q_dots k2 z43 (hP.sub [0, 1, 2] rfl) (qD_sub hD [0, 1, 2] (by decide) rfl) hz43) ok_X8_readItem tw_363 ⟨rfl, rfl, Nat.le_of_ble_eq_true rfl, Nat.le_of_ble_eq_true rfl⟩ (va_recv hk.1 hP (ci := 8) (q0 := 0) rfl rfl) rfl hl.1 rfl (Nat.le_of_ble_eq_true rfl) dX8_readInto_43 ⟨Nat.zero_le _, Nat.zero_le _⟩ rfl hP hD hS hA [0, 1, 2] rfl rfl rfl rfl (fun H locs hP hD hS => ?_)
        refine lv_if_ne (tgt := 57) hx hb dX8_readInto_46 (by decide) (fun hc => ?_) (fun hc => ?_)
        · have hf := q_f hc hf
          refine lv_iinc (v := (x2 + 1)) (lv' := [(2, .int (x2 + 1)), (0, .ref aT), (1, .ref aQ)]) hx hb dX8_readInto_57 hl (k := 2) rfl rfl (by decide) rfl (fun ls hl => ?_)
          refine lv_aload_n hx hb dX8_readInto_60 rfl (lv_at hl 1 rfl) ?_
          obtain ⟨z61, hz61, hf⟩ := q_bind hf
          refine q_wrV (As := []) (rest := []) (st2 := []) (ws' := [(aT, .inr (8, [.ref aT_letters, .int t_length, .int (z61.1), .int (z61.2.1), .int (z61.2.2.1), .int (z61.2.2.2)])), (aT_letters, .inl (cy.1, 150, .inl t_letters)), (aQ, .inr (5, [.int (z43.2.2.2.2.2.1), .int (z43.2.2.2.2.2.2.1), .int (z43.2.2.2.2.2.2.2.1), .int (z43.2.2.2.2.2.2.2.2.1), .int (z43.2.2.2.2.2.2.2.2.2.1), .int (z43.2.2.2.2.2.2.2.2.2.2.1), .int (z43.2.2.2.2.2.2.2.2.2.2.2.1), .long (z43.2.2.2.2.2.2.2.2.2.2.2.2.1), .long (z43.2.2.2.2.2.2.2.2.2.2.2.2.2)]))]) S hk (c_X8_step l D cy H aT aT_letters t_length (z43.2.1) (z43.2.2.1) (z43.2.2.2.1) (z43.2.2.2.2.1) t_letters z61 (hP.sub [0, 1] rfl) (qD_sub hD [0, 1] (by decide) rfl) hz61) ok_X8_step tw_351 ⟨rfl, rfl, Nat.le_of_ble_eq_true rfl, Nat.le_of_ble_eq_true rfl⟩ (va_recv hk.1 hP (ci := 8) (q0 := 0) rfl rfl) rfl hl.1 rfl (Nat.le_of_ble_eq_true rfl) dX8_readInto_61 ⟨Nat.zero_le _, Nat.zero_le _⟩ rfl hP hD hS hA [0, 1] rfl rfl rfl rfl (fun H locs hP hD hS => ?_)
          refine lv_goto (tgt := 15) hx hb dX8_readInto_64 (by decide) ?_
          exact ih15 (x2 + 1) (z61.1) (z61.2.1) (z61.2.2.1) (z61.2.2.2) (z43.2.2.2.2.2.1) (z43.2.2.2.2.2.2.1) (z43.2.2.2.2.2.2.2.1) (z43.2.2.2.2.2.2.2.2.1) (z43.2.2.2.2.2.2.2.2.2.1) (z43.2.2.2.2.2.2.2.2.2.2.1) (z43.2.2.2.2.2.2.2.2.2.2.2.1) (z43.2.2.2.2.2.2.2.2.2.2.2.2.1) (z43.2.2.2.2.2.2.2.2.2.2.2.2.2) H locs ls hP hD hS (lv_sub hl [1, 2, 0] rfl) hf
        · have hf := q_t hc hf
          refine lv_bipush (v := (-10 : Int32)) hx hb dX8_readInto_49 (by decide) ?_
          refine lv_aload_n hx hb dX8_readInto_51 rfl (lv_at hl 0 rfl) ?_
          refine va_get (D := D) (ci := 8) (v := .int (z43.2.1)) (C := RX8) (T := TX8) (N := 6) hx hb hts iX8 hown hk.1 hP 0 rfl rfl 2 (by decide) (hts _ tw_33) (fun _ h9 => h9) rfl dX8_readInto_52 ?_
          refine lv_isub hx hb dX8_readInto_55 ?_
          have hf := Option.some.inj hf
          subst hf
          exact q_riW hP hS hx hb hr hlocks dX8_readInto_56
      intro x2 t_place t_next t_token t_value q_width q_height q_kernel q_power q_fall q_ax q_ay q_shut q_dots H locs ls hP hD hS hl hf
      rw [lp_X8_readInto_15_s] at hf
      refine lv_aload_n hx hb dX8_readInto_15 rfl (lv_at hl 0 rfl) ?_
      refine va_get (D := D) (ci := 8) (v := .int t_token) (C := RX8) (T := TX8) (N := 6) hx hb hts iX8 hown hk.1 hP 0 rfl rfl 4 (by decide) (hts _ tw_35) (fun _ h9 => h9) rfl dX8_readInto_16 ?_
      refine lv_sipush (v := (258 : Int32)) hx hb dX8_readInto_19 (by decide) ?_
      refine lv_icmp_eq (tgt := 67) hx hb dX8_readInto_22 (by decide) (fun hc => ?_) (fun hc => ?_)
      · have hf := q_t hc hf
        refine lv_iload_n hx hb dX8_readInto_67 rfl (lv_at hl 2 rfl) ?_
        have hf := Option.some.inj hf
        subst hf
        exact q_riW hP hS hx hb hr hlocks dX8_readInto_68
      · have hf := q_f hc hf
        refine lv_iload_n hx hb dX8_readInto_25 rfl (lv_at hl 2 rfl) ?_
        refine lv_sipush (v := (150 : Int32)) hx hb dX8_readInto_26 (by decide) ?_
        refine lv_icmp_ge (tgt := 67) hx hb dX8_readInto_29 (by decide) (fun hc => ?_) (fun hc => ?_)
        · have hf := q_t hc hf
          refine lv_iload_n hx hb dX8_readInto_67 rfl (lv_at hl 2 rfl) ?_
          have hf := Option.some.inj hf
          subst hf
          exact q_riW hP hS hx hb hr hlocks dX8_readInto_68
        · have hf := q_f hc hf
          refine lv_aload_n hx hb dX8_readInto_32 rfl (lv_at hl 0 rfl) ?_
          refine lv_aload_n hx hb dX8_readInto_33 rfl (lv_at hl 1 rfl) ?_
          refine lv_iload_n hx hb dX8_readInto_34 rfl (lv_at hl 2 rfl) ?_
          refine lv_if_ne (tgt := 42) hx hb dX8_readInto_35 (by decide) (fun hc => ?_) (fun hc => ?_)
          · have hf := q_f hc hf
            refine lv_iconst (v := (0 : Int32)) hx hb dX8_readInto_42 (by decide) ?_
            exact J43 x2 (0 : Int32) t_place t_next t_token t_value q_width q_height q_kernel q_power q_fall q_ax q_ay q_shut q_dots H locs ls hP hD hS (lv_sub hl [0, 1, 2] rfl) hf
          · have hf := q_t hc hf
            refine lv_iconst (v := (1 : Int32)) hx hb dX8_readInto_38 (by decide) ?_
            refine lv_goto (tgt := 43) hx hb dX8_readInto_39 (by decide) ?_
            exact J43 x2 (1 : Int32) t_place t_next t_token t_value q_width q_height q_kernel q_power q_fall q_ax q_ay q_shut q_dots H locs ls hP hD hS (lv_sub hl [0, 1, 2] rfl) hf
  refine lv_aload_n hx hb dX8_readInto_0 rfl (lv_at hl 1 rfl) ?_
  obtain ⟨z1, hz1, hf⟩ := q_bind hf
  refine q_wrV (As := []) (rest := []) (st2 := []) (ws' := [(aT, .inr (8, [.ref aT_letters, .int t_length, .int t_place, .int t_next, .int t_token, .int t_value])), (aT_letters, .inl (cy.1, 150, .inl t_letters)), (aQ, .inr (5, [.int (z1.1), .int (z1.2.1), .int (z1.2.2.1), .int (z1.2.2.2.1), .int (z1.2.2.2.2.1), .int (z1.2.2.2.2.2.1), .int (z1.2.2.2.2.2.2.1), .long (z1.2.2.2.2.2.2.2.1), .long (z1.2.2.2.2.2.2.2.2)]))]) S hk (c_X5_reset l D cy H0 aQ q_width q_height q_kernel q_power q_fall q_ax q_ay q_shut q_dots z1 (hP.sub [2] rfl) (qD_sub hD [2] (by decide) rfl) hz1) ok_X5_reset tw_350 ⟨rfl, rfl, Nat.le_of_ble_eq_true rfl, Nat.le_of_ble_eq_true rfl⟩ (va_recv hk.1 hP (ci := 5) (q0 := 2) rfl rfl) rfl hl.1 rfl (Nat.le_of_ble_eq_true rfl) dX8_readInto_1 ⟨Nat.zero_le _, Nat.zero_le _⟩ rfl hP hD hS hA [2] rfl rfl rfl rfl (fun H locs hP hD hS => ?_)
  refine lv_aload_n hx hb dX8_readInto_4 rfl (lv_at hl 0 rfl) ?_
  refine lv_iconst (v := (0 : Int32)) hx hb dX8_readInto_5 (by decide) ?_
  refine va_put (D := D) (ci := 8) (v := .int (0 : Int32)) (ty := .int) (C := RX8) (T := TX8) (N := 6) hx hb hts iX8 tyX8 tyX8_ok nmX8 hown hk.1 hP hD hS 0 rfl rfl 3 (by decide) (hts _ tw_34) (fun _ h9 => h9) rfl (by decide +kernel) rfl rfl (Nat.le_of_ble_eq_true rfl) dX8_readInto_6 (fun H locs hP hD hS => ?_)
  have hP : va_P D vwCl [(aT, .inr (8, [.ref aT_letters, .int t_length, .int t_place, .int (0 : Int32), .int t_token, .int t_value])), (aT_letters, .inl (cy.1, 150, .inl t_letters)), (aQ, .inr (5, [.int (z1.1), .int (z1.2.1), .int (z1.2.2.1), .int (z1.2.2.2.1), .int (z1.2.2.2.2.1), .int (z1.2.2.2.2.2.1), .int (z1.2.2.2.2.2.2.1), .long (z1.2.2.2.2.2.2.2.1), .long (z1.2.2.2.2.2.2.2.2)]))] H := hP
  have hD : va_D A [(aT, .inr (8, [.ref aT_letters, .int t_length, .int t_place, .int (0 : Int32), .int t_token, .int t_value])), (aT_letters, .inl (cy.1, 150, .inl t_letters)), (aQ, .inr (5, [.int (z1.1), .int (z1.2.1), .int (z1.2.2.1), .int (z1.2.2.2.1), .int (z1.2.2.2.2.1), .int (z1.2.2.2.2.2.1), .int (z1.2.2.2.2.2.2.1), .long (z1.2.2.2.2.2.2.2.1), .long (z1.2.2.2.2.2.2.2.2)]))] := hD
  refine lv_aload_n hx hb dX8_readInto_9 rfl (lv_at hl 0 rfl) ?_
  obtain ⟨z10, hz10, hf⟩ := q_bind hf
  refine q_wrV (As := []) (rest := []) (st2 := []) (ws' := [(aT, .inr (8, [.ref aT_letters, .int t_length, .int (z10.1), .int (z10.2.1), .int (z10.2.2.1), .int (z10.2.2.2)])), (aT_letters, .inl (cy.1, 150, .inl t_letters)), (aQ, .inr (5, [.int (z1.1), .int (z1.2.1), .int (z1.2.2.1), .int (z1.2.2.2.1), .int (z1.2.2.2.2.1), .int (z1.2.2.2.2.2.1), .int (z1.2.2.2.2.2.2.1), .long (z1.2.2.2.2.2.2.2.1), .long (z1.2.2.2.2.2.2.2.2)]))]) S hk (c_X8_step l D cy H aT aT_letters t_length t_place (0 : Int32) t_token t_value t_letters z10 (hP.sub [0, 1] rfl) (qD_sub hD [0, 1] (by decide) rfl) hz10) ok_X8_step tw_351 ⟨rfl, rfl, Nat.le_of_ble_eq_true rfl, Nat.le_of_ble_eq_true rfl⟩ (va_recv hk.1 hP (ci := 8) (q0 := 0) rfl rfl) rfl hl.1 rfl (Nat.le_of_ble_eq_true rfl) dX8_readInto_10 ⟨Nat.zero_le _, Nat.zero_le _⟩ rfl hP hD hS hA [0, 1] rfl rfl rfl rfl (fun H locs hP hD hS => ?_)
  refine lv_iconst (v := (0 : Int32)) hx hb dX8_readInto_13 (by decide) ?_
  refine lv_istore_n (lv' := [(2, .int (0 : Int32)), (0, .ref aT), (1, .ref aQ)]) hx hb dX8_readInto_14 rfl hl (by decide) rfl (fun ls hl => ?_)
  exact J15 FU (0 : Int32) (z10.1) (z10.2.1) (z10.2.2.1) (z10.2.2.2) (z1.1) (z1.2.1) (z1.2.2.1) (z1.2.2.2.1) (z1.2.2.2.2.1) (z1.2.2.2.2.2.1) (z1.2.2.2.2.2.2.1) (z1.2.2.2.2.2.2.2.1) (z1.2.2.2.2.2.2.2.2) H locs ls hP hD hS (lv_sub hl [1, 2, 0] rfl) hf
