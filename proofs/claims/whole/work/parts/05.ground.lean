def f_J13_bitCount_95d88 (x0 : Int64) : Option (Int32) := some (((((((((((x0 - ((lus x0 (1 : Int32)) &&& (6148914691236517205 : Int64))) &&& (3689348814741910323 : Int64)) + ((lus (x0 - ((lus x0 (1 : Int32)) &&& (6148914691236517205 : Int64))) (2 : Int32)) &&& (3689348814741910323 : Int64))) + (lus (((x0 - ((lus x0 (1 : Int32)) &&& (6148914691236517205 : Int64))) &&& (3689348814741910323 : Int64)) + ((lus (x0 - ((lus x0 (1 : Int32)) &&& (6148914691236517205 : Int64))) (2 : Int32)) &&& (3689348814741910323 : Int64))) (4 : Int32))) &&& (1085102592571150095 : Int64)) + (lus (((((x0 - ((lus x0 (1 : Int32)) &&& (6148914691236517205 : Int64))) &&& (3689348814741910323 : Int64)) + ((lus (x0 - ((lus x0 (1 : Int32)) &&& (6148914691236517205 : Int64))) (2 : Int32)) &&& (3689348814741910323 : Int64))) + (lus (((x0 - ((lus x0 (1 : Int32)) &&& (6148914691236517205 : Int64))) &&& (3689348814741910323 : Int64)) + ((lus (x0 - ((lus x0 (1 : Int32)) &&& (6148914691236517205 : Int64))) (2 : Int32)) &&& (3689348814741910323 : Int64))) (4 : Int32))) &&& (1085102592571150095 : Int64)) (8 : Int32))) + (lus ((((((x0 - ((lus x0 (1 : Int32)) &&& (6148914691236517205 : Int64))) &&& (3689348814741910323 : Int64)) + ((lus (x0 - ((lus x0 (1 : Int32)) &&& (6148914691236517205 : Int64))) (2 : Int32)) &&& (3689348814741910323 : Int64))) + (lus (((x0 - ((lus x0 (1 : Int32)) &&& (6148914691236517205 : Int64))) &&& (3689348814741910323 : Int64)) + ((lus (x0 - ((lus x0 (1 : Int32)) &&& (6148914691236517205 : Int64))) (2 : Int32)) &&& (3689348814741910323 : Int64))) (4 : Int32))) &&& (1085102592571150095 : Int64)) + (lus (((((x0 - ((lus x0 (1 : Int32)) &&& (6148914691236517205 : Int64))) &&& (3689348814741910323 : Int64)) + ((lus (x0 - ((lus x0 (1 : Int32)) &&& (6148914691236517205 : Int64))) (2 : Int32)) &&& (3689348814741910323 : Int64))) + (lus (((x0 - ((lus x0 (1 : Int32)) &&& (6148914691236517205 : Int64))) &&& (3689348814741910323 : Int64)) + ((lus (x0 - ((lus x0 (1 : Int32)) &&& (6148914691236517205 : Int64))) (2 : Int32)) &&& (3689348814741910323 : Int64))) (4 : Int32))) &&& (1085102592571150095 : Int64)) (8 : Int32))) (16 : Int32))) + (lus (((((((x0 - ((lus x0 (1 : Int32)) &&& (6148914691236517205 : Int64))) &&& (3689348814741910323 : Int64)) + ((lus (x0 - ((lus x0 (1 : Int32)) &&& (6148914691236517205 : Int64))) (2 : Int32)) &&& (3689348814741910323 : Int64))) + (lus (((x0 - ((lus x0 (1 : Int32)) &&& (6148914691236517205 : Int64))) &&& (3689348814741910323 : Int64)) + ((lus (x0 - ((lus x0 (1 : Int32)) &&& (6148914691236517205 : Int64))) (2 : Int32)) &&& (3689348814741910323 : Int64))) (4 : Int32))) &&& (1085102592571150095 : Int64)) + (lus (((((x0 - ((lus x0 (1 : Int32)) &&& (6148914691236517205 : Int64))) &&& (3689348814741910323 : Int64)) + ((lus (x0 - ((lus x0 (1 : Int32)) &&& (6148914691236517205 : Int64))) (2 : Int32)) &&& (3689348814741910323 : Int64))) + (lus (((x0 - ((lus x0 (1 : Int32)) &&& (6148914691236517205 : Int64))) &&& (3689348814741910323 : Int64)) + ((lus (x0 - ((lus x0 (1 : Int32)) &&& (6148914691236517205 : Int64))) (2 : Int32)) &&& (3689348814741910323 : Int64))) (4 : Int32))) &&& (1085102592571150095 : Int64)) (8 : Int32))) + (lus ((((((x0 - ((lus x0 (1 : Int32)) &&& (6148914691236517205 : Int64))) &&& (3689348814741910323 : Int64)) + ((lus (x0 - ((lus x0 (1 : Int32)) &&& (6148914691236517205 : Int64))) (2 : Int32)) &&& (3689348814741910323 : Int64))) + (lus (((x0 - ((lus x0 (1 : Int32)) &&& (6148914691236517205 : Int64))) &&& (3689348814741910323 : Int64)) + ((lus (x0 - ((lus x0 (1 : Int32)) &&& (6148914691236517205 : Int64))) (2 : Int32)) &&& (3689348814741910323 : Int64))) (4 : Int32))) &&& (1085102592571150095 : Int64)) + (lus (((((x0 - ((lus x0 (1 : Int32)) &&& (6148914691236517205 : Int64))) &&& (3689348814741910323 : Int64)) + ((lus (x0 - ((lus x0 (1 : Int32)) &&& (6148914691236517205 : Int64))) (2 : Int32)) &&& (3689348814741910323 : Int64))) + (lus (((x0 - ((lus x0 (1 : Int32)) &&& (6148914691236517205 : Int64))) &&& (3689348814741910323 : Int64)) + ((lus (x0 - ((lus x0 (1 : Int32)) &&& (6148914691236517205 : Int64))) (2 : Int32)) &&& (3689348814741910323 : Int64))) (4 : Int32))) &&& (1085102592571150095 : Int64)) (8 : Int32))) (16 : Int32))) (32 : Int32)))).toInt32) &&& (127 : Int32))
theorem ok_J13_bitCount_95d88 : OkS yJ13_bitCount_95d88 cJ13_bitCount_95d88 2 (some Jvm.ClassFile.FieldType.int) 1 := ⟨⟨tw_137, tw_6, by decide +kernel, by decide +kernel, by decide +kernel⟩, tw_136⟩
set_option maxHeartbeats 4000000 in
set_option maxRecDepth 100000 in
theorem c_J13_bitCount_95d88 (l : Launch) (D : va_G) (cy : ClassId × ClassId × ClassId) (H0 : Heap) (x0 : Int64) (r : Int32) (hf : f_J13_bitCount_95d88 x0 = some r) : Rd l yJ13_bitCount_95d88 cJ13_bitCount_95d88 2 (some Jvm.ClassFile.FieldType.int) ({ frames := 0, cells := 0, slots := 0, locals := 0 } : Room) ([.long x0] : List Value) (some (.int r)) D cy H0 := by
  refine rd_of (by decide +kernel) (Nat.le_of_ble_eq_true rfl) ?_
  intro p e s m below meth c ls S hr hlocks hk hl
  obtain ⟨hx, hb, hml, hown, hts⟩ := id S
  have hl : lv_has ls 2 [(0, .long x0)] := hl
  rw [f_J13_bitCount_95d88] at hf
  refine lv_lload_n hx hb dJ13_bitCount_95d88_0 rfl (lv_at hl 0 rfl) ?_
  refine lv_lload_n hx hb dJ13_bitCount_95d88_1 rfl (lv_at hl 0 rfl) ?_
  refine lv_iconst (v := (1 : Int32)) hx hb dJ13_bitCount_95d88_2 (by decide) ?_
  refine lv_lushr (v := (lus x0 (1 : Int32))) hx hb dJ13_bitCount_95d88_3 rfl ?_
  refine lv_ldc2 hx hb hown (hts _ tw_138) dJ13_bitCount_95d88_4 ?_
  refine lv_land hx hb dJ13_bitCount_95d88_7 ?_
  refine lv_lsub hx hb dJ13_bitCount_95d88_8 ?_
  refine lv_lstore_n (lv' := [(0, .long (x0 - ((lus x0 (1 : Int32)) &&& (6148914691236517205 : Int64))))]) hx hb dJ13_bitCount_95d88_9 rfl hl (by decide) rfl (fun ls hl => ?_)
  refine lv_lload_n hx hb dJ13_bitCount_95d88_10 rfl (lv_at hl 0 rfl) ?_
  refine lv_ldc2 hx hb hown (hts _ tw_139) dJ13_bitCount_95d88_11 ?_
  refine lv_land hx hb dJ13_bitCount_95d88_14 ?_
  refine lv_lload_n hx hb dJ13_bitCount_95d88_15 rfl (lv_at hl 0 rfl) ?_
  refine lv_iconst (v := (2 : Int32)) hx hb dJ13_bitCount_95d88_16 (by decide) ?_
  refine lv_lushr (v := (lus (x0 - ((lus x0 (1 : Int32)) &&& (6148914691236517205 : Int64))) (2 : Int32))) hx hb dJ13_bitCount_95d88_17 rfl ?_
  refine lv_ldc2 hx hb hown (hts _ tw_139) dJ13_bitCount_95d88_18 ?_
  refine lv_land hx hb dJ13_bitCount_95d88_21 ?_
  refine lv_ladd hx hb dJ13_bitCount_95d88_22 ?_
  refine lv_lstore_n (lv' := [(0, .long (((x0 - ((lus x0 (1 : Int32)) &&& (6148914691236517205 : Int64))) &&& (3689348814741910323 : Int64)) + ((lus (x0 - ((lus x0 (1 : Int32)) &&& (6148914691236517205 : Int64))) (2 : Int32)) &&& (3689348814741910323 : Int64))))]) hx hb dJ13_bitCount_95d88_23 rfl hl (by decide) rfl (fun ls hl => ?_)
  refine lv_lload_n hx hb dJ13_bitCount_95d88_24 rfl (lv_at hl 0 rfl) ?_
  refine lv_lload_n hx hb dJ13_bitCount_95d88_25 rfl (lv_at hl 0 rfl) ?_
  refine lv_iconst (v := (4 : Int32)) hx hb dJ13_bitCount_95d88_26 (by decide) ?_
  refine lv_lushr (v := (lus (((x0 - ((lus x0 (1 : Int32)) &&& (6148914691236517205 : Int64))) &&& (3689348814741910323 : Int64)) + ((lus (x0 - ((lus x0 (1 : Int32)) &&& (6148914691236517205 : Int64))) (2 : Int32)) &&& (3689348814741910323 : Int64))) (4 : Int32))) hx hb dJ13_bitCount_95d88_27 rfl ?_
  refine lv_ladd hx hb dJ13_bitCount_95d88_28 ?_
  refine lv_ldc2 hx hb hown (hts _ tw_140) dJ13_bitCount_95d88_29 ?_
  refine lv_land hx hb dJ13_bitCount_95d88_32 ?_
  refine lv_lstore_n (lv' := [(0, .long (((((x0 - ((lus x0 (1 : Int32)) &&& (6148914691236517205 : Int64))) &&& (3689348814741910323 : Int64)) + ((lus (x0 - ((lus x0 (1 : Int32)) &&& (6148914691236517205 : Int64))) (2 : Int32)) &&& (3689348814741910323 : Int64))) + (lus (((x0 - ((lus x0 (1 : Int32)) &&& (6148914691236517205 : Int64))) &&& (3689348814741910323 : Int64)) + ((lus (x0 - ((lus x0 (1 : Int32)) &&& (6148914691236517205 : Int64))) (2 : Int32)) &&& (3689348814741910323 : Int64))) (4 : Int32))) &&& (1085102592571150095 : Int64)))]) hx hb dJ13_bitCount_95d88_33 rfl hl (by decide) rfl (fun ls hl => ?_)
  refine lv_lload_n hx hb dJ13_bitCount_95d88_34 rfl (lv_at hl 0 rfl) ?_
  refine lv_lload_n hx hb dJ13_bitCount_95d88_35 rfl (lv_at hl 0 rfl) ?_
  refine lv_bipush (v := (8 : Int32)) hx hb dJ13_bitCount_95d88_36 (by decide) ?_
  refine lv_lushr (v := (lus (((((x0 - ((lus x0 (1 : Int32)) &&& (6148914691236517205 : Int64))) &&& (3689348814741910323 : Int64)) + ((lus (x0 - ((lus x0 (1 : Int32)) &&& (6148914691236517205 : Int64))) (2 : Int32)) &&& (3689348814741910323 : Int64))) + (lus (((x0 - ((lus x0 (1 : Int32)) &&& (6148914691236517205 : Int64))) &&& (3689348814741910323 : Int64)) + ((lus (x0 - ((lus x0 (1 : Int32)) &&& (6148914691236517205 : Int64))) (2 : Int32)) &&& (3689348814741910323 : Int64))) (4 : Int32))) &&& (1085102592571150095 : Int64)) (8 : Int32))) hx hb dJ13_bitCount_95d88_38 rfl ?_
  refine lv_ladd hx hb dJ13_bitCount_95d88_39 ?_
  refine lv_lstore_n (lv' := [(0, .long ((((((x0 - ((lus x0 (1 : Int32)) &&& (6148914691236517205 : Int64))) &&& (3689348814741910323 : Int64)) + ((lus (x0 - ((lus x0 (1 : Int32)) &&& (6148914691236517205 : Int64))) (2 : Int32)) &&& (3689348814741910323 : Int64))) + (lus (((x0 - ((lus x0 (1 : Int32)) &&& (6148914691236517205 : Int64))) &&& (3689348814741910323 : Int64)) + ((lus (x0 - ((lus x0 (1 : Int32)) &&& (6148914691236517205 : Int64))) (2 : Int32)) &&& (3689348814741910323 : Int64))) (4 : Int32))) &&& (1085102592571150095 : Int64)) + (lus (((((x0 - ((lus x0 (1 : Int32)) &&& (6148914691236517205 : Int64))) &&& (3689348814741910323 : Int64)) + ((lus (x0 - ((lus x0 (1 : Int32)) &&& (6148914691236517205 : Int64))) (2 : Int32)) &&& (3689348814741910323 : Int64))) + (lus (((x0 - ((lus x0 (1 : Int32)) &&& (6148914691236517205 : Int64))) &&& (3689348814741910323 : Int64)) + ((lus (x0 - ((lus x0 (1 : Int32)) &&& (6148914691236517205 : Int64))) (2 : Int32)) &&& (3689348814741910323 : Int64))) (4 : Int32))) &&& (1085102592571150095 : Int64)) (8 : Int32))))]) hx hb dJ13_bitCount_95d88_40 rfl hl (by decide) rfl (fun ls hl => ?_)
  refine lv_lload_n hx hb dJ13_bitCount_95d88_41 rfl (lv_at hl 0 rfl) ?_
  refine lv_lload_n hx hb dJ13_bitCount_95d88_42 rfl (lv_at hl 0 rfl) ?_
  refine lv_bipush (v := (16 : Int32)) hx hb dJ13_bitCount_95d88_43 (by decide) ?_
  refine lv_lushr (v := (lus ((((((x0 - ((lus x0 (1 : Int32)) &&& (6148914691236517205 : Int64))) &&& (3689348814741910323 : Int64)) + ((lus (x0 - ((lus x0 (1 : Int32)) &&& (6148914691236517205 : Int64))) (2 : Int32)) &&& (3689348814741910323 : Int64))) + (lus (((x0 - ((lus x0 (1 : Int32)) &&& (6148914691236517205 : Int64))) &&& (3689348814741910323 : Int64)) + ((lus (x0 - ((lus x0 (1 : Int32)) &&& (6148914691236517205 : Int64))) (2 : Int32)) &&& (3689348814741910323 : Int64))) (4 : Int32))) &&& (1085102592571150095 : Int64)) + (lus (((((x0 - ((lus x0 (1 : Int32)) &&& (6148914691236517205 : Int64))) &&& (3689348814741910323 : Int64)) + ((lus (x0 - ((lus x0 (1 : Int32)) &&& (6148914691236517205 : Int64))) (2 : Int32)) &&& (3689348814741910323 : Int64))) + (lus (((x0 - ((lus x0 (1 : Int32)) &&& (6148914691236517205 : Int64))) &&& (3689348814741910323 : Int64)) + ((lus (x0 - ((lus x0 (1 : Int32)) &&& (6148914691236517205 : Int64))) (2 : Int32)) &&& (3689348814741910323 : Int64))) (4 : Int32))) &&& (1085102592571150095 : Int64)) (8 : Int32))) (16 : Int32))) hx hb dJ13_bitCount_95d88_45 rfl ?_
  refine lv_ladd hx hb dJ13_bitCount_95d88_46 ?_
  refine lv_lstore_n (lv' := [(0, .long (((((((x0 - ((lus x0 (1 : Int32)) &&& (6148914691236517205 : Int64))) &&& (3689348814741910323 : Int64)) + ((lus (x0 - ((lus x0 (1 : Int32)) &&& (6148914691236517205 : Int64))) (2 : Int32)) &&& (3689348814741910323 : Int64))) + (lus (((x0 - ((lus x0 (1 : Int32)) &&& (6148914691236517205 : Int64))) &&& (3689348814741910323 : Int64)) + ((lus (x0 - ((lus x0 (1 : Int32)) &&& (6148914691236517205 : Int64))) (2 : Int32)) &&& (3689348814741910323 : Int64))) (4 : Int32))) &&& (1085102592571150095 : Int64)) + (lus (((((x0 - ((lus x0 (1 : Int32)) &&& (6148914691236517205 : Int64))) &&& (3689348814741910323 : Int64)) + ((lus (x0 - ((lus x0 (1 : Int32)) &&& (6148914691236517205 : Int64))) (2 : Int32)) &&& (3689348814741910323 : Int64))) + (lus (((x0 - ((lus x0 (1 : Int32)) &&& (6148914691236517205 : Int64))) &&& (3689348814741910323 : Int64)) + ((lus (x0 - ((lus x0 (1 : Int32)) &&& (6148914691236517205 : Int64))) (2 : Int32)) &&& (3689348814741910323 : Int64))) (4 : Int32))) &&& (1085102592571150095 : Int64)) (8 : Int32))) + (lus ((((((x0 - ((lus x0 (1 : Int32)) &&& (6148914691236517205 : Int64))) &&& (3689348814741910323 : Int64)) + ((lus (x0 - ((lus x0 (1 : Int32)) &&& (6148914691236517205 : Int64))) (2 : Int32)) &&& (3689348814741910323 : Int64))) + (lus (((x0 - ((lus x0 (1 : Int32)) &&& (6148914691236517205 : Int64))) &&& (3689348814741910323 : Int64)) + ((lus (x0 - ((lus x0 (1 : Int32)) &&& (6148914691236517205 : Int64))) (2 : Int32)) &&& (3689348814741910323 : Int64))) (4 : Int32))) &&& (1085102592571150095 : Int64)) + (lus (((((x0 - ((lus x0 (1 : Int32)) &&& (6148914691236517205 : Int64))) &&& (3689348814741910323 : Int64)) + ((lus (x0 - ((lus x0 (1 : Int32)) &&& (6148914691236517205 : Int64))) (2 : Int32)) &&& (3689348814741910323 : Int64))) + (lus (((x0 - ((lus x0 (1 : Int32)) &&& (6148914691236517205 : Int64))) &&& (3689348814741910323 : Int64)) + ((lus (x0 - ((lus x0 (1 : Int32)) &&& (6148914691236517205 : Int64))) (2 : Int32)) &&& (3689348814741910323 : Int64))) (4 : Int32))) &&& (1085102592571150095 : Int64)) (8 : Int32))) (16 : Int32))))]) hx hb dJ13_bitCount_95d88_47 rfl hl (by decide) rfl (fun ls hl => ?_)
  refine lv_lload_n hx hb dJ13_bitCount_95d88_48 rfl (lv_at hl 0 rfl) ?_
  refine lv_lload_n hx hb dJ13_bitCount_95d88_49 rfl (lv_at hl 0 rfl) ?_
  refine lv_bipush (v := (32 : Int32)) hx hb dJ13_bitCount_95d88_50 (by decide) ?_
  refine lv_lushr (v := (lus (((((((x0 - ((lus x0 (1 : Int32)) &&& (6148914691236517205 : Int64))) &&& (3689348814741910323 : Int64)) + ((lus (x0 - ((lus x0 (1 : Int32)) &&& (6148914691236517205 : Int64))) (2 : Int32)) &&& (3689348814741910323 : Int64))) + (lus (((x0 - ((lus x0 (1 : Int32)) &&& (6148914691236517205 : Int64))) &&& (3689348814741910323 : Int64)) + ((lus (x0 - ((lus x0 (1 : Int32)) &&& (6148914691236517205 : Int64))) (2 : Int32)) &&& (3689348814741910323 : Int64))) (4 : Int32))) &&& (1085102592571150095 : Int64)) + (lus (((((x0 - ((lus x0 (1 : Int32)) &&& (6148914691236517205 : Int64))) &&& (3689348814741910323 : Int64)) + ((lus (x0 - ((lus x0 (1 : Int32)) &&& (6148914691236517205 : Int64))) (2 : Int32)) &&& (3689348814741910323 : Int64))) + (lus (((x0 - ((lus x0 (1 : Int32)) &&& (6148914691236517205 : Int64))) &&& (3689348814741910323 : Int64)) + ((lus (x0 - ((lus x0 (1 : Int32)) &&& (6148914691236517205 : Int64))) (2 : Int32)) &&& (3689348814741910323 : Int64))) (4 : Int32))) &&& (1085102592571150095 : Int64)) (8 : Int32))) + (lus ((((((x0 - ((lus x0 (1 : Int32)) &&& (6148914691236517205 : Int64))) &&& (3689348814741910323 : Int64)) + ((lus (x0 - ((lus x0 (1 : Int32)) &&& (6148914691236517205 : Int64))) (2 : Int32)) &&& (3689348814741910323 : Int64))) + (lus (((x0 - ((lus x0 (1 : Int32)) &&& (6148914691236517205 : Int64))) &&& (3689348814741910323 : Int64)) + ((lus (x0 - ((lus x0 (1 : Int32)) &&& (6148914691236517205 : Int64))) (2 : Int32)) &&& (3689348814741910323 : Int64))) (4 : Int32))) &&& (1085102592571150095 : Int64)) + (lus (((((x0 - ((lus x0 (1 : Int32)) &&& (6148914691236517205 : Int64))) &&& (3689348814741910323 : Int64)) + ((lus (x0 - ((lus x0 (1 : Int32)) &&& (6148914691236517205 : Int64))) (2 : Int32)) &&& (3689348814741910323 : Int64))) + (lus (((x0 - ((lus x0 (1 : Int32)) &&& (6148914691236517205 : Int64))) &&& (3689348814741910323 : Int64)) + ((lus (x0 - ((lus x0 (1 : Int32)) &&& (6148914691236517205 : Int64))) (2 : Int32)) &&& (3689348814741910323 : Int64))) (4 : Int32))) &&& (1085102592571150095 : Int64)) (8 : Int32))) (16 : Int32))) (32 : Int32))) hx hb dJ13_bitCount_95d88_52 rfl ?_
  refine lv_ladd hx hb dJ13_bitCount_95d88_53 ?_
  refine lv_lstore_n (lv' := [(0, .long ((((((((x0 - ((lus x0 (1 : Int32)) &&& (6148914691236517205 : Int64))) &&& (3689348814741910323 : Int64)) + ((lus (x0 - ((lus x0 (1 : Int32)) &&& (6148914691236517205 : Int64))) (2 : Int32)) &&& (3689348814741910323 : Int64))) + (lus (((x0 - ((lus x0 (1 : Int32)) &&& (6148914691236517205 : Int64))) &&& (3689348814741910323 : Int64)) + ((lus (x0 - ((lus x0 (1 : Int32)) &&& (6148914691236517205 : Int64))) (2 : Int32)) &&& (3689348814741910323 : Int64))) (4 : Int32))) &&& (1085102592571150095 : Int64)) + (lus (((((x0 - ((lus x0 (1 : Int32)) &&& (6148914691236517205 : Int64))) &&& (3689348814741910323 : Int64)) + ((lus (x0 - ((lus x0 (1 : Int32)) &&& (6148914691236517205 : Int64))) (2 : Int32)) &&& (3689348814741910323 : Int64))) + (lus (((x0 - ((lus x0 (1 : Int32)) &&& (6148914691236517205 : Int64))) &&& (3689348814741910323 : Int64)) + ((lus (x0 - ((lus x0 (1 : Int32)) &&& (6148914691236517205 : Int64))) (2 : Int32)) &&& (3689348814741910323 : Int64))) (4 : Int32))) &&& (1085102592571150095 : Int64)) (8 : Int32))) + (lus ((((((x0 - ((lus x0 (1 : Int32)) &&& (6148914691236517205 : Int64))) &&& (3689348814741910323 : Int64)) + ((lus (x0 - ((lus x0 (1 : Int32)) &&& (6148914691236517205 : Int64))) (2 : Int32)) &&& (3689348814741910323 : Int64))) + (lus (((x0 - ((lus x0 (1 : Int32)) &&& (6148914691236517205 : Int64))) &&& (3689348814741910323 : Int64)) + ((lus (x0 - ((lus x0 (1 : Int32)) &&& (6148914691236517205 : Int64))) (2 : Int32)) &&& (3689348814741910323 : Int64))) (4 : Int32))) &&& (1085102592571150095 : Int64)) + (lus (((((x0 - ((lus x0 (1 : Int32)) &&& (6148914691236517205 : Int64))) &&& (3689348814741910323 : Int64)) + ((lus (x0 - ((lus x0 (1 : Int32)) &&& (6148914691236517205 : Int64))) (2 : Int32)) &&& (3689348814741910323 : Int64))) + (lus (((x0 - ((lus x0 (1 : Int32)) &&& (6148914691236517205 : Int64))) &&& (3689348814741910323 : Int64)) + ((lus (x0 - ((lus x0 (1 : Int32)) &&& (6148914691236517205 : Int64))) (2 : Int32)) &&& (3689348814741910323 : Int64))) (4 : Int32))) &&& (1085102592571150095 : Int64)) (8 : Int32))) (16 : Int32))) + (lus (((((((x0 - ((lus x0 (1 : Int32)) &&& (6148914691236517205 : Int64))) &&& (3689348814741910323 : Int64)) + ((lus (x0 - ((lus x0 (1 : Int32)) &&& (6148914691236517205 : Int64))) (2 : Int32)) &&& (3689348814741910323 : Int64))) + (lus (((x0 - ((lus x0 (1 : Int32)) &&& (6148914691236517205 : Int64))) &&& (3689348814741910323 : Int64)) + ((lus (x0 - ((lus x0 (1 : Int32)) &&& (6148914691236517205 : Int64))) (2 : Int32)) &&& (3689348814741910323 : Int64))) (4 : Int32))) &&& (1085102592571150095 : Int64)) + (lus (((((x0 - ((lus x0 (1 : Int32)) &&& (6148914691236517205 : Int64))) &&& (3689348814741910323 : Int64)) + ((lus (x0 - ((lus x0 (1 : Int32)) &&& (6148914691236517205 : Int64))) (2 : Int32)) &&& (3689348814741910323 : Int64))) + (lus (((x0 - ((lus x0 (1 : Int32)) &&& (6148914691236517205 : Int64))) &&& (3689348814741910323 : Int64)) + ((lus (x0 - ((lus x0 (1 : Int32)) &&& (6148914691236517205 : Int64))) (2 : Int32)) &&& (3689348814741910323 : Int64))) (4 : Int32))) &&& (1085102592571150095 : Int64)) (8 : Int32))) + (lus ((((((x0 - ((lus x0 (1 : Int32)) &&& (6148914691236517205 : Int64))) &&& (3689348814741910323 : Int64)) + ((lus (x0 - ((lus x0 (1 : Int32)) &&& (6148914691236517205 : Int64))) (2 : Int32)) &&& (3689348814741910323 : Int64))) + (lus (((x0 - ((lus x0 (1 : Int32)) &&& (6148914691236517205 : Int64))) &&& (3689348814741910323 : Int64)) + ((lus (x0 - ((lus x0 (1 : Int32)) &&& (6148914691236517205 : Int64))) (2 : Int32)) &&& (3689348814741910323 : Int64))) (4 : Int32))) &&& (1085102592571150095 : Int64)) + (lus (((((x0 - ((lus x0 (1 : Int32)) &&& (6148914691236517205 : Int64))) &&& (3689348814741910323 : Int64)) + ((lus (x0 - ((lus x0 (1 : Int32)) &&& (6148914691236517205 : Int64))) (2 : Int32)) &&& (3689348814741910323 : Int64))) + (lus (((x0 - ((lus x0 (1 : Int32)) &&& (6148914691236517205 : Int64))) &&& (3689348814741910323 : Int64)) + ((lus (x0 - ((lus x0 (1 : Int32)) &&& (6148914691236517205 : Int64))) (2 : Int32)) &&& (3689348814741910323 : Int64))) (4 : Int32))) &&& (1085102592571150095 : Int64)) (8 : Int32))) (16 : Int32))) (32 : Int32))))]) hx hb dJ13_bitCount_95d88_54 rfl hl (by decide) rfl (fun ls hl => ?_)
  refine lv_lload_n hx hb dJ13_bitCount_95d88_55 rfl (lv_at hl 0 rfl) ?_
  refine lv_l2i (v := ((((((((((x0 - ((lus x0 (1 : Int32)) &&& (6148914691236517205 : Int64))) &&& (3689348814741910323 : Int64)) + ((lus (x0 - ((lus x0 (1 : Int32)) &&& (6148914691236517205 : Int64))) (2 : Int32)) &&& (3689348814741910323 : Int64))) + (lus (((x0 - ((lus x0 (1 : Int32)) &&& (6148914691236517205 : Int64))) &&& (3689348814741910323 : Int64)) + ((lus (x0 - ((lus x0 (1 : Int32)) &&& (6148914691236517205 : Int64))) (2 : Int32)) &&& (3689348814741910323 : Int64))) (4 : Int32))) &&& (1085102592571150095 : Int64)) + (lus (((((x0 - ((lus x0 (1 : Int32)) &&& (6148914691236517205 : Int64))) &&& (3689348814741910323 : Int64)) + ((lus (x0 - ((lus x0 (1 : Int32)) &&& (6148914691236517205 : Int64))) (2 : Int32)) &&& (3689348814741910323 : Int64))) + (lus (((x0 - ((lus x0 (1 : Int32)) &&& (6148914691236517205 : Int64))) &&& (3689348814741910323 : Int64)) + ((lus (x0 - ((lus x0 (1 : Int32)) &&& (6148914691236517205 : Int64))) (2 : Int32)) &&& (3689348814741910323 : Int64))) (4 : Int32))) &&& (1085102592571150095 : Int64)) (8 : Int32))) + (lus ((((((x0 - ((lus x0 (1 : Int32)) &&& (6148914691236517205 : Int64))) &&& (3689348814741910323 : Int64)) + ((lus (x0 - ((lus x0 (1 : Int32)) &&& (6148914691236517205 : Int64))) (2 : Int32)) &&& (3689348814741910323 : Int64))) + (lus (((x0 - ((lus x0 (1 : Int32)) &&& (6148914691236517205 : Int64))) &&& (3689348814741910323 : Int64)) + ((lus (x0 - ((lus x0 (1 : Int32)) &&& (6148914691236517205 : Int64))) (2 : Int32)) &&& (3689348814741910323 : Int64))) (4 : Int32))) &&& (1085102592571150095 : Int64)) + (lus (((((x0 - ((lus x0 (1 : Int32)) &&& (6148914691236517205 : Int64))) &&& (3689348814741910323 : Int64)) + ((lus (x0 - ((lus x0 (1 : Int32)) &&& (6148914691236517205 : Int64))) (2 : Int32)) &&& (3689348814741910323 : Int64))) + (lus (((x0 - ((lus x0 (1 : Int32)) &&& (6148914691236517205 : Int64))) &&& (3689348814741910323 : Int64)) + ((lus (x0 - ((lus x0 (1 : Int32)) &&& (6148914691236517205 : Int64))) (2 : Int32)) &&& (3689348814741910323 : Int64))) (4 : Int32))) &&& (1085102592571150095 : Int64)) (8 : Int32))) (16 : Int32))) + (lus (((((((x0 - ((lus x0 (1 : Int32)) &&& (6148914691236517205 : Int64))) &&& (3689348814741910323 : Int64)) + ((lus (x0 - ((lus x0 (1 : Int32)) &&& (6148914691236517205 : Int64))) (2 : Int32)) &&& (3689348814741910323 : Int64))) + (lus (((x0 - ((lus x0 (1 : Int32)) &&& (6148914691236517205 : Int64))) &&& (3689348814741910323 : Int64)) + ((lus (x0 - ((lus x0 (1 : Int32)) &&& (6148914691236517205 : Int64))) (2 : Int32)) &&& (3689348814741910323 : Int64))) (4 : Int32))) &&& (1085102592571150095 : Int64)) + (lus (((((x0 - ((lus x0 (1 : Int32)) &&& (6148914691236517205 : Int64))) &&& (3689348814741910323 : Int64)) + ((lus (x0 - ((lus x0 (1 : Int32)) &&& (6148914691236517205 : Int64))) (2 : Int32)) &&& (3689348814741910323 : Int64))) + (lus (((x0 - ((lus x0 (1 : Int32)) &&& (6148914691236517205 : Int64))) &&& (3689348814741910323 : Int64)) + ((lus (x0 - ((lus x0 (1 : Int32)) &&& (6148914691236517205 : Int64))) (2 : Int32)) &&& (3689348814741910323 : Int64))) (4 : Int32))) &&& (1085102592571150095 : Int64)) (8 : Int32))) + (lus ((((((x0 - ((lus x0 (1 : Int32)) &&& (6148914691236517205 : Int64))) &&& (3689348814741910323 : Int64)) + ((lus (x0 - ((lus x0 (1 : Int32)) &&& (6148914691236517205 : Int64))) (2 : Int32)) &&& (3689348814741910323 : Int64))) + (lus (((x0 - ((lus x0 (1 : Int32)) &&& (6148914691236517205 : Int64))) &&& (3689348814741910323 : Int64)) + ((lus (x0 - ((lus x0 (1 : Int32)) &&& (6148914691236517205 : Int64))) (2 : Int32)) &&& (3689348814741910323 : Int64))) (4 : Int32))) &&& (1085102592571150095 : Int64)) + (lus (((((x0 - ((lus x0 (1 : Int32)) &&& (6148914691236517205 : Int64))) &&& (3689348814741910323 : Int64)) + ((lus (x0 - ((lus x0 (1 : Int32)) &&& (6148914691236517205 : Int64))) (2 : Int32)) &&& (3689348814741910323 : Int64))) + (lus (((x0 - ((lus x0 (1 : Int32)) &&& (6148914691236517205 : Int64))) &&& (3689348814741910323 : Int64)) + ((lus (x0 - ((lus x0 (1 : Int32)) &&& (6148914691236517205 : Int64))) (2 : Int32)) &&& (3689348814741910323 : Int64))) (4 : Int32))) &&& (1085102592571150095 : Int64)) (8 : Int32))) (16 : Int32))) (32 : Int32)))).toInt32)) hx hb dJ13_bitCount_95d88_56 rfl ?_
  refine lv_bipush (v := (127 : Int32)) hx hb dJ13_bitCount_95d88_57 (by decide) ?_
  refine lv_iand hx hb dJ13_bitCount_95d88_59 ?_
  have hf := Option.some.inj hf
  subst hf
  exact q_riR hx hb hr hlocks dJ13_bitCount_95d88_60
def lp_J7_fill_53178_5 (x1 : Int32) : Nat → Int32 → Int32 → (Nat → Int32) → Option ((Nat → Int32))
  | 0, _, _, _ => none
  | n + 1, x2, x3, ar => if x3 ≤ x2 then (some ar) else (if inb x2 64 = true then (lp_J7_fill_53178_5 x1 n (x2 + 1) x3 (upd ar x2.toNatClampNeg x1)) else none)
theorem lp_J7_fill_53178_5_s (x1 : Int32) (n : Nat) (x2 : Int32) (x3 : Int32) (ar : Nat → Int32) : lp_J7_fill_53178_5 x1 (n + 1) x2 x3 ar = (if x3 ≤ x2 then (some ar) else (if inb x2 64 = true then (lp_J7_fill_53178_5 x1 n (x2 + 1) x3 (upd ar x2.toNatClampNeg x1)) else none)) := rfl
theorem lp_J7_fill_53178_5_z (x1 : Int32) (x2 : Int32) (x3 : Int32) (ar : Nat → Int32) : lp_J7_fill_53178_5 x1 0 x2 x3 ar = none := rfl
def f_J7_fill_53178 (ar : Nat → Int32) (x1 : Int32) : Option ((Nat → Int32)) := lp_J7_fill_53178_5 x1 FU (0 : Int32) (64 : Int32) ar
theorem ok_J7_fill_53178 : OkS yJ7_fill_53178 cJ7_fill_53178 4 none 2 := ⟨⟨tw_405, tw_14, by decide +kernel, by decide +kernel, by decide +kernel⟩, tw_404⟩
set_option maxHeartbeats 4000000 in
set_option maxRecDepth 100000 in
theorem c_J7_fill_53178 (l : Launch) (D : va_G) (cy : ClassId × ClassId × ClassId) (H0 : Heap) (aAr : Nat) (ar : Nat → Int32) (x1 : Int32) (r : (Nat → Int32)) (hP : va_P D vwCl [(aAr, .inl (cy.1, 64, .inl ar))] H0) (hD0 : va_D (fun _ => True) [(aAr, .inl (cy.1, 64, .inl ar))]) (hf : f_J7_fill_53178 ar x1 = some r) : Wr l yJ7_fill_53178 cJ7_fill_53178 4 none ({ frames := 0, cells := 0, slots := 0, locals := 0 } : Room) ([.ref aAr, .int x1] : List Value) none D cy H0 [(aAr, .inl (cy.1, 64, .inl ar))] [(aAr, .inl (cy.1, 64, .inl r))] := by
  refine wr_of (by decide +kernel) (Nat.le_of_ble_eq_true rfl) hD0 ?_
  intro p e s m below meth c ls A S hr hlocks hk hl hD hS hA
  obtain ⟨hx, hb, hml, hown, hts⟩ := id S
  have hl : lv_has ls 4 [(0, .ref aAr), (1, .int x1)] := hl
  rw [f_J7_fill_53178] at hf
  have J5 : ∀ (n5 : Nat) (x2 : Int32) (x3 : Int32) (ar : Nat → Int32) (H : Heap) (locs : List Loc) (ls : Array Slot), va_P D vwCl [(aAr, .inl (cy.1, 64, .inl ar))] H → va_D A [(aAr, .inl (cy.1, 64, .inl ar))] → va_S A H0 H locs → lv_has ls 4 [(0, .ref aAr), (1, .int x1), (2, .int x2), (3, .int x3)] → lp_J7_fill_53178_5 x1 n5 x2 x3 ar = some r → W p l e ({ frames := 0, cells := 0, slots := 0, locals := 0 } : Room) s m ([.ref aAr, .int x1] : List Value).toArray below meth c H locs 0 0 (MQ below (QW none D [(aAr, .inl (cy.1, 64, .inl r))] H0 A) ([.ref aAr, .int x1] : List Value).toArray s 0 0 A) (F0 m 5 ls []) := by
    intro n5
    induction n5 with
    | zero =>
      intro x2 x3 ar H locs ls hP hD hS hl hf
      rw [lp_J7_fill_53178_5_z] at hf
      cases hf
    | succ n5 ih5 =>
      intro x2 x3 ar H locs ls hP hD hS hl hf
      rw [lp_J7_fill_53178_5_s] at hf
      refine lv_iload_n hx hb dJ7_fill_53178_5 rfl (lv_at hl 2 rfl) ?_
      refine lv_iload_n hx hb dJ7_fill_53178_6 rfl (lv_at hl 3 rfl) ?_
      refine lv_icmp_ge (tgt := 20) hx hb dJ7_fill_53178_7 (by decide) (fun hc => ?_) (fun hc => ?_)
      · have hf := q_t hc hf
        have hf := Option.some.inj hf
        subst hf
        exact q_rvW hP hS hx hb hr hlocks dJ7_fill_53178_20
      · have hf := q_f hc hf
        refine lv_aload_n hx hb dJ7_fill_53178_10 rfl (lv_at hl 0 rfl) ?_
        refine lv_iload_n hx hb dJ7_fill_53178_11 rfl (lv_at hl 2 rfl) ?_
        refine lv_iload_n hx hb dJ7_fill_53178_12 rfl (lv_at hl 1 rfl) ?_
        obtain ⟨hi, hf⟩ := q_in hf
        refine va_iast hx hb hk.1 hP hD hS 0 0 rfl rfl hi dJ7_fill_53178_13 (fun H locs hP hD hS => ?_)
        have hP : va_P D vwCl [(aAr, .inl (cy.1, 64, .inl (upd ar x2.toNatClampNeg x1)))] H := hP
        have hD : va_D A [(aAr, .inl (cy.1, 64, .inl (upd ar x2.toNatClampNeg x1)))] := hD
        refine lv_iinc (v := (x2 + 1)) (lv' := [(2, .int (x2 + 1)), (0, .ref aAr), (1, .int x1), (3, .int x3)]) hx hb dJ7_fill_53178_14 hl (k := 2) rfl rfl (by decide) rfl (fun ls hl => ?_)
        refine lv_goto (tgt := 5) hx hb dJ7_fill_53178_17 (by decide) ?_
        exact ih5 (x2 + 1) x3 (upd ar x2.toNatClampNeg x1) H locs ls hP hD hS (lv_sub hl [1, 2, 0, 3] rfl) hf
  refine lv_iconst (v := (0 : Int32)) hx hb dJ7_fill_53178_0 (by decide) ?_
  refine lv_istore_n (lv' := [(2, .int (0 : Int32)), (0, .ref aAr), (1, .int x1)]) hx hb dJ7_fill_53178_1 rfl hl (by decide) rfl (fun ls hl => ?_)
  refine lv_aload_n hx hb dJ7_fill_53178_2 rfl (lv_at hl 1 rfl) ?_
  refine va_alen (v := (64 : Int32)) hx hb hk.1 hP 0 0 rfl rfl rfl dJ7_fill_53178_3 ?_
  refine lv_istore_n (lv' := [(3, .int (64 : Int32)), (2, .int (0 : Int32)), (0, .ref aAr), (1, .int x1)]) hx hb dJ7_fill_53178_4 rfl hl (by decide) rfl (fun ls hl => ?_)
  exact J5 FU (0 : Int32) (64 : Int32) ar H0 [] ls hP hD hS (lv_sub hl [2, 3, 1, 0] rfl) hf
def f_X9_has (x0 : Int64) (x2 : Int32) : Option (Int32) := if (lg_cmp ((lus x0 x2) &&& (1 : Int64)) (0 : Int64)) = 0 then (some (0 : Int32)) else (some (1 : Int32))
theorem ok_X9_has : OkS yX9_has cX9_has 3 (some Jvm.ClassFile.FieldType.boolean) 2 := ⟨⟨tw_393, tw_1, by decide +kernel, by decide +kernel, by decide +kernel⟩, tw_392⟩
set_option maxHeartbeats 4000000 in
set_option maxRecDepth 100000 in
theorem c_X9_has (l : Launch) (D : va_G) (cy : ClassId × ClassId × ClassId) (H0 : Heap) (x0 : Int64) (x2 : Int32) (r : Int32) (hf : f_X9_has x0 x2 = some r) : Rd l yX9_has cX9_has 3 (some Jvm.ClassFile.FieldType.boolean) ({ frames := 0, cells := 0, slots := 0, locals := 0 } : Room) ([.long x0, .int x2] : List Value) (some (.int r)) D cy H0 := by
  refine rd_of (by decide +kernel) (Nat.le_of_ble_eq_true rfl) ?_
  intro p e s m below meth c ls S hr hlocks hk hl
  obtain ⟨hx, hb, hml, hown, hts⟩ := id S
  have hl : lv_has ls 3 [(0, .long x0), (2, .int x2)] := hl
  rw [f_X9_has] at hf
  refine lv_lload_n hx hb dX9_has_0 rfl (lv_at hl 0 rfl) ?_
  refine lv_iload_n hx hb dX9_has_1 rfl (lv_at hl 1 rfl) ?_
  refine lv_lushr (v := (lus x0 x2)) hx hb dX9_has_2 rfl ?_
  refine lv_lconst (v := (1 : Int64)) hx hb dX9_has_3 (by decide) ?_
  refine lv_land hx hb dX9_has_4 ?_
  refine lv_lconst (v := (0 : Int64)) hx hb dX9_has_5 (by decide) ?_
  refine W.lcmp hx hb dX9_has_6 ?_
  refine lv_if_eq (tgt := 14) hx hb dX9_has_7 (by decide) (fun hc => ?_) (fun hc => ?_)
  · have hf := q_t hc hf
    refine lv_iconst (v := (0 : Int32)) hx hb dX9_has_14 (by decide) ?_
    have hf := Option.some.inj hf
    subst hf
    exact q_rzR (Or.inl rfl) hx hb hr hlocks dX9_has_15
  · have hf := q_f hc hf
    refine lv_iconst (v := (1 : Int32)) hx hb dX9_has_10 (by decide) ?_
    refine lv_goto (tgt := 15) hx hb dX9_has_11 (by decide) ?_
    have hf := Option.some.inj hf
    subst hf
    exact q_rzR (Or.inr rfl) hx hb hr hlocks dX9_has_15
def f_X5_reset (p_width : Int32) (p_height : Int32) (p_kernel : Int32) (p_power : Int32) (p_fall : Int32) (p_ax : Int32) (p_ay : Int32) (p_shut : Int64) (p_dots : Int64) : Option (Int32 × Int32 × Int32 × Int32 × Int32 × Int32 × Int32 × Int64 × Int64) := some ((4 : Int32), (4 : Int32), (0 : Int32), (100 : Int32), (1 : Int32), (1 : Int32), (1 : Int32), (0 : Int64), (0 : Int64))
theorem ok_X5_reset : OkV yX5_reset cX5_reset 1 none 0 := ⟨⟨tw_60, tw_3, by decide +kernel, by decide +kernel, by decide +kernel⟩, tw_58, tw_59⟩
set_option maxHeartbeats 4000000 in
set_option maxRecDepth 100000 in
theorem c_X5_reset (l : Launch) (D : va_G) (cy : ClassId × ClassId × ClassId) (H0 : Heap) (aP : Nat) (p_width : Int32) (p_height : Int32) (p_kernel : Int32) (p_power : Int32) (p_fall : Int32) (p_ax : Int32) (p_ay : Int32) (p_shut : Int64) (p_dots : Int64) (r : Int32 × Int32 × Int32 × Int32 × Int32 × Int32 × Int32 × Int64 × Int64) (hP : va_P D vwCl [(aP, .inr (5, [.int p_width, .int p_height, .int p_kernel, .int p_power, .int p_fall, .int p_ax, .int p_ay, .long p_shut, .long p_dots]))] H0) (hD0 : va_D (fun _ => True) [(aP, .inr (5, [.int p_width, .int p_height, .int p_kernel, .int p_power, .int p_fall, .int p_ax, .int p_ay, .long p_shut, .long p_dots]))]) (hf : f_X5_reset p_width p_height p_kernel p_power p_fall p_ax p_ay p_shut p_dots = some r) : Wr l yX5_reset cX5_reset 1 none ({ frames := 0, cells := 0, slots := 0, locals := 0 } : Room) ([.ref aP] : List Value) none D cy H0 [(aP, .inr (5, [.int p_width, .int p_height, .int p_kernel, .int p_power, .int p_fall, .int p_ax, .int p_ay, .long p_shut, .long p_dots]))] [(aP, .inr (5, [.int (r.1), .int (r.2.1), .int (r.2.2.1), .int (r.2.2.2.1), .int (r.2.2.2.2.1), .int (r.2.2.2.2.2.1), .int (r.2.2.2.2.2.2.1), .long (r.2.2.2.2.2.2.2.1), .long (r.2.2.2.2.2.2.2.2)]))] := by
  refine wr_of (by decide +kernel) (Nat.le_of_ble_eq_true rfl) hD0 ?_
  intro p e s m below meth c ls A S hr hlocks hk hl hD hS hA
  obtain ⟨hx, hb, hml, hown, hts⟩ := id S
  have hl : lv_has ls 1 [(0, .ref aP)] := hl
  rw [f_X5_reset] at hf
  refine lv_aload_n hx hb dX5_reset_0 rfl (lv_at hl 0 rfl) ?_
  refine lv_iconst (v := (4 : Int32)) hx hb dX5_reset_1 (by decide) ?_
  refine va_put (D := D) (ci := 5) (v := .int (4 : Int32)) (ty := .int) (C := RX5) (T := TX5) (N := 9) hx hb hts iX5 tyX5 tyX5_ok nmX5 hown hk.1 hP hD hS 0 rfl rfl 0 (by decide) (hts _ tw_61) (fun _ h9 => h9) rfl (by decide +kernel) rfl rfl (Nat.le_of_ble_eq_true rfl) dX5_reset_2 (fun H locs hP hD hS => ?_)
  have hP : va_P D vwCl [(aP, .inr (5, [.int (4 : Int32), .int p_height, .int p_kernel, .int p_power, .int p_fall, .int p_ax, .int p_ay, .long p_shut, .long p_dots]))] H := hP
  have hD : va_D A [(aP, .inr (5, [.int (4 : Int32), .int p_height, .int p_kernel, .int p_power, .int p_fall, .int p_ax, .int p_ay, .long p_shut, .long p_dots]))] := hD
  refine lv_aload_n hx hb dX5_reset_5 rfl (lv_at hl 0 rfl) ?_
  refine lv_iconst (v := (4 : Int32)) hx hb dX5_reset_6 (by decide) ?_
  refine va_put (D := D) (ci := 5) (v := .int (4 : Int32)) (ty := .int) (C := RX5) (T := TX5) (N := 9) hx hb hts iX5 tyX5 tyX5_ok nmX5 hown hk.1 hP hD hS 0 rfl rfl 1 (by decide) (hts _ tw_65) (fun _ h9 => h9) rfl (by decide +kernel) rfl rfl (Nat.le_of_ble_eq_true rfl) dX5_reset_7 (fun H locs hP hD hS => ?_)
  have hP : va_P D vwCl [(aP, .inr (5, [.int (4 : Int32), .int (4 : Int32), .int p_kernel, .int p_power, .int p_fall, .int p_ax, .int p_ay, .long p_shut, .long p_dots]))] H := hP
  have hD : va_D A [(aP, .inr (5, [.int (4 : Int32), .int (4 : Int32), .int p_kernel, .int p_power, .int p_fall, .int p_ax, .int p_ay, .long p_shut, .long p_dots]))] := hD
  refine lv_aload_n hx hb dX5_reset_10 rfl (lv_at hl 0 rfl) ?_
  refine lv_iconst (v := (0 : Int32)) hx hb dX5_reset_11 (by decide) ?_
  refine va_put (D := D) (ci := 5) (v := .int (0 : Int32)) (ty := .int) (C := RX5) (T := TX5) (N := 9) hx hb hts iX5 tyX5 tyX5_ok nmX5 hown hk.1 hP hD hS 0 rfl rfl 2 (by decide) (hts _ tw_69) (fun _ h9 => h9) rfl (by decide +kernel) rfl rfl (Nat.le_of_ble_eq_true rfl) dX5_reset_12 (fun H locs hP hD hS => ?_)
  have hP : va_P D vwCl [(aP, .inr (5, [.int (4 : Int32), .int (4 : Int32), .int (0 : Int32), .int p_power, .int p_fall, .int p_ax, .int p_ay, .long p_shut, .long p_dots]))] H := hP
  have hD : va_D A [(aP, .inr (5, [.int (4 : Int32), .int (4 : Int32), .int (0 : Int32), .int p_power, .int p_fall, .int p_ax, .int p_ay, .long p_shut, .long p_dots]))] := hD
  refine lv_aload_n hx hb dX5_reset_15 rfl (lv_at hl 0 rfl) ?_
  refine lv_bipush (v := (100 : Int32)) hx hb dX5_reset_16 (by decide) ?_
  refine va_put (D := D) (ci := 5) (v := .int (100 : Int32)) (ty := .int) (C := RX5) (T := TX5) (N := 9) hx hb hts iX5 tyX5 tyX5_ok nmX5 hown hk.1 hP hD hS 0 rfl rfl 3 (by decide) (hts _ tw_72) (fun _ h9 => h9) rfl (by decide +kernel) rfl rfl (Nat.le_of_ble_eq_true rfl) dX5_reset_18 (fun H locs hP hD hS => ?_)
  have hP : va_P D vwCl [(aP, .inr (5, [.int (4 : Int32), .int (4 : Int32), .int (0 : Int32), .int (100 : Int32), .int p_fall, .int p_ax, .int p_ay, .long p_shut, .long p_dots]))] H := hP
  have hD : va_D A [(aP, .inr (5, [.int (4 : Int32), .int (4 : Int32), .int (0 : Int32), .int (100 : Int32), .int p_fall, .int p_ax, .int p_ay, .long p_shut, .long p_dots]))] := hD
  refine lv_aload_n hx hb dX5_reset_21 rfl (lv_at hl 0 rfl) ?_
  refine lv_iconst (v := (1 : Int32)) hx hb dX5_reset_22 (by decide) ?_
  refine va_put (D := D) (ci := 5) (v := .int (1 : Int32)) (ty := .int) (C := RX5) (T := TX5) (N := 9) hx hb hts iX5 tyX5 tyX5_ok nmX5 hown hk.1 hP hD hS 0 rfl rfl 4 (by decide) (hts _ tw_75) (fun _ h9 => h9) rfl (by decide +kernel) rfl rfl (Nat.le_of_ble_eq_true rfl) dX5_reset_23 (fun H locs hP hD hS => ?_)
  have hP : va_P D vwCl [(aP, .inr (5, [.int (4 : Int32), .int (4 : Int32), .int (0 : Int32), .int (100 : Int32), .int (1 : Int32), .int p_ax, .int p_ay, .long p_shut, .long p_dots]))] H := hP
  have hD : va_D A [(aP, .inr (5, [.int (4 : Int32), .int (4 : Int32), .int (0 : Int32), .int (100 : Int32), .int (1 : Int32), .int p_ax, .int p_ay, .long p_shut, .long p_dots]))] := hD
  refine lv_aload_n hx hb dX5_reset_26 rfl (lv_at hl 0 rfl) ?_
  refine lv_iconst (v := (1 : Int32)) hx hb dX5_reset_27 (by decide) ?_
  refine va_put (D := D) (ci := 5) (v := .int (1 : Int32)) (ty := .int) (C := RX5) (T := TX5) (N := 9) hx hb hts iX5 tyX5 tyX5_ok nmX5 hown hk.1 hP hD hS 0 rfl rfl 5 (by decide) (hts _ tw_78) (fun _ h9 => h9) rfl (by decide +kernel) rfl rfl (Nat.le_of_ble_eq_true rfl) dX5_reset_28 (fun H locs hP hD hS => ?_)
  have hP : va_P D vwCl [(aP, .inr (5, [.int (4 : Int32), .int (4 : Int32), .int (0 : Int32), .int (100 : Int32), .int (1 : Int32), .int (1 : Int32), .int p_ay, .long p_shut, .long p_dots]))] H := hP
  have hD : va_D A [(aP, .inr (5, [.int (4 : Int32), .int (4 : Int32), .int (0 : Int32), .int (100 : Int32), .int (1 : Int32), .int (1 : Int32), .int p_ay, .long p_shut, .long p_dots]))] := hD
  refine lv_aload_n hx hb dX5_reset_31 rfl (lv_at hl 0 rfl) ?_
  refine lv_iconst (v := (1 : Int32)) hx hb dX5_reset_32 (by decide) ?_
  refine va_put (D := D) (ci := 5) (v := .int (1 : Int32)) (ty := .int) (C := RX5) (T := TX5) (N := 9) hx hb hts iX5 tyX5 tyX5_ok nmX5 hown hk.1 hP hD hS 0 rfl rfl 6 (by decide) (hts _ tw_81) (fun _ h9 => h9) rfl (by decide +kernel) rfl rfl (Nat.le_of_ble_eq_true rfl) dX5_reset_33 (fun H locs hP hD hS => ?_)
  have hP : va_P D vwCl [(aP, .inr (5, [.int (4 : Int32), .int (4 : Int32), .int (0 : Int32), .int (100 : Int32), .int (1 : Int32), .int (1 : Int32), .int (1 : Int32), .long p_shut, .long p_dots]))] H := hP
  have hD : va_D A [(aP, .inr (5, [.int (4 : Int32), .int (4 : Int32), .int (0 : Int32), .int (100 : Int32), .int (1 : Int32), .int (1 : Int32), .int (1 : Int32), .long p_shut, .long p_dots]))] := hD
  refine lv_aload_n hx hb dX5_reset_36 rfl (lv_at hl 0 rfl) ?_
  refine lv_lconst (v := (0 : Int64)) hx hb dX5_reset_37 (by decide) ?_
  refine va_put (D := D) (ci := 5) (v := .long (0 : Int64)) (ty := .long) (C := RX5) (T := TX5) (N := 9) hx hb hts iX5 tyX5 tyX5_ok nmX5 hown hk.1 hP hD hS 0 rfl rfl 7 (by decide) (hts _ tw_84) (fun _ h9 => h9) rfl (by decide +kernel) rfl rfl (Nat.le_of_ble_eq_true rfl) dX5_reset_38 (fun H locs hP hD hS => ?_)
  have hP : va_P D vwCl [(aP, .inr (5, [.int (4 : Int32), .int (4 : Int32), .int (0 : Int32), .int (100 : Int32), .int (1 : Int32), .int (1 : Int32), .int (1 : Int32), .long (0 : Int64), .long p_dots]))] H := hP
  have hD : va_D A [(aP, .inr (5, [.int (4 : Int32), .int (4 : Int32), .int (0 : Int32), .int (100 : Int32), .int (1 : Int32), .int (1 : Int32), .int (1 : Int32), .long (0 : Int64), .long p_dots]))] := hD
  refine lv_aload_n hx hb dX5_reset_41 rfl (lv_at hl 0 rfl) ?_
  refine lv_lconst (v := (0 : Int64)) hx hb dX5_reset_42 (by decide) ?_
  refine va_put (D := D) (ci := 5) (v := .long (0 : Int64)) (ty := .long) (C := RX5) (T := TX5) (N := 9) hx hb hts iX5 tyX5 tyX5_ok nmX5 hown hk.1 hP hD hS 0 rfl rfl 8 (by decide) (hts _ tw_88) (fun _ h9 => h9) rfl (by decide +kernel) rfl rfl (Nat.le_of_ble_eq_true rfl) dX5_reset_43 (fun H locs hP hD hS => ?_)
  have hP : va_P D vwCl [(aP, .inr (5, [.int (4 : Int32), .int (4 : Int32), .int (0 : Int32), .int (100 : Int32), .int (1 : Int32), .int (1 : Int32), .int (1 : Int32), .long (0 : Int64), .long (0 : Int64)]))] H := hP
  have hD : va_D A [(aP, .inr (5, [.int (4 : Int32), .int (4 : Int32), .int (0 : Int32), .int (100 : Int32), .int (1 : Int32), .int (1 : Int32), .int (1 : Int32), .long (0 : Int64), .long (0 : Int64)]))] := hD
  have hf := Option.some.inj hf
  subst hf
  exact q_rvW hP hS hx hb hr hlocks dX5_reset_46
def f_X5_become (p_width : Int32) (p_height : Int32) (p_kernel : Int32) (p_power : Int32) (p_fall : Int32) (p_ax : Int32) (p_ay : Int32) (p_shut : Int64) (p_dots : Int64) (q_width : Int32) (q_height : Int32) (q_kernel : Int32) (q_power : Int32) (q_fall : Int32) (q_ax : Int32) (q_ay : Int32) (q_shut : Int64) (q_dots : Int64) : Option (Int32 × Int32 × Int32 × Int32 × Int32 × Int32 × Int32 × Int64 × Int64) := some (q_width, q_height, q_kernel, q_power, q_fall, q_ax, q_ay, q_shut, q_dots)
theorem ok_X5_become : OkV yX5_become cX5_become 2 none 1 := ⟨⟨tw_397, tw_3, by decide +kernel, by decide +kernel, by decide +kernel⟩, tw_395, tw_396⟩
set_option maxHeartbeats 4000000 in
set_option maxRecDepth 100000 in
theorem c_X5_become (l : Launch) (D : va_G) (cy : ClassId × ClassId × ClassId) (H0 : Heap) (aP aQ : Nat) (p_width : Int32) (p_height : Int32) (p_kernel : Int32) (p_power : Int32) (p_fall : Int32) (p_ax : Int32) (p_ay : Int32) (p_shut : Int64) (p_dots : Int64) (q_width : Int32) (q_height : Int32) (q_kernel : Int32) (q_power : Int32) (q_fall : Int32) (q_ax : Int32) (q_ay : Int32) (q_shut : Int64) (q_dots : Int64) (r : Int32 × Int32 × Int32 × Int32 × Int32 × Int32 × Int32 × Int64 × Int64) (hP : va_P D vwCl [(aP, .inr (5, [.int p_width, .int p_height, .int p_kernel, .int p_power, .int p_fall, .int p_ax, .int p_ay, .long p_shut, .long p_dots])), (aQ, .inr (5, [.int q_width, .int q_height, .int q_kernel, .int q_power, .int q_fall, .int q_ax, .int q_ay, .long q_shut, .long q_dots]))] H0) (hD0 : va_D (fun _ => True) [(aP, .inr (5, [.int p_width, .int p_height, .int p_kernel, .int p_power, .int p_fall, .int p_ax, .int p_ay, .long p_shut, .long p_dots])), (aQ, .inr (5, [.int q_width, .int q_height, .int q_kernel, .int q_power, .int q_fall, .int q_ax, .int q_ay, .long q_shut, .long q_dots]))]) (hf : f_X5_become p_width p_height p_kernel p_power p_fall p_ax p_ay p_shut p_dots q_width q_height q_kernel q_power q_fall q_ax q_ay q_shut q_dots = some r) : Wr l yX5_become cX5_become 2 none ({ frames := 0, cells := 0, slots := 0, locals := 0 } : Room) ([.ref aP, .ref aQ] : List Value) none D cy H0 [(aP, .inr (5, [.int p_width, .int p_height, .int p_kernel, .int p_power, .int p_fall, .int p_ax, .int p_ay, .long p_shut, .long p_dots])), (aQ, .inr (5, [.int q_width, .int q_height, .int q_kernel, .int q_power, .int q_fall, .int q_ax, .int q_ay, .long q_shut, .long q_dots]))] [(aP, .inr (5, [.int (r.1), .int (r.2.1), .int (r.2.2.1), .int (r.2.2.2.1), .int (r.2.2.2.2.1), .int (r.2.2.2.2.2.1), .int (r.2.2.2.2.2.2.1), .long (r.2.2.2.2.2.2.2.1), .long (r.2.2.2.2.2.2.2.2)])), (aQ, .inr (5, [.int q_width, .int q_height, .int q_kernel, .int q_power, .int q_fall, .int q_ax, .int q_ay, .long q_shut, .long q_dots]))] := by
  refine wr_of (by decide +kernel) (Nat.le_of_ble_eq_true rfl) hD0 ?_
  intro p e s m below meth c ls A S hr hlocks hk hl hD hS hA
  obtain ⟨hx, hb, hml, hown, hts⟩ := id S
  have hl : lv_has ls 2 [(0, .ref aP), (1, .ref aQ)] := hl
  rw [f_X5_become] at hf
  refine lv_aload_n hx hb dX5_become_0 rfl (lv_at hl 0 rfl) ?_
  refine lv_aload_n hx hb dX5_become_1 rfl (lv_at hl 1 rfl) ?_
  refine va_get (D := D) (ci := 5) (v := .int q_width) (C := RX5) (T := TX5) (N := 9) hx hb hts iX5 hown hk.1 hP 1 rfl rfl 0 (by decide) (hts _ tw_61) (fun _ h9 => h9) rfl dX5_become_2 ?_
  refine va_put (D := D) (ci := 5) (v := .int q_width) (ty := .int) (C := RX5) (T := TX5) (N := 9) hx hb hts iX5 tyX5 tyX5_ok nmX5 hown hk.1 hP hD hS 0 rfl rfl 0 (by decide) (hts _ tw_61) (fun _ h9 => h9) rfl (by decide +kernel) rfl rfl (Nat.le_of_ble_eq_true rfl) dX5_become_5 (fun H locs hP hD hS => ?_)
  have hP : va_P D vwCl [(aP, .inr (5, [.int q_width, .int p_height, .int p_kernel, .int p_power, .int p_fall, .int p_ax, .int p_ay, .long p_shut, .long p_dots])), (aQ, .inr (5, [.int q_width, .int q_height, .int q_kernel, .int q_power, .int q_fall, .int q_ax, .int q_ay, .long q_shut, .long q_dots]))] H := hP
  have hD : va_D A [(aP, .inr (5, [.int q_width, .int p_height, .int p_kernel, .int p_power, .int p_fall, .int p_ax, .int p_ay, .long p_shut, .long p_dots])), (aQ, .inr (5, [.int q_width, .int q_height, .int q_kernel, .int q_power, .int q_fall, .int q_ax, .int q_ay, .long q_shut, .long q_dots]))] := hD
  refine lv_aload_n hx hb dX5_become_8 rfl (lv_at hl 0 rfl) ?_
  refine lv_aload_n hx hb dX5_become_9 rfl (lv_at hl 1 rfl) ?_
  refine va_get (D := D) (ci := 5) (v := .int q_height) (C := RX5) (T := TX5) (N := 9) hx hb hts iX5 hown hk.1 hP 1 rfl rfl 1 (by decide) (hts _ tw_65) (fun _ h9 => h9) rfl dX5_become_10 ?_
  refine va_put (D := D) (ci := 5) (v := .int q_height) (ty := .int) (C := RX5) (T := TX5) (N := 9) hx hb hts iX5 tyX5 tyX5_ok nmX5 hown hk.1 hP hD hS 0 rfl rfl 1 (by decide) (hts _ tw_65) (fun _ h9 => h9) rfl (by decide +kernel) rfl rfl (Nat.le_of_ble_eq_true rfl) dX5_become_13 (fun H locs hP hD hS => ?_)
  have hP : va_P D vwCl [(aP, .inr (5, [.int q_width, .int q_height, .int p_kernel, .int p_power, .int p_fall, .int p_ax, .int p_ay, .long p_shut, .long p_dots])), (aQ, .inr (5, [.int q_width, .int q_height, .int q_kernel, .int q_power, .int q_fall, .int q_ax, .int q_ay, .long q_shut, .long q_dots]))] H := hP
  have hD : va_D A [(aP, .inr (5, [.int q_width, .int q_height, .int p_kernel, .int p_power, .int p_fall, .int p_ax, .int p_ay, .long p_shut, .long p_dots])), (aQ, .inr (5, [.int q_width, .int q_height, .int q_kernel, .int q_power, .int q_fall, .int q_ax, .int q_ay, .long q_shut, .long q_dots]))] := hD
  refine lv_aload_n hx hb dX5_become_16 rfl (lv_at hl 0 rfl) ?_
  refine lv_aload_n hx hb dX5_become_17 rfl (lv_at hl 1 rfl) ?_
  refine va_get (D := D) (ci := 5) (v := .int q_kernel) (C := RX5) (T := TX5) (N := 9) hx hb hts iX5 hown hk.1 hP 1 rfl rfl 2 (by decide) (hts _ tw_69) (fun _ h9 => h9) rfl dX5_become_18 ?_
  refine va_put (D := D) (ci := 5) (v := .int q_kernel) (ty := .int) (C := RX5) (T := TX5) (N := 9) hx hb hts iX5 tyX5 tyX5_ok nmX5 hown hk.1 hP hD hS 0 rfl rfl 2 (by decide) (hts _ tw_69) (fun _ h9 => h9) rfl (by decide +kernel) rfl rfl (Nat.le_of_ble_eq_true rfl) dX5_become_21 (fun H locs hP hD hS => ?_)
  have hP : va_P D vwCl [(aP, .inr (5, [.int q_width, .int q_height, .int q_kernel, .int p_power, .int p_fall, .int p_ax, .int p_ay, .long p_shut, .long p_dots])), (aQ, .inr (5, [.int q_width, .int q_height, .int q_kernel, .int q_power, .int q_fall, .int q_ax, .int q_ay, .long q_shut, .long q_dots]))] H := hP
  have hD : va_D A [(aP, .inr (5, [.int q_width, .int q_height, .int q_kernel, .int p_power, .int p_fall, .int p_ax, .int p_ay, .long p_shut, .long p_dots])), (aQ, .inr (5, [.int q_width, .int q_height, .int q_kernel, .int q_power, .int q_fall, .int q_ax, .int q_ay, .long q_shut, .long q_dots]))] := hD
  refine lv_aload_n hx hb dX5_become_24 rfl (lv_at hl 0 rfl) ?_
  refine lv_aload_n hx hb dX5_become_25 rfl (lv_at hl 1 rfl) ?_
  refine va_get (D := D) (ci := 5) (v := .int q_power) (C := RX5) (T := TX5) (N := 9) hx hb hts iX5 hown hk.1 hP 1 rfl rfl 3 (by decide) (hts _ tw_72) (fun _ h9 => h9) rfl dX5_become_26 ?_
  refine va_put (D := D) (ci := 5) (v := .int q_power) (ty := .int) (C := RX5) (T := TX5) (N := 9) hx hb hts iX5 tyX5 tyX5_ok nmX5 hown hk.1 hP hD hS 0 rfl rfl 3 (by decide) (hts _ tw_72) (fun _ h9 => h9) rfl (by decide +kernel) rfl rfl (Nat.le_of_ble_eq_true rfl) dX5_become_29 (fun H locs hP hD hS => ?_)
  have hP : va_P D vwCl [(aP, .inr (5, [.int q_width, .int q_height, .int q_kernel, .int q_power, .int p_fall, .int p_ax, .int p_ay, .long p_shut, .long p_dots])), (aQ, .inr (5, [.int q_width, .int q_height, .int q_kernel, .int q_power, .int q_fall, .int q_ax, .int q_ay, .long q_shut, .long q_dots]))] H := hP
  have hD : va_D A [(aP, .inr (5, [.int q_width, .int q_height, .int q_kernel, .int q_power, .int p_fall, .int p_ax, .int p_ay, .long p_shut, .long p_dots])), (aQ, .inr (5, [.int q_width, .int q_height, .int q_kernel, .int q_power, .int q_fall, .int q_ax, .int q_ay, .long q_shut, .long q_dots]))] := hD
  refine lv_aload_n hx hb dX5_become_32 rfl (lv_at hl 0 rfl) ?_
  refine lv_aload_n hx hb dX5_become_33 rfl (lv_at hl 1 rfl) ?_
  refine va_get (D := D) (ci := 5) (v := .int q_fall) (C := RX5) (T := TX5) (N := 9) hx hb hts iX5 hown hk.1 hP 1 rfl rfl 4 (by decide) (hts _ tw_75) (fun _ h9 => h9) rfl dX5_become_34 ?_
  refine va_put (D := D) (ci := 5) (v := .int q_fall) (ty := .int) (C := RX5) (T := TX5) (N := 9) hx hb hts iX5 tyX5 tyX5_ok nmX5 hown hk.1 hP hD hS 0 rfl rfl 4 (by decide) (hts _ tw_75) (fun _ h9 => h9) rfl (by decide +kernel) rfl rfl (Nat.le_of_ble_eq_true rfl) dX5_become_37 (fun H locs hP hD hS => ?_)
  have hP : va_P D vwCl [(aP, .inr (5, [.int q_width, .int q_height, .int q_kernel, .int q_power, .int q_fall, .int p_ax, .int p_ay, .long p_shut, .long p_dots])), (aQ, .inr (5, [.int q_width, .int q_height, .int q_kernel, .int q_power, .int q_fall, .int q_ax, .int q_ay, .long q_shut, .long q_dots]))] H := hP
  have hD : va_D A [(aP, .inr (5, [.int q_width, .int q_height, .int q_kernel, .int q_power, .int q_fall, .int p_ax, .int p_ay, .long p_shut, .long p_dots])), (aQ, .inr (5, [.int q_width, .int q_height, .int q_kernel, .int q_power, .int q_fall, .int q_ax, .int q_ay, .long q_shut, .long q_dots]))] := hD
  refine lv_aload_n hx hb dX5_become_40 rfl (lv_at hl 0 rfl) ?_
  refine lv_aload_n hx hb dX5_become_41 rfl (lv_at hl 1 rfl) ?_
  refine va_get (D := D) (ci := 5) (v := .int q_ax) (C := RX5) (T := TX5) (N := 9) hx hb hts iX5 hown hk.1 hP 1 rfl rfl 5 (by decide) (hts _ tw_78) (fun _ h9 => h9) rfl dX5_become_42 ?_
  refine va_put (D := D) (ci := 5) (v := .int q_ax) (ty := .int) (C := RX5) (T := TX5) (N := 9) hx hb hts iX5 tyX5 tyX5_ok nmX5 hown hk.1 hP hD hS 0 rfl rfl 5 (by decide) (hts _ tw_78) (fun _ h9 => h9) rfl (by decide +kernel) rfl rfl (Nat.le_of_ble_eq_true rfl) dX5_become_45 (fun H locs hP hD hS => ?_)
  have hP : va_P D vwCl [(aP, .inr (5, [.int q_width, .int q_height, .int q_kernel, .int q_power, .int q_fall, .int q_ax, .int p_ay, .long p_shut, .long p_dots])), (aQ, .inr (5, [.int q_width, .int q_height, .int q_kernel, .int q_power, .int q_fall, .int q_ax, .int q_ay, .long q_shut, .long q_dots]))] H := hP
  have hD : va_D A [(aP, .inr (5, [.int q_width, .int q_height, .int q_kernel, .int q_power, .int q_fall, .int q_ax, .int p_ay, .long p_shut, .long p_dots])), (aQ, .inr (5, [.int q_width, .int q_height, .int q_kernel, .int q_power, .int q_fall, .int q_ax, .int q_ay, .long q_shut, .long q_dots]))] := hD
  refine lv_aload_n hx hb dX5_become_48 rfl (lv_at hl 0 rfl) ?_
  refine lv_aload_n hx hb dX5_become_49 rfl (lv_at hl 1 rfl) ?_
  refine va_get (D := D) (ci := 5) (v := .int q_ay) (C := RX5) (T := TX5) (N := 9) hx hb hts iX5 hown hk.1 hP 1 rfl rfl 6 (by decide) (hts _ tw_81) (fun _ h9 => h9) rfl dX5_become_50 ?_
  refine va_put (D := D) (ci := 5) (v := .int q_ay) (ty := .int) (C := RX5) (T := TX5) (N := 9) hx hb hts iX5 tyX5 tyX5_ok nmX5 hown hk.1 hP hD hS 0 rfl rfl 6 (by decide) (hts _ tw_81) (fun _ h9 => h9) rfl (by decide +kernel) rfl rfl (Nat.le_of_ble_eq_true rfl) dX5_become_53 (fun H locs hP hD hS => ?_)
  have hP : va_P D vwCl [(aP, .inr (5, [.int q_width, .int q_height, .int q_kernel, .int q_power, .int q_fall, .int q_ax, .int q_ay, .long p_shut, .long p_dots])), (aQ, .inr (5, [.int q_width, .int q_height, .int q_kernel, .int q_power, .int q_fall, .int q_ax, .int q_ay, .long q_shut, .long q_dots]))] H := hP
  have hD : va_D A [(aP, .inr (5, [.int q_width, .int q_height, .int q_kernel, .int q_power, .int q_fall, .int q_ax, .int q_ay, .long p_shut, .long p_dots])), (aQ, .inr (5, [.int q_width, .int q_height, .int q_kernel, .int q_power, .int q_fall, .int q_ax, .int q_ay, .long q_shut, .long q_dots]))] := hD
  refine lv_aload_n hx hb dX5_become_56 rfl (lv_at hl 0 rfl) ?_
  refine lv_aload_n hx hb dX5_become_57 rfl (lv_at hl 1 rfl) ?_
  refine va_get (D := D) (ci := 5) (v := .long q_shut) (C := RX5) (T := TX5) (N := 9) hx hb hts iX5 hown hk.1 hP 1 rfl rfl 7 (by decide) (hts _ tw_84) (fun _ h9 => h9) rfl dX5_become_58 ?_
  refine va_put (D := D) (ci := 5) (v := .long q_shut) (ty := .long) (C := RX5) (T := TX5) (N := 9) hx hb hts iX5 tyX5 tyX5_ok nmX5 hown hk.1 hP hD hS 0 rfl rfl 7 (by decide) (hts _ tw_84) (fun _ h9 => h9) rfl (by decide +kernel) rfl rfl (Nat.le_of_ble_eq_true rfl) dX5_become_61 (fun H locs hP hD hS => ?_)
  have hP : va_P D vwCl [(aP, .inr (5, [.int q_width, .int q_height, .int q_kernel, .int q_power, .int q_fall, .int q_ax, .int q_ay, .long q_shut, .long p_dots])), (aQ, .inr (5, [.int q_width, .int q_height, .int q_kernel, .int q_power, .int q_fall, .int q_ax, .int q_ay, .long q_shut, .long q_dots]))] H := hP
  have hD : va_D A [(aP, .inr (5, [.int q_width, .int q_height, .int q_kernel, .int q_power, .int q_fall, .int q_ax, .int q_ay, .long q_shut, .long p_dots])), (aQ, .inr (5, [.int q_width, .int q_height, .int q_kernel, .int q_power, .int q_fall, .int q_ax, .int q_ay, .long q_shut, .long q_dots]))] := hD
  refine lv_aload_n hx hb dX5_become_64 rfl (lv_at hl 0 rfl) ?_
  refine lv_aload_n hx hb dX5_become_65 rfl (lv_at hl 1 rfl) ?_
  refine va_get (D := D) (ci := 5) (v := .long q_dots) (C := RX5) (T := TX5) (N := 9) hx hb hts iX5 hown hk.1 hP 1 rfl rfl 8 (by decide) (hts _ tw_88) (fun _ h9 => h9) rfl dX5_become_66 ?_
  refine va_put (D := D) (ci := 5) (v := .long q_dots) (ty := .long) (C := RX5) (T := TX5) (N := 9) hx hb hts iX5 tyX5 tyX5_ok nmX5 hown hk.1 hP hD hS 0 rfl rfl 8 (by decide) (hts _ tw_88) (fun _ h9 => h9) rfl (by decide +kernel) rfl rfl (Nat.le_of_ble_eq_true rfl) dX5_become_69 (fun H locs hP hD hS => ?_)
  have hP : va_P D vwCl [(aP, .inr (5, [.int q_width, .int q_height, .int q_kernel, .int q_power, .int q_fall, .int q_ax, .int q_ay, .long q_shut, .long q_dots])), (aQ, .inr (5, [.int q_width, .int q_height, .int q_kernel, .int q_power, .int q_fall, .int q_ax, .int q_ay, .long q_shut, .long q_dots]))] H := hP
  have hD : va_D A [(aP, .inr (5, [.int q_width, .int q_height, .int q_kernel, .int q_power, .int q_fall, .int q_ax, .int q_ay, .long q_shut, .long q_dots])), (aQ, .inr (5, [.int q_width, .int q_height, .int q_kernel, .int q_power, .int q_fall, .int q_ax, .int q_ay, .long q_shut, .long q_dots]))] := hD
  have hf := Option.some.inj hf
  subst hf
  exact q_rvW hP hS hx hb hr hlocks dX5_become_72
def f_X5_numberOf (p_width : Int32) (p_height : Int32) (x1 : Int32) (x2 : Int32) : Option (Int32) := if x1 < 0 then (some (-1 : Int32)) else (if p_width ≤ x1 then (some (-1 : Int32)) else (if x2 < 0 then (some (-1 : Int32)) else (if x2 < p_height then (some ((x2 * p_width) + x1)) else (some (-1 : Int32)))))
theorem ok_X5_numberOf : OkV yX5_numberOf cX5_numberOf 3 (some Jvm.ClassFile.FieldType.int) 2 := ⟨⟨tw_390, tw_3, by decide +kernel, by decide +kernel, by decide +kernel⟩, tw_388, tw_389⟩
set_option maxHeartbeats 4000000 in
set_option maxRecDepth 100000 in
theorem c_X5_numberOf (l : Launch) (D : va_G) (cy : ClassId × ClassId × ClassId) (H0 : Heap) (aP : Nat) (p_width : Int32) (p_height : Int32) (p_kernel : Int32) (p_power : Int32) (p_fall : Int32) (p_ax : Int32) (p_ay : Int32) (p_shut : Int64) (p_dots : Int64) (x1 : Int32) (x2 : Int32) (r : Int32) (hP : va_P D vwCl [(aP, .inr (5, [.int p_width, .int p_height, .int p_kernel, .int p_power, .int p_fall, .int p_ax, .int p_ay, .long p_shut, .long p_dots]))] H0) (hf : f_X5_numberOf p_width p_height x1 x2 = some r) : Rd l yX5_numberOf cX5_numberOf 3 (some Jvm.ClassFile.FieldType.int) ({ frames := 0, cells := 0, slots := 0, locals := 0 } : Room) ([.ref aP, .int x1, .int x2] : List Value) (some (.int r)) D cy H0 := by
  refine rd_of (by decide +kernel) (Nat.le_of_ble_eq_true rfl) ?_
  intro p e s m below meth c ls S hr hlocks hk hl
  obtain ⟨hx, hb, hml, hown, hts⟩ := id S
  have hl : lv_has ls 3 [(0, .ref aP), (1, .int x1), (2, .int x2)] := hl
  rw [f_X5_numberOf] at hf
  refine lv_iload_n hx hb dX5_numberOf_0 rfl (lv_at hl 1 rfl) ?_
  refine lv_if_lt (tgt := 24) hx hb dX5_numberOf_1 (by decide) (fun hc => ?_) (fun hc => ?_)
  · have hf := q_t hc hf
    refine lv_iconst (v := (-1 : Int32)) hx hb dX5_numberOf_24 (by decide) ?_
    have hf := Option.some.inj hf
    subst hf
    exact q_riR hx hb hr hlocks dX5_numberOf_25
  · have hf := q_f hc hf
    refine lv_iload_n hx hb dX5_numberOf_4 rfl (lv_at hl 1 rfl) ?_
    refine lv_aload_n hx hb dX5_numberOf_5 rfl (lv_at hl 0 rfl) ?_
    refine va_get (D := D) (ci := 5) (v := .int p_width) (C := RX5) (T := TX5) (N := 9) hx hb hts iX5 hown hk.1 hP 0 rfl rfl 0 (by decide) (hts _ tw_61) (fun _ h9 => h9) rfl dX5_numberOf_6 ?_
    refine lv_icmp_ge (tgt := 24) hx hb dX5_numberOf_9 (by decide) (fun hc => ?_) (fun hc => ?_)
    · have hf := q_t hc hf
      refine lv_iconst (v := (-1 : Int32)) hx hb dX5_numberOf_24 (by decide) ?_
      have hf := Option.some.inj hf
      subst hf
      exact q_riR hx hb hr hlocks dX5_numberOf_25
    · have hf := q_f hc hf
      refine lv_iload_n hx hb dX5_numberOf_12 rfl (lv_at hl 2 rfl) ?_
      refine lv_if_lt (tgt := 24) hx hb dX5_numberOf_13 (by decide) (fun hc => ?_) (fun hc => ?_)
      · have hf := q_t hc hf
        refine lv_iconst (v := (-1 : Int32)) hx hb dX5_numberOf_24 (by decide) ?_
        have hf := Option.some.inj hf
        subst hf
        exact q_riR hx hb hr hlocks dX5_numberOf_25
      · have hf := q_f hc hf
        refine lv_iload_n hx hb dX5_numberOf_16 rfl (lv_at hl 2 rfl) ?_
        refine lv_aload_n hx hb dX5_numberOf_17 rfl (lv_at hl 0 rfl) ?_
        refine va_get (D := D) (ci := 5) (v := .int p_height) (C := RX5) (T := TX5) (N := 9) hx hb hts iX5 hown hk.1 hP 0 rfl rfl 1 (by decide) (hts _ tw_65) (fun _ h9 => h9) rfl dX5_numberOf_18 ?_
        refine lv_icmp_lt (tgt := 26) hx hb dX5_numberOf_21 (by decide) (fun hc => ?_) (fun hc => ?_)
        · have hf := q_t hc hf
          refine lv_iload_n hx hb dX5_numberOf_26 rfl (lv_at hl 2 rfl) ?_
          refine lv_aload_n hx hb dX5_numberOf_27 rfl (lv_at hl 0 rfl) ?_
          refine va_get (D := D) (ci := 5) (v := .int p_width) (C := RX5) (T := TX5) (N := 9) hx hb hts iX5 hown hk.1 hP 0 rfl rfl 0 (by decide) (hts _ tw_61) (fun _ h9 => h9) rfl dX5_numberOf_28 ?_
          refine lv_imul hx hb dX5_numberOf_31 ?_
          refine lv_iload_n hx hb dX5_numberOf_32 rfl (lv_at hl 1 rfl) ?_
          refine lv_iadd hx hb dX5_numberOf_33 ?_
          have hf := Option.some.inj hf
          subst hf
          exact q_riR hx hb hr hlocks dX5_numberOf_34
        · have hf := q_f hc hf
          refine lv_iconst (v := (-1 : Int32)) hx hb dX5_numberOf_24 (by decide) ?_
          have hf := Option.some.inj hf
          subst hf
          exact q_riR hx hb hr hlocks dX5_numberOf_25
def f_X5_distanceOf (p_width : Int32) (p_height : Int32) (p_ax : Int32) (p_ay : Int32) (x1 : Int32) (x2 : Int32) : Option (Int32) := some (((p_ax * (if (p_width - x1) < x1 then (p_width - x1) else x1)) * (if (p_width - x1) < x1 then (p_width - x1) else x1)) + ((p_ay * (if (p_height - x2) < x2 then (p_height - x2) else x2)) * (if (p_height - x2) < x2 then (p_height - x2) else x2)))
theorem ok_X5_distanceOf : OkV yX5_distanceOf cX5_distanceOf 5 (some Jvm.ClassFile.FieldType.int) 2 := ⟨⟨tw_123, tw_3, by decide +kernel, by decide +kernel, by decide +kernel⟩, tw_121, tw_122⟩
set_option maxHeartbeats 4000000 in
set_option maxRecDepth 100000 in
theorem c_X5_distanceOf (l : Launch) (D : va_G) (cy : ClassId × ClassId × ClassId) (H0 : Heap) (aP : Nat) (p_width : Int32) (p_height : Int32) (p_kernel : Int32) (p_power : Int32) (p_fall : Int32) (p_ax : Int32) (p_ay : Int32) (p_shut : Int64) (p_dots : Int64) (x1 : Int32) (x2 : Int32) (r : Int32) (hP : va_P D vwCl [(aP, .inr (5, [.int p_width, .int p_height, .int p_kernel, .int p_power, .int p_fall, .int p_ax, .int p_ay, .long p_shut, .long p_dots]))] H0) (hf : f_X5_distanceOf p_width p_height p_ax p_ay x1 x2 = some r) : Rd l yX5_distanceOf cX5_distanceOf 5 (some Jvm.ClassFile.FieldType.int) ({ frames := 1, cells := 0, slots := 0, locals := 21 } : Room) ([.ref aP, .int x1, .int x2] : List Value) (some (.int r)) D cy H0 := by
  refine rd_of (by decide +kernel) (Nat.le_of_ble_eq_true rfl) ?_
  intro p e s m below meth c ls S hr hlocks hk hl
  obtain ⟨hx, hb, hml, hown, hts⟩ := id S
  have hl : lv_has ls 5 [(0, .ref aP), (1, .int x1), (2, .int x2)] := hl
  rw [f_X5_distanceOf] at hf
  refine lv_iload_n hx hb dX5_distanceOf_0 rfl (lv_at hl 1 rfl) ?_
  refine lv_aload_n hx hb dX5_distanceOf_1 rfl (lv_at hl 0 rfl) ?_
  refine va_get (D := D) (ci := 5) (v := .int p_width) (C := RX5) (T := TX5) (N := 9) hx hb hts iX5 hown hk.1 hP 0 rfl rfl 0 (by decide) (hts _ tw_61) (fun _ h9 => h9) rfl dX5_distanceOf_2 ?_
  refine lv_iload_n hx hb dX5_distanceOf_5 rfl (lv_at hl 1 rfl) ?_
  refine lv_isub hx hb dX5_distanceOf_6 ?_
  refine va_mmin hx hb (hml.trans hl.1.symm) hown (hts _ tw_124) (hts _ tw_125) (hts _ tw_5) (hts _ tw_126) (Nat.le_of_ble_eq_true rfl) (Nat.le_of_ble_eq_true rfl) (Nat.zero_le _) (Nat.zero_le _) dX5_distanceOf_7 ?_
  refine lv_istore_n (lv' := [(3, .int (if (p_width - x1) < x1 then (p_width - x1) else x1)), (0, .ref aP), (1, .int x1), (2, .int x2)]) hx hb dX5_distanceOf_10 rfl hl (by decide) rfl (fun ls hl => ?_)
  refine lv_iload_n hx hb dX5_distanceOf_11 rfl (lv_at hl 3 rfl) ?_
  refine lv_aload_n hx hb dX5_distanceOf_12 rfl (lv_at hl 1 rfl) ?_
  refine va_get (D := D) (ci := 5) (v := .int p_height) (C := RX5) (T := TX5) (N := 9) hx hb hts iX5 hown hk.1 hP 0 rfl rfl 1 (by decide) (hts _ tw_65) (fun _ h9 => h9) rfl dX5_distanceOf_13 ?_
  refine lv_iload_n hx hb dX5_distanceOf_16 rfl (lv_at hl 3 rfl) ?_
  refine lv_isub hx hb dX5_distanceOf_17 ?_
  refine va_mmin hx hb (hml.trans hl.1.symm) hown (hts _ tw_124) (hts _ tw_125) (hts _ tw_5) (hts _ tw_126) (Nat.le_of_ble_eq_true rfl) (Nat.le_of_ble_eq_true rfl) (Nat.zero_le _) (Nat.zero_le _) dX5_distanceOf_18 ?_
  refine lv_istore (lv' := [(4, .int (if (p_height - x2) < x2 then (p_height - x2) else x2)), (3, .int (if (p_width - x1) < x1 then (p_width - x1) else x1)), (0, .ref aP), (1, .int x1), (2, .int x2)]) hx hb dX5_distanceOf_21 hl (by decide) rfl (fun ls hl => ?_)
  refine lv_aload_n hx hb dX5_distanceOf_23 rfl (lv_at hl 2 rfl) ?_
  refine va_get (D := D) (ci := 5) (v := .int p_ax) (C := RX5) (T := TX5) (N := 9) hx hb hts iX5 hown hk.1 hP 0 rfl rfl 5 (by decide) (hts _ tw_78) (fun _ h9 => h9) rfl dX5_distanceOf_24 ?_
  refine lv_iload_n hx hb dX5_distanceOf_27 rfl (lv_at hl 1 rfl) ?_
  refine lv_imul hx hb dX5_distanceOf_28 ?_
  refine lv_iload_n hx hb dX5_distanceOf_29 rfl (lv_at hl 1 rfl) ?_
  refine lv_imul hx hb dX5_distanceOf_30 ?_
  refine lv_aload_n hx hb dX5_distanceOf_31 rfl (lv_at hl 2 rfl) ?_
  refine va_get (D := D) (ci := 5) (v := .int p_ay) (C := RX5) (T := TX5) (N := 9) hx hb hts iX5 hown hk.1 hP 0 rfl rfl 6 (by decide) (hts _ tw_81) (fun _ h9 => h9) rfl dX5_distanceOf_32 ?_
  refine lv_iload hx hb dX5_distanceOf_35 (lv_at hl 0 rfl) ?_
  refine lv_imul hx hb dX5_distanceOf_37 ?_
  refine lv_iload hx hb dX5_distanceOf_38 (lv_at hl 0 rfl) ?_
  refine lv_imul hx hb dX5_distanceOf_40 ?_
  refine lv_iadd hx hb dX5_distanceOf_41 ?_
  have hf := Option.some.inj hf
  subst hf
  exact q_riR hx hb hr hlocks dX5_distanceOf_42
def f_X5_weightOf (p_kernel : Int32) (p_power : Int32) (p_fall : Int32) (x1 : Int32) : Option (Int32) := if (1 : Int32) ≤ ((1 : Int32) + x1) then (if p_kernel = (0 : Int32) then (if ((1 : Int32) + x1) = 0 then none else (some (p_power / ((1 : Int32) + x1)))) else (if p_kernel = (1 : Int32) then (some (if (0 : Int32) < (p_power - (p_fall * x1)) then (p_power - (p_fall * x1)) else (0 : Int32))) else (some (p_power >>> ((if (31 : Int32) < x1 then (31 : Int32) else x1) &&& 31))))) else (some (0 : Int32))
theorem ok_X5_weightOf : OkV yX5_weightOf cX5_weightOf 3 (some Jvm.ClassFile.FieldType.int) 1 := ⟨⟨tw_130, tw_3, by decide +kernel, by decide +kernel, by decide +kernel⟩, tw_128, tw_129⟩
set_option maxHeartbeats 4000000 in
set_option maxRecDepth 100000 in
theorem c_X5_weightOf (l : Launch) (D : va_G) (cy : ClassId × ClassId × ClassId) (H0 : Heap) (aP : Nat) (p_width : Int32) (p_height : Int32) (p_kernel : Int32) (p_power : Int32) (p_fall : Int32) (p_ax : Int32) (p_ay : Int32) (p_shut : Int64) (p_dots : Int64) (x1 : Int32) (r : Int32) (hP : va_P D vwCl [(aP, .inr (5, [.int p_width, .int p_height, .int p_kernel, .int p_power, .int p_fall, .int p_ax, .int p_ay, .long p_shut, .long p_dots]))] H0) (hf : f_X5_weightOf p_kernel p_power p_fall x1 = some r) : Rd l yX5_weightOf cX5_weightOf 3 (some Jvm.ClassFile.FieldType.int) ({ frames := 1, cells := 0, slots := 0, locals := 21 } : Room) ([.ref aP, .int x1] : List Value) (some (.int r)) D cy H0 := by
  refine rd_of (by decide +kernel) (Nat.le_of_ble_eq_true rfl) ?_
  intro p e s m below meth c ls S hr hlocks hk hl
  obtain ⟨hx, hb, hml, hown, hts⟩ := id S
  have hl : lv_has ls 3 [(0, .ref aP), (1, .int x1)] := hl
  rw [f_X5_weightOf] at hf
  refine lv_iconst (v := (1 : Int32)) hx hb dX5_weightOf_0 (by decide) ?_
  refine lv_iload_n hx hb dX5_weightOf_1 rfl (lv_at hl 1 rfl) ?_
  refine lv_iadd hx hb dX5_weightOf_2 ?_
  refine lv_istore_n (lv' := [(2, .int ((1 : Int32) + x1)), (0, .ref aP), (1, .int x1)]) hx hb dX5_weightOf_3 rfl hl (by decide) rfl (fun ls hl => ?_)
  refine lv_iload_n hx hb dX5_weightOf_4 rfl (lv_at hl 0 rfl) ?_
  refine lv_iconst (v := (1 : Int32)) hx hb dX5_weightOf_5 (by decide) ?_
  refine lv_icmp_ge (tgt := 11) hx hb dX5_weightOf_6 (by decide) (fun hc => ?_) (fun hc => ?_)
  · have hf := q_t hc hf
    refine lv_aload_n hx hb dX5_weightOf_11 rfl (lv_at hl 1 rfl) ?_
    refine va_get (D := D) (ci := 5) (v := .int p_kernel) (C := RX5) (T := TX5) (N := 9) hx hb hts iX5 hown hk.1 hP 0 rfl rfl 2 (by decide) (hts _ tw_69) (fun _ h9 => h9) rfl dX5_weightOf_12 ?_
    by_cases hc0 : p_kernel = (0 : Int32)
    · have hf := q_t hc0 hf
      refine lv_lookup (off := 25) (tgt := 40) hx hb dX5_weightOf_15 (by decide) (by rw [hc0]; rfl) (by decide) ?_
      refine lv_aload_n hx hb dX5_weightOf_40 rfl (lv_at hl 1 rfl) ?_
      refine va_get (D := D) (ci := 5) (v := .int p_power) (C := RX5) (T := TX5) (N := 9) hx hb hts iX5 hown hk.1 hP 0 rfl rfl 3 (by decide) (hts _ tw_72) (fun _ h9 => h9) rfl dX5_weightOf_41 ?_
      refine lv_iload_n hx hb dX5_weightOf_44 rfl (lv_at hl 0 rfl) ?_
      obtain ⟨hne, hf⟩ := q_nz hf
      refine lv_idiv hx hb dX5_weightOf_45 hne ?_
      have hf := Option.some.inj hf
      subst hf
      exact q_riR hx hb hr hlocks dX5_weightOf_46
    · have hf := q_f hc0 hf
      by_cases hc1 : p_kernel = (1 : Int32)
      · have hf := q_t hc1 hf
        refine lv_lookup (off := 32) (tgt := 47) hx hb dX5_weightOf_15 (by decide) (by show Op.lookupswitch.offset [(0, 25), (1, 32)] 48 _ = _; rw [lv_osw (a := 0) hc0 (by decide)]; rw [hc1]; rfl) (by decide) ?_
        refine lv_iconst (v := (0 : Int32)) hx hb dX5_weightOf_47 (by decide) ?_
        refine lv_aload_n hx hb dX5_weightOf_48 rfl (lv_at hl 1 rfl) ?_
        refine va_get (D := D) (ci := 5) (v := .int p_power) (C := RX5) (T := TX5) (N := 9) hx hb hts iX5 hown hk.1 hP 0 rfl rfl 3 (by decide) (hts _ tw_72) (fun _ h9 => h9) rfl dX5_weightOf_49 ?_
        refine lv_aload_n hx hb dX5_weightOf_52 rfl (lv_at hl 1 rfl) ?_
        refine va_get (D := D) (ci := 5) (v := .int p_fall) (C := RX5) (T := TX5) (N := 9) hx hb hts iX5 hown hk.1 hP 0 rfl rfl 4 (by decide) (hts _ tw_75) (fun _ h9 => h9) rfl dX5_weightOf_53 ?_
        refine lv_iload_n hx hb dX5_weightOf_56 rfl (lv_at hl 2 rfl) ?_
        refine lv_imul hx hb dX5_weightOf_57 ?_
        refine lv_isub hx hb dX5_weightOf_58 ?_
        refine va_mmax hx hb (hml.trans hl.1.symm) hown (hts _ tw_131) (hts _ tw_132) (hts _ tw_5) (hts _ tw_133) (Nat.le_of_ble_eq_true rfl) (Nat.le_of_ble_eq_true rfl) (Nat.zero_le _) (Nat.zero_le _) dX5_weightOf_59 ?_
        have hf := Option.some.inj hf
        subst hf
        exact q_riR hx hb hr hlocks dX5_weightOf_62
      · have hf := q_f hc1 hf
        refine lv_lookup (off := 48) (tgt := 63) hx hb dX5_weightOf_15 (by decide) (by show Op.lookupswitch.offset [(0, 25), (1, 32)] 48 _ = _; rw [lv_osw (a := 0) hc0 (by decide), lv_osw (a := 1) hc1 (by decide)]; rfl) (by decide) ?_
        refine lv_aload_n hx hb dX5_weightOf_63 rfl (lv_at hl 1 rfl) ?_
        refine va_get (D := D) (ci := 5) (v := .int p_power) (C := RX5) (T := TX5) (N := 9) hx hb hts iX5 hown hk.1 hP 0 rfl rfl 3 (by decide) (hts _ tw_72) (fun _ h9 => h9) rfl dX5_weightOf_64 ?_
        refine lv_iload_n hx hb dX5_weightOf_67 rfl (lv_at hl 2 rfl) ?_
        refine lv_bipush (v := (31 : Int32)) hx hb dX5_weightOf_68 (by decide) ?_
        refine va_mmin hx hb (hml.trans hl.1.symm) hown (hts _ tw_124) (hts _ tw_125) (hts _ tw_5) (hts _ tw_126) (Nat.le_of_ble_eq_true rfl) (Nat.le_of_ble_eq_true rfl) (Nat.zero_le _) (Nat.zero_le _) dX5_weightOf_70 ?_
        refine lv_ishr hx hb dX5_weightOf_73 ?_
        have hf := Option.some.inj hf
        subst hf
        exact q_riR hx hb hr hlocks dX5_weightOf_74
  · have hf := q_f hc hf
    refine lv_iconst (v := (0 : Int32)) hx hb dX5_weightOf_9 (by decide) ?_
    have hf := Option.some.inj hf
    subst hf
    exact q_riR hx hb hr hlocks dX5_weightOf_10
def j_X0_lay_126 (p_shut : Int64) (g_cells : Int32) (g_free : Int64) (g_freeCount : Int32) (g_columns : Nat → Int32) (g_lines : Nat → Int32) (g_distances : Nat → Int32) (g_weights : Nat → Int32) : Option (Int32 × Int64 × Int32 × (Nat → Int32) × (Nat → Int32) × (Nat → Int32) × (Nat → Int32)) := (f_J13_bitCount_95d88 ((lus (-1 : Int64) ((64 : Int32) - g_cells)) &&& (p_shut ^^^ (-1 : Int64)))).bind (fun z158 => some (g_cells, ((lus (-1 : Int64) ((64 : Int32) - g_cells)) &&& (p_shut ^^^ (-1 : Int64))), z158, g_columns, g_lines, g_distances, g_weights))
def lp_X0_lay_26 (p_width : Int32) (p_height : Int32) (p_kernel : Int32) (p_power : Int32) (p_fall : Int32) (p_ax : Int32) (p_ay : Int32) (k7 : Int32 → Int32 → Int64 → Int32 → (Nat → Int32) → (Nat → Int32) → (Nat → Int32) → (Nat → Int32) → Option (Int32 × Int64 × Int32 × (Nat → Int32) × (Nat → Int32) × (Nat → Int32) × (Nat → Int32))) : Nat → Int32 → Int32 → Int32 → Int64 → Int32 → (Nat → Int32) → (Nat → Int32) → (Nat → Int32) → (Nat → Int32) → Option (Int32 × Int64 × Int32 × (Nat → Int32) × (Nat → Int32) × (Nat → Int32) × (Nat → Int32))
  | 0, _, _, _, _, _, _, _, _, _ => none
  | n + 1, x1, x2, g_cells, g_free, g_freeCount, g_columns, g_lines, g_distances, g_weights => if p_width ≤ x2 then (k7 (x1 + 1) g_cells g_free g_freeCount g_columns g_lines g_distances g_weights) else (if (8 : Int32) ≤ x2 then (k7 (x1 + 1) g_cells g_free g_freeCount g_columns g_lines g_distances g_weights) else (if inb g_cells 64 = true then (if inb g_cells 64 = true then ((f_X5_distanceOf p_width p_height p_ax p_ay x2 x1).bind (fun z79 => if inb (((8 : Int32) * x1) + x2) 64 = true then ((f_X5_weightOf p_kernel p_power p_fall z79).bind (fun z110 => if inb (((8 : Int32) * x1) + x2) 64 = true then (lp_X0_lay_26 p_width p_height p_kernel p_power p_fall p_ax p_ay k7 n x1 (x2 + 1) (g_cells + (1 : Int32)) g_free g_freeCount (upd g_columns g_cells.toNatClampNeg x2) (upd g_lines g_cells.toNatClampNeg x1) (upd g_distances (((8 : Int32) * x1) + x2).toNatClampNeg z79) (upd g_weights (((8 : Int32) * x1) + x2).toNatClampNeg z110)) else none)) else none)) else none) else none))
theorem lp_X0_lay_26_s (p_width : Int32) (p_height : Int32) (p_kernel : Int32) (p_power : Int32) (p_fall : Int32) (p_ax : Int32) (p_ay : Int32) (k7 : Int32 → Int32 → Int64 → Int32 → (Nat → Int32) → (Nat → Int32) → (Nat → Int32) → (Nat → Int32) → Option (Int32 × Int64 × Int32 × (Nat → Int32) × (Nat → Int32) × (Nat → Int32) × (Nat → Int32))) (n : Nat) (x1 : Int32) (x2 : Int32) (g_cells : Int32) (g_free : Int64) (g_freeCount : Int32) (g_columns : Nat → Int32) (g_lines : Nat → Int32) (g_distances : Nat → Int32) (g_weights : Nat → Int32) : lp_X0_lay_26 p_width p_height p_kernel p_power p_fall p_ax p_ay k7 (n + 1) x1 x2 g_cells g_free g_freeCount g_columns g_lines g_distances g_weights = (if p_width ≤ x2 then (k7 (x1 + 1) g_cells g_free g_freeCount g_columns g_lines g_distances g_weights) else (if (8 : Int32) ≤ x2 then (k7 (x1 + 1) g_cells g_free g_freeCount g_columns g_lines g_distances g_weights) else (if inb g_cells 64 = true then (if inb g_cells 64 = true then ((f_X5_distanceOf p_width p_height p_ax p_ay x2 x1).bind (fun z79 => if inb (((8 : Int32) * x1) + x2) 64 = true then ((f_X5_weightOf p_kernel p_power p_fall z79).bind (fun z110 => if inb (((8 : Int32) * x1) + x2) 64 = true then (lp_X0_lay_26 p_width p_height p_kernel p_power p_fall p_ax p_ay k7 n x1 (x2 + 1) (g_cells + (1 : Int32)) g_free g_freeCount (upd g_columns g_cells.toNatClampNeg x2) (upd g_lines g_cells.toNatClampNeg x1) (upd g_distances (((8 : Int32) * x1) + x2).toNatClampNeg z79) (upd g_weights (((8 : Int32) * x1) + x2).toNatClampNeg z110)) else none)) else none)) else none) else none))) := rfl
theorem lp_X0_lay_26_z (p_width : Int32) (p_height : Int32) (p_kernel : Int32) (p_power : Int32) (p_fall : Int32) (p_ax : Int32) (p_ay : Int32) (k7 : Int32 → Int32 → Int64 → Int32 → (Nat → Int32) → (Nat → Int32) → (Nat → Int32) → (Nat → Int32) → Option (Int32 × Int64 × Int32 × (Nat → Int32) × (Nat → Int32) × (Nat → Int32) × (Nat → Int32))) (x1 : Int32) (x2 : Int32) (g_cells : Int32) (g_free : Int64) (g_freeCount : Int32) (g_columns : Nat → Int32) (g_lines : Nat → Int32) (g_distances : Nat → Int32) (g_weights : Nat → Int32) : lp_X0_lay_26 p_width p_height p_kernel p_power p_fall p_ax p_ay k7 0 x1 x2 g_cells g_free g_freeCount g_columns g_lines g_distances g_weights = none := rfl
def lp_X0_lay_7 (p_width : Int32) (p_height : Int32) (p_kernel : Int32) (p_power : Int32) (p_fall : Int32) (p_ax : Int32) (p_ay : Int32) (p_shut : Int64) : Nat → Int32 → Int32 → Int64 → Int32 → (Nat → Int32) → (Nat → Int32) → (Nat → Int32) → (Nat → Int32) → Option (Int32 × Int64 × Int32 × (Nat → Int32) × (Nat → Int32) × (Nat → Int32) × (Nat → Int32))
  | 0, _, _, _, _, _, _, _, _ => none
  | n + 1, x1, g_cells, g_free, g_freeCount, g_columns, g_lines, g_distances, g_weights => if p_height ≤ x1 then (j_X0_lay_126 p_shut g_cells g_free g_freeCount g_columns g_lines g_distances g_weights) else (if (8 : Int32) ≤ x1 then (j_X0_lay_126 p_shut g_cells g_free g_freeCount g_columns g_lines g_distances g_weights) else (lp_X0_lay_26 p_width p_height p_kernel p_power p_fall p_ax p_ay (lp_X0_lay_7 p_width p_height p_kernel p_power p_fall p_ax p_ay p_shut n) FU x1 (0 : Int32) g_cells g_free g_freeCount g_columns g_lines g_distances g_weights))
theorem lp_X0_lay_7_s (p_width : Int32) (p_height : Int32) (p_kernel : Int32) (p_power : Int32) (p_fall : Int32) (p_ax : Int32) (p_ay : Int32) (p_shut : Int64) (n : Nat) (x1 : Int32) (g_cells : Int32) (g_free : Int64) (g_freeCount : Int32) (g_columns : Nat → Int32) (g_lines : Nat → Int32) (g_distances : Nat → Int32) (g_weights : Nat → Int32) : lp_X0_lay_7 p_width p_height p_kernel p_power p_fall p_ax p_ay p_shut (n + 1) x1 g_cells g_free g_freeCount g_columns g_lines g_distances g_weights = (if p_height ≤ x1 then (j_X0_lay_126 p_shut g_cells g_free g_freeCount g_columns g_lines g_distances g_weights) else (if (8 : Int32) ≤ x1 then (j_X0_lay_126 p_shut g_cells g_free g_freeCount g_columns g_lines g_distances g_weights) else (lp_X0_lay_26 p_width p_height p_kernel p_power p_fall p_ax p_ay (lp_X0_lay_7 p_width p_height p_kernel p_power p_fall p_ax p_ay p_shut n) FU x1 (0 : Int32) g_cells g_free g_freeCount g_columns g_lines g_distances g_weights))) := rfl
theorem lp_X0_lay_7_z (p_width : Int32) (p_height : Int32) (p_kernel : Int32) (p_power : Int32) (p_fall : Int32) (p_ax : Int32) (p_ay : Int32) (p_shut : Int64) (x1 : Int32) (g_cells : Int32) (g_free : Int64) (g_freeCount : Int32) (g_columns : Nat → Int32) (g_lines : Nat → Int32) (g_distances : Nat → Int32) (g_weights : Nat → Int32) : lp_X0_lay_7 p_width p_height p_kernel p_power p_fall p_ax p_ay p_shut 0 x1 g_cells g_free g_freeCount g_columns g_lines g_distances g_weights = none := rfl
def f_X0_lay (p_width : Int32) (p_height : Int32) (p_kernel : Int32) (p_power : Int32) (p_fall : Int32) (p_ax : Int32) (p_ay : Int32) (p_shut : Int64) (g_cells : Int32) (g_free : Int64) (g_freeCount : Int32) (g_columns : Nat → Int32) (g_lines : Nat → Int32) (g_distances : Nat → Int32) (g_weights : Nat → Int32) : Option (Int32 × Int64 × Int32 × (Nat → Int32) × (Nat → Int32) × (Nat → Int32) × (Nat → Int32)) := lp_X0_lay_7 p_width p_height p_kernel p_power p_fall p_ax p_ay p_shut FU (0 : Int32) (0 : Int32) g_free g_freeCount g_columns g_lines g_distances g_weights
theorem ok_X0_lay : OkV yX0_lay cX0_lay 4 none 0 := ⟨⟨tw_119, tw_4, by decide +kernel, by decide +kernel, by decide +kernel⟩, tw_117, tw_118⟩
set_option maxHeartbeats 4000000 in
set_option maxRecDepth 100000 in
theorem c_X0_lay (l : Launch) (D : va_G) (cy : ClassId × ClassId × ClassId) (H0 : Heap) (aP aG aG_columns aG_lines aG_distances aG_weights : Nat) (p_width : Int32) (p_height : Int32) (p_kernel : Int32) (p_power : Int32) (p_fall : Int32) (p_ax : Int32) (p_ay : Int32) (p_shut : Int64) (p_dots : Int64) (g_cells : Int32) (g_free : Int64) (g_freeCount : Int32) (g_columns : Nat → Int32) (g_lines : Nat → Int32) (g_distances : Nat → Int32) (g_weights : Nat → Int32) (r : Int32 × Int64 × Int32 × (Nat → Int32) × (Nat → Int32) × (Nat → Int32) × (Nat → Int32)) (hP : va_P D vwCl [(aP, .inr (5, [.int p_width, .int p_height, .int p_kernel, .int p_power, .int p_fall, .int p_ax, .int p_ay, .long p_shut, .long p_dots])), (aG, .inr (0, [.ref aP, .ref aG_columns, .ref aG_lines, .ref aG_distances, .ref aG_weights, .int g_cells, .long g_free, .int g_freeCount])), (aG_columns, .inl (cy.1, 64, .inl g_columns)), (aG_lines, .inl (cy.1, 64, .inl g_lines)), (aG_distances, .inl (cy.1, 64, .inl g_distances)), (aG_weights, .inl (cy.1, 64, .inl g_weights))] H0) (hD0 : va_D (fun _ => True) [(aP, .inr (5, [.int p_width, .int p_height, .int p_kernel, .int p_power, .int p_fall, .int p_ax, .int p_ay, .long p_shut, .long p_dots])), (aG, .inr (0, [.ref aP, .ref aG_columns, .ref aG_lines, .ref aG_distances, .ref aG_weights, .int g_cells, .long g_free, .int g_freeCount])), (aG_columns, .inl (cy.1, 64, .inl g_columns)), (aG_lines, .inl (cy.1, 64, .inl g_lines)), (aG_distances, .inl (cy.1, 64, .inl g_distances)), (aG_weights, .inl (cy.1, 64, .inl g_weights))]) (hf : f_X0_lay p_width p_height p_kernel p_power p_fall p_ax p_ay p_shut g_cells g_free g_freeCount g_columns g_lines g_distances g_weights = some r) : Wr l yX0_lay cX0_lay 4 none ({ frames := 2, cells := 0, slots := 0, locals := 45 } : Room) ([.ref aG] : List Value) none D cy H0 [(aP, .inr (5, [.int p_width, .int p_height, .int p_kernel, .int p_power, .int p_fall, .int p_ax, .int p_ay, .long p_shut, .long p_dots])), (aG, .inr (0, [.ref aP, .ref aG_columns, .ref aG_lines, .ref aG_distances, .ref aG_weights, .int g_cells, .long g_free, .int g_freeCount])), (aG_columns, .inl (cy.1, 64, .inl g_columns)), (aG_lines, .inl (cy.1, 64, .inl g_lines)), (aG_distances, .inl (cy.1, 64, .inl g_distances)), (aG_weights, .inl (cy.1, 64, .inl g_weights))] [(aP, .inr (5, [.int p_width, .int p_height, .int p_kernel, .int p_power, .int p_fall, .int p_ax, .int p_ay, .long p_shut, .long p_dots])), (aG, .inr (0, [.ref aP, .ref aG_columns, .ref aG_lines, .ref aG_distances, .ref aG_weights, .int (r.1), .long (r.2.1), .int (r.2.2.1)])), (aG_columns, .inl (cy.1, 64, .inl (r.2.2.2.1))), (aG_lines, .inl (cy.1, 64, .inl (r.2.2.2.2.1))), (aG_distances, .inl (cy.1, 64, .inl (r.2.2.2.2.2.1))), (aG_weights, .inl (cy.1, 64, .inl (r.2.2.2.2.2.2)))] := by
  refine wr_of (by decide +kernel) (Nat.le_of_ble_eq_true rfl) hD0 ?_
  intro p e s m below meth c ls A S hr hlocks hk hl hD hS hA
  obtain ⟨hx, hb, hml, hown, hts⟩ := id S
  have hl : lv_has ls 4 [(0, .ref aG)] := hl
  rw [f_X0_lay] at hf
  have J126 : ∀ (g_cells : Int32) (g_free : Int64) (g_freeCount : Int32) (g_columns : Nat → Int32) (g_lines : Nat → Int32) (g_distances : Nat → Int32) (g_weights : Nat → Int32) (H : Heap) (locs : List Loc) (ls : Array Slot), va_P D vwCl [(aP, .inr (5, [.int p_width, .int p_height, .int p_kernel, .int p_power, .int p_fall, .int p_ax, .int p_ay, .long p_shut, .long p_dots])), (aG, .inr (0, [.ref aP, .ref aG_columns, .ref aG_lines, .ref aG_distances, .ref aG_weights, .int g_cells, .long g_free, .int g_freeCount])), (aG_columns, .inl (cy.1, 64, .inl g_columns)), (aG_lines, .inl (cy.1, 64, .inl g_lines)), (aG_distances, .inl (cy.1, 64, .inl g_distances)), (aG_weights, .inl (cy.1, 64, .inl g_weights))] H → va_D A [(aP, .inr (5, [.int p_width, .int p_height, .int p_kernel, .int p_power, .int p_fall, .int p_ax, .int p_ay, .long p_shut, .long p_dots])), (aG, .inr (0, [.ref aP, .ref aG_columns, .ref aG_lines, .ref aG_distances, .ref aG_weights, .int g_cells, .long g_free, .int g_freeCount])), (aG_columns, .inl (cy.1, 64, .inl g_columns)), (aG_lines, .inl (cy.1, 64, .inl g_lines)), (aG_distances, .inl (cy.1, 64, .inl g_distances)), (aG_weights, .inl (cy.1, 64, .inl g_weights))] → va_S A H0 H locs → lv_has ls 4 [(0, .ref aG)] → j_X0_lay_126 p_shut g_cells g_free g_freeCount g_columns g_lines g_distances g_weights = some r → W p l e ({ frames := 2, cells := 0, slots := 0, locals := 45 } : Room) s m ([.ref aG] : List Value).toArray below meth c H locs 0 0 (MQ below (QW none D [(aP, .inr (5, [.int p_width, .int p_height, .int p_kernel, .int p_power, .int p_fall, .int p_ax, .int p_ay, .long p_shut, .long p_dots])), (aG, .inr (0, [.ref aP, .ref aG_columns, .ref aG_lines, .ref aG_distances, .ref aG_weights, .int (r.1), .long (r.2.1), .int (r.2.2.1)])), (aG_columns, .inl (cy.1, 64, .inl (r.2.2.2.1))), (aG_lines, .inl (cy.1, 64, .inl (r.2.2.2.2.1))), (aG_distances, .inl (cy.1, 64, .inl (r.2.2.2.2.2.1))), (aG_weights, .inl (cy.1, 64, .inl (r.2.2.2.2.2.2)))] H0 A) ([.ref aG] : List Value).toArray s 0 0 A) (F0 m 126 ls []) := by
    intro g_cells g_free g_freeCount g_columns g_lines g_distances g_weights H locs ls hP hD hS hl hf
    rw [j_X0_lay_126] at hf
    refine lv_aload_n hx hb dX0_lay_126 rfl (lv_at hl 0 rfl) ?_
    refine lv_ldc2 hx hb hown (hts _ tw_134) dX0_lay_127 ?_
    refine lv_bipush (v := (64 : Int32)) hx hb dX0_lay_130 (by decide) ?_
    refine lv_aload_n hx hb dX0_lay_132 rfl (lv_at hl 0 rfl) ?_
    refine va_get (D := D) (ci := 0) (v := .int g_cells) (C := RX0) (T := TX0) (N := 8) hx hb hts iX0 hown hk.1 hP 1 rfl rfl 5 (by decide) (hts _ tw_146) (fun _ h9 => h9) rfl dX0_lay_133 ?_
    refine lv_isub hx hb dX0_lay_136 ?_
    refine lv_lushr (v := (lus (-1 : Int64) ((64 : Int32) - g_cells))) hx hb dX0_lay_137 rfl ?_
    refine lv_aload_n hx hb dX0_lay_138 rfl (lv_at hl 0 rfl) ?_
    refine va_get (D := D) (ci := 0) (v := .ref aP) (C := RX0) (T := TX0) (N := 8) hx hb hts iX0 hown hk.1 hP 1 rfl rfl 0 (by decide) (hts _ tw_141) (fun _ h9 => h9) rfl dX0_lay_139 ?_
    refine va_get (D := D) (ci := 5) (v := .long p_shut) (C := RX5) (T := TX5) (N := 9) hx hb hts iX5 hown hk.1 hP 0 rfl rfl 7 (by decide) (hts _ tw_85) (fun _ h9 => h9) rfl dX0_lay_142 ?_
    refine lv_ldc2 hx hb hown (hts _ tw_134) dX0_lay_145 ?_
    refine lv_lxor hx hb dX0_lay_148 ?_
    refine lv_land hx hb dX0_lay_149 ?_
    refine va_put (D := D) (ci := 0) (v := .long ((lus (-1 : Int64) ((64 : Int32) - g_cells)) &&& (p_shut ^^^ (-1 : Int64)))) (ty := .long) (C := RX0) (T := TX0) (N := 8) hx hb hts iX0 tyX0 tyX0_ok nmX0 hown hk.1 hP hD hS 1 rfl rfl 6 (by decide) (hts _ tw_151) (fun _ h9 => h9) rfl (by decide +kernel) rfl rfl (Nat.le_of_ble_eq_true rfl) dX0_lay_150 (fun H locs hP hD hS => ?_)
    have hP : va_P D vwCl [(aP, .inr (5, [.int p_width, .int p_height, .int p_kernel, .int p_power, .int p_fall, .int p_ax, .int p_ay, .long p_shut, .long p_dots])), (aG, .inr (0, [.ref aP, .ref aG_columns, .ref aG_lines, .ref aG_distances, .ref aG_weights, .int g_cells, .long ((lus (-1 : Int64) ((64 : Int32) - g_cells)) &&& (p_shut ^^^ (-1 : Int64))), .int g_freeCount])), (aG_columns, .inl (cy.1, 64, .inl g_columns)), (aG_lines, .inl (cy.1, 64, .inl g_lines)), (aG_distances, .inl (cy.1, 64, .inl g_distances)), (aG_weights, .inl (cy.1, 64, .inl g_weights))] H := hP
    have hD : va_D A [(aP, .inr (5, [.int p_width, .int p_height, .int p_kernel, .int p_power, .int p_fall, .int p_ax, .int p_ay, .long p_shut, .long p_dots])), (aG, .inr (0, [.ref aP, .ref aG_columns, .ref aG_lines, .ref aG_distances, .ref aG_weights, .int g_cells, .long ((lus (-1 : Int64) ((64 : Int32) - g_cells)) &&& (p_shut ^^^ (-1 : Int64))), .int g_freeCount])), (aG_columns, .inl (cy.1, 64, .inl g_columns)), (aG_lines, .inl (cy.1, 64, .inl g_lines)), (aG_distances, .inl (cy.1, 64, .inl g_distances)), (aG_weights, .inl (cy.1, 64, .inl g_weights))] := hD
    refine lv_aload_n hx hb dX0_lay_153 rfl (lv_at hl 0 rfl) ?_
    refine lv_aload_n hx hb dX0_lay_154 rfl (lv_at hl 0 rfl) ?_
    refine va_get (D := D) (ci := 0) (v := .long ((lus (-1 : Int64) ((64 : Int32) - g_cells)) &&& (p_shut ^^^ (-1 : Int64)))) (C := RX0) (T := TX0) (N := 8) hx hb hts iX0 hown hk.1 hP 1 rfl rfl 6 (by decide) (hts _ tw_151) (fun _ h9 => h9) rfl dX0_lay_155 ?_
    obtain ⟨z158, hz158, hf⟩ := q_bind hf
    refine q_rdS (As := [.long ((lus (-1 : Int64) ((64 : Int32) - g_cells)) &&& (p_shut ^^^ (-1 : Int64)))]) (rest := [.ref aG]) (st2 := [.int z158, .ref aG]) S hk (c_J13_bitCount_95d88 l D cy H ((lus (-1 : Int64) ((64 : Int32) - g_cells)) &&& (p_shut ^^^ (-1 : Int64))) z158 hz158) ok_J13_bitCount_95d88 tw_135 ⟨rfl, rfl, Nat.le_of_ble_eq_true rfl, Nat.le_of_ble_eq_true rfl⟩ rfl hl.1 rfl (Nat.le_of_ble_eq_true rfl) dX0_lay_158 ⟨Nat.zero_le _, Nat.zero_le _⟩ rfl ?_
    refine va_put (D := D) (ci := 0) (v := .int z158) (ty := .int) (C := RX0) (T := TX0) (N := 8) hx hb hts iX0 tyX0 tyX0_ok nmX0 hown hk.1 hP hD hS 1 rfl rfl 7 (by decide) (hts _ tw_155) (fun _ h9 => h9) rfl (by decide +kernel) rfl rfl (Nat.le_of_ble_eq_true rfl) dX0_lay_161 (fun H locs hP hD hS => ?_)
    have hP : va_P D vwCl [(aP, .inr (5, [.int p_width, .int p_height, .int p_kernel, .int p_power, .int p_fall, .int p_ax, .int p_ay, .long p_shut, .long p_dots])), (aG, .inr (0, [.ref aP, .ref aG_columns, .ref aG_lines, .ref aG_distances, .ref aG_weights, .int g_cells, .long ((lus (-1 : Int64) ((64 : Int32) - g_cells)) &&& (p_shut ^^^ (-1 : Int64))), .int z158])), (aG_columns, .inl (cy.1, 64, .inl g_columns)), (aG_lines, .inl (cy.1, 64, .inl g_lines)), (aG_distances, .inl (cy.1, 64, .inl g_distances)), (aG_weights, .inl (cy.1, 64, .inl g_weights))] H := hP
    have hD : va_D A [(aP, .inr (5, [.int p_width, .int p_height, .int p_kernel, .int p_power, .int p_fall, .int p_ax, .int p_ay, .long p_shut, .long p_dots])), (aG, .inr (0, [.ref aP, .ref aG_columns, .ref aG_lines, .ref aG_distances, .ref aG_weights, .int g_cells, .long ((lus (-1 : Int64) ((64 : Int32) - g_cells)) &&& (p_shut ^^^ (-1 : Int64))), .int z158])), (aG_columns, .inl (cy.1, 64, .inl g_columns)), (aG_lines, .inl (cy.1, 64, .inl g_lines)), (aG_distances, .inl (cy.1, 64, .inl g_distances)), (aG_weights, .inl (cy.1, 64, .inl g_weights))] := hD
    have hf := Option.some.inj hf
    subst hf
    exact q_rvW hP hS hx hb hr hlocks dX0_lay_164
  have J7 : ∀ (n7 : Nat) (x1 : Int32) (g_cells : Int32) (g_free : Int64) (g_freeCount : Int32) (g_columns : Nat → Int32) (g_lines : Nat → Int32) (g_distances : Nat → Int32) (g_weights : Nat → Int32) (H : Heap) (locs : List Loc) (ls : Array Slot), va_P D vwCl [(aP, .inr (5, [.int p_width, .int p_height, .int p_kernel, .int p_power, .int p_fall, .int p_ax, .int p_ay, .long p_shut, .long p_dots])), (aG, .inr (0, [.ref aP, .ref aG_columns, .ref aG_lines, .ref aG_distances, .ref aG_weights, .int g_cells, .long g_free, .int g_freeCount])), (aG_columns, .inl (cy.1, 64, .inl g_columns)), (aG_lines, .inl (cy.1, 64, .inl g_lines)), (aG_distances, .inl (cy.1, 64, .inl g_distances)), (aG_weights, .inl (cy.1, 64, .inl g_weights))] H → va_D A [(aP, .inr (5, [.int p_width, .int p_height, .int p_kernel, .int p_power, .int p_fall, .int p_ax, .int p_ay, .long p_shut, .long p_dots])), (aG, .inr (0, [.ref aP, .ref aG_columns, .ref aG_lines, .ref aG_distances, .ref aG_weights, .int g_cells, .long g_free, .int g_freeCount])), (aG_columns, .inl (cy.1, 64, .inl g_columns)), (aG_lines, .inl (cy.1, 64, .inl g_lines)), (aG_distances, .inl (cy.1, 64, .inl g_distances)), (aG_weights, .inl (cy.1, 64, .inl g_weights))] → va_S A H0 H locs → lv_has ls 4 [(0, .ref aG), (1, .int x1)] → lp_X0_lay_7 p_width p_height p_kernel p_power p_fall p_ax p_ay p_shut n7 x1 g_cells g_free g_freeCount g_columns g_lines g_distances g_weights = some r → W p l e ({ frames := 2, cells := 0, slots := 0, locals := 45 } : Room) s m ([.ref aG] : List Value).toArray below meth c H locs 0 0 (MQ below (QW none D [(aP, .inr (5, [.int p_width, .int p_height, .int p_kernel, .int p_power, .int p_fall, .int p_ax, .int p_ay, .long p_shut, .long p_dots])), (aG, .inr (0, [.ref aP, .ref aG_columns, .ref aG_lines, .ref aG_distances, .ref aG_weights, .int (r.1), .long (r.2.1), .int (r.2.2.1)])), (aG_columns, .inl (cy.1, 64, .inl (r.2.2.2.1))), (aG_lines, .inl (cy.1, 64, .inl (r.2.2.2.2.1))), (aG_distances, .inl (cy.1, 64, .inl (r.2.2.2.2.2.1))), (aG_weights, .inl (cy.1, 64, .inl (r.2.2.2.2.2.2)))] H0 A) ([.ref aG] : List Value).toArray s 0 0 A) (F0 m 7 ls []) := by
    intro n7
    induction n7 with
    | zero =>
      intro x1 g_cells g_free g_freeCount g_columns g_lines g_distances g_weights H locs ls hP hD hS hl hf
      rw [lp_X0_lay_7_z] at hf
      cases hf
    | succ n7 ih7 =>
      have J26 : ∀ (n26 : Nat) (x1 : Int32) (x2 : Int32) (g_cells : Int32) (g_free : Int64) (g_freeCount : Int32) (g_columns : Nat → Int32) (g_lines : Nat → Int32) (g_distances : Nat → Int32) (g_weights : Nat → Int32) (H : Heap) (locs : List Loc) (ls : Array Slot), va_P D vwCl [(aP, .inr (5, [.int p_width, .int p_height, .int p_kernel, .int p_power, .int p_fall, .int p_ax, .int p_ay, .long p_shut, .long p_dots])), (aG, .inr (0, [.ref aP, .ref aG_columns, .ref aG_lines, .ref aG_distances, .ref aG_weights, .int g_cells, .long g_free, .int g_freeCount])), (aG_columns, .inl (cy.1, 64, .inl g_columns)), (aG_lines, .inl (cy.1, 64, .inl g_lines)), (aG_distances, .inl (cy.1, 64, .inl g_distances)), (aG_weights, .inl (cy.1, 64, .inl g_weights))] H → va_D A [(aP, .inr (5, [.int p_width, .int p_height, .int p_kernel, .int p_power, .int p_fall, .int p_ax, .int p_ay, .long p_shut, .long p_dots])), (aG, .inr (0, [.ref aP, .ref aG_columns, .ref aG_lines, .ref aG_distances, .ref aG_weights, .int g_cells, .long g_free, .int g_freeCount])), (aG_columns, .inl (cy.1, 64, .inl g_columns)), (aG_lines, .inl (cy.1, 64, .inl g_lines)), (aG_distances, .inl (cy.1, 64, .inl g_distances)), (aG_weights, .inl (cy.1, 64, .inl g_weights))] → va_S A H0 H locs → lv_has ls 4 [(0, .ref aG), (1, .int x1), (2, .int x2)] → lp_X0_lay_26 p_width p_height p_kernel p_power p_fall p_ax p_ay (lp_X0_lay_7 p_width p_height p_kernel p_power p_fall p_ax p_ay p_shut n7) n26 x1 x2 g_cells g_free g_freeCount g_columns g_lines g_distances g_weights = some r → W p l e ({ frames := 2, cells := 0, slots := 0, locals := 45 } : Room) s m ([.ref aG] : List Value).toArray below meth c H locs 0 0 (MQ below (QW none D [(aP, .inr (5, [.int p_width, .int p_height, .int p_kernel, .int p_power, .int p_fall, .int p_ax, .int p_ay, .long p_shut, .long p_dots])), (aG, .inr (0, [.ref aP, .ref aG_columns, .ref aG_lines, .ref aG_distances, .ref aG_weights, .int (r.1), .long (r.2.1), .int (r.2.2.1)])), (aG_columns, .inl (cy.1, 64, .inl (r.2.2.2.1))), (aG_lines, .inl (cy.1, 64, .inl (r.2.2.2.2.1))), (aG_distances, .inl (cy.1, 64, .inl (r.2.2.2.2.2.1))), (aG_weights, .inl (cy.1, 64, .inl (r.2.2.2.2.2.2)))] H0 A) ([.ref aG] : List Value).toArray s 0 0 A) (F0 m 26 ls []) := by
        intro n26
        induction n26 with
        | zero =>
          intro x1 x2 g_cells g_free g_freeCount g_columns g_lines g_distances g_weights H locs ls hP hD hS hl hf
          rw [lp_X0_lay_26_z] at hf
          cases hf
        | succ n26 ih26 =>
          intro x1 x2 g_cells g_free g_freeCount g_columns g_lines g_distances g_weights H locs ls hP hD hS hl hf
          rw [lp_X0_lay_26_s] at hf
          refine lv_iload_n hx hb dX0_lay_26 rfl (lv_at hl 2 rfl) ?_
          refine lv_aload_n hx hb dX0_lay_27 rfl (lv_at hl 0 rfl) ?_
          refine va_get (D := D) (ci := 0) (v := .ref aP) (C := RX0) (T := TX0) (N := 8) hx hb hts iX0 hown hk.1 hP 1 rfl rfl 0 (by decide) (hts _ tw_141) (fun _ h9 => h9) rfl dX0_lay_28 ?_
          refine va_get (D := D) (ci := 5) (v := .int p_width) (C := RX5) (T := TX5) (N := 9) hx hb hts iX5 hown hk.1 hP 0 rfl rfl 0 (by decide) (hts _ tw_62) (fun _ h9 => h9) rfl dX0_lay_31 ?_
          refine lv_icmp_ge (tgt := 120) hx hb dX0_lay_34 (by decide) (fun hc => ?_) (fun hc => ?_)
          · have hf := q_t hc hf
            refine lv_iinc (v := (x1 + 1)) (lv' := [(1, .int (x1 + 1)), (0, .ref aG), (2, .int x2)]) hx hb dX0_lay_120 hl (k := 1) rfl rfl (by decide) rfl (fun ls hl => ?_)
            refine lv_goto (tgt := 7) hx hb dX0_lay_123 (by decide) ?_
            exact ih7 (x1 + 1) g_cells g_free g_freeCount g_columns g_lines g_distances g_weights H locs ls hP hD hS (lv_sub hl [1, 0] rfl) hf
          · have hf := q_f hc hf
            refine lv_iload_n hx hb dX0_lay_37 rfl (lv_at hl 2 rfl) ?_
            refine lv_bipush (v := (8 : Int32)) hx hb dX0_lay_38 (by decide) ?_
            refine lv_icmp_ge (tgt := 120) hx hb dX0_lay_40 (by decide) (fun hc => ?_) (fun hc => ?_)
            · have hf := q_t hc hf
              refine lv_iinc (v := (x1 + 1)) (lv' := [(1, .int (x1 + 1)), (0, .ref aG), (2, .int x2)]) hx hb dX0_lay_120 hl (k := 1) rfl rfl (by decide) rfl (fun ls hl => ?_)
              refine lv_goto (tgt := 7) hx hb dX0_lay_123 (by decide) ?_
              exact ih7 (x1 + 1) g_cells g_free g_freeCount g_columns g_lines g_distances g_weights H locs ls hP hD hS (lv_sub hl [1, 0] rfl) hf
            · have hf := q_f hc hf
              refine lv_aload_n hx hb dX0_lay_43 rfl (lv_at hl 0 rfl) ?_
              refine va_get (D := D) (ci := 0) (v := .ref aG_columns) (C := RX0) (T := TX0) (N := 8) hx hb hts iX0 hown hk.1 hP 1 rfl rfl 1 (by decide) (hts _ tw_142) (fun _ h9 => h9) rfl dX0_lay_44 ?_
              refine lv_aload_n hx hb dX0_lay_47 rfl (lv_at hl 0 rfl) ?_
              refine va_get (D := D) (ci := 0) (v := .int g_cells) (C := RX0) (T := TX0) (N := 8) hx hb hts iX0 hown hk.1 hP 1 rfl rfl 5 (by decide) (hts _ tw_146) (fun _ h9 => h9) rfl dX0_lay_48 ?_
              refine lv_iload_n hx hb dX0_lay_51 rfl (lv_at hl 2 rfl) ?_
              obtain ⟨hi, hf⟩ := q_in hf
              refine va_iast hx hb hk.1 hP hD hS 2 0 rfl rfl hi dX0_lay_52 (fun H locs hP hD hS => ?_)
              have hP : va_P D vwCl [(aP, .inr (5, [.int p_width, .int p_height, .int p_kernel, .int p_power, .int p_fall, .int p_ax, .int p_ay, .long p_shut, .long p_dots])), (aG, .inr (0, [.ref aP, .ref aG_columns, .ref aG_lines, .ref aG_distances, .ref aG_weights, .int g_cells, .long g_free, .int g_freeCount])), (aG_columns, .inl (cy.1, 64, .inl (upd g_columns g_cells.toNatClampNeg x2))), (aG_lines, .inl (cy.1, 64, .inl g_lines)), (aG_distances, .inl (cy.1, 64, .inl g_distances)), (aG_weights, .inl (cy.1, 64, .inl g_weights))] H := hP
              have hD : va_D A [(aP, .inr (5, [.int p_width, .int p_height, .int p_kernel, .int p_power, .int p_fall, .int p_ax, .int p_ay, .long p_shut, .long p_dots])), (aG, .inr (0, [.ref aP, .ref aG_columns, .ref aG_lines, .ref aG_distances, .ref aG_weights, .int g_cells, .long g_free, .int g_freeCount])), (aG_columns, .inl (cy.1, 64, .inl (upd g_columns g_cells.toNatClampNeg x2))), (aG_lines, .inl (cy.1, 64, .inl g_lines)), (aG_distances, .inl (cy.1, 64, .inl g_distances)), (aG_weights, .inl (cy.1, 64, .inl g_weights))] := hD
              refine lv_aload_n hx hb dX0_lay_53 rfl (lv_at hl 0 rfl) ?_
              refine va_get (D := D) (ci := 0) (v := .ref aG_lines) (C := RX0) (T := TX0) (N := 8) hx hb hts iX0 hown hk.1 hP 1 rfl rfl 2 (by decide) (hts _ tw_143) (fun _ h9 => h9) rfl dX0_lay_54 ?_
              refine lv_aload_n hx hb dX0_lay_57 rfl (lv_at hl 0 rfl) ?_
              refine va_get (D := D) (ci := 0) (v := .int g_cells) (C := RX0) (T := TX0) (N := 8) hx hb hts iX0 hown hk.1 hP 1 rfl rfl 5 (by decide) (hts _ tw_146) (fun _ h9 => h9) rfl dX0_lay_58 ?_
              refine lv_iload_n hx hb dX0_lay_61 rfl (lv_at hl 1 rfl) ?_
              obtain ⟨hi, hf⟩ := q_in hf
              refine va_iast hx hb hk.1 hP hD hS 3 0 rfl rfl hi dX0_lay_62 (fun H locs hP hD hS => ?_)
              have hP : va_P D vwCl [(aP, .inr (5, [.int p_width, .int p_height, .int p_kernel, .int p_power, .int p_fall, .int p_ax, .int p_ay, .long p_shut, .long p_dots])), (aG, .inr (0, [.ref aP, .ref aG_columns, .ref aG_lines, .ref aG_distances, .ref aG_weights, .int g_cells, .long g_free, .int g_freeCount])), (aG_columns, .inl (cy.1, 64, .inl (upd g_columns g_cells.toNatClampNeg x2))), (aG_lines, .inl (cy.1, 64, .inl (upd g_lines g_cells.toNatClampNeg x1))), (aG_distances, .inl (cy.1, 64, .inl g_distances)), (aG_weights, .inl (cy.1, 64, .inl g_weights))] H := hP
              have hD : va_D A [(aP, .inr (5, [.int p_width, .int p_height, .int p_kernel, .int p_power, .int p_fall, .int p_ax, .int p_ay, .long p_shut, .long p_dots])), (aG, .inr (0, [.ref aP, .ref aG_columns, .ref aG_lines, .ref aG_distances, .ref aG_weights, .int g_cells, .long g_free, .int g_freeCount])), (aG_columns, .inl (cy.1, 64, .inl (upd g_columns g_cells.toNatClampNeg x2))), (aG_lines, .inl (cy.1, 64, .inl (upd g_lines g_cells.toNatClampNeg x1))), (aG_distances, .inl (cy.1, 64, .inl g_distances)), (aG_weights, .inl (cy.1, 64, .inl g_weights))] := hD
              refine lv_aload_n hx hb dX0_lay_63 rfl (lv_at hl 0 rfl) ?_
              refine lv_dup hx hb dX0_lay_64 rfl ?_
              refine va_get (D := D) (ci := 0) (v := .int g_cells) (C := RX0) (T := TX0) (N := 8) hx hb hts iX0 hown hk.1 hP 1 rfl rfl 5 (by decide) (hts _ tw_146) (fun _ h9 => h9) rfl dX0_lay_65 ?_
              refine lv_iconst (v := (1 : Int32)) hx hb dX0_lay_68 (by decide) ?_
              refine lv_iadd hx hb dX0_lay_69 ?_
              refine va_put (D := D) (ci := 0) (v := .int (g_cells + (1 : Int32))) (ty := .int) (C := RX0) (T := TX0) (N := 8) hx hb hts iX0 tyX0 tyX0_ok nmX0 hown hk.1 hP hD hS 1 rfl rfl 5 (by decide) (hts _ tw_146) (fun _ h9 => h9) rfl (by decide +kernel) rfl rfl (Nat.le_of_ble_eq_true rfl) dX0_lay_70 (fun H locs hP hD hS => ?_)
              have hP : va_P D vwCl [(aP, .inr (5, [.int p_width, .int p_height, .int p_kernel, .int p_power, .int p_fall, .int p_ax, .int p_ay, .long p_shut, .long p_dots])), (aG, .inr (0, [.ref aP, .ref aG_columns, .ref aG_lines, .ref aG_distances, .ref aG_weights, .int (g_cells + (1 : Int32)), .long g_free, .int g_freeCount])), (aG_columns, .inl (cy.1, 64, .inl (upd g_columns g_cells.toNatClampNeg x2))), (aG_lines, .inl (cy.1, 64, .inl (upd g_lines g_cells.toNatClampNeg x1))), (aG_distances, .inl (cy.1, 64, .inl g_distances)), (aG_weights, .inl (cy.1, 64, .inl g_weights))] H := hP
              have hD : va_D A [(aP, .inr (5, [.int p_width, .int p_height, .int p_kernel, .int p_power, .int p_fall, .int p_ax, .int p_ay, .long p_shut, .long p_dots])), (aG, .inr (0, [.ref aP, .ref aG_columns, .ref aG_lines, .ref aG_distances, .ref aG_weights, .int (g_cells + (1 : Int32)), .long g_free, .int g_freeCount])), (aG_columns, .inl (cy.1, 64, .inl (upd g_columns g_cells.toNatClampNeg x2))), (aG_lines, .inl (cy.1, 64, .inl (upd g_lines g_cells.toNatClampNeg x1))), (aG_distances, .inl (cy.1, 64, .inl g_distances)), (aG_weights, .inl (cy.1, 64, .inl g_weights))] := hD
              refine lv_aload_n hx hb dX0_lay_73 rfl (lv_at hl 0 rfl) ?_
              refine va_get (D := D) (ci := 0) (v := .ref aP) (C := RX0) (T := TX0) (N := 8) hx hb hts iX0 hown hk.1 hP 1 rfl rfl 0 (by decide) (hts _ tw_141) (fun _ h9 => h9) rfl dX0_lay_74 ?_
              refine lv_iload_n hx hb dX0_lay_77 rfl (lv_at hl 2 rfl) ?_
              refine lv_iload_n hx hb dX0_lay_78 rfl (lv_at hl 1 rfl) ?_
              obtain ⟨z79, hz79, hf⟩ := q_bind hf
              refine q_rdV (As := [.int x2, .int x1]) (rest := []) (st2 := [.int z79]) S hk (c_X5_distanceOf l D cy H aP p_width p_height p_kernel p_power p_fall p_ax p_ay p_shut p_dots x2 x1 z79 (hP.sub [0] rfl) hz79) ok_X5_distanceOf tw_120 ⟨rfl, rfl, Nat.le_of_ble_eq_true rfl, Nat.le_of_ble_eq_true rfl⟩ (va_recv hk.1 hP (ci := 5) (q0 := 0) rfl rfl) rfl hl.1 rfl (Nat.le_of_ble_eq_true rfl) dX0_lay_79 ⟨Nat.zero_le _, Nat.zero_le _⟩ rfl ?_
              refine lv_istore_n (lv' := [(3, .int z79), (0, .ref aG), (1, .int x1), (2, .int x2)]) hx hb dX0_lay_82 rfl hl (by decide) rfl (fun ls hl => ?_)
              refine lv_aload_n hx hb dX0_lay_83 rfl (lv_at hl 1 rfl) ?_
              refine va_get (D := D) (ci := 0) (v := .ref aG_distances) (C := RX0) (T := TX0) (N := 8) hx hb hts iX0 hown hk.1 hP 1 rfl rfl 3 (by decide) (hts _ tw_144) (fun _ h9 => h9) rfl dX0_lay_84 ?_
              refine lv_bipush (v := (8 : Int32)) hx hb dX0_lay_87 (by decide) ?_
              refine lv_iload_n hx hb dX0_lay_89 rfl (lv_at hl 2 rfl) ?_
              refine lv_imul hx hb dX0_lay_90 ?_
              refine lv_iload_n hx hb dX0_lay_91 rfl (lv_at hl 3 rfl) ?_
              refine lv_iadd hx hb dX0_lay_92 ?_
              refine lv_iload_n hx hb dX0_lay_93 rfl (lv_at hl 0 rfl) ?_
              obtain ⟨hi, hf⟩ := q_in hf
              refine va_iast hx hb hk.1 hP hD hS 4 0 rfl rfl hi dX0_lay_94 (fun H locs hP hD hS => ?_)
              have hP : va_P D vwCl [(aP, .inr (5, [.int p_width, .int p_height, .int p_kernel, .int p_power, .int p_fall, .int p_ax, .int p_ay, .long p_shut, .long p_dots])), (aG, .inr (0, [.ref aP, .ref aG_columns, .ref aG_lines, .ref aG_distances, .ref aG_weights, .int (g_cells + (1 : Int32)), .long g_free, .int g_freeCount])), (aG_columns, .inl (cy.1, 64, .inl (upd g_columns g_cells.toNatClampNeg x2))), (aG_lines, .inl (cy.1, 64, .inl (upd g_lines g_cells.toNatClampNeg x1))), (aG_distances, .inl (cy.1, 64, .inl (upd g_distances (((8 : Int32) * x1) + x2).toNatClampNeg z79))), (aG_weights, .inl (cy.1, 64, .inl g_weights))] H := hP
              have hD : va_D A [(aP, .inr (5, [.int p_width, .int p_height, .int p_kernel, .int p_power, .int p_fall, .int p_ax, .int p_ay, .long p_shut, .long p_dots])), (aG, .inr (0, [.ref aP, .ref aG_columns, .ref aG_lines, .ref aG_distances, .ref aG_weights, .int (g_cells + (1 : Int32)), .long g_free, .int g_freeCount])), (aG_columns, .inl (cy.1, 64, .inl (upd g_columns g_cells.toNatClampNeg x2))), (aG_lines, .inl (cy.1, 64, .inl (upd g_lines g_cells.toNatClampNeg x1))), (aG_distances, .inl (cy.1, 64, .inl (upd g_distances (((8 : Int32) * x1) + x2).toNatClampNeg z79))), (aG_weights, .inl (cy.1, 64, .inl g_weights))] := hD
              refine lv_aload_n hx hb dX0_lay_95 rfl (lv_at hl 1 rfl) ?_
              refine va_get (D := D) (ci := 0) (v := .ref aG_weights) (C := RX0) (T := TX0) (N := 8) hx hb hts iX0 hown hk.1 hP 1 rfl rfl 4 (by decide) (hts _ tw_145) (fun _ h9 => h9) rfl dX0_lay_96 ?_
              refine lv_bipush (v := (8 : Int32)) hx hb dX0_lay_99 (by decide) ?_
              refine lv_iload_n hx hb dX0_lay_101 rfl (lv_at hl 2 rfl) ?_
              refine lv_imul hx hb dX0_lay_102 ?_
              refine lv_iload_n hx hb dX0_lay_103 rfl (lv_at hl 3 rfl) ?_
              refine lv_iadd hx hb dX0_lay_104 ?_
              refine lv_aload_n hx hb dX0_lay_105 rfl (lv_at hl 1 rfl) ?_
              refine va_get (D := D) (ci := 0) (v := .ref aP) (C := RX0) (T := TX0) (N := 8) hx hb hts iX0 hown hk.1 hP 1 rfl rfl 0 (by decide) (hts _ tw_141) (fun _ h9 => h9) rfl dX0_lay_106 ?_
              refine lv_iload_n hx hb dX0_lay_109 rfl (lv_at hl 0 rfl) ?_
              obtain ⟨z110, hz110, hf⟩ := q_bind hf
              refine q_rdV (As := [.int z79]) (rest := [.int (((8 : Int32) * x1) + x2), .ref aG_weights]) (st2 := [.int z110, .int (((8 : Int32) * x1) + x2), .ref aG_weights]) S hk (c_X5_weightOf l D cy H aP p_width p_height p_kernel p_power p_fall p_ax p_ay p_shut p_dots z79 z110 (hP.sub [0] rfl) hz110) ok_X5_weightOf tw_127 ⟨rfl, rfl, Nat.le_of_ble_eq_true rfl, Nat.le_of_ble_eq_true rfl⟩ (va_recv hk.1 hP (ci := 5) (q0 := 0) rfl rfl) rfl hl.1 rfl (Nat.le_of_ble_eq_true rfl) dX0_lay_110 ⟨Nat.zero_le _, Nat.zero_le _⟩ rfl ?_
              obtain ⟨hi, hf⟩ := q_in hf
              refine va_iast hx hb hk.1 hP hD hS 5 0 rfl rfl hi dX0_lay_113 (fun H locs hP hD hS => ?_)
              have hP : va_P D vwCl [(aP, .inr (5, [.int p_width, .int p_height, .int p_kernel, .int p_power, .int p_fall, .int p_ax, .int p_ay, .long p_shut, .long p_dots])), (aG, .inr (0, [.ref aP, .ref aG_columns, .ref aG_lines, .ref aG_distances, .ref aG_weights, .int (g_cells + (1 : Int32)), .long g_free, .int g_freeCount])), (aG_columns, .inl (cy.1, 64, .inl (upd g_columns g_cells.toNatClampNeg x2))), (aG_lines, .inl (cy.1, 64, .inl (upd g_lines g_cells.toNatClampNeg x1))), (aG_distances, .inl (cy.1, 64, .inl (upd g_distances (((8 : Int32) * x1) + x2).toNatClampNeg z79))), (aG_weights, .inl (cy.1, 64, .inl (upd g_weights (((8 : Int32) * x1) + x2).toNatClampNeg z110)))] H := hP
              have hD : va_D A [(aP, .inr (5, [.int p_width, .int p_height, .int p_kernel, .int p_power, .int p_fall, .int p_ax, .int p_ay, .long p_shut, .long p_dots])), (aG, .inr (0, [.ref aP, .ref aG_columns, .ref aG_lines, .ref aG_distances, .ref aG_weights, .int (g_cells + (1 : Int32)), .long g_free, .int g_freeCount])), (aG_columns, .inl (cy.1, 64, .inl (upd g_columns g_cells.toNatClampNeg x2))), (aG_lines, .inl (cy.1, 64, .inl (upd g_lines g_cells.toNatClampNeg x1))), (aG_distances, .inl (cy.1, 64, .inl (upd g_distances (((8 : Int32) * x1) + x2).toNatClampNeg z79))), (aG_weights, .inl (cy.1, 64, .inl (upd g_weights (((8 : Int32) * x1) + x2).toNatClampNeg z110)))] := hD
              refine lv_iinc (v := (x2 + 1)) (lv' := [(2, .int (x2 + 1)), (3, .int z79), (0, .ref aG), (1, .int x1)]) hx hb dX0_lay_114 hl (k := 3) rfl rfl (by decide) rfl (fun ls hl => ?_)
              refine lv_goto (tgt := 26) hx hb dX0_lay_117 (by decide) ?_
              exact ih26 x1 (x2 + 1) (g_cells + (1 : Int32)) g_free g_freeCount (upd g_columns g_cells.toNatClampNeg x2) (upd g_lines g_cells.toNatClampNeg x1) (upd g_distances (((8 : Int32) * x1) + x2).toNatClampNeg z79) (upd g_weights (((8 : Int32) * x1) + x2).toNatClampNeg z110) H locs ls hP hD hS (lv_sub hl [2, 3, 0] rfl) hf
      intro x1 g_cells g_free g_freeCount g_columns g_lines g_distances g_weights H locs ls hP hD hS hl hf
      rw [lp_X0_lay_7_s] at hf
      refine lv_iload_n hx hb dX0_lay_7 rfl (lv_at hl 1 rfl) ?_
      refine lv_aload_n hx hb dX0_lay_8 rfl (lv_at hl 0 rfl) ?_
      refine va_get (D := D) (ci := 0) (v := .ref aP) (C := RX0) (T := TX0) (N := 8) hx hb hts iX0 hown hk.1 hP 1 rfl rfl 0 (by decide) (hts _ tw_141) (fun _ h9 => h9) rfl dX0_lay_9 ?_
      refine va_get (D := D) (ci := 5) (v := .int p_height) (C := RX5) (T := TX5) (N := 9) hx hb hts iX5 hown hk.1 hP 0 rfl rfl 1 (by decide) (hts _ tw_66) (fun _ h9 => h9) rfl dX0_lay_12 ?_
      refine lv_icmp_ge (tgt := 126) hx hb dX0_lay_15 (by decide) (fun hc => ?_) (fun hc => ?_)
      · have hf := q_t hc hf
        exact J126 g_cells g_free g_freeCount g_columns g_lines g_distances g_weights H locs ls hP hD hS (lv_sub hl [0] rfl) hf
      · have hf := q_f hc hf
        refine lv_iload_n hx hb dX0_lay_18 rfl (lv_at hl 1 rfl) ?_
        refine lv_bipush (v := (8 : Int32)) hx hb dX0_lay_19 (by decide) ?_
        refine lv_icmp_ge (tgt := 126) hx hb dX0_lay_21 (by decide) (fun hc => ?_) (fun hc => ?_)
        · have hf := q_t hc hf
          exact J126 g_cells g_free g_freeCount g_columns g_lines g_distances g_weights H locs ls hP hD hS (lv_sub hl [0] rfl) hf
        · have hf := q_f hc hf
          refine lv_iconst (v := (0 : Int32)) hx hb dX0_lay_24 (by decide) ?_
          refine lv_istore_n (lv' := [(2, .int (0 : Int32)), (0, .ref aG), (1, .int x1)]) hx hb dX0_lay_25 rfl hl (by decide) rfl (fun ls hl => ?_)
          exact J26 FU x1 (0 : Int32) g_cells g_free g_freeCount g_columns g_lines g_distances g_weights H locs ls hP hD hS (lv_sub hl [1, 2, 0] rfl) hf
  refine lv_aload_n hx hb dX0_lay_0 rfl (lv_at hl 0 rfl) ?_
  refine lv_iconst (v := (0 : Int32)) hx hb dX0_lay_1 (by decide) ?_
  refine va_put (D := D) (ci := 0) (v := .int (0 : Int32)) (ty := .int) (C := RX0) (T := TX0) (N := 8) hx hb hts iX0 tyX0 tyX0_ok nmX0 hown hk.1 hP hD hS 1 rfl rfl 5 (by decide) (hts _ tw_146) (fun _ h9 => h9) rfl (by decide +kernel) rfl rfl (Nat.le_of_ble_eq_true rfl) dX0_lay_2 (fun H locs hP hD hS => ?_)
  have hP : va_P D vwCl [(aP, .inr (5, [.int p_width, .int p_height, .int p_kernel, .int p_power, .int p_fall, .int p_ax, .int p_ay, .long p_shut, .long p_dots])), (aG, .inr (0, [.ref aP, .ref aG_columns, .ref aG_lines, .ref aG_distances, .ref aG_weights, .int (0 : Int32), .long g_free, .int g_freeCount])), (aG_columns, .inl (cy.1, 64, .inl g_columns)), (aG_lines, .inl (cy.1, 64, .inl g_lines)), (aG_distances, .inl (cy.1, 64, .inl g_distances)), (aG_weights, .inl (cy.1, 64, .inl g_weights))] H := hP
  have hD : va_D A [(aP, .inr (5, [.int p_width, .int p_height, .int p_kernel, .int p_power, .int p_fall, .int p_ax, .int p_ay, .long p_shut, .long p_dots])), (aG, .inr (0, [.ref aP, .ref aG_columns, .ref aG_lines, .ref aG_distances, .ref aG_weights, .int (0 : Int32), .long g_free, .int g_freeCount])), (aG_columns, .inl (cy.1, 64, .inl g_columns)), (aG_lines, .inl (cy.1, 64, .inl g_lines)), (aG_distances, .inl (cy.1, 64, .inl g_distances)), (aG_weights, .inl (cy.1, 64, .inl g_weights))] := hD
  refine lv_iconst (v := (0 : Int32)) hx hb dX0_lay_5 (by decide) ?_
  refine lv_istore_n (lv' := [(1, .int (0 : Int32)), (0, .ref aG)]) hx hb dX0_lay_6 rfl hl (by decide) rfl (fun ls hl => ?_)
  exact J7 FU (0 : Int32) (0 : Int32) g_free g_freeCount g_columns g_lines g_distances g_weights H locs ls hP hD hS (lv_sub hl [1, 0] rfl) hf
def f_X0_isCell (g_cells : Int32) (x1 : Int32) : Option (Int32) := if x1 < 0 then (some (0 : Int32)) else (if g_cells ≤ x1 then (some (0 : Int32)) else (some (1 : Int32)))
theorem ok_X0_isCell : OkV yX0_isCell cX0_isCell 2 (some Jvm.ClassFile.FieldType.boolean) 1 := ⟨⟨tw_418, tw_4, by decide +kernel, by decide +kernel, by decide +kernel⟩, tw_416, tw_417⟩
set_option maxHeartbeats 4000000 in
set_option maxRecDepth 100000 in
theorem c_X0_isCell (l : Launch) (D : va_G) (cy : ClassId × ClassId × ClassId) (H0 : Heap) (aP aG aG_columns aG_lines aG_distances aG_weights : Nat) (g_cells : Int32) (g_free : Int64) (g_freeCount : Int32) (x1 : Int32) (r : Int32) (hP : va_P D vwCl [(aG, .inr (0, [.ref aP, .ref aG_columns, .ref aG_lines, .ref aG_distances, .ref aG_weights, .int g_cells, .long g_free, .int g_freeCount]))] H0) (hf : f_X0_isCell g_cells x1 = some r) : Rd l yX0_isCell cX0_isCell 2 (some Jvm.ClassFile.FieldType.boolean) ({ frames := 0, cells := 0, slots := 0, locals := 0 } : Room) ([.ref aG, .int x1] : List Value) (some (.int r)) D cy H0 := by
  refine rd_of (by decide +kernel) (Nat.le_of_ble_eq_true rfl) ?_
  intro p e s m below meth c ls S hr hlocks hk hl
  obtain ⟨hx, hb, hml, hown, hts⟩ := id S
  have hl : lv_has ls 2 [(0, .ref aG), (1, .int x1)] := hl
  rw [f_X0_isCell] at hf
  refine lv_iload_n hx hb dX0_isCell_0 rfl (lv_at hl 1 rfl) ?_
  refine lv_if_lt (tgt := 16) hx hb dX0_isCell_1 (by decide) (fun hc => ?_) (fun hc => ?_)
  · have hf := q_t hc hf
    refine lv_iconst (v := (0 : Int32)) hx hb dX0_isCell_16 (by decide) ?_
    have hf := Option.some.inj hf
    subst hf
    exact q_rzR (Or.inl rfl) hx hb hr hlocks dX0_isCell_17
  · have hf := q_f hc hf
    refine lv_iload_n hx hb dX0_isCell_4 rfl (lv_at hl 1 rfl) ?_
    refine lv_aload_n hx hb dX0_isCell_5 rfl (lv_at hl 0 rfl) ?_
    refine va_get (D := D) (ci := 0) (v := .int g_cells) (C := RX0) (T := TX0) (N := 8) hx hb hts iX0 hown hk.1 hP 0 rfl rfl 5 (by decide) (hts _ tw_146) (fun _ h9 => h9) rfl dX0_isCell_6 ?_
    refine lv_icmp_ge (tgt := 16) hx hb dX0_isCell_9 (by decide) (fun hc => ?_) (fun hc => ?_)
    · have hf := q_t hc hf
      refine lv_iconst (v := (0 : Int32)) hx hb dX0_isCell_16 (by decide) ?_
      have hf := Option.some.inj hf
      subst hf
      exact q_rzR (Or.inl rfl) hx hb hr hlocks dX0_isCell_17
    · have hf := q_f hc hf
      refine lv_iconst (v := (1 : Int32)) hx hb dX0_isCell_12 (by decide) ?_
      refine lv_goto (tgt := 17) hx hb dX0_isCell_13 (by decide) ?_
      have hf := Option.some.inj hf
      subst hf
      exact q_rzR (Or.inr rfl) hx hb hr hlocks dX0_isCell_17
def f_X0_columnOf (g_cells : Int32) (g_columns : Nat → Int32) (x1 : Int32) : Option (Int32) := (f_X0_isCell g_cells x1).bind (fun z2 => if z2 = 0 then (some (0 : Int32)) else (if inb x1 64 = true then (some (g_columns x1.toNatClampNeg)) else none))
theorem ok_X0_columnOf : OkV yX0_columnOf cX0_columnOf 2 (some Jvm.ClassFile.FieldType.int) 1 := ⟨⟨tw_675, tw_4, by decide +kernel, by decide +kernel, by decide +kernel⟩, tw_673, tw_674⟩
set_option maxHeartbeats 4000000 in
set_option maxRecDepth 100000 in
theorem c_X0_columnOf (l : Launch) (D : va_G) (cy : ClassId × ClassId × ClassId) (H0 : Heap) (aP aG aG_columns aG_lines aG_distances aG_weights : Nat) (g_cells : Int32) (g_free : Int64) (g_freeCount : Int32) (g_columns : Nat → Int32) (x1 : Int32) (r : Int32) (hP : va_P D vwCl [(aG, .inr (0, [.ref aP, .ref aG_columns, .ref aG_lines, .ref aG_distances, .ref aG_weights, .int g_cells, .long g_free, .int g_freeCount])), (aG_columns, .inl (cy.1, 64, .inl g_columns))] H0) (hf : f_X0_columnOf g_cells g_columns x1 = some r) : Rd l yX0_columnOf cX0_columnOf 2 (some Jvm.ClassFile.FieldType.int) ({ frames := 1, cells := 0, slots := 0, locals := 21 } : Room) ([.ref aG, .int x1] : List Value) (some (.int r)) D cy H0 := by
  refine rd_of (by decide +kernel) (Nat.le_of_ble_eq_true rfl) ?_
  intro p e s m below meth c ls S hr hlocks hk hl
  obtain ⟨hx, hb, hml, hown, hts⟩ := id S
  have hl : lv_has ls 2 [(0, .ref aG), (1, .int x1)] := hl
  rw [f_X0_columnOf] at hf
  refine lv_aload_n hx hb dX0_columnOf_0 rfl (lv_at hl 0 rfl) ?_
  refine lv_iload_n hx hb dX0_columnOf_1 rfl (lv_at hl 1 rfl) ?_
  obtain ⟨z2, hz2, hf⟩ := q_bind hf
  refine q_rdV (As := [.int x1]) (rest := []) (st2 := [.int z2]) S hk (c_X0_isCell l D cy H0 aP aG aG_columns aG_lines aG_distances aG_weights g_cells g_free g_freeCount x1 z2 (hP.sub [0] rfl) hz2) ok_X0_isCell tw_423 ⟨rfl, rfl, Nat.le_of_ble_eq_true rfl, Nat.le_of_ble_eq_true rfl⟩ (va_recv hk.1 hP (ci := 0) (q0 := 0) rfl rfl) rfl hl.1 rfl (Nat.le_of_ble_eq_true rfl) dX0_columnOf_2 ⟨Nat.zero_le _, Nat.zero_le _⟩ rfl ?_
  refine lv_if_eq (tgt := 17) hx hb dX0_columnOf_5 (by decide) (fun hc => ?_) (fun hc => ?_)
  · have hf := q_t hc hf
    refine lv_iconst (v := (0 : Int32)) hx hb dX0_columnOf_17 (by decide) ?_
    have hf := Option.some.inj hf
    subst hf
    exact q_riR hx hb hr hlocks dX0_columnOf_18
  · have hf := q_f hc hf
    refine lv_aload_n hx hb dX0_columnOf_8 rfl (lv_at hl 0 rfl) ?_
    refine va_get (D := D) (ci := 0) (v := .ref aG_columns) (C := RX0) (T := TX0) (N := 8) hx hb hts iX0 hown hk.1 hP 0 rfl rfl 1 (by decide) (hts _ tw_142) (fun _ h9 => h9) rfl dX0_columnOf_9 ?_
    refine lv_iload_n hx hb dX0_columnOf_12 rfl (lv_at hl 1 rfl) ?_
    obtain ⟨hi, hf⟩ := q_in hf
    refine va_iald hx hb hk.1 hP 1 0 rfl rfl hi dX0_columnOf_13 ?_
    refine lv_goto (tgt := 18) hx hb dX0_columnOf_14 (by decide) ?_
    have hf := Option.some.inj hf
    subst hf
    exact q_riR hx hb hr hlocks dX0_columnOf_18
def f_X0_lineOf (g_cells : Int32) (g_lines : Nat → Int32) (x1 : Int32) : Option (Int32) := (f_X0_isCell g_cells x1).bind (fun z2 => if z2 = 0 then (some (0 : Int32)) else (if inb x1 64 = true then (some (g_lines x1.toNatClampNeg)) else none))
theorem ok_X0_lineOf : OkV yX0_lineOf cX0_lineOf 2 (some Jvm.ClassFile.FieldType.int) 1 := ⟨⟨tw_679, tw_4, by decide +kernel, by decide +kernel, by decide +kernel⟩, tw_677, tw_678⟩
set_option maxHeartbeats 4000000 in
set_option maxRecDepth 100000 in
theorem c_X0_lineOf (l : Launch) (D : va_G) (cy : ClassId × ClassId × ClassId) (H0 : Heap) (aP aG aG_columns aG_lines aG_distances aG_weights : Nat) (g_cells : Int32) (g_free : Int64) (g_freeCount : Int32) (g_lines : Nat → Int32) (x1 : Int32) (r : Int32) (hP : va_P D vwCl [(aG, .inr (0, [.ref aP, .ref aG_columns, .ref aG_lines, .ref aG_distances, .ref aG_weights, .int g_cells, .long g_free, .int g_freeCount])), (aG_lines, .inl (cy.1, 64, .inl g_lines))] H0) (hf : f_X0_lineOf g_cells g_lines x1 = some r) : Rd l yX0_lineOf cX0_lineOf 2 (some Jvm.ClassFile.FieldType.int) ({ frames := 1, cells := 0, slots := 0, locals := 21 } : Room) ([.ref aG, .int x1] : List Value) (some (.int r)) D cy H0 := by
  refine rd_of (by decide +kernel) (Nat.le_of_ble_eq_true rfl) ?_
  intro p e s m below meth c ls S hr hlocks hk hl
  obtain ⟨hx, hb, hml, hown, hts⟩ := id S
  have hl : lv_has ls 2 [(0, .ref aG), (1, .int x1)] := hl
  rw [f_X0_lineOf] at hf
  refine lv_aload_n hx hb dX0_lineOf_0 rfl (lv_at hl 0 rfl) ?_
  refine lv_iload_n hx hb dX0_lineOf_1 rfl (lv_at hl 1 rfl) ?_
  obtain ⟨z2, hz2, hf⟩ := q_bind hf
  refine q_rdV (As := [.int x1]) (rest := []) (st2 := [.int z2]) S hk (c_X0_isCell l D cy H0 aP aG aG_columns aG_lines aG_distances aG_weights g_cells g_free g_freeCount x1 z2 (hP.sub [0] rfl) hz2) ok_X0_isCell tw_423 ⟨rfl, rfl, Nat.le_of_ble_eq_true rfl, Nat.le_of_ble_eq_true rfl⟩ (va_recv hk.1 hP (ci := 0) (q0 := 0) rfl rfl) rfl hl.1 rfl (Nat.le_of_ble_eq_true rfl) dX0_lineOf_2 ⟨Nat.zero_le _, Nat.zero_le _⟩ rfl ?_
  refine lv_if_eq (tgt := 17) hx hb dX0_lineOf_5 (by decide) (fun hc => ?_) (fun hc => ?_)
  · have hf := q_t hc hf
    refine lv_iconst (v := (0 : Int32)) hx hb dX0_lineOf_17 (by decide) ?_
    have hf := Option.some.inj hf
    subst hf
    exact q_riR hx hb hr hlocks dX0_lineOf_18
  · have hf := q_f hc hf
    refine lv_aload_n hx hb dX0_lineOf_8 rfl (lv_at hl 0 rfl) ?_
    refine va_get (D := D) (ci := 0) (v := .ref aG_lines) (C := RX0) (T := TX0) (N := 8) hx hb hts iX0 hown hk.1 hP 0 rfl rfl 2 (by decide) (hts _ tw_143) (fun _ h9 => h9) rfl dX0_lineOf_9 ?_
    refine lv_iload_n hx hb dX0_lineOf_12 rfl (lv_at hl 1 rfl) ?_
    obtain ⟨hi, hf⟩ := q_in hf
    refine va_iald hx hb hk.1 hP 1 0 rfl rfl hi dX0_lineOf_13 ?_
    refine lv_goto (tgt := 18) hx hb dX0_lineOf_14 (by decide) ?_
    have hf := Option.some.inj hf
    subst hf
    exact q_riR hx hb hr hlocks dX0_lineOf_18
def f_X0_distance (g_cells : Int32) (g_columns : Nat → Int32) (g_lines : Nat → Int32) (g_distances : Nat → Int32) (x1 : Int32) (x2 : Int32) : Option (Int32) := (f_X0_isCell g_cells x1).bind (fun z2 => if z2 = 0 then (some (0 : Int32)) else ((f_X0_isCell g_cells x2).bind (fun z10 => if z10 = 0 then (some (0 : Int32)) else (if inb x1 64 = true then (if inb x2 64 = true then (if inb x1 64 = true then (if inb x2 64 = true then (if inb (((8 : Int32) * (if 0 ≤ ((g_lines x1.toNatClampNeg) - (g_lines x2.toNatClampNeg)) then ((g_lines x1.toNatClampNeg) - (g_lines x2.toNatClampNeg)) else 0 - ((g_lines x1.toNatClampNeg) - (g_lines x2.toNatClampNeg)))) + (if 0 ≤ ((g_columns x1.toNatClampNeg) - (g_columns x2.toNatClampNeg)) then ((g_columns x1.toNatClampNeg) - (g_columns x2.toNatClampNeg)) else 0 - ((g_columns x1.toNatClampNeg) - (g_columns x2.toNatClampNeg)))) 64 = true then (some (g_distances (((8 : Int32) * (if 0 ≤ ((g_lines x1.toNatClampNeg) - (g_lines x2.toNatClampNeg)) then ((g_lines x1.toNatClampNeg) - (g_lines x2.toNatClampNeg)) else 0 - ((g_lines x1.toNatClampNeg) - (g_lines x2.toNatClampNeg)))) + (if 0 ≤ ((g_columns x1.toNatClampNeg) - (g_columns x2.toNatClampNeg)) then ((g_columns x1.toNatClampNeg) - (g_columns x2.toNatClampNeg)) else 0 - ((g_columns x1.toNatClampNeg) - (g_columns x2.toNatClampNeg)))).toNatClampNeg)) else none) else none) else none) else none) else none))))
theorem ok_X0_distance : OkV yX0_distance cX0_distance 3 (some Jvm.ClassFile.FieldType.int) 2 := ⟨⟨tw_453, tw_4, by decide +kernel, by decide +kernel, by decide +kernel⟩, tw_451, tw_452⟩
set_option maxHeartbeats 4000000 in
set_option maxRecDepth 100000 in
theorem c_X0_distance (l : Launch) (D : va_G) (cy : ClassId × ClassId × ClassId) (H0 : Heap) (aP aG aG_columns aG_lines aG_distances aG_weights : Nat) (g_cells : Int32) (g_free : Int64) (g_freeCount : Int32) (g_columns : Nat → Int32) (g_lines : Nat → Int32) (g_distances : Nat → Int32) (x1 : Int32) (x2 : Int32) (r : Int32) (hP : va_P D vwCl [(aG, .inr (0, [.ref aP, .ref aG_columns, .ref aG_lines, .ref aG_distances, .ref aG_weights, .int g_cells, .long g_free, .int g_freeCount])), (aG_columns, .inl (cy.1, 64, .inl g_columns)), (aG_lines, .inl (cy.1, 64, .inl g_lines)), (aG_distances, .inl (cy.1, 64, .inl g_distances))] H0) (hf : f_X0_distance g_cells g_columns g_lines g_distances x1 x2 = some r) : Rd l yX0_distance cX0_distance 3 (some Jvm.ClassFile.FieldType.int) ({ frames := 1, cells := 0, slots := 0, locals := 21 } : Room) ([.ref aG, .int x1, .int x2] : List Value) (some (.int r)) D cy H0 := by
  refine rd_of (by decide +kernel) (Nat.le_of_ble_eq_true rfl) ?_
  intro p e s m below meth c ls S hr hlocks hk hl
  obtain ⟨hx, hb, hml, hown, hts⟩ := id S
  have hl : lv_has ls 3 [(0, .ref aG), (1, .int x1), (2, .int x2)] := hl
  rw [f_X0_distance] at hf
  refine lv_aload_n hx hb dX0_distance_0 rfl (lv_at hl 0 rfl) ?_
  refine lv_iload_n hx hb dX0_distance_1 rfl (lv_at hl 1 rfl) ?_
  obtain ⟨z2, hz2, hf⟩ := q_bind hf
  refine q_rdV (As := [.int x1]) (rest := []) (st2 := [.int z2]) S hk (c_X0_isCell l D cy H0 aP aG aG_columns aG_lines aG_distances aG_weights g_cells g_free g_freeCount x1 z2 (hP.sub [0] rfl) hz2) ok_X0_isCell tw_423 ⟨rfl, rfl, Nat.le_of_ble_eq_true rfl, Nat.le_of_ble_eq_true rfl⟩ (va_recv hk.1 hP (ci := 0) (q0 := 0) rfl rfl) rfl hl.1 rfl (Nat.le_of_ble_eq_true rfl) dX0_distance_2 ⟨Nat.zero_le _, Nat.zero_le _⟩ rfl ?_
  refine lv_if_eq (tgt := 16) hx hb dX0_distance_5 (by decide) (fun hc => ?_) (fun hc => ?_)
  · have hf := q_t hc hf
    refine lv_iconst (v := (0 : Int32)) hx hb dX0_distance_16 (by decide) ?_
    have hf := Option.some.inj hf
    subst hf
    exact q_riR hx hb hr hlocks dX0_distance_17
  · have hf := q_f hc hf
    refine lv_aload_n hx hb dX0_distance_8 rfl (lv_at hl 0 rfl) ?_
    refine lv_iload_n hx hb dX0_distance_9 rfl (lv_at hl 2 rfl) ?_
    obtain ⟨z10, hz10, hf⟩ := q_bind hf
    refine q_rdV (As := [.int x2]) (rest := []) (st2 := [.int z10]) S hk (c_X0_isCell l D cy H0 aP aG aG_columns aG_lines aG_distances aG_weights g_cells g_free g_freeCount x2 z10 (hP.sub [0] rfl) hz10) ok_X0_isCell tw_423 ⟨rfl, rfl, Nat.le_of_ble_eq_true rfl, Nat.le_of_ble_eq_true rfl⟩ (va_recv hk.1 hP (ci := 0) (q0 := 0) rfl rfl) rfl hl.1 rfl (Nat.le_of_ble_eq_true rfl) dX0_distance_10 ⟨Nat.zero_le _, Nat.zero_le _⟩ rfl ?_
    refine lv_if_ne (tgt := 18) hx hb dX0_distance_13 (by decide) (fun hc => ?_) (fun hc => ?_)
    · have hf := q_f hc hf
      refine lv_aload_n hx hb dX0_distance_18 rfl (lv_at hl 0 rfl) ?_
      refine va_get (D := D) (ci := 0) (v := .ref aG_distances) (C := RX0) (T := TX0) (N := 8) hx hb hts iX0 hown hk.1 hP 0 rfl rfl 3 (by decide) (hts _ tw_144) (fun _ h9 => h9) rfl dX0_distance_19 ?_
      refine lv_bipush (v := (8 : Int32)) hx hb dX0_distance_22 (by decide) ?_
      refine lv_aload_n hx hb dX0_distance_24 rfl (lv_at hl 0 rfl) ?_
      refine va_get (D := D) (ci := 0) (v := .ref aG_lines) (C := RX0) (T := TX0) (N := 8) hx hb hts iX0 hown hk.1 hP 0 rfl rfl 2 (by decide) (hts _ tw_143) (fun _ h9 => h9) rfl dX0_distance_25 ?_
      refine lv_iload_n hx hb dX0_distance_28 rfl (lv_at hl 1 rfl) ?_
      obtain ⟨hi, hf⟩ := q_in hf
      refine va_iald hx hb hk.1 hP 2 0 rfl rfl hi dX0_distance_29 ?_
      refine lv_aload_n hx hb dX0_distance_30 rfl (lv_at hl 0 rfl) ?_
      refine va_get (D := D) (ci := 0) (v := .ref aG_lines) (C := RX0) (T := TX0) (N := 8) hx hb hts iX0 hown hk.1 hP 0 rfl rfl 2 (by decide) (hts _ tw_143) (fun _ h9 => h9) rfl dX0_distance_31 ?_
      refine lv_iload_n hx hb dX0_distance_34 rfl (lv_at hl 2 rfl) ?_
      obtain ⟨hi, hf⟩ := q_in hf
      refine va_iald hx hb hk.1 hP 2 0 rfl rfl hi dX0_distance_35 ?_
      refine lv_isub hx hb dX0_distance_36 ?_
      refine va_mabs hx hb (hml.trans hl.1.symm) hown (hts _ tw_424) (hts _ tw_425) (hts _ tw_5) (hts _ tw_426) (Nat.le_of_ble_eq_true rfl) (Nat.le_of_ble_eq_true rfl) (Nat.zero_le _) (Nat.zero_le _) dX0_distance_37 ?_
      refine lv_imul hx hb dX0_distance_40 ?_
      refine lv_aload_n hx hb dX0_distance_41 rfl (lv_at hl 0 rfl) ?_
      refine va_get (D := D) (ci := 0) (v := .ref aG_columns) (C := RX0) (T := TX0) (N := 8) hx hb hts iX0 hown hk.1 hP 0 rfl rfl 1 (by decide) (hts _ tw_142) (fun _ h9 => h9) rfl dX0_distance_42 ?_
      refine lv_iload_n hx hb dX0_distance_45 rfl (lv_at hl 1 rfl) ?_
      obtain ⟨hi, hf⟩ := q_in hf
      refine va_iald hx hb hk.1 hP 1 0 rfl rfl hi dX0_distance_46 ?_
      refine lv_aload_n hx hb dX0_distance_47 rfl (lv_at hl 0 rfl) ?_
      refine va_get (D := D) (ci := 0) (v := .ref aG_columns) (C := RX0) (T := TX0) (N := 8) hx hb hts iX0 hown hk.1 hP 0 rfl rfl 1 (by decide) (hts _ tw_142) (fun _ h9 => h9) rfl dX0_distance_48 ?_
      refine lv_iload_n hx hb dX0_distance_51 rfl (lv_at hl 2 rfl) ?_
      obtain ⟨hi, hf⟩ := q_in hf
      refine va_iald hx hb hk.1 hP 1 0 rfl rfl hi dX0_distance_52 ?_
      refine lv_isub hx hb dX0_distance_53 ?_
      refine va_mabs hx hb (hml.trans hl.1.symm) hown (hts _ tw_424) (hts _ tw_425) (hts _ tw_5) (hts _ tw_426) (Nat.le_of_ble_eq_true rfl) (Nat.le_of_ble_eq_true rfl) (Nat.zero_le _) (Nat.zero_le _) dX0_distance_54 ?_
      refine lv_iadd hx hb dX0_distance_57 ?_
      obtain ⟨hi, hf⟩ := q_in hf
      refine va_iald hx hb hk.1 hP 3 0 rfl rfl hi dX0_distance_58 ?_
      have hf := Option.some.inj hf
      subst hf
      exact q_riR hx hb hr hlocks dX0_distance_59
    · have hf := q_t hc hf
      refine lv_iconst (v := (0 : Int32)) hx hb dX0_distance_16 (by decide) ?_
      have hf := Option.some.inj hf
      subst hf
      exact q_riR hx hb hr hlocks dX0_distance_17
def f_X0_weight (g_cells : Int32) (g_columns : Nat → Int32) (g_lines : Nat → Int32) (g_weights : Nat → Int32) (x1 : Int32) (x2 : Int32) : Option (Int32) := (f_X0_isCell g_cells x1).bind (fun z2 => if z2 = 0 then (some (0 : Int32)) else ((f_X0_isCell g_cells x2).bind (fun z10 => if z10 = 0 then (some (0 : Int32)) else (if inb x1 64 = true then (if inb x2 64 = true then (if inb x1 64 = true then (if inb x2 64 = true then (if inb (((8 : Int32) * (if 0 ≤ ((g_lines x1.toNatClampNeg) - (g_lines x2.toNatClampNeg)) then ((g_lines x1.toNatClampNeg) - (g_lines x2.toNatClampNeg)) else 0 - ((g_lines x1.toNatClampNeg) - (g_lines x2.toNatClampNeg)))) + (if 0 ≤ ((g_columns x1.toNatClampNeg) - (g_columns x2.toNatClampNeg)) then ((g_columns x1.toNatClampNeg) - (g_columns x2.toNatClampNeg)) else 0 - ((g_columns x1.toNatClampNeg) - (g_columns x2.toNatClampNeg)))) 64 = true then (some (g_weights (((8 : Int32) * (if 0 ≤ ((g_lines x1.toNatClampNeg) - (g_lines x2.toNatClampNeg)) then ((g_lines x1.toNatClampNeg) - (g_lines x2.toNatClampNeg)) else 0 - ((g_lines x1.toNatClampNeg) - (g_lines x2.toNatClampNeg)))) + (if 0 ≤ ((g_columns x1.toNatClampNeg) - (g_columns x2.toNatClampNeg)) then ((g_columns x1.toNatClampNeg) - (g_columns x2.toNatClampNeg)) else 0 - ((g_columns x1.toNatClampNeg) - (g_columns x2.toNatClampNeg)))).toNatClampNeg)) else none) else none) else none) else none) else none))))
theorem ok_X0_weight : OkV yX0_weight cX0_weight 3 (some Jvm.ClassFile.FieldType.int) 2 := ⟨⟨tw_422, tw_4, by decide +kernel, by decide +kernel, by decide +kernel⟩, tw_420, tw_421⟩
set_option maxHeartbeats 4000000 in
set_option maxRecDepth 100000 in
theorem c_X0_weight (l : Launch) (D : va_G) (cy : ClassId × ClassId × ClassId) (H0 : Heap) (aP aG aG_columns aG_lines aG_distances aG_weights : Nat) (g_cells : Int32) (g_free : Int64) (g_freeCount : Int32) (g_columns : Nat → Int32) (g_lines : Nat → Int32) (g_weights : Nat → Int32) (x1 : Int32) (x2 : Int32) (r : Int32) (hP : va_P D vwCl [(aG, .inr (0, [.ref aP, .ref aG_columns, .ref aG_lines, .ref aG_distances, .ref aG_weights, .int g_cells, .long g_free, .int g_freeCount])), (aG_columns, .inl (cy.1, 64, .inl g_columns)), (aG_lines, .inl (cy.1, 64, .inl g_lines)), (aG_weights, .inl (cy.1, 64, .inl g_weights))] H0) (hf : f_X0_weight g_cells g_columns g_lines g_weights x1 x2 = some r) : Rd l yX0_weight cX0_weight 3 (some Jvm.ClassFile.FieldType.int) ({ frames := 1, cells := 0, slots := 0, locals := 21 } : Room) ([.ref aG, .int x1, .int x2] : List Value) (some (.int r)) D cy H0 := by
  refine rd_of (by decide +kernel) (Nat.le_of_ble_eq_true rfl) ?_
  intro p e s m below meth c ls S hr hlocks hk hl
  obtain ⟨hx, hb, hml, hown, hts⟩ := id S
  have hl : lv_has ls 3 [(0, .ref aG), (1, .int x1), (2, .int x2)] := hl
  rw [f_X0_weight] at hf
  refine lv_aload_n hx hb dX0_weight_0 rfl (lv_at hl 0 rfl) ?_
  refine lv_iload_n hx hb dX0_weight_1 rfl (lv_at hl 1 rfl) ?_
  obtain ⟨z2, hz2, hf⟩ := q_bind hf
  refine q_rdV (As := [.int x1]) (rest := []) (st2 := [.int z2]) S hk (c_X0_isCell l D cy H0 aP aG aG_columns aG_lines aG_distances aG_weights g_cells g_free g_freeCount x1 z2 (hP.sub [0] rfl) hz2) ok_X0_isCell tw_423 ⟨rfl, rfl, Nat.le_of_ble_eq_true rfl, Nat.le_of_ble_eq_true rfl⟩ (va_recv hk.1 hP (ci := 0) (q0 := 0) rfl rfl) rfl hl.1 rfl (Nat.le_of_ble_eq_true rfl) dX0_weight_2 ⟨Nat.zero_le _, Nat.zero_le _⟩ rfl ?_
  refine lv_if_eq (tgt := 16) hx hb dX0_weight_5 (by decide) (fun hc => ?_) (fun hc => ?_)
  · have hf := q_t hc hf
    refine lv_iconst (v := (0 : Int32)) hx hb dX0_weight_16 (by decide) ?_
    have hf := Option.some.inj hf
    subst hf
    exact q_riR hx hb hr hlocks dX0_weight_17
  · have hf := q_f hc hf
    refine lv_aload_n hx hb dX0_weight_8 rfl (lv_at hl 0 rfl) ?_
    refine lv_iload_n hx hb dX0_weight_9 rfl (lv_at hl 2 rfl) ?_
    obtain ⟨z10, hz10, hf⟩ := q_bind hf
    refine q_rdV (As := [.int x2]) (rest := []) (st2 := [.int z10]) S hk (c_X0_isCell l D cy H0 aP aG aG_columns aG_lines aG_distances aG_weights g_cells g_free g_freeCount x2 z10 (hP.sub [0] rfl) hz10) ok_X0_isCell tw_423 ⟨rfl, rfl, Nat.le_of_ble_eq_true rfl, Nat.le_of_ble_eq_true rfl⟩ (va_recv hk.1 hP (ci := 0) (q0 := 0) rfl rfl) rfl hl.1 rfl (Nat.le_of_ble_eq_true rfl) dX0_weight_10 ⟨Nat.zero_le _, Nat.zero_le _⟩ rfl ?_
    refine lv_if_ne (tgt := 18) hx hb dX0_weight_13 (by decide) (fun hc => ?_) (fun hc => ?_)
    · have hf := q_f hc hf
      refine lv_aload_n hx hb dX0_weight_18 rfl (lv_at hl 0 rfl) ?_
      refine va_get (D := D) (ci := 0) (v := .ref aG_weights) (C := RX0) (T := TX0) (N := 8) hx hb hts iX0 hown hk.1 hP 0 rfl rfl 4 (by decide) (hts _ tw_145) (fun _ h9 => h9) rfl dX0_weight_19 ?_
      refine lv_bipush (v := (8 : Int32)) hx hb dX0_weight_22 (by decide) ?_
      refine lv_aload_n hx hb dX0_weight_24 rfl (lv_at hl 0 rfl) ?_
      refine va_get (D := D) (ci := 0) (v := .ref aG_lines) (C := RX0) (T := TX0) (N := 8) hx hb hts iX0 hown hk.1 hP 0 rfl rfl 2 (by decide) (hts _ tw_143) (fun _ h9 => h9) rfl dX0_weight_25 ?_
      refine lv_iload_n hx hb dX0_weight_28 rfl (lv_at hl 1 rfl) ?_
      obtain ⟨hi, hf⟩ := q_in hf
      refine va_iald hx hb hk.1 hP 2 0 rfl rfl hi dX0_weight_29 ?_
      refine lv_aload_n hx hb dX0_weight_30 rfl (lv_at hl 0 rfl) ?_
      refine va_get (D := D) (ci := 0) (v := .ref aG_lines) (C := RX0) (T := TX0) (N := 8) hx hb hts iX0 hown hk.1 hP 0 rfl rfl 2 (by decide) (hts _ tw_143) (fun _ h9 => h9) rfl dX0_weight_31 ?_
      refine lv_iload_n hx hb dX0_weight_34 rfl (lv_at hl 2 rfl) ?_
      obtain ⟨hi, hf⟩ := q_in hf
      refine va_iald hx hb hk.1 hP 2 0 rfl rfl hi dX0_weight_35 ?_
      refine lv_isub hx hb dX0_weight_36 ?_
      refine va_mabs hx hb (hml.trans hl.1.symm) hown (hts _ tw_424) (hts _ tw_425) (hts _ tw_5) (hts _ tw_426) (Nat.le_of_ble_eq_true rfl) (Nat.le_of_ble_eq_true rfl) (Nat.zero_le _) (Nat.zero_le _) dX0_weight_37 ?_
      refine lv_imul hx hb dX0_weight_40 ?_
      refine lv_aload_n hx hb dX0_weight_41 rfl (lv_at hl 0 rfl) ?_
      refine va_get (D := D) (ci := 0) (v := .ref aG_columns) (C := RX0) (T := TX0) (N := 8) hx hb hts iX0 hown hk.1 hP 0 rfl rfl 1 (by decide) (hts _ tw_142) (fun _ h9 => h9) rfl dX0_weight_42 ?_
      refine lv_iload_n hx hb dX0_weight_45 rfl (lv_at hl 1 rfl) ?_
      obtain ⟨hi, hf⟩ := q_in hf
      refine va_iald hx hb hk.1 hP 1 0 rfl rfl hi dX0_weight_46 ?_
      refine lv_aload_n hx hb dX0_weight_47 rfl (lv_at hl 0 rfl) ?_
      refine va_get (D := D) (ci := 0) (v := .ref aG_columns) (C := RX0) (T := TX0) (N := 8) hx hb hts iX0 hown hk.1 hP 0 rfl rfl 1 (by decide) (hts _ tw_142) (fun _ h9 => h9) rfl dX0_weight_48 ?_
      refine lv_iload_n hx hb dX0_weight_51 rfl (lv_at hl 2 rfl) ?_
      obtain ⟨hi, hf⟩ := q_in hf
      refine va_iald hx hb hk.1 hP 1 0 rfl rfl hi dX0_weight_52 ?_
      refine lv_isub hx hb dX0_weight_53 ?_
      refine va_mabs hx hb (hml.trans hl.1.symm) hown (hts _ tw_424) (hts _ tw_425) (hts _ tw_5) (hts _ tw_426) (Nat.le_of_ble_eq_true rfl) (Nat.le_of_ble_eq_true rfl) (Nat.zero_le _) (Nat.zero_le _) dX0_weight_54 ?_
      refine lv_iadd hx hb dX0_weight_57 ?_
      obtain ⟨hi, hf⟩ := q_in hf
      refine va_iald hx hb hk.1 hP 3 0 rfl rfl hi dX0_weight_58 ?_
      have hf := Option.some.inj hf
      subst hf
      exact q_riR hx hb hr hlocks dX0_weight_59
    · have hf := q_t hc hf
      refine lv_iconst (v := (0 : Int32)) hx hb dX0_weight_16 (by decide) ?_
      have hf := Option.some.inj hf
      subst hf
      exact q_riR hx hb hr hlocks dX0_weight_17
def f_X0_wrapped (x0 : Int32) (x1 : Int32) : Option (Int32) := if x1 ≤ x0 then (some (x0 - x1)) else (some x0)
theorem ok_X0_wrapped : OkS yX0_wrapped cX0_wrapped 2 (some Jvm.ClassFile.FieldType.int) 2 := ⟨⟨tw_551, tw_4, by decide +kernel, by decide +kernel, by decide +kernel⟩, tw_550⟩
set_option maxHeartbeats 4000000 in
set_option maxRecDepth 100000 in
theorem c_X0_wrapped (l : Launch) (D : va_G) (cy : ClassId × ClassId × ClassId) (H0 : Heap) (x0 : Int32) (x1 : Int32) (r : Int32) (hf : f_X0_wrapped x0 x1 = some r) : Rd l yX0_wrapped cX0_wrapped 2 (some Jvm.ClassFile.FieldType.int) ({ frames := 0, cells := 0, slots := 0, locals := 0 } : Room) ([.int x0, .int x1] : List Value) (some (.int r)) D cy H0 := by
  refine rd_of (by decide +kernel) (Nat.le_of_ble_eq_true rfl) ?_
  intro p e s m below meth c ls S hr hlocks hk hl
  obtain ⟨hx, hb, hml, hown, hts⟩ := id S
  have hl : lv_has ls 2 [(0, .int x0), (1, .int x1)] := hl
  rw [f_X0_wrapped] at hf
  refine lv_iload_n hx hb dX0_wrapped_0 rfl (lv_at hl 0 rfl) ?_
  refine lv_iload_n hx hb dX0_wrapped_1 rfl (lv_at hl 1 rfl) ?_
  refine lv_icmp_ge (tgt := 9) hx hb dX0_wrapped_2 (by decide) (fun hc => ?_) (fun hc => ?_)
  · have hf := q_t hc hf
    refine lv_iload_n hx hb dX0_wrapped_9 rfl (lv_at hl 0 rfl) ?_
    refine lv_iload_n hx hb dX0_wrapped_10 rfl (lv_at hl 1 rfl) ?_
    refine lv_isub hx hb dX0_wrapped_11 ?_
    have hf := Option.some.inj hf
    subst hf
    exact q_riR hx hb hr hlocks dX0_wrapped_12
  · have hf := q_f hc hf
    refine lv_iload_n hx hb dX0_wrapped_5 rfl (lv_at hl 0 rfl) ?_
    refine lv_goto (tgt := 12) hx hb dX0_wrapped_6 (by decide) ?_
    have hf := Option.some.inj hf
    subst hf
    exact q_riR hx hb hr hlocks dX0_wrapped_12
def lp_X0_lieOnThemselves_3 (p_width : Int32) (p_height : Int32) (g_cells : Int32) (g_columns : Nat → Int32) (g_lines : Nat → Int32) (x1 : Int64) (x3 : Int32) (x4 : Int32) : Nat → Int32 → Option (Int32)
  | 0, _ => none
  | n + 1, x5 => if g_cells ≤ x5 then (some (1 : Int32)) else (if inb x5 64 = true then ((f_X0_wrapped ((g_columns x5.toNatClampNeg) + x3) p_width).bind (fun z28 => if inb x5 64 = true then ((f_X0_wrapped ((g_lines x5.toNatClampNeg) + x4) p_height).bind (fun z50 => (f_X9_has x1 x5).bind (fun z58 => (f_X5_numberOf p_width p_height z28 z50).bind (fun z70 => (f_X9_has x1 z70).bind (fun z73 => if z58 = z73 then (lp_X0_lieOnThemselves_3 p_width p_height g_cells g_columns g_lines x1 x3 x4 n (x5 + 1)) else (some (0 : Int32))))))) else none)) else none)
theorem lp_X0_lieOnThemselves_3_s (p_width : Int32) (p_height : Int32) (g_cells : Int32) (g_columns : Nat → Int32) (g_lines : Nat → Int32) (x1 : Int64) (x3 : Int32) (x4 : Int32) (n : Nat) (x5 : Int32) : lp_X0_lieOnThemselves_3 p_width p_height g_cells g_columns g_lines x1 x3 x4 (n + 1) x5 = (if g_cells ≤ x5 then (some (1 : Int32)) else (if inb x5 64 = true then ((f_X0_wrapped ((g_columns x5.toNatClampNeg) + x3) p_width).bind (fun z28 => if inb x5 64 = true then ((f_X0_wrapped ((g_lines x5.toNatClampNeg) + x4) p_height).bind (fun z50 => (f_X9_has x1 x5).bind (fun z58 => (f_X5_numberOf p_width p_height z28 z50).bind (fun z70 => (f_X9_has x1 z70).bind (fun z73 => if z58 = z73 then (lp_X0_lieOnThemselves_3 p_width p_height g_cells g_columns g_lines x1 x3 x4 n (x5 + 1)) else (some (0 : Int32))))))) else none)) else none)) := rfl
theorem lp_X0_lieOnThemselves_3_z (p_width : Int32) (p_height : Int32) (g_cells : Int32) (g_columns : Nat → Int32) (g_lines : Nat → Int32) (x1 : Int64) (x3 : Int32) (x4 : Int32) (x5 : Int32) : lp_X0_lieOnThemselves_3 p_width p_height g_cells g_columns g_lines x1 x3 x4 0 x5 = none := rfl
def f_X0_lieOnThemselves (p_width : Int32) (p_height : Int32) (g_cells : Int32) (g_columns : Nat → Int32) (g_lines : Nat → Int32) (x1 : Int64) (x3 : Int32) (x4 : Int32) : Option (Int32) := lp_X0_lieOnThemselves_3 p_width p_height g_cells g_columns g_lines x1 x3 x4 FU (0 : Int32)
theorem ok_X0_lieOnThemselves : OkV yX0_lieOnThemselves cX0_lieOnThemselves 8 (some Jvm.ClassFile.FieldType.boolean) 3 := ⟨⟨tw_548, tw_4, by decide +kernel, by decide +kernel, by decide +kernel⟩, tw_546, tw_547⟩
set_option maxHeartbeats 4000000 in
set_option maxRecDepth 100000 in
theorem c_X0_lieOnThemselves (l : Launch) (D : va_G) (cy : ClassId × ClassId × ClassId) (H0 : Heap) (aP aG aG_columns aG_lines aG_distances aG_weights : Nat) (p_width : Int32) (p_height : Int32) (p_kernel : Int32) (p_power : Int32) (p_fall : Int32) (p_ax : Int32) (p_ay : Int32) (p_shut : Int64) (p_dots : Int64) (g_cells : Int32) (g_free : Int64) (g_freeCount : Int32) (g_columns : Nat → Int32) (g_lines : Nat → Int32) (x1 : Int64) (x3 : Int32) (x4 : Int32) (r : Int32) (hP : va_P D vwCl [(aP, .inr (5, [.int p_width, .int p_height, .int p_kernel, .int p_power, .int p_fall, .int p_ax, .int p_ay, .long p_shut, .long p_dots])), (aG, .inr (0, [.ref aP, .ref aG_columns, .ref aG_lines, .ref aG_distances, .ref aG_weights, .int g_cells, .long g_free, .int g_freeCount])), (aG_columns, .inl (cy.1, 64, .inl g_columns)), (aG_lines, .inl (cy.1, 64, .inl g_lines))] H0) (hf : f_X0_lieOnThemselves p_width p_height g_cells g_columns g_lines x1 x3 x4 = some r) : Rd l yX0_lieOnThemselves cX0_lieOnThemselves 8 (some Jvm.ClassFile.FieldType.boolean) ({ frames := 1, cells := 0, slots := 0, locals := 22 } : Room) ([.ref aG, .long x1, .int x3, .int x4] : List Value) (some (.int r)) D cy H0 := by
  refine rd_of (by decide +kernel) (Nat.le_of_ble_eq_true rfl) ?_
  intro p e s m below meth c ls S hr hlocks hk hl
  obtain ⟨hx, hb, hml, hown, hts⟩ := id S
  have hl : lv_has ls 8 [(0, .ref aG), (1, .long x1), (3, .int x3), (4, .int x4)] := hl
  rw [f_X0_lieOnThemselves] at hf
  have J3 : ∀ (n3 : Nat) (x5 : Int32) (ls : Array Slot), lv_has ls 8 [(0, .ref aG), (1, .long x1), (3, .int x3), (4, .int x4), (5, .int x5)] → lp_X0_lieOnThemselves_3 p_width p_height g_cells g_columns g_lines x1 x3 x4 n3 x5 = some r → W p l e ({ frames := 1, cells := 0, slots := 0, locals := 22 } : Room) s m ([.ref aG, .long x1, .int x3, .int x4] : List Value).toArray below meth c H0 [] 0 0 (MQ below (QR (some (.int r)) H0) ([.ref aG, .long x1, .int x3, .int x4] : List Value).toArray s 0 0 (fun _ => False)) (F0 m 3 ls []) := by
    intro n3
    induction n3 with
    | zero =>
      intro x5 ls hl hf
      rw [lp_X0_lieOnThemselves_3_z] at hf
      cases hf
    | succ n3 ih3 =>
      intro x5 ls hl hf
      rw [lp_X0_lieOnThemselves_3_s] at hf
      refine lv_iload hx hb dX0_lieOnThemselves_3 (lv_at hl 4 rfl) ?_
      refine lv_aload_n hx hb dX0_lieOnThemselves_5 rfl (lv_at hl 0 rfl) ?_
      refine va_get (D := D) (ci := 0) (v := .int g_cells) (C := RX0) (T := TX0) (N := 8) hx hb hts iX0 hown hk.1 hP 1 rfl rfl 5 (by decide) (hts _ tw_146) (fun _ h9 => h9) rfl dX0_lieOnThemselves_6 ?_
      refine lv_icmp_ge (tgt := 87) hx hb dX0_lieOnThemselves_9 (by decide) (fun hc => ?_) (fun hc => ?_)
      · have hf := q_t hc hf
        refine lv_iconst (v := (1 : Int32)) hx hb dX0_lieOnThemselves_87 (by decide) ?_
        have hf := Option.some.inj hf
        subst hf
        exact q_rzR (Or.inr rfl) hx hb hr hlocks dX0_lieOnThemselves_88
      · have hf := q_f hc hf
        refine lv_aload_n hx hb dX0_lieOnThemselves_12 rfl (lv_at hl 0 rfl) ?_
        refine va_get (D := D) (ci := 0) (v := .ref aG_columns) (C := RX0) (T := TX0) (N := 8) hx hb hts iX0 hown hk.1 hP 1 rfl rfl 1 (by decide) (hts _ tw_142) (fun _ h9 => h9) rfl dX0_lieOnThemselves_13 ?_
        refine lv_iload hx hb dX0_lieOnThemselves_16 (lv_at hl 4 rfl) ?_
        obtain ⟨hi, hf⟩ := q_in hf
        refine va_iald hx hb hk.1 hP 2 0 rfl rfl hi dX0_lieOnThemselves_18 ?_
        refine lv_iload_n hx hb dX0_lieOnThemselves_19 rfl (lv_at hl 2 rfl) ?_
        refine lv_iadd hx hb dX0_lieOnThemselves_20 ?_
        refine lv_aload_n hx hb dX0_lieOnThemselves_21 rfl (lv_at hl 0 rfl) ?_
        refine va_get (D := D) (ci := 0) (v := .ref aP) (C := RX0) (T := TX0) (N := 8) hx hb hts iX0 hown hk.1 hP 1 rfl rfl 0 (by decide) (hts _ tw_141) (fun _ h9 => h9) rfl dX0_lieOnThemselves_22 ?_
        refine va_get (D := D) (ci := 5) (v := .int p_width) (C := RX5) (T := TX5) (N := 9) hx hb hts iX5 hown hk.1 hP 0 rfl rfl 0 (by decide) (hts _ tw_62) (fun _ h9 => h9) rfl dX0_lieOnThemselves_25 ?_
        obtain ⟨z28, hz28, hf⟩ := q_bind hf
        refine q_rdS (As := [.int ((g_columns x5.toNatClampNeg) + x3), .int p_width]) (rest := []) (st2 := [.int z28]) S hk (c_X0_wrapped l D cy H0 ((g_columns x5.toNatClampNeg) + x3) p_width z28 hz28) ok_X0_wrapped tw_549 ⟨rfl, rfl, Nat.le_of_ble_eq_true rfl, Nat.le_of_ble_eq_true rfl⟩ rfl hl.1 rfl (Nat.le_of_ble_eq_true rfl) dX0_lieOnThemselves_28 ⟨Nat.zero_le _, Nat.zero_le _⟩ rfl ?_
        refine lv_istore (lv' := [(6, .int z28), (0, .ref aG), (1, .long x1), (3, .int x3), (4, .int x4), (5, .int x5)]) hx hb dX0_lieOnThemselves_31 hl (by decide) rfl (fun ls hl => ?_)
        refine lv_aload_n hx hb dX0_lieOnThemselves_33 rfl (lv_at hl 1 rfl) ?_
        refine va_get (D := D) (ci := 0) (v := .ref aG_lines) (C := RX0) (T := TX0) (N := 8) hx hb hts iX0 hown hk.1 hP 1 rfl rfl 2 (by decide) (hts _ tw_143) (fun _ h9 => h9) rfl dX0_lieOnThemselves_34 ?_
        refine lv_iload hx hb dX0_lieOnThemselves_37 (lv_at hl 5 rfl) ?_
        obtain ⟨hi, hf⟩ := q_in hf
        refine va_iald hx hb hk.1 hP 3 0 rfl rfl hi dX0_lieOnThemselves_39 ?_
        refine lv_iload hx hb dX0_lieOnThemselves_40 (lv_at hl 4 rfl) ?_
        refine lv_iadd hx hb dX0_lieOnThemselves_42 ?_
        refine lv_aload_n hx hb dX0_lieOnThemselves_43 rfl (lv_at hl 1 rfl) ?_
        refine va_get (D := D) (ci := 0) (v := .ref aP) (C := RX0) (T := TX0) (N := 8) hx hb hts iX0 hown hk.1 hP 1 rfl rfl 0 (by decide) (hts _ tw_141) (fun _ h9 => h9) rfl dX0_lieOnThemselves_44 ?_
        refine va_get (D := D) (ci := 5) (v := .int p_height) (C := RX5) (T := TX5) (N := 9) hx hb hts iX5 hown hk.1 hP 0 rfl rfl 1 (by decide) (hts _ tw_66) (fun _ h9 => h9) rfl dX0_lieOnThemselves_47 ?_
        obtain ⟨z50, hz50, hf⟩ := q_bind hf
        refine q_rdS (As := [.int ((g_lines x5.toNatClampNeg) + x4), .int p_height]) (rest := []) (st2 := [.int z50]) S hk (c_X0_wrapped l D cy H0 ((g_lines x5.toNatClampNeg) + x4) p_height z50 hz50) ok_X0_wrapped tw_549 ⟨rfl, rfl, Nat.le_of_ble_eq_true rfl, Nat.le_of_ble_eq_true rfl⟩ rfl hl.1 rfl (Nat.le_of_ble_eq_true rfl) dX0_lieOnThemselves_50 ⟨Nat.zero_le _, Nat.zero_le _⟩ rfl ?_
        refine lv_istore (lv' := [(7, .int z50), (6, .int z28), (0, .ref aG), (1, .long x1), (3, .int x3), (4, .int x4), (5, .int x5)]) hx hb dX0_lieOnThemselves_53 hl (by decide) rfl (fun ls hl => ?_)
        refine lv_lload_n hx hb dX0_lieOnThemselves_55 rfl (lv_at hl 3 rfl) ?_
        refine lv_iload hx hb dX0_lieOnThemselves_56 (lv_at hl 6 rfl) ?_
        obtain ⟨z58, hz58, hf⟩ := q_bind hf
        refine q_rdN (As := [.long x1, .int x5]) (rest := []) (st2 := [.int z58]) S hk (c_X9_has l D cy H0 x1 x5 z58 hz58) ok_X9_has hk.2.2.1 ⟨rfl, rfl, Nat.le_of_ble_eq_true rfl, Nat.le_of_ble_eq_true rfl⟩ rfl hl.1 rfl (Nat.le_of_ble_eq_true rfl) dX0_lieOnThemselves_58 ⟨Nat.zero_le _, Nat.zero_le _⟩ rfl ?_
        refine lv_lload_n hx hb dX0_lieOnThemselves_61 rfl (lv_at hl 3 rfl) ?_
        refine lv_aload_n hx hb dX0_lieOnThemselves_62 rfl (lv_at hl 2 rfl) ?_
        refine va_get (D := D) (ci := 0) (v := .ref aP) (C := RX0) (T := TX0) (N := 8) hx hb hts iX0 hown hk.1 hP 1 rfl rfl 0 (by decide) (hts _ tw_141) (fun _ h9 => h9) rfl dX0_lieOnThemselves_63 ?_
        refine lv_iload hx hb dX0_lieOnThemselves_66 (lv_at hl 1 rfl) ?_
        refine lv_iload hx hb dX0_lieOnThemselves_68 (lv_at hl 0 rfl) ?_
        obtain ⟨z70, hz70, hf⟩ := q_bind hf
        refine q_rdV (As := [.int z28, .int z50]) (rest := [.long x1, .int z58]) (st2 := [.int z70, .long x1, .int z58]) S hk (c_X5_numberOf l D cy H0 aP p_width p_height p_kernel p_power p_fall p_ax p_ay p_shut p_dots z28 z50 z70 (hP.sub [0] rfl) hz70) ok_X5_numberOf tw_553 ⟨rfl, rfl, Nat.le_of_ble_eq_true rfl, Nat.le_of_ble_eq_true rfl⟩ (va_recv hk.1 hP (ci := 5) (q0 := 0) rfl rfl) rfl hl.1 rfl (Nat.le_of_ble_eq_true rfl) dX0_lieOnThemselves_70 ⟨Nat.zero_le _, Nat.zero_le _⟩ rfl ?_
        obtain ⟨z73, hz73, hf⟩ := q_bind hf
        refine q_rdN (As := [.long x1, .int z70]) (rest := [.int z58]) (st2 := [.int z73, .int z58]) S hk (c_X9_has l D cy H0 x1 z70 z73 hz73) ok_X9_has hk.2.2.1 ⟨rfl, rfl, Nat.le_of_ble_eq_true rfl, Nat.le_of_ble_eq_true rfl⟩ rfl hl.1 rfl (Nat.le_of_ble_eq_true rfl) dX0_lieOnThemselves_73 ⟨Nat.zero_le _, Nat.zero_le _⟩ rfl ?_
        refine lv_icmp_eq (tgt := 81) hx hb dX0_lieOnThemselves_76 (by decide) (fun hc => ?_) (fun hc => ?_)
        · have hf := q_t hc hf
          refine lv_iinc (v := (x5 + 1)) (lv' := [(5, .int (x5 + 1)), (7, .int z50), (6, .int z28), (0, .ref aG), (1, .long x1), (3, .int x3), (4, .int x4)]) hx hb dX0_lieOnThemselves_81 hl (k := 6) rfl rfl (by decide) rfl (fun ls hl => ?_)
          refine lv_goto (tgt := 3) hx hb dX0_lieOnThemselves_84 (by decide) ?_
          exact ih3 (x5 + 1) ls (lv_sub hl [3, 4, 5, 6, 0] rfl) hf
        · have hf := q_f hc hf
          refine lv_iconst (v := (0 : Int32)) hx hb dX0_lieOnThemselves_79 (by decide) ?_
          have hf := Option.some.inj hf
          subst hf
          exact q_rzR (Or.inl rfl) hx hb hr hlocks dX0_lieOnThemselves_80
  refine lv_iconst (v := (0 : Int32)) hx hb dX0_lieOnThemselves_0 (by decide) ?_
  refine lv_istore (lv' := [(5, .int (0 : Int32)), (0, .ref aG), (1, .long x1), (3, .int x3), (4, .int x4)]) hx hb dX0_lieOnThemselves_1 hl (by decide) rfl (fun ls hl => ?_)
  exact J3 FU (0 : Int32) ls (lv_sub hl [1, 2, 3, 4, 0] rfl) hf
