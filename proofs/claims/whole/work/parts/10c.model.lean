def f_X10_free (m_shut : Int64) (m_told : Nat → Int32) : Option (Int32) := (f_X10_cells m_told).bind (fun z1 => (f_X10_ones m_shut).bind (fun z8 => some (z1 - z8)))
theorem ok_X10_free : OkV yX10_free cX10_free 1 (some Jvm.ClassFile.FieldType.int) 0 := ⟨⟨tw_1040, tw_13, by decide +kernel, by decide +kernel, by decide +kernel⟩, tw_1039, tp_52⟩
set_option maxHeartbeats 4000000 in
set_option maxRecDepth 100000 in
theorem c_X10_free (l : Launch) (D : va_G) (cy : ClassId × ClassId × ClassId) (H0 : Heap) (aM aM_told aM_draft aM_past aM_kept aM_isKept aM_seenLine aM_seenIs aM_rank aM_stage aM_text : Nat) (m_thrown : Int32) (m_shut : Int64) (m_dots : Int64) (m_draftShut : Int64) (m_draftDots : Int64) (m_undos : Int32) (m_base : Int32) (m_slopeX : Int32) (m_slopeY : Int32) (m_seen : Int32) (m_letters : Int32) (m_next : Int32) (m_begin : Int32) (m_token : Int32) (m_gain : Int32) (m_bestDot : Int32) (m_bestCell : Int32) (m_told : Nat → Int32) (r : Int32) (hP : va_P D vwCl [(aM, .inr (10, [.int m_thrown, .ref aM_told, .ref aM_draft, .long m_shut, .long m_dots, .long m_draftShut, .long m_draftDots, .int m_undos, .ref aM_past, .ref aM_kept, .ref aM_isKept, .int m_base, .int m_slopeX, .int m_slopeY, .int m_seen, .ref aM_seenLine, .ref aM_seenIs, .ref aM_rank, .ref aM_stage, .int m_letters, .ref aM_text, .int m_next, .int m_begin, .int m_token, .int m_gain, .int m_bestDot, .int m_bestCell])), (aM_told, .inl (cy.1, 7, .inl m_told))] H0) (hf : f_X10_free m_shut m_told = some r) : Rd l yX10_free cX10_free 1 (some Jvm.ClassFile.FieldType.int) ({ frames := 2, cells := 0, slots := 0, locals := 45 } : Room) ([.ref aM] : List Value) (some (.int r)) D cy H0 := by
  refine rd_of (by decide +kernel) (Nat.le_of_ble_eq_true rfl) ?_
  intro p e s m below meth c ls S hr hlocks hk hl
  obtain ⟨hx, hb, hml, hown, hts⟩ := id S
  have hl : lv_has ls 1 [(0, .ref aM)] := hl
  rw [f_X10_free] at hf
  refine lv_aload_n hx hb dX10_free_0 rfl (lv_at hl 0 rfl) ?_
  obtain ⟨z1, hz1, hf⟩ := q_bind hf
  refine q_rdV (As := []) (rest := []) (st2 := [.int z1]) S hk (c_X10_cells l D cy H0 aM aM_told aM_draft aM_past aM_kept aM_isKept aM_seenLine aM_seenIs aM_rank aM_stage aM_text m_thrown m_shut m_dots m_draftShut m_draftDots m_undos m_base m_slopeX m_slopeY m_seen m_letters m_next m_begin m_token m_gain m_bestDot m_bestCell m_told z1 (hP.sub [0, 1] rfl) hz1) ok_X10_cells tw_931 ⟨rfl, rfl, Nat.le_of_ble_eq_true rfl, Nat.le_of_ble_eq_true rfl⟩ (va_recv hk.1 hP (ci := 10) (q0 := 0) rfl rfl) rfl hl.1 rfl (Nat.le_of_ble_eq_true rfl) dX10_free_1 ⟨Nat.zero_le _, Nat.zero_le _⟩ rfl ?_
  refine lv_aload_n hx hb dX10_free_4 rfl (lv_at hl 0 rfl) ?_
  refine va_get (D := D) (ci := 10) (v := .long m_shut) (C := RX10) (T := TX10) (N := 27) hx hb hts iX10 hown hk.1 hP 0 rfl rfl 3 (by decide) (hts _ tw_786) (fun _ h9 => h9) rfl dX10_free_5 ?_
  obtain ⟨z8, hz8, hf⟩ := q_bind hf
  refine q_rdS (As := [.long m_shut]) (rest := [.int z1]) (st2 := [.int z8, .int z1]) S hk (c_X10_ones l D cy H0 m_shut z8 hz8) ok_X10_ones tw_1034 ⟨rfl, rfl, Nat.le_of_ble_eq_true rfl, Nat.le_of_ble_eq_true rfl⟩ rfl hl.1 rfl (Nat.le_of_ble_eq_true rfl) dX10_free_8 ⟨Nat.zero_le _, Nat.zero_le _⟩ rfl ?_
  refine lv_isub hx hb dX10_free_11 ?_
  have hf := Option.some.inj hf
  subst hf
  exact q_riR hx hb hr hlocks dX10_free_12
def j_X10_ranks_197 (k111 : Int64 → Int32 → Int32 → (Nat → Int32) → (Nat → Int32) → Option ((Nat → Int32) × (Nat → Int32))) (x1 : Int64) (x4 : Int32) (x5 : Int32) (x9 : Int32) (k1 : Int32) (k2 : Int32) (m_rank : Nat → Int32) (m_stage : Nat → Int32) : Option ((Nat → Int32) × (Nat → Int32)) := if inb k1 64 = true then (k111 (x1 ||| (lsh (1 : Int64) x9)) (x4 + 1) x5 m_rank (upd m_stage k1.toNatClampNeg k2)) else none
def j_X10_ranks_170 (k111 : Int64 → Int32 → Int32 → (Nat → Int32) → (Nat → Int32) → Option ((Nat → Int32) × (Nat → Int32))) (x1 : Int64) (x4 : Int32) (x5 : Int32) (x6 : Int32) (k0 : Int32) (m_rank : Nat → Int32) (m_stage : Nat → Int32) : Option ((Nat → Int32) × (Nat → Int32)) := if inb k0 64 = true then (if x6 = 0 then (j_X10_ranks_197 k111 x1 x4 x5 k0 k0 (2 : Int32) (upd m_rank k0.toNatClampNeg x4) m_stage) else (j_X10_ranks_197 k111 x1 x4 x5 k0 k0 (1 : Int32) (upd m_rank k0.toNatClampNeg x4) m_stage)) else none
def j_X10_ranks_134 (m_shut : Int64) (m_told : Nat → Int32) (k111 : Int64 → Int32 → Int32 → (Nat → Int32) → (Nat → Int32) → Option ((Nat → Int32) × (Nat → Int32))) (x1 : Int64) (x4 : Int32) (x5 : Int32) (k0 : Int32) (m_rank : Nat → Int32) (m_stage : Nat → Int32) : Option ((Nat → Int32) × (Nat → Int32)) := (f_X10_freeCells m_shut m_told).bind (fun z137 => if k0 = 0 then ((f_X10_extremeOf m_told (z137 &&& (x1 ^^^ (-1 : Int64))) (z137 &&& (x1 ^^^ (-1 : Int64))) (1 : Int32)).bind (fun z167 => j_X10_ranks_170 k111 x1 x4 x5 k0 z167 m_rank m_stage)) else ((f_X10_emptiest m_shut m_told x1).bind (fun z155 => j_X10_ranks_170 k111 x1 x4 x5 k0 z155 m_rank m_stage)))
def lp_X10_ranks_111 (m_shut : Int64) (m_told : Nat → Int32) : Nat → Int64 → Int32 → Int32 → (Nat → Int32) → (Nat → Int32) → Option ((Nat → Int32) × (Nat → Int32))
  | 0, _, _, _, _, _ => none
  | n + 1, x1, x4, x5, m_rank, m_stage => if x5 ≤ x4 then (some (m_rank, m_stage)) else (if ((x5 + (1 : Int32)) / (2 : Int32)) ≤ x4 then (j_X10_ranks_134 m_shut m_told (lp_X10_ranks_111 m_shut m_told n) x1 x4 x5 (0 : Int32) m_rank m_stage) else (j_X10_ranks_134 m_shut m_told (lp_X10_ranks_111 m_shut m_told n) x1 x4 x5 (1 : Int32) m_rank m_stage))
theorem lp_X10_ranks_111_s (m_shut : Int64) (m_told : Nat → Int32) (n : Nat) (x1 : Int64) (x4 : Int32) (x5 : Int32) (m_rank : Nat → Int32) (m_stage : Nat → Int32) : lp_X10_ranks_111 m_shut m_told (n + 1) x1 x4 x5 m_rank m_stage = (if x5 ≤ x4 then (some (m_rank, m_stage)) else (if ((x5 + (1 : Int32)) / (2 : Int32)) ≤ x4 then (j_X10_ranks_134 m_shut m_told (lp_X10_ranks_111 m_shut m_told n) x1 x4 x5 (0 : Int32) m_rank m_stage) else (j_X10_ranks_134 m_shut m_told (lp_X10_ranks_111 m_shut m_told n) x1 x4 x5 (1 : Int32) m_rank m_stage))) := rfl
theorem lp_X10_ranks_111_z (m_shut : Int64) (m_told : Nat → Int32) (x1 : Int64) (x4 : Int32) (x5 : Int32) (m_rank : Nat → Int32) (m_stage : Nat → Int32) : lp_X10_ranks_111 m_shut m_told 0 x1 x4 x5 m_rank m_stage = none := rfl
def lp_X10_ranks_47 (m_shut : Int64) (m_dots : Int64) (m_told : Nat → Int32) : Nat → Int64 → Int32 → (Nat → Int32) → (Nat → Int32) → Option ((Nat → Int32) × (Nat → Int32))
  | 0, _, _, _, _ => none
  | n + 1, x1, x3, m_rank, m_stage => if x3 ≤ 0 then ((f_X10_ones m_dots).bind (fun z100 => (f_X10_free m_shut m_told).bind (fun z106 => lp_X10_ranks_111 m_shut m_told FU m_dots z100 z106 m_rank m_stage))) else ((f_X10_tightest m_told x1).bind (fun z53 => if inb z53 64 = true then (if inb z53 64 = true then (lp_X10_ranks_47 m_shut m_dots m_told n (x1 &&& ((lsh (1 : Int64) z53) ^^^ (-1 : Int64))) (x3 + (-1)) (upd m_rank z53.toNatClampNeg (x3 + (-1))) (upd m_stage z53.toNatClampNeg (0 : Int32))) else none) else none))
theorem lp_X10_ranks_47_s (m_shut : Int64) (m_dots : Int64) (m_told : Nat → Int32) (n : Nat) (x1 : Int64) (x3 : Int32) (m_rank : Nat → Int32) (m_stage : Nat → Int32) : lp_X10_ranks_47 m_shut m_dots m_told (n + 1) x1 x3 m_rank m_stage = (if x3 ≤ 0 then ((f_X10_ones m_dots).bind (fun z100 => (f_X10_free m_shut m_told).bind (fun z106 => lp_X10_ranks_111 m_shut m_told FU m_dots z100 z106 m_rank m_stage))) else ((f_X10_tightest m_told x1).bind (fun z53 => if inb z53 64 = true then (if inb z53 64 = true then (lp_X10_ranks_47 m_shut m_dots m_told n (x1 &&& ((lsh (1 : Int64) z53) ^^^ (-1 : Int64))) (x3 + (-1)) (upd m_rank z53.toNatClampNeg (x3 + (-1))) (upd m_stage z53.toNatClampNeg (0 : Int32))) else none) else none))) := rfl
theorem lp_X10_ranks_47_z (m_shut : Int64) (m_dots : Int64) (m_told : Nat → Int32) (x1 : Int64) (x3 : Int32) (m_rank : Nat → Int32) (m_stage : Nat → Int32) : lp_X10_ranks_47 m_shut m_dots m_told 0 x1 x3 m_rank m_stage = none := rfl
def lp_X10_ranks_16 (m_shut : Int64) (m_dots : Int64) (m_told : Nat → Int32) : Nat → Int64 → Int32 → Int32 → (Nat → Int32) → (Nat → Int32) → Option ((Nat → Int32) × (Nat → Int32))
  | 0, _, _, _, _, _ => none
  | n + 1, x1, x3, x4, m_rank, m_stage => if (64 : Int32) ≤ x4 then (lp_X10_ranks_47 m_shut m_dots m_told FU x1 x3 m_rank m_stage) else (if inb x4 64 = true then (if inb x4 64 = true then (lp_X10_ranks_16 m_shut m_dots m_told n x1 x3 (x4 + 1) (upd m_rank x4.toNatClampNeg (-9 : Int32)) (upd m_stage x4.toNatClampNeg (-9 : Int32))) else none) else none)
theorem lp_X10_ranks_16_s (m_shut : Int64) (m_dots : Int64) (m_told : Nat → Int32) (n : Nat) (x1 : Int64) (x3 : Int32) (x4 : Int32) (m_rank : Nat → Int32) (m_stage : Nat → Int32) : lp_X10_ranks_16 m_shut m_dots m_told (n + 1) x1 x3 x4 m_rank m_stage = (if (64 : Int32) ≤ x4 then (lp_X10_ranks_47 m_shut m_dots m_told FU x1 x3 m_rank m_stage) else (if inb x4 64 = true then (if inb x4 64 = true then (lp_X10_ranks_16 m_shut m_dots m_told n x1 x3 (x4 + 1) (upd m_rank x4.toNatClampNeg (-9 : Int32)) (upd m_stage x4.toNatClampNeg (-9 : Int32))) else none) else none)) := rfl
theorem lp_X10_ranks_16_z (m_shut : Int64) (m_dots : Int64) (m_told : Nat → Int32) (x1 : Int64) (x3 : Int32) (x4 : Int32) (m_rank : Nat → Int32) (m_stage : Nat → Int32) : lp_X10_ranks_16 m_shut m_dots m_told 0 x1 x3 x4 m_rank m_stage = none := rfl
def f_X10_ranks (m_shut : Int64) (m_dots : Int64) (m_told : Nat → Int32) (m_rank : Nat → Int32) (m_stage : Nat → Int32) : Option ((Nat → Int32) × (Nat → Int32)) := (f_X10_ones m_dots).bind (fun z9 => lp_X10_ranks_16 m_shut m_dots m_told FU m_dots z9 (0 : Int32) m_rank m_stage)
theorem ok_X10_ranks : OkV yX10_ranks cX10_ranks 10 none 0 := ⟨⟨tw_1033, tw_13, by decide +kernel, by decide +kernel, by decide +kernel⟩, tw_1032, tp_51⟩
set_option maxHeartbeats 4000000 in
set_option maxRecDepth 100000 in
theorem c_X10_ranks (l : Launch) (D : va_G) (cy : ClassId × ClassId × ClassId) (H0 : Heap) (aM aM_told aM_draft aM_past aM_kept aM_isKept aM_seenLine aM_seenIs aM_rank aM_stage aM_text : Nat) (m_thrown : Int32) (m_shut : Int64) (m_dots : Int64) (m_draftShut : Int64) (m_draftDots : Int64) (m_undos : Int32) (m_base : Int32) (m_slopeX : Int32) (m_slopeY : Int32) (m_seen : Int32) (m_letters : Int32) (m_next : Int32) (m_begin : Int32) (m_token : Int32) (m_gain : Int32) (m_bestDot : Int32) (m_bestCell : Int32) (m_told : Nat → Int32) (m_rank : Nat → Int32) (m_stage : Nat → Int32) (r : (Nat → Int32) × (Nat → Int32)) (hP : va_P D vwCl [(aM, .inr (10, [.int m_thrown, .ref aM_told, .ref aM_draft, .long m_shut, .long m_dots, .long m_draftShut, .long m_draftDots, .int m_undos, .ref aM_past, .ref aM_kept, .ref aM_isKept, .int m_base, .int m_slopeX, .int m_slopeY, .int m_seen, .ref aM_seenLine, .ref aM_seenIs, .ref aM_rank, .ref aM_stage, .int m_letters, .ref aM_text, .int m_next, .int m_begin, .int m_token, .int m_gain, .int m_bestDot, .int m_bestCell])), (aM_told, .inl (cy.1, 7, .inl m_told)), (aM_rank, .inl (cy.1, 64, .inl m_rank)), (aM_stage, .inl (cy.1, 64, .inl m_stage))] H0) (hD0 : va_D (fun _ => True) [(aM, .inr (10, [.int m_thrown, .ref aM_told, .ref aM_draft, .long m_shut, .long m_dots, .long m_draftShut, .long m_draftDots, .int m_undos, .ref aM_past, .ref aM_kept, .ref aM_isKept, .int m_base, .int m_slopeX, .int m_slopeY, .int m_seen, .ref aM_seenLine, .ref aM_seenIs, .ref aM_rank, .ref aM_stage, .int m_letters, .ref aM_text, .int m_next, .int m_begin, .int m_token, .int m_gain, .int m_bestDot, .int m_bestCell])), (aM_told, .inl (cy.1, 7, .inl m_told)), (aM_rank, .inl (cy.1, 64, .inl m_rank)), (aM_stage, .inl (cy.1, 64, .inl m_stage))]) (hf : f_X10_ranks m_shut m_dots m_told m_rank m_stage = some r) : Wr l yX10_ranks cX10_ranks 10 none ({ frames := 5, cells := 0, slots := 0, locals := 125 } : Room) ([.ref aM] : List Value) none D cy H0 [(aM, .inr (10, [.int m_thrown, .ref aM_told, .ref aM_draft, .long m_shut, .long m_dots, .long m_draftShut, .long m_draftDots, .int m_undos, .ref aM_past, .ref aM_kept, .ref aM_isKept, .int m_base, .int m_slopeX, .int m_slopeY, .int m_seen, .ref aM_seenLine, .ref aM_seenIs, .ref aM_rank, .ref aM_stage, .int m_letters, .ref aM_text, .int m_next, .int m_begin, .int m_token, .int m_gain, .int m_bestDot, .int m_bestCell])), (aM_told, .inl (cy.1, 7, .inl m_told)), (aM_rank, .inl (cy.1, 64, .inl m_rank)), (aM_stage, .inl (cy.1, 64, .inl m_stage))] [(aM, .inr (10, [.int m_thrown, .ref aM_told, .ref aM_draft, .long m_shut, .long m_dots, .long m_draftShut, .long m_draftDots, .int m_undos, .ref aM_past, .ref aM_kept, .ref aM_isKept, .int m_base, .int m_slopeX, .int m_slopeY, .int m_seen, .ref aM_seenLine, .ref aM_seenIs, .ref aM_rank, .ref aM_stage, .int m_letters, .ref aM_text, .int m_next, .int m_begin, .int m_token, .int m_gain, .int m_bestDot, .int m_bestCell])), (aM_told, .inl (cy.1, 7, .inl m_told)), (aM_rank, .inl (cy.1, 64, .inl (r.1))), (aM_stage, .inl (cy.1, 64, .inl (r.2)))] := by
  refine wr_of (by decide +kernel) (Nat.le_of_ble_eq_true rfl) hD0 ?_
  intro p e s m below meth c ls A S hr hlocks hk hl hD hS hA
  obtain ⟨hx, hb, hml, hown, hts⟩ := id S
  have hl : lv_has ls 10 [(0, .ref aM)] := hl
  rw [f_X10_ranks] at hf
  have J111 : ∀ (n111 : Nat) (x1 : Int64) (x4 : Int32) (x5 : Int32) (m_rank : Nat → Int32) (m_stage : Nat → Int32) (H : Heap) (locs : List Loc) (ls : Array Slot), va_P D vwCl [(aM, .inr (10, [.int m_thrown, .ref aM_told, .ref aM_draft, .long m_shut, .long m_dots, .long m_draftShut, .long m_draftDots, .int m_undos, .ref aM_past, .ref aM_kept, .ref aM_isKept, .int m_base, .int m_slopeX, .int m_slopeY, .int m_seen, .ref aM_seenLine, .ref aM_seenIs, .ref aM_rank, .ref aM_stage, .int m_letters, .ref aM_text, .int m_next, .int m_begin, .int m_token, .int m_gain, .int m_bestDot, .int m_bestCell])), (aM_told, .inl (cy.1, 7, .inl m_told)), (aM_rank, .inl (cy.1, 64, .inl m_rank)), (aM_stage, .inl (cy.1, 64, .inl m_stage))] H → va_D A [(aM, .inr (10, [.int m_thrown, .ref aM_told, .ref aM_draft, .long m_shut, .long m_dots, .long m_draftShut, .long m_draftDots, .int m_undos, .ref aM_past, .ref aM_kept, .ref aM_isKept, .int m_base, .int m_slopeX, .int m_slopeY, .int m_seen, .ref aM_seenLine, .ref aM_seenIs, .ref aM_rank, .ref aM_stage, .int m_letters, .ref aM_text, .int m_next, .int m_begin, .int m_token, .int m_gain, .int m_bestDot, .int m_bestCell])), (aM_told, .inl (cy.1, 7, .inl m_told)), (aM_rank, .inl (cy.1, 64, .inl m_rank)), (aM_stage, .inl (cy.1, 64, .inl m_stage))] → va_S A H0 H locs → lv_has ls 10 [(0, .ref aM), (1, .long x1), (4, .int x4), (5, .int x5)] → lp_X10_ranks_111 m_shut m_told n111 x1 x4 x5 m_rank m_stage = some r → W p l e ({ frames := 5, cells := 0, slots := 0, locals := 125 } : Room) s m ([.ref aM] : List Value).toArray below meth c H locs 0 0 (MQ below (QW none D [(aM, .inr (10, [.int m_thrown, .ref aM_told, .ref aM_draft, .long m_shut, .long m_dots, .long m_draftShut, .long m_draftDots, .int m_undos, .ref aM_past, .ref aM_kept, .ref aM_isKept, .int m_base, .int m_slopeX, .int m_slopeY, .int m_seen, .ref aM_seenLine, .ref aM_seenIs, .ref aM_rank, .ref aM_stage, .int m_letters, .ref aM_text, .int m_next, .int m_begin, .int m_token, .int m_gain, .int m_bestDot, .int m_bestCell])), (aM_told, .inl (cy.1, 7, .inl m_told)), (aM_rank, .inl (cy.1, 64, .inl (r.1))), (aM_stage, .inl (cy.1, 64, .inl (r.2)))] H0 A) ([.ref aM] : List Value).toArray s 0 0 A) (F0 m 111 ls []) := by
    intro n111
    induction n111 with
    | zero =>
      intro x1 x4 x5 m_rank m_stage H locs ls hP hD hS hl hf
      rw [lp_X10_ranks_111_z] at hf
      cases hf
    | succ n111 ih111 =>
      have J197 : ∀ (x1 : Int64) (x4 : Int32) (x5 : Int32) (x9 : Int32) (k1 : Int32) (k2 : Int32) (m_rank : Nat → Int32) (m_stage : Nat → Int32) (H : Heap) (locs : List Loc) (ls : Array Slot), va_P D vwCl [(aM, .inr (10, [.int m_thrown, .ref aM_told, .ref aM_draft, .long m_shut, .long m_dots, .long m_draftShut, .long m_draftDots, .int m_undos, .ref aM_past, .ref aM_kept, .ref aM_isKept, .int m_base, .int m_slopeX, .int m_slopeY, .int m_seen, .ref aM_seenLine, .ref aM_seenIs, .ref aM_rank, .ref aM_stage, .int m_letters, .ref aM_text, .int m_next, .int m_begin, .int m_token, .int m_gain, .int m_bestDot, .int m_bestCell])), (aM_told, .inl (cy.1, 7, .inl m_told)), (aM_rank, .inl (cy.1, 64, .inl m_rank)), (aM_stage, .inl (cy.1, 64, .inl m_stage))] H → va_D A [(aM, .inr (10, [.int m_thrown, .ref aM_told, .ref aM_draft, .long m_shut, .long m_dots, .long m_draftShut, .long m_draftDots, .int m_undos, .ref aM_past, .ref aM_kept, .ref aM_isKept, .int m_base, .int m_slopeX, .int m_slopeY, .int m_seen, .ref aM_seenLine, .ref aM_seenIs, .ref aM_rank, .ref aM_stage, .int m_letters, .ref aM_text, .int m_next, .int m_begin, .int m_token, .int m_gain, .int m_bestDot, .int m_bestCell])), (aM_told, .inl (cy.1, 7, .inl m_told)), (aM_rank, .inl (cy.1, 64, .inl m_rank)), (aM_stage, .inl (cy.1, 64, .inl m_stage))] → va_S A H0 H locs → lv_has ls 10 [(0, .ref aM), (1, .long x1), (4, .int x4), (5, .int x5), (9, .int x9)] → j_X10_ranks_197 (lp_X10_ranks_111 m_shut m_told n111) x1 x4 x5 x9 k1 k2 m_rank m_stage = some r → W p l e ({ frames := 5, cells := 0, slots := 0, locals := 125 } : Room) s m ([.ref aM] : List Value).toArray below meth c H locs 0 0 (MQ below (QW none D [(aM, .inr (10, [.int m_thrown, .ref aM_told, .ref aM_draft, .long m_shut, .long m_dots, .long m_draftShut, .long m_draftDots, .int m_undos, .ref aM_past, .ref aM_kept, .ref aM_isKept, .int m_base, .int m_slopeX, .int m_slopeY, .int m_seen, .ref aM_seenLine, .ref aM_seenIs, .ref aM_rank, .ref aM_stage, .int m_letters, .ref aM_text, .int m_next, .int m_begin, .int m_token, .int m_gain, .int m_bestDot, .int m_bestCell])), (aM_told, .inl (cy.1, 7, .inl m_told)), (aM_rank, .inl (cy.1, 64, .inl (r.1))), (aM_stage, .inl (cy.1, 64, .inl (r.2)))] H0 A) ([.ref aM] : List Value).toArray s 0 0 A) (F0 m 197 ls [.int k2, .int k1, .ref aM_stage]) := by
        intro x1 x4 x5 x9 k1 k2 m_rank m_stage H locs ls hP hD hS hl hf
        rw [j_X10_ranks_197] at hf
        obtain ⟨hi, hf⟩ := q_in hf
        refine va_iast hx hb hk.1 hP hD hS 3 0 rfl rfl hi dX10_ranks_197 (fun H locs hP hD hS => ?_)
        have hP : va_P D vwCl [(aM, .inr (10, [.int m_thrown, .ref aM_told, .ref aM_draft, .long m_shut, .long m_dots, .long m_draftShut, .long m_draftDots, .int m_undos, .ref aM_past, .ref aM_kept, .ref aM_isKept, .int m_base, .int m_slopeX, .int m_slopeY, .int m_seen, .ref aM_seenLine, .ref aM_seenIs, .ref aM_rank, .ref aM_stage, .int m_letters, .ref aM_text, .int m_next, .int m_begin, .int m_token, .int m_gain, .int m_bestDot, .int m_bestCell])), (aM_told, .inl (cy.1, 7, .inl m_told)), (aM_rank, .inl (cy.1, 64, .inl m_rank)), (aM_stage, .inl (cy.1, 64, .inl (upd m_stage k1.toNatClampNeg k2)))] H := hP
        have hD : va_D A [(aM, .inr (10, [.int m_thrown, .ref aM_told, .ref aM_draft, .long m_shut, .long m_dots, .long m_draftShut, .long m_draftDots, .int m_undos, .ref aM_past, .ref aM_kept, .ref aM_isKept, .int m_base, .int m_slopeX, .int m_slopeY, .int m_seen, .ref aM_seenLine, .ref aM_seenIs, .ref aM_rank, .ref aM_stage, .int m_letters, .ref aM_text, .int m_next, .int m_begin, .int m_token, .int m_gain, .int m_bestDot, .int m_bestCell])), (aM_told, .inl (cy.1, 7, .inl m_told)), (aM_rank, .inl (cy.1, 64, .inl m_rank)), (aM_stage, .inl (cy.1, 64, .inl (upd m_stage k1.toNatClampNeg k2)))] := hD
        refine lv_lload_n hx hb dX10_ranks_198 rfl (lv_at hl 1 rfl) ?_
        refine lv_lconst (v := (1 : Int64)) hx hb dX10_ranks_199 (by decide) ?_
        refine lv_iload hx hb dX10_ranks_200 (lv_at hl 4 rfl) ?_
        refine lv_lshl (v := (lsh (1 : Int64) x9)) hx hb dX10_ranks_202 rfl ?_
        refine lv_lor hx hb dX10_ranks_203 ?_
        refine lv_lstore_n (lv' := [(1, .long (x1 ||| (lsh (1 : Int64) x9))), (0, .ref aM), (4, .int x4), (5, .int x5), (9, .int x9)]) hx hb dX10_ranks_204 rfl hl (by decide) rfl (fun ls hl => ?_)
        refine lv_iinc (v := (x4 + 1)) (lv' := [(4, .int (x4 + 1)), (1, .long (x1 ||| (lsh (1 : Int64) x9))), (0, .ref aM), (5, .int x5), (9, .int x9)]) hx hb dX10_ranks_205 hl (k := 2) rfl rfl (by decide) rfl (fun ls hl => ?_)
        refine lv_goto (tgt := 111) hx hb dX10_ranks_208 (by decide) ?_
        exact ih111 (x1 ||| (lsh (1 : Int64) x9)) (x4 + 1) x5 m_rank (upd m_stage k1.toNatClampNeg k2) H locs ls hP hD hS (lv_sub hl [2, 1, 0, 3] rfl) hf
      have J170 : ∀ (x1 : Int64) (x4 : Int32) (x5 : Int32) (x6 : Int32) (k0 : Int32) (m_rank : Nat → Int32) (m_stage : Nat → Int32) (H : Heap) (locs : List Loc) (ls : Array Slot), va_P D vwCl [(aM, .inr (10, [.int m_thrown, .ref aM_told, .ref aM_draft, .long m_shut, .long m_dots, .long m_draftShut, .long m_draftDots, .int m_undos, .ref aM_past, .ref aM_kept, .ref aM_isKept, .int m_base, .int m_slopeX, .int m_slopeY, .int m_seen, .ref aM_seenLine, .ref aM_seenIs, .ref aM_rank, .ref aM_stage, .int m_letters, .ref aM_text, .int m_next, .int m_begin, .int m_token, .int m_gain, .int m_bestDot, .int m_bestCell])), (aM_told, .inl (cy.1, 7, .inl m_told)), (aM_rank, .inl (cy.1, 64, .inl m_rank)), (aM_stage, .inl (cy.1, 64, .inl m_stage))] H → va_D A [(aM, .inr (10, [.int m_thrown, .ref aM_told, .ref aM_draft, .long m_shut, .long m_dots, .long m_draftShut, .long m_draftDots, .int m_undos, .ref aM_past, .ref aM_kept, .ref aM_isKept, .int m_base, .int m_slopeX, .int m_slopeY, .int m_seen, .ref aM_seenLine, .ref aM_seenIs, .ref aM_rank, .ref aM_stage, .int m_letters, .ref aM_text, .int m_next, .int m_begin, .int m_token, .int m_gain, .int m_bestDot, .int m_bestCell])), (aM_told, .inl (cy.1, 7, .inl m_told)), (aM_rank, .inl (cy.1, 64, .inl m_rank)), (aM_stage, .inl (cy.1, 64, .inl m_stage))] → va_S A H0 H locs → lv_has ls 10 [(0, .ref aM), (1, .long x1), (4, .int x4), (5, .int x5), (6, .int x6)] → j_X10_ranks_170 (lp_X10_ranks_111 m_shut m_told n111) x1 x4 x5 x6 k0 m_rank m_stage = some r → W p l e ({ frames := 5, cells := 0, slots := 0, locals := 125 } : Room) s m ([.ref aM] : List Value).toArray below meth c H locs 0 0 (MQ below (QW none D [(aM, .inr (10, [.int m_thrown, .ref aM_told, .ref aM_draft, .long m_shut, .long m_dots, .long m_draftShut, .long m_draftDots, .int m_undos, .ref aM_past, .ref aM_kept, .ref aM_isKept, .int m_base, .int m_slopeX, .int m_slopeY, .int m_seen, .ref aM_seenLine, .ref aM_seenIs, .ref aM_rank, .ref aM_stage, .int m_letters, .ref aM_text, .int m_next, .int m_begin, .int m_token, .int m_gain, .int m_bestDot, .int m_bestCell])), (aM_told, .inl (cy.1, 7, .inl m_told)), (aM_rank, .inl (cy.1, 64, .inl (r.1))), (aM_stage, .inl (cy.1, 64, .inl (r.2)))] H0 A) ([.ref aM] : List Value).toArray s 0 0 A) (F0 m 170 ls [.int k0]) := by
        intro x1 x4 x5 x6 k0 m_rank m_stage H locs ls hP hD hS hl hf
        rw [j_X10_ranks_170] at hf
        refine lv_istore (lv' := [(9, .int k0), (0, .ref aM), (1, .long x1), (4, .int x4), (5, .int x5), (6, .int x6)]) hx hb dX10_ranks_170 hl (by decide) rfl (fun ls hl => ?_)
        refine lv_aload_n hx hb dX10_ranks_172 rfl (lv_at hl 1 rfl) ?_
        refine va_get (D := D) (ci := 10) (v := .ref aM_rank) (C := RX10) (T := TX10) (N := 27) hx hb hts iX10 hown hk.1 hP 0 rfl rfl 17 (by decide) (hts _ tw_800) (fun _ h9 => h9) rfl dX10_ranks_173 ?_
        refine lv_iload hx hb dX10_ranks_176 (lv_at hl 0 rfl) ?_
        refine lv_iload hx hb dX10_ranks_178 (lv_at hl 3 rfl) ?_
        obtain ⟨hi, hf⟩ := q_in hf
        refine va_iast hx hb hk.1 hP hD hS 2 0 rfl rfl hi dX10_ranks_180 (fun H locs hP hD hS => ?_)
        have hP : va_P D vwCl [(aM, .inr (10, [.int m_thrown, .ref aM_told, .ref aM_draft, .long m_shut, .long m_dots, .long m_draftShut, .long m_draftDots, .int m_undos, .ref aM_past, .ref aM_kept, .ref aM_isKept, .int m_base, .int m_slopeX, .int m_slopeY, .int m_seen, .ref aM_seenLine, .ref aM_seenIs, .ref aM_rank, .ref aM_stage, .int m_letters, .ref aM_text, .int m_next, .int m_begin, .int m_token, .int m_gain, .int m_bestDot, .int m_bestCell])), (aM_told, .inl (cy.1, 7, .inl m_told)), (aM_rank, .inl (cy.1, 64, .inl (upd m_rank k0.toNatClampNeg x4))), (aM_stage, .inl (cy.1, 64, .inl m_stage))] H := hP
        have hD : va_D A [(aM, .inr (10, [.int m_thrown, .ref aM_told, .ref aM_draft, .long m_shut, .long m_dots, .long m_draftShut, .long m_draftDots, .int m_undos, .ref aM_past, .ref aM_kept, .ref aM_isKept, .int m_base, .int m_slopeX, .int m_slopeY, .int m_seen, .ref aM_seenLine, .ref aM_seenIs, .ref aM_rank, .ref aM_stage, .int m_letters, .ref aM_text, .int m_next, .int m_begin, .int m_token, .int m_gain, .int m_bestDot, .int m_bestCell])), (aM_told, .inl (cy.1, 7, .inl m_told)), (aM_rank, .inl (cy.1, 64, .inl (upd m_rank k0.toNatClampNeg x4))), (aM_stage, .inl (cy.1, 64, .inl m_stage))] := hD
        refine lv_aload_n hx hb dX10_ranks_181 rfl (lv_at hl 1 rfl) ?_
        refine va_get (D := D) (ci := 10) (v := .ref aM_stage) (C := RX10) (T := TX10) (N := 27) hx hb hts iX10 hown hk.1 hP 0 rfl rfl 18 (by decide) (hts _ tw_801) (fun _ h9 => h9) rfl dX10_ranks_182 ?_
        refine lv_iload hx hb dX10_ranks_185 (lv_at hl 0 rfl) ?_
        refine lv_iload hx hb dX10_ranks_187 (lv_at hl 5 rfl) ?_
        refine lv_if_eq (tgt := 196) hx hb dX10_ranks_189 (by decide) (fun hc => ?_) (fun hc => ?_)
        · have hf := q_t hc hf
          refine lv_iconst (v := (2 : Int32)) hx hb dX10_ranks_196 (by decide) ?_
          exact J197 x1 x4 x5 k0 k0 (2 : Int32) (upd m_rank k0.toNatClampNeg x4) m_stage H locs ls hP hD hS (lv_sub hl [1, 2, 3, 4, 0] rfl) hf
        · have hf := q_f hc hf
          refine lv_iconst (v := (1 : Int32)) hx hb dX10_ranks_192 (by decide) ?_
          refine lv_goto (tgt := 197) hx hb dX10_ranks_193 (by decide) ?_
          exact J197 x1 x4 x5 k0 k0 (1 : Int32) (upd m_rank k0.toNatClampNeg x4) m_stage H locs ls hP hD hS (lv_sub hl [1, 2, 3, 4, 0] rfl) hf
      have J134 : ∀ (x1 : Int64) (x4 : Int32) (x5 : Int32) (k0 : Int32) (m_rank : Nat → Int32) (m_stage : Nat → Int32) (H : Heap) (locs : List Loc) (ls : Array Slot), va_P D vwCl [(aM, .inr (10, [.int m_thrown, .ref aM_told, .ref aM_draft, .long m_shut, .long m_dots, .long m_draftShut, .long m_draftDots, .int m_undos, .ref aM_past, .ref aM_kept, .ref aM_isKept, .int m_base, .int m_slopeX, .int m_slopeY, .int m_seen, .ref aM_seenLine, .ref aM_seenIs, .ref aM_rank, .ref aM_stage, .int m_letters, .ref aM_text, .int m_next, .int m_begin, .int m_token, .int m_gain, .int m_bestDot, .int m_bestCell])), (aM_told, .inl (cy.1, 7, .inl m_told)), (aM_rank, .inl (cy.1, 64, .inl m_rank)), (aM_stage, .inl (cy.1, 64, .inl m_stage))] H → va_D A [(aM, .inr (10, [.int m_thrown, .ref aM_told, .ref aM_draft, .long m_shut, .long m_dots, .long m_draftShut, .long m_draftDots, .int m_undos, .ref aM_past, .ref aM_kept, .ref aM_isKept, .int m_base, .int m_slopeX, .int m_slopeY, .int m_seen, .ref aM_seenLine, .ref aM_seenIs, .ref aM_rank, .ref aM_stage, .int m_letters, .ref aM_text, .int m_next, .int m_begin, .int m_token, .int m_gain, .int m_bestDot, .int m_bestCell])), (aM_told, .inl (cy.1, 7, .inl m_told)), (aM_rank, .inl (cy.1, 64, .inl m_rank)), (aM_stage, .inl (cy.1, 64, .inl m_stage))] → va_S A H0 H locs → lv_has ls 10 [(0, .ref aM), (1, .long x1), (4, .int x4), (5, .int x5)] → j_X10_ranks_134 m_shut m_told (lp_X10_ranks_111 m_shut m_told n111) x1 x4 x5 k0 m_rank m_stage = some r → W p l e ({ frames := 5, cells := 0, slots := 0, locals := 125 } : Room) s m ([.ref aM] : List Value).toArray below meth c H locs 0 0 (MQ below (QW none D [(aM, .inr (10, [.int m_thrown, .ref aM_told, .ref aM_draft, .long m_shut, .long m_dots, .long m_draftShut, .long m_draftDots, .int m_undos, .ref aM_past, .ref aM_kept, .ref aM_isKept, .int m_base, .int m_slopeX, .int m_slopeY, .int m_seen, .ref aM_seenLine, .ref aM_seenIs, .ref aM_rank, .ref aM_stage, .int m_letters, .ref aM_text, .int m_next, .int m_begin, .int m_token, .int m_gain, .int m_bestDot, .int m_bestCell])), (aM_told, .inl (cy.1, 7, .inl m_told)), (aM_rank, .inl (cy.1, 64, .inl (r.1))), (aM_stage, .inl (cy.1, 64, .inl (r.2)))] H0 A) ([.ref aM] : List Value).toArray s 0 0 A) (F0 m 134 ls [.int k0]) := by
        intro x1 x4 x5 k0 m_rank m_stage H locs ls hP hD hS hl hf
        rw [j_X10_ranks_134] at hf
        refine lv_istore (lv' := [(6, .int k0), (0, .ref aM), (1, .long x1), (4, .int x4), (5, .int x5)]) hx hb dX10_ranks_134 hl (by decide) rfl (fun ls hl => ?_)
        refine lv_aload_n hx hb dX10_ranks_136 rfl (lv_at hl 1 rfl) ?_
        obtain ⟨z137, hz137, hf⟩ := q_bind hf
        refine q_rdV (As := []) (rest := []) (st2 := [.long z137]) S hk (c_X10_freeCells l D cy H aM aM_told aM_draft aM_past aM_kept aM_isKept aM_seenLine aM_seenIs aM_rank aM_stage aM_text m_thrown m_shut m_dots m_draftShut m_draftDots m_undos m_base m_slopeX m_slopeY m_seen m_letters m_next m_begin m_token m_gain m_bestDot m_bestCell m_told z137 (hP.sub [0, 1] rfl) hz137) ok_X10_freeCells tw_975 ⟨rfl, rfl, Nat.le_of_ble_eq_true rfl, Nat.le_of_ble_eq_true rfl⟩ (va_recv hk.1 hP (ci := 10) (q0 := 0) rfl rfl) rfl hl.1 rfl (Nat.le_of_ble_eq_true rfl) dX10_ranks_137 ⟨Nat.zero_le _, Nat.zero_le _⟩ rfl ?_
        refine lv_lload_n hx hb dX10_ranks_140 rfl (lv_at hl 2 rfl) ?_
        refine lv_ldc2 hx hb hown (hts _ tw_970) dX10_ranks_141 ?_
        refine lv_lxor hx hb dX10_ranks_144 ?_
        refine lv_land hx hb dX10_ranks_145 ?_
        refine lv_lstore (lv' := [(7, .long (z137 &&& (x1 ^^^ (-1 : Int64)))), (6, .int k0), (0, .ref aM), (1, .long x1), (4, .int x4), (5, .int x5)]) hx hb dX10_ranks_146 hl (by decide) rfl (fun ls hl => ?_)
        refine lv_iload hx hb dX10_ranks_148 (lv_at hl 1 rfl) ?_
        refine lv_if_eq (tgt := 161) hx hb dX10_ranks_150 (by decide) (fun hc => ?_) (fun hc => ?_)
        · have hf := q_t hc hf
          refine lv_aload_n hx hb dX10_ranks_161 rfl (lv_at hl 2 rfl) ?_
          refine lv_lload hx hb dX10_ranks_162 (lv_at hl 0 rfl) ?_
          refine lv_lload hx hb dX10_ranks_164 (lv_at hl 0 rfl) ?_
          refine lv_iconst (v := (1 : Int32)) hx hb dX10_ranks_166 (by decide) ?_
          obtain ⟨z167, hz167, hf⟩ := q_bind hf
          refine q_rdV (As := [.long (z137 &&& (x1 ^^^ (-1 : Int64))), .long (z137 &&& (x1 ^^^ (-1 : Int64))), .int (1 : Int32)]) (rest := []) (st2 := [.int z167]) S hk (c_X10_extremeOf l D cy H aM aM_told aM_draft aM_past aM_kept aM_isKept aM_seenLine aM_seenIs aM_rank aM_stage aM_text m_thrown m_shut m_dots m_draftShut m_draftDots m_undos m_base m_slopeX m_slopeY m_seen m_letters m_next m_begin m_token m_gain m_bestDot m_bestCell m_told (z137 &&& (x1 ^^^ (-1 : Int64))) (z137 &&& (x1 ^^^ (-1 : Int64))) (1 : Int32) z167 (hP.sub [0, 1] rfl) hz167) ok_X10_extremeOf tw_962 ⟨rfl, rfl, Nat.le_of_ble_eq_true rfl, Nat.le_of_ble_eq_true rfl⟩ (va_recv hk.1 hP (ci := 10) (q0 := 0) rfl rfl) rfl hl.1 rfl (Nat.le_of_ble_eq_true rfl) dX10_ranks_167 ⟨Nat.zero_le _, Nat.zero_le _⟩ rfl ?_
          exact J170 x1 x4 x5 k0 z167 m_rank m_stage H locs ls hP hD hS (lv_sub hl [2, 3, 4, 5, 1] rfl) hf
        · have hf := q_f hc hf
          refine lv_aload_n hx hb dX10_ranks_153 rfl (lv_at hl 2 rfl) ?_
          refine lv_lload_n hx hb dX10_ranks_154 rfl (lv_at hl 3 rfl) ?_
          obtain ⟨z155, hz155, hf⟩ := q_bind hf
          refine q_rdV (As := [.long x1]) (rest := []) (st2 := [.int z155]) S hk (c_X10_emptiest l D cy H aM aM_told aM_draft aM_past aM_kept aM_isKept aM_seenLine aM_seenIs aM_rank aM_stage aM_text m_thrown m_shut m_dots m_draftShut m_draftDots m_undos m_base m_slopeX m_slopeY m_seen m_letters m_next m_begin m_token m_gain m_bestDot m_bestCell m_told x1 z155 (hP.sub [0, 1] rfl) hz155) ok_X10_emptiest tw_971 ⟨rfl, rfl, Nat.le_of_ble_eq_true rfl, Nat.le_of_ble_eq_true rfl⟩ (va_recv hk.1 hP (ci := 10) (q0 := 0) rfl rfl) rfl hl.1 rfl (Nat.le_of_ble_eq_true rfl) dX10_ranks_155 ⟨Nat.zero_le _, Nat.zero_le _⟩ rfl ?_
          refine lv_goto (tgt := 170) hx hb dX10_ranks_158 (by decide) ?_
          exact J170 x1 x4 x5 k0 z155 m_rank m_stage H locs ls hP hD hS (lv_sub hl [2, 3, 4, 5, 1] rfl) hf
      intro x1 x4 x5 m_rank m_stage H locs ls hP hD hS hl hf
      rw [lp_X10_ranks_111_s] at hf
      refine lv_iload hx hb dX10_ranks_111 (lv_at hl 2 rfl) ?_
      refine lv_iload hx hb dX10_ranks_113 (lv_at hl 3 rfl) ?_
      refine lv_icmp_ge (tgt := 211) hx hb dX10_ranks_115 (by decide) (fun hc => ?_) (fun hc => ?_)
      · have hf := q_t hc hf
        have hf := Option.some.inj hf
        subst hf
        exact q_rvW hP hS hx hb hr hlocks dX10_ranks_211
      · have hf := q_f hc hf
        refine lv_iload hx hb dX10_ranks_118 (lv_at hl 2 rfl) ?_
        refine lv_iload hx hb dX10_ranks_120 (lv_at hl 3 rfl) ?_
        refine lv_iconst (v := (1 : Int32)) hx hb dX10_ranks_122 (by decide) ?_
        refine lv_iadd hx hb dX10_ranks_123 ?_
        refine lv_iconst (v := (2 : Int32)) hx hb dX10_ranks_124 (by decide) ?_
        refine lv_idiv hx hb dX10_ranks_125 (by decide) ?_
        refine lv_icmp_ge (tgt := 133) hx hb dX10_ranks_126 (by decide) (fun hc => ?_) (fun hc => ?_)
        · have hf := q_t hc hf
          refine lv_iconst (v := (0 : Int32)) hx hb dX10_ranks_133 (by decide) ?_
          exact J134 x1 x4 x5 (0 : Int32) m_rank m_stage H locs ls hP hD hS (lv_sub hl [0, 1, 2, 3] rfl) hf
        · have hf := q_f hc hf
          refine lv_iconst (v := (1 : Int32)) hx hb dX10_ranks_129 (by decide) ?_
          refine lv_goto (tgt := 134) hx hb dX10_ranks_130 (by decide) ?_
          exact J134 x1 x4 x5 (1 : Int32) m_rank m_stage H locs ls hP hD hS (lv_sub hl [0, 1, 2, 3] rfl) hf
  have J47 : ∀ (n47 : Nat) (x1 : Int64) (x3 : Int32) (m_rank : Nat → Int32) (m_stage : Nat → Int32) (H : Heap) (locs : List Loc) (ls : Array Slot), va_P D vwCl [(aM, .inr (10, [.int m_thrown, .ref aM_told, .ref aM_draft, .long m_shut, .long m_dots, .long m_draftShut, .long m_draftDots, .int m_undos, .ref aM_past, .ref aM_kept, .ref aM_isKept, .int m_base, .int m_slopeX, .int m_slopeY, .int m_seen, .ref aM_seenLine, .ref aM_seenIs, .ref aM_rank, .ref aM_stage, .int m_letters, .ref aM_text, .int m_next, .int m_begin, .int m_token, .int m_gain, .int m_bestDot, .int m_bestCell])), (aM_told, .inl (cy.1, 7, .inl m_told)), (aM_rank, .inl (cy.1, 64, .inl m_rank)), (aM_stage, .inl (cy.1, 64, .inl m_stage))] H → va_D A [(aM, .inr (10, [.int m_thrown, .ref aM_told, .ref aM_draft, .long m_shut, .long m_dots, .long m_draftShut, .long m_draftDots, .int m_undos, .ref aM_past, .ref aM_kept, .ref aM_isKept, .int m_base, .int m_slopeX, .int m_slopeY, .int m_seen, .ref aM_seenLine, .ref aM_seenIs, .ref aM_rank, .ref aM_stage, .int m_letters, .ref aM_text, .int m_next, .int m_begin, .int m_token, .int m_gain, .int m_bestDot, .int m_bestCell])), (aM_told, .inl (cy.1, 7, .inl m_told)), (aM_rank, .inl (cy.1, 64, .inl m_rank)), (aM_stage, .inl (cy.1, 64, .inl m_stage))] → va_S A H0 H locs → lv_has ls 10 [(0, .ref aM), (1, .long x1), (3, .int x3)] → lp_X10_ranks_47 m_shut m_dots m_told n47 x1 x3 m_rank m_stage = some r → W p l e ({ frames := 5, cells := 0, slots := 0, locals := 125 } : Room) s m ([.ref aM] : List Value).toArray below meth c H locs 0 0 (MQ below (QW none D [(aM, .inr (10, [.int m_thrown, .ref aM_told, .ref aM_draft, .long m_shut, .long m_dots, .long m_draftShut, .long m_draftDots, .int m_undos, .ref aM_past, .ref aM_kept, .ref aM_isKept, .int m_base, .int m_slopeX, .int m_slopeY, .int m_seen, .ref aM_seenLine, .ref aM_seenIs, .ref aM_rank, .ref aM_stage, .int m_letters, .ref aM_text, .int m_next, .int m_begin, .int m_token, .int m_gain, .int m_bestDot, .int m_bestCell])), (aM_told, .inl (cy.1, 7, .inl m_told)), (aM_rank, .inl (cy.1, 64, .inl (r.1))), (aM_stage, .inl (cy.1, 64, .inl (r.2)))] H0 A) ([.ref aM] : List Value).toArray s 0 0 A) (F0 m 47 ls []) := by
    intro n47
    induction n47 with
    | zero =>
      intro x1 x3 m_rank m_stage H locs ls hP hD hS hl hf
      rw [lp_X10_ranks_47_z] at hf
      cases hf
    | succ n47 ih47 =>
      intro x1 x3 m_rank m_stage H locs ls hP hD hS hl hf
      rw [lp_X10_ranks_47_s] at hf
      refine lv_iload_n hx hb dX10_ranks_47 rfl (lv_at hl 2 rfl) ?_
      refine lv_if_le (tgt := 91) hx hb dX10_ranks_48 (by decide) (fun hc => ?_) (fun hc => ?_)
      · have hf := q_t hc hf
        refine lv_aload_n hx hb dX10_ranks_91 rfl (lv_at hl 0 rfl) ?_
        refine va_get (D := D) (ci := 10) (v := .long m_dots) (C := RX10) (T := TX10) (N := 27) hx hb hts iX10 hown hk.1 hP 0 rfl rfl 4 (by decide) (hts _ tw_787) (fun _ h9 => h9) rfl dX10_ranks_92 ?_
        refine lv_lstore_n (lv' := [(1, .long m_dots), (0, .ref aM), (3, .int x3)]) hx hb dX10_ranks_95 rfl hl (by decide) rfl (fun ls hl => ?_)
        refine lv_aload_n hx hb dX10_ranks_96 rfl (lv_at hl 1 rfl) ?_
        refine va_get (D := D) (ci := 10) (v := .long m_dots) (C := RX10) (T := TX10) (N := 27) hx hb hts iX10 hown hk.1 hP 0 rfl rfl 4 (by decide) (hts _ tw_787) (fun _ h9 => h9) rfl dX10_ranks_97 ?_
        obtain ⟨z100, hz100, hf⟩ := q_bind hf
        refine q_rdS (As := [.long m_dots]) (rest := []) (st2 := [.int z100]) S hk (c_X10_ones l D cy H m_dots z100 hz100) ok_X10_ones tw_1034 ⟨rfl, rfl, Nat.le_of_ble_eq_true rfl, Nat.le_of_ble_eq_true rfl⟩ rfl hl.1 rfl (Nat.le_of_ble_eq_true rfl) dX10_ranks_100 ⟨Nat.zero_le _, Nat.zero_le _⟩ rfl ?_
        refine lv_istore (lv' := [(4, .int z100), (1, .long m_dots), (0, .ref aM), (3, .int x3)]) hx hb dX10_ranks_103 hl (by decide) rfl (fun ls hl => ?_)
        refine lv_aload_n hx hb dX10_ranks_105 rfl (lv_at hl 2 rfl) ?_
        obtain ⟨z106, hz106, hf⟩ := q_bind hf
        refine q_rdV (As := []) (rest := []) (st2 := [.int z106]) S hk (c_X10_free l D cy H aM aM_told aM_draft aM_past aM_kept aM_isKept aM_seenLine aM_seenIs aM_rank aM_stage aM_text m_thrown m_shut m_dots m_draftShut m_draftDots m_undos m_base m_slopeX m_slopeY m_seen m_letters m_next m_begin m_token m_gain m_bestDot m_bestCell m_told z106 (hP.sub [0, 1] rfl) hz106) ok_X10_free tw_1037 ⟨rfl, rfl, Nat.le_of_ble_eq_true rfl, Nat.le_of_ble_eq_true rfl⟩ (va_recv hk.1 hP (ci := 10) (q0 := 0) rfl rfl) rfl hl.1 rfl (Nat.le_of_ble_eq_true rfl) dX10_ranks_106 ⟨Nat.zero_le _, Nat.zero_le _⟩ rfl ?_
        refine lv_istore (lv' := [(5, .int z106), (4, .int z100), (1, .long m_dots), (0, .ref aM), (3, .int x3)]) hx hb dX10_ranks_109 hl (by decide) rfl (fun ls hl => ?_)
        exact J111 FU m_dots z100 z106 m_rank m_stage H locs ls hP hD hS (lv_sub hl [3, 2, 1, 0] rfl) hf
      · have hf := q_f hc hf
        refine lv_aload_n hx hb dX10_ranks_51 rfl (lv_at hl 0 rfl) ?_
        refine lv_lload_n hx hb dX10_ranks_52 rfl (lv_at hl 1 rfl) ?_
        obtain ⟨z53, hz53, hf⟩ := q_bind hf
        refine q_rdV (As := [.long x1]) (rest := []) (st2 := [.int z53]) S hk (c_X10_tightest l D cy H aM aM_told aM_draft aM_past aM_kept aM_isKept aM_seenLine aM_seenIs aM_rank aM_stage aM_text m_thrown m_shut m_dots m_draftShut m_draftDots m_undos m_base m_slopeX m_slopeY m_seen m_letters m_next m_begin m_token m_gain m_bestDot m_bestCell m_told x1 z53 (hP.sub [0, 1] rfl) hz53) ok_X10_tightest tw_958 ⟨rfl, rfl, Nat.le_of_ble_eq_true rfl, Nat.le_of_ble_eq_true rfl⟩ (va_recv hk.1 hP (ci := 10) (q0 := 0) rfl rfl) rfl hl.1 rfl (Nat.le_of_ble_eq_true rfl) dX10_ranks_53 ⟨Nat.zero_le _, Nat.zero_le _⟩ rfl ?_
        refine lv_istore (lv' := [(4, .int z53), (0, .ref aM), (1, .long x1), (3, .int x3)]) hx hb dX10_ranks_56 hl (by decide) rfl (fun ls hl => ?_)
        refine lv_lload_n hx hb dX10_ranks_58 rfl (lv_at hl 2 rfl) ?_
        refine lv_lconst (v := (1 : Int64)) hx hb dX10_ranks_59 (by decide) ?_
        refine lv_iload hx hb dX10_ranks_60 (lv_at hl 0 rfl) ?_
        refine lv_lshl (v := (lsh (1 : Int64) z53)) hx hb dX10_ranks_62 rfl ?_
        refine lv_ldc2 hx hb hown (hts _ tw_970) dX10_ranks_63 ?_
        refine lv_lxor hx hb dX10_ranks_66 ?_
        refine lv_land hx hb dX10_ranks_67 ?_
        refine lv_lstore_n (lv' := [(1, .long (x1 &&& ((lsh (1 : Int64) z53) ^^^ (-1 : Int64)))), (4, .int z53), (0, .ref aM), (3, .int x3)]) hx hb dX10_ranks_68 rfl hl (by decide) rfl (fun ls hl => ?_)
        refine lv_iinc (v := (x3 + (-1))) (lv' := [(3, .int (x3 + (-1))), (1, .long (x1 &&& ((lsh (1 : Int64) z53) ^^^ (-1 : Int64)))), (4, .int z53), (0, .ref aM)]) hx hb dX10_ranks_69 hl (k := 3) rfl rfl (by decide) rfl (fun ls hl => ?_)
        refine lv_aload_n hx hb dX10_ranks_72 rfl (lv_at hl 3 rfl) ?_
        refine va_get (D := D) (ci := 10) (v := .ref aM_rank) (C := RX10) (T := TX10) (N := 27) hx hb hts iX10 hown hk.1 hP 0 rfl rfl 17 (by decide) (hts _ tw_800) (fun _ h9 => h9) rfl dX10_ranks_73 ?_
        refine lv_iload hx hb dX10_ranks_76 (lv_at hl 2 rfl) ?_
        refine lv_iload_n hx hb dX10_ranks_78 rfl (lv_at hl 0 rfl) ?_
        obtain ⟨hi, hf⟩ := q_in hf
        refine va_iast hx hb hk.1 hP hD hS 2 0 rfl rfl hi dX10_ranks_79 (fun H locs hP hD hS => ?_)
        have hP : va_P D vwCl [(aM, .inr (10, [.int m_thrown, .ref aM_told, .ref aM_draft, .long m_shut, .long m_dots, .long m_draftShut, .long m_draftDots, .int m_undos, .ref aM_past, .ref aM_kept, .ref aM_isKept, .int m_base, .int m_slopeX, .int m_slopeY, .int m_seen, .ref aM_seenLine, .ref aM_seenIs, .ref aM_rank, .ref aM_stage, .int m_letters, .ref aM_text, .int m_next, .int m_begin, .int m_token, .int m_gain, .int m_bestDot, .int m_bestCell])), (aM_told, .inl (cy.1, 7, .inl m_told)), (aM_rank, .inl (cy.1, 64, .inl (upd m_rank z53.toNatClampNeg (x3 + (-1))))), (aM_stage, .inl (cy.1, 64, .inl m_stage))] H := hP
        have hD : va_D A [(aM, .inr (10, [.int m_thrown, .ref aM_told, .ref aM_draft, .long m_shut, .long m_dots, .long m_draftShut, .long m_draftDots, .int m_undos, .ref aM_past, .ref aM_kept, .ref aM_isKept, .int m_base, .int m_slopeX, .int m_slopeY, .int m_seen, .ref aM_seenLine, .ref aM_seenIs, .ref aM_rank, .ref aM_stage, .int m_letters, .ref aM_text, .int m_next, .int m_begin, .int m_token, .int m_gain, .int m_bestDot, .int m_bestCell])), (aM_told, .inl (cy.1, 7, .inl m_told)), (aM_rank, .inl (cy.1, 64, .inl (upd m_rank z53.toNatClampNeg (x3 + (-1))))), (aM_stage, .inl (cy.1, 64, .inl m_stage))] := hD
        refine lv_aload_n hx hb dX10_ranks_80 rfl (lv_at hl 3 rfl) ?_
        refine va_get (D := D) (ci := 10) (v := .ref aM_stage) (C := RX10) (T := TX10) (N := 27) hx hb hts iX10 hown hk.1 hP 0 rfl rfl 18 (by decide) (hts _ tw_801) (fun _ h9 => h9) rfl dX10_ranks_81 ?_
        refine lv_iload hx hb dX10_ranks_84 (lv_at hl 2 rfl) ?_
        refine lv_iconst (v := (0 : Int32)) hx hb dX10_ranks_86 (by decide) ?_
        obtain ⟨hi, hf⟩ := q_in hf
        refine va_iast hx hb hk.1 hP hD hS 3 0 rfl rfl hi dX10_ranks_87 (fun H locs hP hD hS => ?_)
        have hP : va_P D vwCl [(aM, .inr (10, [.int m_thrown, .ref aM_told, .ref aM_draft, .long m_shut, .long m_dots, .long m_draftShut, .long m_draftDots, .int m_undos, .ref aM_past, .ref aM_kept, .ref aM_isKept, .int m_base, .int m_slopeX, .int m_slopeY, .int m_seen, .ref aM_seenLine, .ref aM_seenIs, .ref aM_rank, .ref aM_stage, .int m_letters, .ref aM_text, .int m_next, .int m_begin, .int m_token, .int m_gain, .int m_bestDot, .int m_bestCell])), (aM_told, .inl (cy.1, 7, .inl m_told)), (aM_rank, .inl (cy.1, 64, .inl (upd m_rank z53.toNatClampNeg (x3 + (-1))))), (aM_stage, .inl (cy.1, 64, .inl (upd m_stage z53.toNatClampNeg (0 : Int32))))] H := hP
        have hD : va_D A [(aM, .inr (10, [.int m_thrown, .ref aM_told, .ref aM_draft, .long m_shut, .long m_dots, .long m_draftShut, .long m_draftDots, .int m_undos, .ref aM_past, .ref aM_kept, .ref aM_isKept, .int m_base, .int m_slopeX, .int m_slopeY, .int m_seen, .ref aM_seenLine, .ref aM_seenIs, .ref aM_rank, .ref aM_stage, .int m_letters, .ref aM_text, .int m_next, .int m_begin, .int m_token, .int m_gain, .int m_bestDot, .int m_bestCell])), (aM_told, .inl (cy.1, 7, .inl m_told)), (aM_rank, .inl (cy.1, 64, .inl (upd m_rank z53.toNatClampNeg (x3 + (-1))))), (aM_stage, .inl (cy.1, 64, .inl (upd m_stage z53.toNatClampNeg (0 : Int32))))] := hD
        refine lv_goto (tgt := 47) hx hb dX10_ranks_88 (by decide) ?_
        exact ih47 (x1 &&& ((lsh (1 : Int64) z53) ^^^ (-1 : Int64))) (x3 + (-1)) (upd m_rank z53.toNatClampNeg (x3 + (-1))) (upd m_stage z53.toNatClampNeg (0 : Int32)) H locs ls hP hD hS (lv_sub hl [3, 1, 0] rfl) hf
  have J16 : ∀ (n16 : Nat) (x1 : Int64) (x3 : Int32) (x4 : Int32) (m_rank : Nat → Int32) (m_stage : Nat → Int32) (H : Heap) (locs : List Loc) (ls : Array Slot), va_P D vwCl [(aM, .inr (10, [.int m_thrown, .ref aM_told, .ref aM_draft, .long m_shut, .long m_dots, .long m_draftShut, .long m_draftDots, .int m_undos, .ref aM_past, .ref aM_kept, .ref aM_isKept, .int m_base, .int m_slopeX, .int m_slopeY, .int m_seen, .ref aM_seenLine, .ref aM_seenIs, .ref aM_rank, .ref aM_stage, .int m_letters, .ref aM_text, .int m_next, .int m_begin, .int m_token, .int m_gain, .int m_bestDot, .int m_bestCell])), (aM_told, .inl (cy.1, 7, .inl m_told)), (aM_rank, .inl (cy.1, 64, .inl m_rank)), (aM_stage, .inl (cy.1, 64, .inl m_stage))] H → va_D A [(aM, .inr (10, [.int m_thrown, .ref aM_told, .ref aM_draft, .long m_shut, .long m_dots, .long m_draftShut, .long m_draftDots, .int m_undos, .ref aM_past, .ref aM_kept, .ref aM_isKept, .int m_base, .int m_slopeX, .int m_slopeY, .int m_seen, .ref aM_seenLine, .ref aM_seenIs, .ref aM_rank, .ref aM_stage, .int m_letters, .ref aM_text, .int m_next, .int m_begin, .int m_token, .int m_gain, .int m_bestDot, .int m_bestCell])), (aM_told, .inl (cy.1, 7, .inl m_told)), (aM_rank, .inl (cy.1, 64, .inl m_rank)), (aM_stage, .inl (cy.1, 64, .inl m_stage))] → va_S A H0 H locs → lv_has ls 10 [(0, .ref aM), (1, .long x1), (3, .int x3), (4, .int x4)] → lp_X10_ranks_16 m_shut m_dots m_told n16 x1 x3 x4 m_rank m_stage = some r → W p l e ({ frames := 5, cells := 0, slots := 0, locals := 125 } : Room) s m ([.ref aM] : List Value).toArray below meth c H locs 0 0 (MQ below (QW none D [(aM, .inr (10, [.int m_thrown, .ref aM_told, .ref aM_draft, .long m_shut, .long m_dots, .long m_draftShut, .long m_draftDots, .int m_undos, .ref aM_past, .ref aM_kept, .ref aM_isKept, .int m_base, .int m_slopeX, .int m_slopeY, .int m_seen, .ref aM_seenLine, .ref aM_seenIs, .ref aM_rank, .ref aM_stage, .int m_letters, .ref aM_text, .int m_next, .int m_begin, .int m_token, .int m_gain, .int m_bestDot, .int m_bestCell])), (aM_told, .inl (cy.1, 7, .inl m_told)), (aM_rank, .inl (cy.1, 64, .inl (r.1))), (aM_stage, .inl (cy.1, 64, .inl (r.2)))] H0 A) ([.ref aM] : List Value).toArray s 0 0 A) (F0 m 16 ls []) := by
    intro n16
    induction n16 with
    | zero =>
      intro x1 x3 x4 m_rank m_stage H locs ls hP hD hS hl hf
      rw [lp_X10_ranks_16_z] at hf
      cases hf
    | succ n16 ih16 =>
      intro x1 x3 x4 m_rank m_stage H locs ls hP hD hS hl hf
      rw [lp_X10_ranks_16_s] at hf
      refine lv_iload hx hb dX10_ranks_16 (lv_at hl 3 rfl) ?_
      refine lv_bipush (v := (64 : Int32)) hx hb dX10_ranks_18 (by decide) ?_
      refine lv_icmp_ge (tgt := 47) hx hb dX10_ranks_20 (by decide) (fun hc => ?_) (fun hc => ?_)
      · have hf := q_t hc hf
        exact J47 FU x1 x3 m_rank m_stage H locs ls hP hD hS (lv_sub hl [0, 1, 2] rfl) hf
      · have hf := q_f hc hf
        refine lv_aload_n hx hb dX10_ranks_23 rfl (lv_at hl 0 rfl) ?_
        refine va_get (D := D) (ci := 10) (v := .ref aM_rank) (C := RX10) (T := TX10) (N := 27) hx hb hts iX10 hown hk.1 hP 0 rfl rfl 17 (by decide) (hts _ tw_800) (fun _ h9 => h9) rfl dX10_ranks_24 ?_
        refine lv_iload hx hb dX10_ranks_27 (lv_at hl 3 rfl) ?_
        refine lv_bipush (v := (-9 : Int32)) hx hb dX10_ranks_29 (by decide) ?_
        obtain ⟨hi, hf⟩ := q_in hf
        refine va_iast hx hb hk.1 hP hD hS 2 0 rfl rfl hi dX10_ranks_31 (fun H locs hP hD hS => ?_)
        have hP : va_P D vwCl [(aM, .inr (10, [.int m_thrown, .ref aM_told, .ref aM_draft, .long m_shut, .long m_dots, .long m_draftShut, .long m_draftDots, .int m_undos, .ref aM_past, .ref aM_kept, .ref aM_isKept, .int m_base, .int m_slopeX, .int m_slopeY, .int m_seen, .ref aM_seenLine, .ref aM_seenIs, .ref aM_rank, .ref aM_stage, .int m_letters, .ref aM_text, .int m_next, .int m_begin, .int m_token, .int m_gain, .int m_bestDot, .int m_bestCell])), (aM_told, .inl (cy.1, 7, .inl m_told)), (aM_rank, .inl (cy.1, 64, .inl (upd m_rank x4.toNatClampNeg (-9 : Int32)))), (aM_stage, .inl (cy.1, 64, .inl m_stage))] H := hP
        have hD : va_D A [(aM, .inr (10, [.int m_thrown, .ref aM_told, .ref aM_draft, .long m_shut, .long m_dots, .long m_draftShut, .long m_draftDots, .int m_undos, .ref aM_past, .ref aM_kept, .ref aM_isKept, .int m_base, .int m_slopeX, .int m_slopeY, .int m_seen, .ref aM_seenLine, .ref aM_seenIs, .ref aM_rank, .ref aM_stage, .int m_letters, .ref aM_text, .int m_next, .int m_begin, .int m_token, .int m_gain, .int m_bestDot, .int m_bestCell])), (aM_told, .inl (cy.1, 7, .inl m_told)), (aM_rank, .inl (cy.1, 64, .inl (upd m_rank x4.toNatClampNeg (-9 : Int32)))), (aM_stage, .inl (cy.1, 64, .inl m_stage))] := hD
        refine lv_aload_n hx hb dX10_ranks_32 rfl (lv_at hl 0 rfl) ?_
        refine va_get (D := D) (ci := 10) (v := .ref aM_stage) (C := RX10) (T := TX10) (N := 27) hx hb hts iX10 hown hk.1 hP 0 rfl rfl 18 (by decide) (hts _ tw_801) (fun _ h9 => h9) rfl dX10_ranks_33 ?_
        refine lv_iload hx hb dX10_ranks_36 (lv_at hl 3 rfl) ?_
        refine lv_bipush (v := (-9 : Int32)) hx hb dX10_ranks_38 (by decide) ?_
        obtain ⟨hi, hf⟩ := q_in hf
        refine va_iast hx hb hk.1 hP hD hS 3 0 rfl rfl hi dX10_ranks_40 (fun H locs hP hD hS => ?_)
        have hP : va_P D vwCl [(aM, .inr (10, [.int m_thrown, .ref aM_told, .ref aM_draft, .long m_shut, .long m_dots, .long m_draftShut, .long m_draftDots, .int m_undos, .ref aM_past, .ref aM_kept, .ref aM_isKept, .int m_base, .int m_slopeX, .int m_slopeY, .int m_seen, .ref aM_seenLine, .ref aM_seenIs, .ref aM_rank, .ref aM_stage, .int m_letters, .ref aM_text, .int m_next, .int m_begin, .int m_token, .int m_gain, .int m_bestDot, .int m_bestCell])), (aM_told, .inl (cy.1, 7, .inl m_told)), (aM_rank, .inl (cy.1, 64, .inl (upd m_rank x4.toNatClampNeg (-9 : Int32)))), (aM_stage, .inl (cy.1, 64, .inl (upd m_stage x4.toNatClampNeg (-9 : Int32))))] H := hP
        have hD : va_D A [(aM, .inr (10, [.int m_thrown, .ref aM_told, .ref aM_draft, .long m_shut, .long m_dots, .long m_draftShut, .long m_draftDots, .int m_undos, .ref aM_past, .ref aM_kept, .ref aM_isKept, .int m_base, .int m_slopeX, .int m_slopeY, .int m_seen, .ref aM_seenLine, .ref aM_seenIs, .ref aM_rank, .ref aM_stage, .int m_letters, .ref aM_text, .int m_next, .int m_begin, .int m_token, .int m_gain, .int m_bestDot, .int m_bestCell])), (aM_told, .inl (cy.1, 7, .inl m_told)), (aM_rank, .inl (cy.1, 64, .inl (upd m_rank x4.toNatClampNeg (-9 : Int32)))), (aM_stage, .inl (cy.1, 64, .inl (upd m_stage x4.toNatClampNeg (-9 : Int32))))] := hD
        refine lv_iinc (v := (x4 + 1)) (lv' := [(4, .int (x4 + 1)), (0, .ref aM), (1, .long x1), (3, .int x3)]) hx hb dX10_ranks_41 hl (k := 3) rfl rfl (by decide) rfl (fun ls hl => ?_)
        refine lv_goto (tgt := 16) hx hb dX10_ranks_44 (by decide) ?_
        exact ih16 x1 x3 (x4 + 1) (upd m_rank x4.toNatClampNeg (-9 : Int32)) (upd m_stage x4.toNatClampNeg (-9 : Int32)) H locs ls hP hD hS (lv_sub hl [1, 2, 3, 0] rfl) hf
  refine lv_aload_n hx hb dX10_ranks_0 rfl (lv_at hl 0 rfl) ?_
  refine va_get (D := D) (ci := 10) (v := .long m_dots) (C := RX10) (T := TX10) (N := 27) hx hb hts iX10 hown hk.1 hP 0 rfl rfl 4 (by decide) (hts _ tw_787) (fun _ h9 => h9) rfl dX10_ranks_1 ?_
  refine lv_lstore_n (lv' := [(1, .long m_dots), (0, .ref aM)]) hx hb dX10_ranks_4 rfl hl (by decide) rfl (fun ls hl => ?_)
  refine lv_aload_n hx hb dX10_ranks_5 rfl (lv_at hl 1 rfl) ?_
  refine va_get (D := D) (ci := 10) (v := .long m_dots) (C := RX10) (T := TX10) (N := 27) hx hb hts iX10 hown hk.1 hP 0 rfl rfl 4 (by decide) (hts _ tw_787) (fun _ h9 => h9) rfl dX10_ranks_6 ?_
  obtain ⟨z9, hz9, hf⟩ := q_bind hf
  refine q_rdS (As := [.long m_dots]) (rest := []) (st2 := [.int z9]) S hk (c_X10_ones l D cy H0 m_dots z9 hz9) ok_X10_ones tw_1034 ⟨rfl, rfl, Nat.le_of_ble_eq_true rfl, Nat.le_of_ble_eq_true rfl⟩ rfl hl.1 rfl (Nat.le_of_ble_eq_true rfl) dX10_ranks_9 ⟨Nat.zero_le _, Nat.zero_le _⟩ rfl ?_
  refine lv_istore_n (lv' := [(3, .int z9), (1, .long m_dots), (0, .ref aM)]) hx hb dX10_ranks_12 rfl hl (by decide) rfl (fun ls hl => ?_)
  refine lv_iconst (v := (0 : Int32)) hx hb dX10_ranks_13 (by decide) ?_
  refine lv_istore (lv' := [(4, .int (0 : Int32)), (3, .int z9), (1, .long m_dots), (0, .ref aM)]) hx hb dX10_ranks_14 hl (by decide) rfl (fun ls hl => ?_)
  exact J16 FU m_dots z9 (0 : Int32) m_rank m_stage H0 [] ls hP hD hS (lv_sub hl [3, 2, 1, 0] rfl) hf
def f_X10_rank (m_thrown : Int32) (m_shut : Int64) (m_dots : Int64) (m_told : Nat → Int32) (m_rank : Nat → Int32) (m_stage : Nat → Int32) (x1 : Int32) (x2 : Int32) : Option (Int32 × Int32 × (Nat → Int32) × (Nat → Int32)) := (f_X10_isPlace m_told x1 x2).bind (fun z8 => if z8 = 0 then (some ((-1 : Int32), (0 : Int32), m_rank, m_stage)) else (if (lg_cmp m_dots (0 : Int64)) = 0 then (some ((-2 : Int32), (0 : Int32), m_rank, m_stage)) else ((f_X10_ranks m_shut m_dots m_told m_rank m_stage).bind (fun z29 => (f_X10_at m_told x1 x2).bind (fun z39 => if inb z39 64 = true then (some (((z29.1) z39.toNatClampNeg), (0 : Int32), (z29.1), (z29.2))) else none)))))
theorem ok_X10_rank : OkV yX10_rank cX10_rank 3 (some Jvm.ClassFile.FieldType.int) 2 := ⟨⟨tw_1029, tw_13, by decide +kernel, by decide +kernel, by decide +kernel⟩, tw_1027, tw_1028⟩
set_option maxHeartbeats 4000000 in
set_option maxRecDepth 100000 in
theorem c_X10_rank (l : Launch) (D : va_G) (cy : ClassId × ClassId × ClassId) (H0 : Heap) (aM aM_told aM_draft aM_past aM_kept aM_isKept aM_seenLine aM_seenIs aM_rank aM_stage aM_text : Nat) (m_thrown : Int32) (m_shut : Int64) (m_dots : Int64) (m_draftShut : Int64) (m_draftDots : Int64) (m_undos : Int32) (m_base : Int32) (m_slopeX : Int32) (m_slopeY : Int32) (m_seen : Int32) (m_letters : Int32) (m_next : Int32) (m_begin : Int32) (m_token : Int32) (m_gain : Int32) (m_bestDot : Int32) (m_bestCell : Int32) (m_told : Nat → Int32) (m_rank : Nat → Int32) (m_stage : Nat → Int32) (x1 : Int32) (x2 : Int32) (r : Int32 × Int32 × (Nat → Int32) × (Nat → Int32)) (hP : va_P D vwCl [(aM, .inr (10, [.int m_thrown, .ref aM_told, .ref aM_draft, .long m_shut, .long m_dots, .long m_draftShut, .long m_draftDots, .int m_undos, .ref aM_past, .ref aM_kept, .ref aM_isKept, .int m_base, .int m_slopeX, .int m_slopeY, .int m_seen, .ref aM_seenLine, .ref aM_seenIs, .ref aM_rank, .ref aM_stage, .int m_letters, .ref aM_text, .int m_next, .int m_begin, .int m_token, .int m_gain, .int m_bestDot, .int m_bestCell])), (aM_told, .inl (cy.1, 7, .inl m_told)), (aM_rank, .inl (cy.1, 64, .inl m_rank)), (aM_stage, .inl (cy.1, 64, .inl m_stage))] H0) (hD0 : va_D (fun _ => True) [(aM, .inr (10, [.int m_thrown, .ref aM_told, .ref aM_draft, .long m_shut, .long m_dots, .long m_draftShut, .long m_draftDots, .int m_undos, .ref aM_past, .ref aM_kept, .ref aM_isKept, .int m_base, .int m_slopeX, .int m_slopeY, .int m_seen, .ref aM_seenLine, .ref aM_seenIs, .ref aM_rank, .ref aM_stage, .int m_letters, .ref aM_text, .int m_next, .int m_begin, .int m_token, .int m_gain, .int m_bestDot, .int m_bestCell])), (aM_told, .inl (cy.1, 7, .inl m_told)), (aM_rank, .inl (cy.1, 64, .inl m_rank)), (aM_stage, .inl (cy.1, 64, .inl m_stage))]) (hf : f_X10_rank m_thrown m_shut m_dots m_told m_rank m_stage x1 x2 = some r) : Wr l yX10_rank cX10_rank 3 (some Jvm.ClassFile.FieldType.int) ({ frames := 6, cells := 0, slots := 0, locals := 154 } : Room) ([.ref aM, .int x1, .int x2] : List Value) (some (.int (r.1))) D cy H0 [(aM, .inr (10, [.int m_thrown, .ref aM_told, .ref aM_draft, .long m_shut, .long m_dots, .long m_draftShut, .long m_draftDots, .int m_undos, .ref aM_past, .ref aM_kept, .ref aM_isKept, .int m_base, .int m_slopeX, .int m_slopeY, .int m_seen, .ref aM_seenLine, .ref aM_seenIs, .ref aM_rank, .ref aM_stage, .int m_letters, .ref aM_text, .int m_next, .int m_begin, .int m_token, .int m_gain, .int m_bestDot, .int m_bestCell])), (aM_told, .inl (cy.1, 7, .inl m_told)), (aM_rank, .inl (cy.1, 64, .inl m_rank)), (aM_stage, .inl (cy.1, 64, .inl m_stage))] [(aM, .inr (10, [.int (r.2.1), .ref aM_told, .ref aM_draft, .long m_shut, .long m_dots, .long m_draftShut, .long m_draftDots, .int m_undos, .ref aM_past, .ref aM_kept, .ref aM_isKept, .int m_base, .int m_slopeX, .int m_slopeY, .int m_seen, .ref aM_seenLine, .ref aM_seenIs, .ref aM_rank, .ref aM_stage, .int m_letters, .ref aM_text, .int m_next, .int m_begin, .int m_token, .int m_gain, .int m_bestDot, .int m_bestCell])), (aM_told, .inl (cy.1, 7, .inl m_told)), (aM_rank, .inl (cy.1, 64, .inl (r.2.2.1))), (aM_stage, .inl (cy.1, 64, .inl (r.2.2.2)))] := by
  refine wr_of (by decide +kernel) (Nat.le_of_ble_eq_true rfl) hD0 ?_
  intro p e s m below meth c ls A S hr hlocks hk hl hD hS hA
  obtain ⟨hx, hb, hml, hown, hts⟩ := id S
  have hl : lv_has ls 3 [(0, .ref aM), (1, .int x1), (2, .int x2)] := hl
  rw [f_X10_rank] at hf
  refine lv_aload_n hx hb dX10_rank_0 rfl (lv_at hl 0 rfl) ?_
  refine lv_iconst (v := (0 : Int32)) hx hb dX10_rank_1 (by decide) ?_
  refine va_put (D := D) (ci := 10) (v := .int (0 : Int32)) (ty := .int) (C := RX10) (T := TX10) (N := 27) hx hb hts iX10 tyX10 tyX10_ok nmX10 hown hk.1 hP hD hS 0 rfl rfl 0 (by decide) (hts _ tw_783) (fun _ h9 => h9) rfl (by decide +kernel) rfl rfl (Nat.le_of_ble_eq_true rfl) dX10_rank_2 (fun H locs hP hD hS => ?_)
  have hP : va_P D vwCl [(aM, .inr (10, [.int (0 : Int32), .ref aM_told, .ref aM_draft, .long m_shut, .long m_dots, .long m_draftShut, .long m_draftDots, .int m_undos, .ref aM_past, .ref aM_kept, .ref aM_isKept, .int m_base, .int m_slopeX, .int m_slopeY, .int m_seen, .ref aM_seenLine, .ref aM_seenIs, .ref aM_rank, .ref aM_stage, .int m_letters, .ref aM_text, .int m_next, .int m_begin, .int m_token, .int m_gain, .int m_bestDot, .int m_bestCell])), (aM_told, .inl (cy.1, 7, .inl m_told)), (aM_rank, .inl (cy.1, 64, .inl m_rank)), (aM_stage, .inl (cy.1, 64, .inl m_stage))] H := hP
  have hD : va_D A [(aM, .inr (10, [.int (0 : Int32), .ref aM_told, .ref aM_draft, .long m_shut, .long m_dots, .long m_draftShut, .long m_draftDots, .int m_undos, .ref aM_past, .ref aM_kept, .ref aM_isKept, .int m_base, .int m_slopeX, .int m_slopeY, .int m_seen, .ref aM_seenLine, .ref aM_seenIs, .ref aM_rank, .ref aM_stage, .int m_letters, .ref aM_text, .int m_next, .int m_begin, .int m_token, .int m_gain, .int m_bestDot, .int m_bestCell])), (aM_told, .inl (cy.1, 7, .inl m_told)), (aM_rank, .inl (cy.1, 64, .inl m_rank)), (aM_stage, .inl (cy.1, 64, .inl m_stage))] := hD
  refine lv_aload_n hx hb dX10_rank_5 rfl (lv_at hl 0 rfl) ?_
  refine lv_iload_n hx hb dX10_rank_6 rfl (lv_at hl 1 rfl) ?_
  refine lv_iload_n hx hb dX10_rank_7 rfl (lv_at hl 2 rfl) ?_
  obtain ⟨z8, hz8, hf⟩ := q_bind hf
  refine q_rdV (As := [.int x1, .int x2]) (rest := []) (st2 := [.int z8]) S hk (c_X10_isPlace l D cy H aM aM_told aM_draft aM_past aM_kept aM_isKept aM_seenLine aM_seenIs aM_rank aM_stage aM_text (0 : Int32) m_shut m_dots m_draftShut m_draftDots m_undos m_base m_slopeX m_slopeY m_seen m_letters m_next m_begin m_token m_gain m_bestDot m_bestCell m_told x1 x2 z8 (hP.sub [0, 1] rfl) hz8) ok_X10_isPlace tw_915 ⟨rfl, rfl, Nat.le_of_ble_eq_true rfl, Nat.le_of_ble_eq_true rfl⟩ (va_recv hk.1 hP (ci := 10) (q0 := 0) rfl rfl) rfl hl.1 rfl (Nat.le_of_ble_eq_true rfl) dX10_rank_8 ⟨Nat.zero_le _, Nat.zero_le _⟩ rfl ?_
  refine lv_if_ne (tgt := 16) hx hb dX10_rank_11 (by decide) (fun hc => ?_) (fun hc => ?_)
  · have hf := q_f hc hf
    refine lv_aload_n hx hb dX10_rank_16 rfl (lv_at hl 0 rfl) ?_
    refine va_get (D := D) (ci := 10) (v := .long m_dots) (C := RX10) (T := TX10) (N := 27) hx hb hts iX10 hown hk.1 hP 0 rfl rfl 4 (by decide) (hts _ tw_787) (fun _ h9 => h9) rfl dX10_rank_17 ?_
    refine lv_lconst (v := (0 : Int64)) hx hb dX10_rank_20 (by decide) ?_
    refine W.lcmp hx hb dX10_rank_21 ?_
    refine lv_if_ne (tgt := 28) hx hb dX10_rank_22 (by decide) (fun hc => ?_) (fun hc => ?_)
    · have hf := q_f hc hf
      refine lv_aload_n hx hb dX10_rank_28 rfl (lv_at hl 0 rfl) ?_
      obtain ⟨z29, hz29, hf⟩ := q_bind hf
      refine q_wrV (As := []) (rest := []) (st2 := []) (ws' := [(aM, .inr (10, [.int (0 : Int32), .ref aM_told, .ref aM_draft, .long m_shut, .long m_dots, .long m_draftShut, .long m_draftDots, .int m_undos, .ref aM_past, .ref aM_kept, .ref aM_isKept, .int m_base, .int m_slopeX, .int m_slopeY, .int m_seen, .ref aM_seenLine, .ref aM_seenIs, .ref aM_rank, .ref aM_stage, .int m_letters, .ref aM_text, .int m_next, .int m_begin, .int m_token, .int m_gain, .int m_bestDot, .int m_bestCell])), (aM_told, .inl (cy.1, 7, .inl m_told)), (aM_rank, .inl (cy.1, 64, .inl (z29.1))), (aM_stage, .inl (cy.1, 64, .inl (z29.2)))]) S hk (c_X10_ranks l D cy H aM aM_told aM_draft aM_past aM_kept aM_isKept aM_seenLine aM_seenIs aM_rank aM_stage aM_text (0 : Int32) m_shut m_dots m_draftShut m_draftDots m_undos m_base m_slopeX m_slopeY m_seen m_letters m_next m_begin m_token m_gain m_bestDot m_bestCell m_told m_rank m_stage z29 (hP.sub [0, 1, 2, 3] rfl) (qD_sub hD [0, 1, 2, 3] (by decide) rfl) hz29) ok_X10_ranks tw_1030 ⟨rfl, rfl, Nat.le_of_ble_eq_true rfl, Nat.le_of_ble_eq_true rfl⟩ (va_recv hk.1 hP (ci := 10) (q0 := 0) rfl rfl) rfl hl.1 rfl (Nat.le_of_ble_eq_true rfl) dX10_rank_29 ⟨Nat.zero_le _, Nat.zero_le _⟩ rfl hP hD hS hA [0, 1, 2, 3] rfl rfl rfl rfl (fun H locs hP hD hS => ?_)
      refine lv_aload_n hx hb dX10_rank_32 rfl (lv_at hl 0 rfl) ?_
      refine va_get (D := D) (ci := 10) (v := .ref aM_rank) (C := RX10) (T := TX10) (N := 27) hx hb hts iX10 hown hk.1 hP 0 rfl rfl 17 (by decide) (hts _ tw_800) (fun _ h9 => h9) rfl dX10_rank_33 ?_
      refine lv_aload_n hx hb dX10_rank_36 rfl (lv_at hl 0 rfl) ?_
      refine lv_iload_n hx hb dX10_rank_37 rfl (lv_at hl 1 rfl) ?_
      refine lv_iload_n hx hb dX10_rank_38 rfl (lv_at hl 2 rfl) ?_
      obtain ⟨z39, hz39, hf⟩ := q_bind hf
      refine q_rdV (As := [.int x1, .int x2]) (rest := [.ref aM_rank]) (st2 := [.int z39, .ref aM_rank]) S hk (c_X10_at l D cy H aM aM_told aM_draft aM_past aM_kept aM_isKept aM_seenLine aM_seenIs aM_rank aM_stage aM_text (0 : Int32) m_shut m_dots m_draftShut m_draftDots m_undos m_base m_slopeX m_slopeY m_seen m_letters m_next m_begin m_token m_gain m_bestDot m_bestCell m_told x1 x2 z39 (hP.sub [0, 1] rfl) hz39) ok_X10_at tw_919 ⟨rfl, rfl, Nat.le_of_ble_eq_true rfl, Nat.le_of_ble_eq_true rfl⟩ (va_recv hk.1 hP (ci := 10) (q0 := 0) rfl rfl) rfl hl.1 rfl (Nat.le_of_ble_eq_true rfl) dX10_rank_39 ⟨Nat.zero_le _, Nat.zero_le _⟩ rfl ?_
      obtain ⟨hi, hf⟩ := q_in hf
      refine va_iald hx hb hk.1 hP 2 0 rfl rfl hi dX10_rank_42 ?_
      have hf := Option.some.inj hf
      subst hf
      exact q_riW hP hS hx hb hr hlocks dX10_rank_43
    · have hf := q_t hc hf
      refine lv_bipush (v := (-2 : Int32)) hx hb dX10_rank_25 (by decide) ?_
      have hf := Option.some.inj hf
      subst hf
      exact q_riW hP hS hx hb hr hlocks dX10_rank_27
  · have hf := q_t hc hf
    refine lv_iconst (v := (-1 : Int32)) hx hb dX10_rank_14 (by decide) ?_
    have hf := Option.some.inj hf
    subst hf
    exact q_riW hP hS hx hb hr hlocks dX10_rank_15
def lp_X10_ranked_39 (x1 : Int32) : Nat → Int32 → Int32 → (Nat → Int32) → (Nat → Int32) → Option (Int32 × Int32 × (Nat → Int32) × (Nat → Int32))
  | 0, _, _, _, _ => none
  | n + 1, x2, m_thrown, m_rank, m_stage => if inb x2 64 = true then (if (m_rank x2.toNatClampNeg) = x1 then (some (x2, m_thrown, m_rank, m_stage)) else (lp_X10_ranked_39 x1 n (x2 + 1) m_thrown m_rank m_stage)) else none
theorem lp_X10_ranked_39_s (x1 : Int32) (n : Nat) (x2 : Int32) (m_thrown : Int32) (m_rank : Nat → Int32) (m_stage : Nat → Int32) : lp_X10_ranked_39 x1 (n + 1) x2 m_thrown m_rank m_stage = (if inb x2 64 = true then (if (m_rank x2.toNatClampNeg) = x1 then (some (x2, m_thrown, m_rank, m_stage)) else (lp_X10_ranked_39 x1 n (x2 + 1) m_thrown m_rank m_stage)) else none) := rfl
theorem lp_X10_ranked_39_z (x1 : Int32) (x2 : Int32) (m_thrown : Int32) (m_rank : Nat → Int32) (m_stage : Nat → Int32) : lp_X10_ranked_39 x1 0 x2 m_thrown m_rank m_stage = none := rfl
def f_X10_ranked (m_thrown : Int32) (m_shut : Int64) (m_dots : Int64) (m_told : Nat → Int32) (m_rank : Nat → Int32) (m_stage : Nat → Int32) (x1 : Int32) : Option (Int32 × Int32 × (Nat → Int32) × (Nat → Int32)) := (f_X10_free m_shut m_told).bind (fun z8 => (f_X10_in x1 (0 : Int32) (z8 - (1 : Int32))).bind (fun z13 => if z13 = 0 then (some ((-1 : Int32), (0 : Int32), m_rank, m_stage)) else (if (lg_cmp m_dots (0 : Int64)) = 0 then (some ((-2 : Int32), (0 : Int32), m_rank, m_stage)) else ((f_X10_ranks m_shut m_dots m_told m_rank m_stage).bind (fun z34 => lp_X10_ranked_39 x1 FU (0 : Int32) (0 : Int32) (z34.1) (z34.2))))))
theorem ok_X10_ranked : OkV yX10_ranked cX10_ranked 3 (some Jvm.ClassFile.FieldType.int) 1 := ⟨⟨tw_1044, tw_13, by decide +kernel, by decide +kernel, by decide +kernel⟩, tw_1042, tw_1043⟩
set_option maxHeartbeats 4000000 in
set_option maxRecDepth 100000 in
theorem c_X10_ranked (l : Launch) (D : va_G) (cy : ClassId × ClassId × ClassId) (H0 : Heap) (aM aM_told aM_draft aM_past aM_kept aM_isKept aM_seenLine aM_seenIs aM_rank aM_stage aM_text : Nat) (m_thrown : Int32) (m_shut : Int64) (m_dots : Int64) (m_draftShut : Int64) (m_draftDots : Int64) (m_undos : Int32) (m_base : Int32) (m_slopeX : Int32) (m_slopeY : Int32) (m_seen : Int32) (m_letters : Int32) (m_next : Int32) (m_begin : Int32) (m_token : Int32) (m_gain : Int32) (m_bestDot : Int32) (m_bestCell : Int32) (m_told : Nat → Int32) (m_rank : Nat → Int32) (m_stage : Nat → Int32) (x1 : Int32) (r : Int32 × Int32 × (Nat → Int32) × (Nat → Int32)) (hP : va_P D vwCl [(aM, .inr (10, [.int m_thrown, .ref aM_told, .ref aM_draft, .long m_shut, .long m_dots, .long m_draftShut, .long m_draftDots, .int m_undos, .ref aM_past, .ref aM_kept, .ref aM_isKept, .int m_base, .int m_slopeX, .int m_slopeY, .int m_seen, .ref aM_seenLine, .ref aM_seenIs, .ref aM_rank, .ref aM_stage, .int m_letters, .ref aM_text, .int m_next, .int m_begin, .int m_token, .int m_gain, .int m_bestDot, .int m_bestCell])), (aM_told, .inl (cy.1, 7, .inl m_told)), (aM_rank, .inl (cy.1, 64, .inl m_rank)), (aM_stage, .inl (cy.1, 64, .inl m_stage))] H0) (hD0 : va_D (fun _ => True) [(aM, .inr (10, [.int m_thrown, .ref aM_told, .ref aM_draft, .long m_shut, .long m_dots, .long m_draftShut, .long m_draftDots, .int m_undos, .ref aM_past, .ref aM_kept, .ref aM_isKept, .int m_base, .int m_slopeX, .int m_slopeY, .int m_seen, .ref aM_seenLine, .ref aM_seenIs, .ref aM_rank, .ref aM_stage, .int m_letters, .ref aM_text, .int m_next, .int m_begin, .int m_token, .int m_gain, .int m_bestDot, .int m_bestCell])), (aM_told, .inl (cy.1, 7, .inl m_told)), (aM_rank, .inl (cy.1, 64, .inl m_rank)), (aM_stage, .inl (cy.1, 64, .inl m_stage))]) (hf : f_X10_ranked m_thrown m_shut m_dots m_told m_rank m_stage x1 = some r) : Wr l yX10_ranked cX10_ranked 3 (some Jvm.ClassFile.FieldType.int) ({ frames := 6, cells := 0, slots := 0, locals := 154 } : Room) ([.ref aM, .int x1] : List Value) (some (.int (r.1))) D cy H0 [(aM, .inr (10, [.int m_thrown, .ref aM_told, .ref aM_draft, .long m_shut, .long m_dots, .long m_draftShut, .long m_draftDots, .int m_undos, .ref aM_past, .ref aM_kept, .ref aM_isKept, .int m_base, .int m_slopeX, .int m_slopeY, .int m_seen, .ref aM_seenLine, .ref aM_seenIs, .ref aM_rank, .ref aM_stage, .int m_letters, .ref aM_text, .int m_next, .int m_begin, .int m_token, .int m_gain, .int m_bestDot, .int m_bestCell])), (aM_told, .inl (cy.1, 7, .inl m_told)), (aM_rank, .inl (cy.1, 64, .inl m_rank)), (aM_stage, .inl (cy.1, 64, .inl m_stage))] [(aM, .inr (10, [.int (r.2.1), .ref aM_told, .ref aM_draft, .long m_shut, .long m_dots, .long m_draftShut, .long m_draftDots, .int m_undos, .ref aM_past, .ref aM_kept, .ref aM_isKept, .int m_base, .int m_slopeX, .int m_slopeY, .int m_seen, .ref aM_seenLine, .ref aM_seenIs, .ref aM_rank, .ref aM_stage, .int m_letters, .ref aM_text, .int m_next, .int m_begin, .int m_token, .int m_gain, .int m_bestDot, .int m_bestCell])), (aM_told, .inl (cy.1, 7, .inl m_told)), (aM_rank, .inl (cy.1, 64, .inl (r.2.2.1))), (aM_stage, .inl (cy.1, 64, .inl (r.2.2.2)))] := by
  refine wr_of (by decide +kernel) (Nat.le_of_ble_eq_true rfl) hD0 ?_
  intro p e s m below meth c ls A S hr hlocks hk hl hD hS hA
  obtain ⟨hx, hb, hml, hown, hts⟩ := id S
  have hl : lv_has ls 3 [(0, .ref aM), (1, .int x1)] := hl
  rw [f_X10_ranked] at hf
  have J39 : ∀ (n39 : Nat) (x2 : Int32) (m_thrown : Int32) (m_rank : Nat → Int32) (m_stage : Nat → Int32) (H : Heap) (locs : List Loc) (ls : Array Slot), va_P D vwCl [(aM, .inr (10, [.int m_thrown, .ref aM_told, .ref aM_draft, .long m_shut, .long m_dots, .long m_draftShut, .long m_draftDots, .int m_undos, .ref aM_past, .ref aM_kept, .ref aM_isKept, .int m_base, .int m_slopeX, .int m_slopeY, .int m_seen, .ref aM_seenLine, .ref aM_seenIs, .ref aM_rank, .ref aM_stage, .int m_letters, .ref aM_text, .int m_next, .int m_begin, .int m_token, .int m_gain, .int m_bestDot, .int m_bestCell])), (aM_told, .inl (cy.1, 7, .inl m_told)), (aM_rank, .inl (cy.1, 64, .inl m_rank)), (aM_stage, .inl (cy.1, 64, .inl m_stage))] H → va_D A [(aM, .inr (10, [.int m_thrown, .ref aM_told, .ref aM_draft, .long m_shut, .long m_dots, .long m_draftShut, .long m_draftDots, .int m_undos, .ref aM_past, .ref aM_kept, .ref aM_isKept, .int m_base, .int m_slopeX, .int m_slopeY, .int m_seen, .ref aM_seenLine, .ref aM_seenIs, .ref aM_rank, .ref aM_stage, .int m_letters, .ref aM_text, .int m_next, .int m_begin, .int m_token, .int m_gain, .int m_bestDot, .int m_bestCell])), (aM_told, .inl (cy.1, 7, .inl m_told)), (aM_rank, .inl (cy.1, 64, .inl m_rank)), (aM_stage, .inl (cy.1, 64, .inl m_stage))] → va_S A H0 H locs → lv_has ls 3 [(0, .ref aM), (1, .int x1), (2, .int x2)] → lp_X10_ranked_39 x1 n39 x2 m_thrown m_rank m_stage = some r → W p l e ({ frames := 6, cells := 0, slots := 0, locals := 154 } : Room) s m ([.ref aM, .int x1] : List Value).toArray below meth c H locs 0 0 (MQ below (QW (some (.int (r.1))) D [(aM, .inr (10, [.int (r.2.1), .ref aM_told, .ref aM_draft, .long m_shut, .long m_dots, .long m_draftShut, .long m_draftDots, .int m_undos, .ref aM_past, .ref aM_kept, .ref aM_isKept, .int m_base, .int m_slopeX, .int m_slopeY, .int m_seen, .ref aM_seenLine, .ref aM_seenIs, .ref aM_rank, .ref aM_stage, .int m_letters, .ref aM_text, .int m_next, .int m_begin, .int m_token, .int m_gain, .int m_bestDot, .int m_bestCell])), (aM_told, .inl (cy.1, 7, .inl m_told)), (aM_rank, .inl (cy.1, 64, .inl (r.2.2.1))), (aM_stage, .inl (cy.1, 64, .inl (r.2.2.2)))] H0 A) ([.ref aM, .int x1] : List Value).toArray s 0 0 A) (F0 m 39 ls []) := by
    intro n39
    induction n39 with
    | zero =>
      intro x2 m_thrown m_rank m_stage H locs ls hP hD hS hl hf
      rw [lp_X10_ranked_39_z] at hf
      cases hf
    | succ n39 ih39 =>
      intro x2 m_thrown m_rank m_stage H locs ls hP hD hS hl hf
      rw [lp_X10_ranked_39_s] at hf
      refine lv_aload_n hx hb dX10_ranked_39 rfl (lv_at hl 0 rfl) ?_
      refine va_get (D := D) (ci := 10) (v := .ref aM_rank) (C := RX10) (T := TX10) (N := 27) hx hb hts iX10 hown hk.1 hP 0 rfl rfl 17 (by decide) (hts _ tw_800) (fun _ h9 => h9) rfl dX10_ranked_40 ?_
      refine lv_iload_n hx hb dX10_ranked_43 rfl (lv_at hl 2 rfl) ?_
      obtain ⟨hi, hf⟩ := q_in hf
      refine va_iald hx hb hk.1 hP 2 0 rfl rfl hi dX10_ranked_44 ?_
      refine lv_iload_n hx hb dX10_ranked_45 rfl (lv_at hl 1 rfl) ?_
      refine lv_icmp_eq (tgt := 55) hx hb dX10_ranked_46 (by decide) (fun hc => ?_) (fun hc => ?_)
      · have hf := q_t hc hf
        refine lv_iload_n hx hb dX10_ranked_55 rfl (lv_at hl 2 rfl) ?_
        have hf := Option.some.inj hf
        subst hf
        exact q_riW hP hS hx hb hr hlocks dX10_ranked_56
      · have hf := q_f hc hf
        refine lv_iinc (v := (x2 + 1)) (lv' := [(2, .int (x2 + 1)), (0, .ref aM), (1, .int x1)]) hx hb dX10_ranked_49 hl (k := 2) rfl rfl (by decide) rfl (fun ls hl => ?_)
        refine lv_goto (tgt := 39) hx hb dX10_ranked_52 (by decide) ?_
        exact ih39 (x2 + 1) m_thrown m_rank m_stage H locs ls hP hD hS (lv_sub hl [1, 2, 0] rfl) hf
  refine lv_aload_n hx hb dX10_ranked_0 rfl (lv_at hl 0 rfl) ?_
  refine lv_iconst (v := (0 : Int32)) hx hb dX10_ranked_1 (by decide) ?_
  refine va_put (D := D) (ci := 10) (v := .int (0 : Int32)) (ty := .int) (C := RX10) (T := TX10) (N := 27) hx hb hts iX10 tyX10 tyX10_ok nmX10 hown hk.1 hP hD hS 0 rfl rfl 0 (by decide) (hts _ tw_783) (fun _ h9 => h9) rfl (by decide +kernel) rfl rfl (Nat.le_of_ble_eq_true rfl) dX10_ranked_2 (fun H locs hP hD hS => ?_)
  have hP : va_P D vwCl [(aM, .inr (10, [.int (0 : Int32), .ref aM_told, .ref aM_draft, .long m_shut, .long m_dots, .long m_draftShut, .long m_draftDots, .int m_undos, .ref aM_past, .ref aM_kept, .ref aM_isKept, .int m_base, .int m_slopeX, .int m_slopeY, .int m_seen, .ref aM_seenLine, .ref aM_seenIs, .ref aM_rank, .ref aM_stage, .int m_letters, .ref aM_text, .int m_next, .int m_begin, .int m_token, .int m_gain, .int m_bestDot, .int m_bestCell])), (aM_told, .inl (cy.1, 7, .inl m_told)), (aM_rank, .inl (cy.1, 64, .inl m_rank)), (aM_stage, .inl (cy.1, 64, .inl m_stage))] H := hP
  have hD : va_D A [(aM, .inr (10, [.int (0 : Int32), .ref aM_told, .ref aM_draft, .long m_shut, .long m_dots, .long m_draftShut, .long m_draftDots, .int m_undos, .ref aM_past, .ref aM_kept, .ref aM_isKept, .int m_base, .int m_slopeX, .int m_slopeY, .int m_seen, .ref aM_seenLine, .ref aM_seenIs, .ref aM_rank, .ref aM_stage, .int m_letters, .ref aM_text, .int m_next, .int m_begin, .int m_token, .int m_gain, .int m_bestDot, .int m_bestCell])), (aM_told, .inl (cy.1, 7, .inl m_told)), (aM_rank, .inl (cy.1, 64, .inl m_rank)), (aM_stage, .inl (cy.1, 64, .inl m_stage))] := hD
  refine lv_iload_n hx hb dX10_ranked_5 rfl (lv_at hl 1 rfl) ?_
  refine lv_iconst (v := (0 : Int32)) hx hb dX10_ranked_6 (by decide) ?_
  refine lv_aload_n hx hb dX10_ranked_7 rfl (lv_at hl 0 rfl) ?_
  obtain ⟨z8, hz8, hf⟩ := q_bind hf
  refine q_rdV (As := []) (rest := [.int (0 : Int32), .int x1]) (st2 := [.int z8, .int (0 : Int32), .int x1]) S hk (c_X10_free l D cy H aM aM_told aM_draft aM_past aM_kept aM_isKept aM_seenLine aM_seenIs aM_rank aM_stage aM_text (0 : Int32) m_shut m_dots m_draftShut m_draftDots m_undos m_base m_slopeX m_slopeY m_seen m_letters m_next m_begin m_token m_gain m_bestDot m_bestCell m_told z8 (hP.sub [0, 1] rfl) hz8) ok_X10_free tw_1037 ⟨rfl, rfl, Nat.le_of_ble_eq_true rfl, Nat.le_of_ble_eq_true rfl⟩ (va_recv hk.1 hP (ci := 10) (q0 := 0) rfl rfl) rfl hl.1 rfl (Nat.le_of_ble_eq_true rfl) dX10_ranked_8 ⟨Nat.zero_le _, Nat.zero_le _⟩ rfl ?_
  refine lv_iconst (v := (1 : Int32)) hx hb dX10_ranked_11 (by decide) ?_
  refine lv_isub hx hb dX10_ranked_12 ?_
  obtain ⟨z13, hz13, hf⟩ := q_bind hf
  refine q_rdS (As := [.int x1, .int (0 : Int32), .int (z8 - (1 : Int32))]) (rest := []) (st2 := [.int z13]) S hk (c_X10_in l D cy H x1 (0 : Int32) (z8 - (1 : Int32)) z13 hz13) ok_X10_in tw_869 ⟨rfl, rfl, Nat.le_of_ble_eq_true rfl, Nat.le_of_ble_eq_true rfl⟩ rfl hl.1 rfl (Nat.le_of_ble_eq_true rfl) dX10_ranked_13 ⟨Nat.zero_le _, Nat.zero_le _⟩ rfl ?_
  refine lv_if_ne (tgt := 21) hx hb dX10_ranked_16 (by decide) (fun hc => ?_) (fun hc => ?_)
  · have hf := q_f hc hf
    refine lv_aload_n hx hb dX10_ranked_21 rfl (lv_at hl 0 rfl) ?_
    refine va_get (D := D) (ci := 10) (v := .long m_dots) (C := RX10) (T := TX10) (N := 27) hx hb hts iX10 hown hk.1 hP 0 rfl rfl 4 (by decide) (hts _ tw_787) (fun _ h9 => h9) rfl dX10_ranked_22 ?_
    refine lv_lconst (v := (0 : Int64)) hx hb dX10_ranked_25 (by decide) ?_
    refine W.lcmp hx hb dX10_ranked_26 ?_
    refine lv_if_ne (tgt := 33) hx hb dX10_ranked_27 (by decide) (fun hc => ?_) (fun hc => ?_)
    · have hf := q_f hc hf
      refine lv_aload_n hx hb dX10_ranked_33 rfl (lv_at hl 0 rfl) ?_
      obtain ⟨z34, hz34, hf⟩ := q_bind hf
      refine q_wrV (As := []) (rest := []) (st2 := []) (ws' := [(aM, .inr (10, [.int (0 : Int32), .ref aM_told, .ref aM_draft, .long m_shut, .long m_dots, .long m_draftShut, .long m_draftDots, .int m_undos, .ref aM_past, .ref aM_kept, .ref aM_isKept, .int m_base, .int m_slopeX, .int m_slopeY, .int m_seen, .ref aM_seenLine, .ref aM_seenIs, .ref aM_rank, .ref aM_stage, .int m_letters, .ref aM_text, .int m_next, .int m_begin, .int m_token, .int m_gain, .int m_bestDot, .int m_bestCell])), (aM_told, .inl (cy.1, 7, .inl m_told)), (aM_rank, .inl (cy.1, 64, .inl (z34.1))), (aM_stage, .inl (cy.1, 64, .inl (z34.2)))]) S hk (c_X10_ranks l D cy H aM aM_told aM_draft aM_past aM_kept aM_isKept aM_seenLine aM_seenIs aM_rank aM_stage aM_text (0 : Int32) m_shut m_dots m_draftShut m_draftDots m_undos m_base m_slopeX m_slopeY m_seen m_letters m_next m_begin m_token m_gain m_bestDot m_bestCell m_told m_rank m_stage z34 (hP.sub [0, 1, 2, 3] rfl) (qD_sub hD [0, 1, 2, 3] (by decide) rfl) hz34) ok_X10_ranks tw_1030 ⟨rfl, rfl, Nat.le_of_ble_eq_true rfl, Nat.le_of_ble_eq_true rfl⟩ (va_recv hk.1 hP (ci := 10) (q0 := 0) rfl rfl) rfl hl.1 rfl (Nat.le_of_ble_eq_true rfl) dX10_ranked_34 ⟨Nat.zero_le _, Nat.zero_le _⟩ rfl hP hD hS hA [0, 1, 2, 3] rfl rfl rfl rfl (fun H locs hP hD hS => ?_)
      refine lv_iconst (v := (0 : Int32)) hx hb dX10_ranked_37 (by decide) ?_
      refine lv_istore_n (lv' := [(2, .int (0 : Int32)), (0, .ref aM), (1, .int x1)]) hx hb dX10_ranked_38 rfl hl (by decide) rfl (fun ls hl => ?_)
      exact J39 FU (0 : Int32) (0 : Int32) (z34.1) (z34.2) H locs ls hP hD hS (lv_sub hl [1, 2, 0] rfl) hf
    · have hf := q_t hc hf
      refine lv_bipush (v := (-2 : Int32)) hx hb dX10_ranked_30 (by decide) ?_
      have hf := Option.some.inj hf
      subst hf
      exact q_riW hP hS hx hb hr hlocks dX10_ranked_32
  · have hf := q_t hc hf
    refine lv_iconst (v := (-1 : Int32)) hx hb dX10_ranked_19 (by decide) ?_
    have hf := Option.some.inj hf
    subst hf
    exact q_riW hP hS hx hb hr hlocks dX10_ranked_20
def f_X10_stage (m_thrown : Int32) (m_shut : Int64) (m_dots : Int64) (m_told : Nat → Int32) (m_rank : Nat → Int32) (m_stage : Nat → Int32) (x1 : Int32) (x2 : Int32) : Option (Int32 × Int32 × (Nat → Int32) × (Nat → Int32)) := (f_X10_isPlace m_told x1 x2).bind (fun z8 => if z8 = 0 then (some ((-1 : Int32), (0 : Int32), m_rank, m_stage)) else (if (lg_cmp m_dots (0 : Int64)) = 0 then (some ((-2 : Int32), (0 : Int32), m_rank, m_stage)) else ((f_X10_ranks m_shut m_dots m_told m_rank m_stage).bind (fun z29 => (f_X10_at m_told x1 x2).bind (fun z39 => if inb z39 64 = true then (some (((z29.2) z39.toNatClampNeg), (0 : Int32), (z29.1), (z29.2))) else none)))))
theorem ok_X10_stage : OkV yX10_stage cX10_stage 3 (some Jvm.ClassFile.FieldType.int) 2 := ⟨⟨tw_1048, tw_13, by decide +kernel, by decide +kernel, by decide +kernel⟩, tw_1046, tw_1047⟩
set_option maxHeartbeats 4000000 in
set_option maxRecDepth 100000 in
theorem c_X10_stage (l : Launch) (D : va_G) (cy : ClassId × ClassId × ClassId) (H0 : Heap) (aM aM_told aM_draft aM_past aM_kept aM_isKept aM_seenLine aM_seenIs aM_rank aM_stage aM_text : Nat) (m_thrown : Int32) (m_shut : Int64) (m_dots : Int64) (m_draftShut : Int64) (m_draftDots : Int64) (m_undos : Int32) (m_base : Int32) (m_slopeX : Int32) (m_slopeY : Int32) (m_seen : Int32) (m_letters : Int32) (m_next : Int32) (m_begin : Int32) (m_token : Int32) (m_gain : Int32) (m_bestDot : Int32) (m_bestCell : Int32) (m_told : Nat → Int32) (m_rank : Nat → Int32) (m_stage : Nat → Int32) (x1 : Int32) (x2 : Int32) (r : Int32 × Int32 × (Nat → Int32) × (Nat → Int32)) (hP : va_P D vwCl [(aM, .inr (10, [.int m_thrown, .ref aM_told, .ref aM_draft, .long m_shut, .long m_dots, .long m_draftShut, .long m_draftDots, .int m_undos, .ref aM_past, .ref aM_kept, .ref aM_isKept, .int m_base, .int m_slopeX, .int m_slopeY, .int m_seen, .ref aM_seenLine, .ref aM_seenIs, .ref aM_rank, .ref aM_stage, .int m_letters, .ref aM_text, .int m_next, .int m_begin, .int m_token, .int m_gain, .int m_bestDot, .int m_bestCell])), (aM_told, .inl (cy.1, 7, .inl m_told)), (aM_rank, .inl (cy.1, 64, .inl m_rank)), (aM_stage, .inl (cy.1, 64, .inl m_stage))] H0) (hD0 : va_D (fun _ => True) [(aM, .inr (10, [.int m_thrown, .ref aM_told, .ref aM_draft, .long m_shut, .long m_dots, .long m_draftShut, .long m_draftDots, .int m_undos, .ref aM_past, .ref aM_kept, .ref aM_isKept, .int m_base, .int m_slopeX, .int m_slopeY, .int m_seen, .ref aM_seenLine, .ref aM_seenIs, .ref aM_rank, .ref aM_stage, .int m_letters, .ref aM_text, .int m_next, .int m_begin, .int m_token, .int m_gain, .int m_bestDot, .int m_bestCell])), (aM_told, .inl (cy.1, 7, .inl m_told)), (aM_rank, .inl (cy.1, 64, .inl m_rank)), (aM_stage, .inl (cy.1, 64, .inl m_stage))]) (hf : f_X10_stage m_thrown m_shut m_dots m_told m_rank m_stage x1 x2 = some r) : Wr l yX10_stage cX10_stage 3 (some Jvm.ClassFile.FieldType.int) ({ frames := 6, cells := 0, slots := 0, locals := 154 } : Room) ([.ref aM, .int x1, .int x2] : List Value) (some (.int (r.1))) D cy H0 [(aM, .inr (10, [.int m_thrown, .ref aM_told, .ref aM_draft, .long m_shut, .long m_dots, .long m_draftShut, .long m_draftDots, .int m_undos, .ref aM_past, .ref aM_kept, .ref aM_isKept, .int m_base, .int m_slopeX, .int m_slopeY, .int m_seen, .ref aM_seenLine, .ref aM_seenIs, .ref aM_rank, .ref aM_stage, .int m_letters, .ref aM_text, .int m_next, .int m_begin, .int m_token, .int m_gain, .int m_bestDot, .int m_bestCell])), (aM_told, .inl (cy.1, 7, .inl m_told)), (aM_rank, .inl (cy.1, 64, .inl m_rank)), (aM_stage, .inl (cy.1, 64, .inl m_stage))] [(aM, .inr (10, [.int (r.2.1), .ref aM_told, .ref aM_draft, .long m_shut, .long m_dots, .long m_draftShut, .long m_draftDots, .int m_undos, .ref aM_past, .ref aM_kept, .ref aM_isKept, .int m_base, .int m_slopeX, .int m_slopeY, .int m_seen, .ref aM_seenLine, .ref aM_seenIs, .ref aM_rank, .ref aM_stage, .int m_letters, .ref aM_text, .int m_next, .int m_begin, .int m_token, .int m_gain, .int m_bestDot, .int m_bestCell])), (aM_told, .inl (cy.1, 7, .inl m_told)), (aM_rank, .inl (cy.1, 64, .inl (r.2.2.1))), (aM_stage, .inl (cy.1, 64, .inl (r.2.2.2)))] := by
  refine wr_of (by decide +kernel) (Nat.le_of_ble_eq_true rfl) hD0 ?_
  intro p e s m below meth c ls A S hr hlocks hk hl hD hS hA
  obtain ⟨hx, hb, hml, hown, hts⟩ := id S
  have hl : lv_has ls 3 [(0, .ref aM), (1, .int x1), (2, .int x2)] := hl
  rw [f_X10_stage] at hf
  refine lv_aload_n hx hb dX10_stage_0 rfl (lv_at hl 0 rfl) ?_
  refine lv_iconst (v := (0 : Int32)) hx hb dX10_stage_1 (by decide) ?_
  refine va_put (D := D) (ci := 10) (v := .int (0 : Int32)) (ty := .int) (C := RX10) (T := TX10) (N := 27) hx hb hts iX10 tyX10 tyX10_ok nmX10 hown hk.1 hP hD hS 0 rfl rfl 0 (by decide) (hts _ tw_783) (fun _ h9 => h9) rfl (by decide +kernel) rfl rfl (Nat.le_of_ble_eq_true rfl) dX10_stage_2 (fun H locs hP hD hS => ?_)
  have hP : va_P D vwCl [(aM, .inr (10, [.int (0 : Int32), .ref aM_told, .ref aM_draft, .long m_shut, .long m_dots, .long m_draftShut, .long m_draftDots, .int m_undos, .ref aM_past, .ref aM_kept, .ref aM_isKept, .int m_base, .int m_slopeX, .int m_slopeY, .int m_seen, .ref aM_seenLine, .ref aM_seenIs, .ref aM_rank, .ref aM_stage, .int m_letters, .ref aM_text, .int m_next, .int m_begin, .int m_token, .int m_gain, .int m_bestDot, .int m_bestCell])), (aM_told, .inl (cy.1, 7, .inl m_told)), (aM_rank, .inl (cy.1, 64, .inl m_rank)), (aM_stage, .inl (cy.1, 64, .inl m_stage))] H := hP
  have hD : va_D A [(aM, .inr (10, [.int (0 : Int32), .ref aM_told, .ref aM_draft, .long m_shut, .long m_dots, .long m_draftShut, .long m_draftDots, .int m_undos, .ref aM_past, .ref aM_kept, .ref aM_isKept, .int m_base, .int m_slopeX, .int m_slopeY, .int m_seen, .ref aM_seenLine, .ref aM_seenIs, .ref aM_rank, .ref aM_stage, .int m_letters, .ref aM_text, .int m_next, .int m_begin, .int m_token, .int m_gain, .int m_bestDot, .int m_bestCell])), (aM_told, .inl (cy.1, 7, .inl m_told)), (aM_rank, .inl (cy.1, 64, .inl m_rank)), (aM_stage, .inl (cy.1, 64, .inl m_stage))] := hD
  refine lv_aload_n hx hb dX10_stage_5 rfl (lv_at hl 0 rfl) ?_
  refine lv_iload_n hx hb dX10_stage_6 rfl (lv_at hl 1 rfl) ?_
  refine lv_iload_n hx hb dX10_stage_7 rfl (lv_at hl 2 rfl) ?_
  obtain ⟨z8, hz8, hf⟩ := q_bind hf
  refine q_rdV (As := [.int x1, .int x2]) (rest := []) (st2 := [.int z8]) S hk (c_X10_isPlace l D cy H aM aM_told aM_draft aM_past aM_kept aM_isKept aM_seenLine aM_seenIs aM_rank aM_stage aM_text (0 : Int32) m_shut m_dots m_draftShut m_draftDots m_undos m_base m_slopeX m_slopeY m_seen m_letters m_next m_begin m_token m_gain m_bestDot m_bestCell m_told x1 x2 z8 (hP.sub [0, 1] rfl) hz8) ok_X10_isPlace tw_915 ⟨rfl, rfl, Nat.le_of_ble_eq_true rfl, Nat.le_of_ble_eq_true rfl⟩ (va_recv hk.1 hP (ci := 10) (q0 := 0) rfl rfl) rfl hl.1 rfl (Nat.le_of_ble_eq_true rfl) dX10_stage_8 ⟨Nat.zero_le _, Nat.zero_le _⟩ rfl ?_
  refine lv_if_ne (tgt := 16) hx hb dX10_stage_11 (by decide) (fun hc => ?_) (fun hc => ?_)
  · have hf := q_f hc hf
    refine lv_aload_n hx hb dX10_stage_16 rfl (lv_at hl 0 rfl) ?_
    refine va_get (D := D) (ci := 10) (v := .long m_dots) (C := RX10) (T := TX10) (N := 27) hx hb hts iX10 hown hk.1 hP 0 rfl rfl 4 (by decide) (hts _ tw_787) (fun _ h9 => h9) rfl dX10_stage_17 ?_
    refine lv_lconst (v := (0 : Int64)) hx hb dX10_stage_20 (by decide) ?_
    refine W.lcmp hx hb dX10_stage_21 ?_
    refine lv_if_ne (tgt := 28) hx hb dX10_stage_22 (by decide) (fun hc => ?_) (fun hc => ?_)
    · have hf := q_f hc hf
      refine lv_aload_n hx hb dX10_stage_28 rfl (lv_at hl 0 rfl) ?_
      obtain ⟨z29, hz29, hf⟩ := q_bind hf
      refine q_wrV (As := []) (rest := []) (st2 := []) (ws' := [(aM, .inr (10, [.int (0 : Int32), .ref aM_told, .ref aM_draft, .long m_shut, .long m_dots, .long m_draftShut, .long m_draftDots, .int m_undos, .ref aM_past, .ref aM_kept, .ref aM_isKept, .int m_base, .int m_slopeX, .int m_slopeY, .int m_seen, .ref aM_seenLine, .ref aM_seenIs, .ref aM_rank, .ref aM_stage, .int m_letters, .ref aM_text, .int m_next, .int m_begin, .int m_token, .int m_gain, .int m_bestDot, .int m_bestCell])), (aM_told, .inl (cy.1, 7, .inl m_told)), (aM_rank, .inl (cy.1, 64, .inl (z29.1))), (aM_stage, .inl (cy.1, 64, .inl (z29.2)))]) S hk (c_X10_ranks l D cy H aM aM_told aM_draft aM_past aM_kept aM_isKept aM_seenLine aM_seenIs aM_rank aM_stage aM_text (0 : Int32) m_shut m_dots m_draftShut m_draftDots m_undos m_base m_slopeX m_slopeY m_seen m_letters m_next m_begin m_token m_gain m_bestDot m_bestCell m_told m_rank m_stage z29 (hP.sub [0, 1, 2, 3] rfl) (qD_sub hD [0, 1, 2, 3] (by decide) rfl) hz29) ok_X10_ranks tw_1030 ⟨rfl, rfl, Nat.le_of_ble_eq_true rfl, Nat.le_of_ble_eq_true rfl⟩ (va_recv hk.1 hP (ci := 10) (q0 := 0) rfl rfl) rfl hl.1 rfl (Nat.le_of_ble_eq_true rfl) dX10_stage_29 ⟨Nat.zero_le _, Nat.zero_le _⟩ rfl hP hD hS hA [0, 1, 2, 3] rfl rfl rfl rfl (fun H locs hP hD hS => ?_)
      refine lv_aload_n hx hb dX10_stage_32 rfl (lv_at hl 0 rfl) ?_
      refine va_get (D := D) (ci := 10) (v := .ref aM_stage) (C := RX10) (T := TX10) (N := 27) hx hb hts iX10 hown hk.1 hP 0 rfl rfl 18 (by decide) (hts _ tw_801) (fun _ h9 => h9) rfl dX10_stage_33 ?_
      refine lv_aload_n hx hb dX10_stage_36 rfl (lv_at hl 0 rfl) ?_
      refine lv_iload_n hx hb dX10_stage_37 rfl (lv_at hl 1 rfl) ?_
      refine lv_iload_n hx hb dX10_stage_38 rfl (lv_at hl 2 rfl) ?_
      obtain ⟨z39, hz39, hf⟩ := q_bind hf
      refine q_rdV (As := [.int x1, .int x2]) (rest := [.ref aM_stage]) (st2 := [.int z39, .ref aM_stage]) S hk (c_X10_at l D cy H aM aM_told aM_draft aM_past aM_kept aM_isKept aM_seenLine aM_seenIs aM_rank aM_stage aM_text (0 : Int32) m_shut m_dots m_draftShut m_draftDots m_undos m_base m_slopeX m_slopeY m_seen m_letters m_next m_begin m_token m_gain m_bestDot m_bestCell m_told x1 x2 z39 (hP.sub [0, 1] rfl) hz39) ok_X10_at tw_919 ⟨rfl, rfl, Nat.le_of_ble_eq_true rfl, Nat.le_of_ble_eq_true rfl⟩ (va_recv hk.1 hP (ci := 10) (q0 := 0) rfl rfl) rfl hl.1 rfl (Nat.le_of_ble_eq_true rfl) dX10_stage_39 ⟨Nat.zero_le _, Nat.zero_le _⟩ rfl ?_
      obtain ⟨hi, hf⟩ := q_in hf
      refine va_iald hx hb hk.1 hP 3 0 rfl rfl hi dX10_stage_42 ?_
      have hf := Option.some.inj hf
      subst hf
      exact q_riW hP hS hx hb hr hlocks dX10_stage_43
    · have hf := q_t hc hf
      refine lv_bipush (v := (-2 : Int32)) hx hb dX10_stage_25 (by decide) ?_
      have hf := Option.some.inj hf
      subst hf
      exact q_riW hP hS hx hb hr hlocks dX10_stage_27
  · have hf := q_t hc hf
    refine lv_iconst (v := (-1 : Int32)) hx hb dX10_stage_14 (by decide) ?_
    have hf := Option.some.inj hf
    subst hf
    exact q_riW hP hS hx hb hr hlocks dX10_stage_15
def f_X10_isIn (m_rank : Nat → Int32) (x1 : Int32) (x2 : Int32) : Option (Int32) := if inb x1 64 = true then (if (m_rank x1.toNatClampNeg) < 0 then (some (0 : Int32)) else (if inb x1 64 = true then (if x2 ≤ (m_rank x1.toNatClampNeg) then (some (0 : Int32)) else (some (1 : Int32))) else none)) else none
theorem ok_X10_isIn : OkV yX10_isIn cX10_isIn 3 (some Jvm.ClassFile.FieldType.boolean) 2 := ⟨⟨tw_1060, tw_13, by decide +kernel, by decide +kernel, by decide +kernel⟩, tw_1059, tp_54⟩
set_option maxHeartbeats 4000000 in
set_option maxRecDepth 100000 in
theorem c_X10_isIn (l : Launch) (D : va_G) (cy : ClassId × ClassId × ClassId) (H0 : Heap) (aM aM_told aM_draft aM_past aM_kept aM_isKept aM_seenLine aM_seenIs aM_rank aM_stage aM_text : Nat) (m_thrown : Int32) (m_shut : Int64) (m_dots : Int64) (m_draftShut : Int64) (m_draftDots : Int64) (m_undos : Int32) (m_base : Int32) (m_slopeX : Int32) (m_slopeY : Int32) (m_seen : Int32) (m_letters : Int32) (m_next : Int32) (m_begin : Int32) (m_token : Int32) (m_gain : Int32) (m_bestDot : Int32) (m_bestCell : Int32) (m_rank : Nat → Int32) (x1 : Int32) (x2 : Int32) (r : Int32) (hP : va_P D vwCl [(aM, .inr (10, [.int m_thrown, .ref aM_told, .ref aM_draft, .long m_shut, .long m_dots, .long m_draftShut, .long m_draftDots, .int m_undos, .ref aM_past, .ref aM_kept, .ref aM_isKept, .int m_base, .int m_slopeX, .int m_slopeY, .int m_seen, .ref aM_seenLine, .ref aM_seenIs, .ref aM_rank, .ref aM_stage, .int m_letters, .ref aM_text, .int m_next, .int m_begin, .int m_token, .int m_gain, .int m_bestDot, .int m_bestCell])), (aM_rank, .inl (cy.1, 64, .inl m_rank))] H0) (hf : f_X10_isIn m_rank x1 x2 = some r) : Rd l yX10_isIn cX10_isIn 3 (some Jvm.ClassFile.FieldType.boolean) ({ frames := 0, cells := 0, slots := 0, locals := 0 } : Room) ([.ref aM, .int x1, .int x2] : List Value) (some (.int r)) D cy H0 := by
  refine rd_of (by decide +kernel) (Nat.le_of_ble_eq_true rfl) ?_
  intro p e s m below meth c ls S hr hlocks hk hl
  obtain ⟨hx, hb, hml, hown, hts⟩ := id S
  have hl : lv_has ls 3 [(0, .ref aM), (1, .int x1), (2, .int x2)] := hl
  rw [f_X10_isIn] at hf
  refine lv_aload_n hx hb dX10_isIn_0 rfl (lv_at hl 0 rfl) ?_
  refine va_get (D := D) (ci := 10) (v := .ref aM_rank) (C := RX10) (T := TX10) (N := 27) hx hb hts iX10 hown hk.1 hP 0 rfl rfl 17 (by decide) (hts _ tw_800) (fun _ h9 => h9) rfl dX10_isIn_1 ?_
  refine lv_iload_n hx hb dX10_isIn_4 rfl (lv_at hl 1 rfl) ?_
  obtain ⟨hi, hf⟩ := q_in hf
  refine va_iald hx hb hk.1 hP 1 0 rfl rfl hi dX10_isIn_5 ?_
  refine lv_if_lt (tgt := 23) hx hb dX10_isIn_6 (by decide) (fun hc => ?_) (fun hc => ?_)
  · have hf := q_t hc hf
    refine lv_iconst (v := (0 : Int32)) hx hb dX10_isIn_23 (by decide) ?_
    have hf := Option.some.inj hf
    subst hf
    exact q_rzR (Or.inl rfl) hx hb hr hlocks dX10_isIn_24
  · have hf := q_f hc hf
    refine lv_aload_n hx hb dX10_isIn_9 rfl (lv_at hl 0 rfl) ?_
    refine va_get (D := D) (ci := 10) (v := .ref aM_rank) (C := RX10) (T := TX10) (N := 27) hx hb hts iX10 hown hk.1 hP 0 rfl rfl 17 (by decide) (hts _ tw_800) (fun _ h9 => h9) rfl dX10_isIn_10 ?_
    refine lv_iload_n hx hb dX10_isIn_13 rfl (lv_at hl 1 rfl) ?_
    obtain ⟨hi, hf⟩ := q_in hf
    refine va_iald hx hb hk.1 hP 1 0 rfl rfl hi dX10_isIn_14 ?_
    refine lv_iload_n hx hb dX10_isIn_15 rfl (lv_at hl 2 rfl) ?_
    refine lv_icmp_ge (tgt := 23) hx hb dX10_isIn_16 (by decide) (fun hc => ?_) (fun hc => ?_)
    · have hf := q_t hc hf
      refine lv_iconst (v := (0 : Int32)) hx hb dX10_isIn_23 (by decide) ?_
      have hf := Option.some.inj hf
      subst hf
      exact q_rzR (Or.inl rfl) hx hb hr hlocks dX10_isIn_24
    · have hf := q_f hc hf
      refine lv_iconst (v := (1 : Int32)) hx hb dX10_isIn_19 (by decide) ?_
      refine lv_goto (tgt := 24) hx hb dX10_isIn_20 (by decide) ?_
      have hf := Option.some.inj hf
      subst hf
      exact q_rzR (Or.inr rfl) hx hb hr hlocks dX10_isIn_24
def j_X10_gapOf_81 (k16 : Int32 → Int32 → Int32 → Option (Int32)) (x3 : Int32) (x4 : Int32) (k0 : Int32) : Option (Int32) := k16 k0 x3 (x4 + 1)
def j_X10_gapOf_63 (m_told : Nat → Int32) (k16 : Int32 → Int32 → Int32 → Option (Int32)) (x2 : Int32) (x3 : Int32) (x4 : Int32) (k0 : Int32) : Option (Int32) := if k0 = 0 then (j_X10_gapOf_81 k16 x3 x4 x2) else ((f_X10_distance m_told x3 x4).bind (fun z74 => j_X10_gapOf_81 k16 x3 x4 z74))
def lp_X10_gapOf_16 (m_told : Nat → Int32) (m_rank : Nat → Int32) (x1 : Int32) (k5 : Int32 → Int32 → Option (Int32)) : Nat → Int32 → Int32 → Int32 → Option (Int32)
  | 0, _, _, _ => none
  | n + 1, x2, x3, x4 => if x3 ≤ x4 then (k5 x2 (x3 + 1)) else ((f_X10_isIn m_rank x3 x1).bind (fun z25 => if z25 = 0 then (k5 x2 (x3 + 1)) else ((f_X10_isIn m_rank x4 x1).bind (fun z35 => if z35 = 0 then (j_X10_gapOf_63 m_told (lp_X10_gapOf_16 m_told m_rank x1 k5 n) x2 x3 x4 (0 : Int32)) else (if x2 = (-9 : Int32) then (j_X10_gapOf_63 m_told (lp_X10_gapOf_16 m_told m_rank x1 k5 n) x2 x3 x4 (1 : Int32)) else ((f_X10_distance m_told x3 x4).bind (fun z51 => if x2 ≤ z51 then (j_X10_gapOf_63 m_told (lp_X10_gapOf_16 m_told m_rank x1 k5 n) x2 x3 x4 (0 : Int32)) else (j_X10_gapOf_63 m_told (lp_X10_gapOf_16 m_told m_rank x1 k5 n) x2 x3 x4 (1 : Int32)))))))))
theorem lp_X10_gapOf_16_s (m_told : Nat → Int32) (m_rank : Nat → Int32) (x1 : Int32) (k5 : Int32 → Int32 → Option (Int32)) (n : Nat) (x2 : Int32) (x3 : Int32) (x4 : Int32) : lp_X10_gapOf_16 m_told m_rank x1 k5 (n + 1) x2 x3 x4 = (if x3 ≤ x4 then (k5 x2 (x3 + 1)) else ((f_X10_isIn m_rank x3 x1).bind (fun z25 => if z25 = 0 then (k5 x2 (x3 + 1)) else ((f_X10_isIn m_rank x4 x1).bind (fun z35 => if z35 = 0 then (j_X10_gapOf_63 m_told (lp_X10_gapOf_16 m_told m_rank x1 k5 n) x2 x3 x4 (0 : Int32)) else (if x2 = (-9 : Int32) then (j_X10_gapOf_63 m_told (lp_X10_gapOf_16 m_told m_rank x1 k5 n) x2 x3 x4 (1 : Int32)) else ((f_X10_distance m_told x3 x4).bind (fun z51 => if x2 ≤ z51 then (j_X10_gapOf_63 m_told (lp_X10_gapOf_16 m_told m_rank x1 k5 n) x2 x3 x4 (0 : Int32)) else (j_X10_gapOf_63 m_told (lp_X10_gapOf_16 m_told m_rank x1 k5 n) x2 x3 x4 (1 : Int32)))))))))) := rfl
theorem lp_X10_gapOf_16_z (m_told : Nat → Int32) (m_rank : Nat → Int32) (x1 : Int32) (k5 : Int32 → Int32 → Option (Int32)) (x2 : Int32) (x3 : Int32) (x4 : Int32) : lp_X10_gapOf_16 m_told m_rank x1 k5 0 x2 x3 x4 = none := rfl
def lp_X10_gapOf_5 (m_told : Nat → Int32) (m_rank : Nat → Int32) (x1 : Int32) : Nat → Int32 → Int32 → Option (Int32)
  | 0, _, _ => none
  | n + 1, x2, x3 => (f_X10_cells m_told).bind (fun z7 => if z7 ≤ x3 then (some x2) else (lp_X10_gapOf_16 m_told m_rank x1 (lp_X10_gapOf_5 m_told m_rank x1 n) FU x2 x3 (0 : Int32)))
theorem lp_X10_gapOf_5_s (m_told : Nat → Int32) (m_rank : Nat → Int32) (x1 : Int32) (n : Nat) (x2 : Int32) (x3 : Int32) : lp_X10_gapOf_5 m_told m_rank x1 (n + 1) x2 x3 = ((f_X10_cells m_told).bind (fun z7 => if z7 ≤ x3 then (some x2) else (lp_X10_gapOf_16 m_told m_rank x1 (lp_X10_gapOf_5 m_told m_rank x1 n) FU x2 x3 (0 : Int32)))) := rfl
theorem lp_X10_gapOf_5_z (m_told : Nat → Int32) (m_rank : Nat → Int32) (x1 : Int32) (x2 : Int32) (x3 : Int32) : lp_X10_gapOf_5 m_told m_rank x1 0 x2 x3 = none := rfl
def f_X10_gapOf (m_told : Nat → Int32) (m_rank : Nat → Int32) (x1 : Int32) : Option (Int32) := lp_X10_gapOf_5 m_told m_rank x1 FU (-9 : Int32) (0 : Int32)
theorem ok_X10_gapOf : OkV yX10_gapOf cX10_gapOf 6 (some Jvm.ClassFile.FieldType.int) 1 := ⟨⟨tw_1056, tw_13, by decide +kernel, by decide +kernel, by decide +kernel⟩, tw_1055, tp_53⟩
set_option maxHeartbeats 4000000 in
set_option maxRecDepth 100000 in
theorem c_X10_gapOf (l : Launch) (D : va_G) (cy : ClassId × ClassId × ClassId) (H0 : Heap) (aM aM_told aM_draft aM_past aM_kept aM_isKept aM_seenLine aM_seenIs aM_rank aM_stage aM_text : Nat) (m_thrown : Int32) (m_shut : Int64) (m_dots : Int64) (m_draftShut : Int64) (m_draftDots : Int64) (m_undos : Int32) (m_base : Int32) (m_slopeX : Int32) (m_slopeY : Int32) (m_seen : Int32) (m_letters : Int32) (m_next : Int32) (m_begin : Int32) (m_token : Int32) (m_gain : Int32) (m_bestDot : Int32) (m_bestCell : Int32) (m_told : Nat → Int32) (m_rank : Nat → Int32) (x1 : Int32) (r : Int32) (hP : va_P D vwCl [(aM, .inr (10, [.int m_thrown, .ref aM_told, .ref aM_draft, .long m_shut, .long m_dots, .long m_draftShut, .long m_draftDots, .int m_undos, .ref aM_past, .ref aM_kept, .ref aM_isKept, .int m_base, .int m_slopeX, .int m_slopeY, .int m_seen, .ref aM_seenLine, .ref aM_seenIs, .ref aM_rank, .ref aM_stage, .int m_letters, .ref aM_text, .int m_next, .int m_begin, .int m_token, .int m_gain, .int m_bestDot, .int m_bestCell])), (aM_told, .inl (cy.1, 7, .inl m_told)), (aM_rank, .inl (cy.1, 64, .inl m_rank))] H0) (hf : f_X10_gapOf m_told m_rank x1 = some r) : Rd l yX10_gapOf cX10_gapOf 6 (some Jvm.ClassFile.FieldType.int) ({ frames := 2, cells := 0, slots := 0, locals := 48 } : Room) ([.ref aM, .int x1] : List Value) (some (.int r)) D cy H0 := by
  refine rd_of (by decide +kernel) (Nat.le_of_ble_eq_true rfl) ?_
  intro p e s m below meth c ls S hr hlocks hk hl
  obtain ⟨hx, hb, hml, hown, hts⟩ := id S
  have hl : lv_has ls 6 [(0, .ref aM), (1, .int x1)] := hl
  rw [f_X10_gapOf] at hf
  have J5 : ∀ (n5 : Nat) (x2 : Int32) (x3 : Int32) (ls : Array Slot), lv_has ls 6 [(0, .ref aM), (1, .int x1), (2, .int x2), (3, .int x3)] → lp_X10_gapOf_5 m_told m_rank x1 n5 x2 x3 = some r → W p l e ({ frames := 2, cells := 0, slots := 0, locals := 48 } : Room) s m ([.ref aM, .int x1] : List Value).toArray below meth c H0 [] 0 0 (MQ below (QR (some (.int r)) H0) ([.ref aM, .int x1] : List Value).toArray s 0 0 (fun _ => False)) (F0 m 5 ls []) := by
    intro n5
    induction n5 with
    | zero =>
      intro x2 x3 ls hl hf
      rw [lp_X10_gapOf_5_z] at hf
      cases hf
    | succ n5 ih5 =>
      have J16 : ∀ (n16 : Nat) (x2 : Int32) (x3 : Int32) (x4 : Int32) (ls : Array Slot), lv_has ls 6 [(0, .ref aM), (1, .int x1), (2, .int x2), (3, .int x3), (4, .int x4)] → lp_X10_gapOf_16 m_told m_rank x1 (lp_X10_gapOf_5 m_told m_rank x1 n5) n16 x2 x3 x4 = some r → W p l e ({ frames := 2, cells := 0, slots := 0, locals := 48 } : Room) s m ([.ref aM, .int x1] : List Value).toArray below meth c H0 [] 0 0 (MQ below (QR (some (.int r)) H0) ([.ref aM, .int x1] : List Value).toArray s 0 0 (fun _ => False)) (F0 m 16 ls []) := by
        intro n16
        induction n16 with
        | zero =>
          intro x2 x3 x4 ls hl hf
          rw [lp_X10_gapOf_16_z] at hf
          cases hf
        | succ n16 ih16 =>
          have J81 : ∀ (x3 : Int32) (x4 : Int32) (k0 : Int32) (ls : Array Slot), lv_has ls 6 [(0, .ref aM), (1, .int x1), (3, .int x3), (4, .int x4)] → j_X10_gapOf_81 (lp_X10_gapOf_16 m_told m_rank x1 (lp_X10_gapOf_5 m_told m_rank x1 n5) n16) x3 x4 k0 = some r → W p l e ({ frames := 2, cells := 0, slots := 0, locals := 48 } : Room) s m ([.ref aM, .int x1] : List Value).toArray below meth c H0 [] 0 0 (MQ below (QR (some (.int r)) H0) ([.ref aM, .int x1] : List Value).toArray s 0 0 (fun _ => False)) (F0 m 81 ls [.int k0]) := by
            intro x3 x4 k0 ls hl hf
            rw [j_X10_gapOf_81] at hf
            refine lv_istore_n (lv' := [(2, .int k0), (0, .ref aM), (1, .int x1), (3, .int x3), (4, .int x4)]) hx hb dX10_gapOf_81 rfl hl (by decide) rfl (fun ls hl => ?_)
            refine lv_iinc (v := (x4 + 1)) (lv' := [(4, .int (x4 + 1)), (2, .int k0), (0, .ref aM), (1, .int x1), (3, .int x3)]) hx hb dX10_gapOf_82 hl (k := 4) rfl rfl (by decide) rfl (fun ls hl => ?_)
            refine lv_goto (tgt := 16) hx hb dX10_gapOf_85 (by decide) ?_
            exact ih16 k0 x3 (x4 + 1) ls (lv_sub hl [2, 3, 1, 4, 0] rfl) hf
          have J63 : ∀ (x2 : Int32) (x3 : Int32) (x4 : Int32) (k0 : Int32) (ls : Array Slot), lv_has ls 6 [(0, .ref aM), (1, .int x1), (2, .int x2), (3, .int x3), (4, .int x4)] → j_X10_gapOf_63 m_told (lp_X10_gapOf_16 m_told m_rank x1 (lp_X10_gapOf_5 m_told m_rank x1 n5) n16) x2 x3 x4 k0 = some r → W p l e ({ frames := 2, cells := 0, slots := 0, locals := 48 } : Room) s m ([.ref aM, .int x1] : List Value).toArray below meth c H0 [] 0 0 (MQ below (QR (some (.int r)) H0) ([.ref aM, .int x1] : List Value).toArray s 0 0 (fun _ => False)) (F0 m 63 ls [.int k0]) := by
            intro x2 x3 x4 k0 ls hl hf
            rw [j_X10_gapOf_63] at hf
            refine lv_istore (lv' := [(5, .int k0), (0, .ref aM), (1, .int x1), (2, .int x2), (3, .int x3), (4, .int x4)]) hx hb dX10_gapOf_63 hl (by decide) rfl (fun ls hl => ?_)
            refine lv_iload hx hb dX10_gapOf_65 (lv_at hl 0 rfl) ?_
            refine lv_if_eq (tgt := 80) hx hb dX10_gapOf_67 (by decide) (fun hc => ?_) (fun hc => ?_)
            · have hf := q_t hc hf
              refine lv_iload_n hx hb dX10_gapOf_80 rfl (lv_at hl 3 rfl) ?_
              exact J81 x3 x4 x2 ls (lv_sub hl [1, 2, 4, 5] rfl) hf
            · have hf := q_f hc hf
              refine lv_aload_n hx hb dX10_gapOf_70 rfl (lv_at hl 1 rfl) ?_
              refine lv_iload_n hx hb dX10_gapOf_71 rfl (lv_at hl 4 rfl) ?_
              refine lv_iload hx hb dX10_gapOf_72 (lv_at hl 5 rfl) ?_
              obtain ⟨z74, hz74, hf⟩ := q_bind hf
              refine q_rdV (As := [.int x3, .int x4]) (rest := []) (st2 := [.int z74]) S hk (c_X10_distance l D cy H0 aM aM_told aM_draft aM_past aM_kept aM_isKept aM_seenLine aM_seenIs aM_rank aM_stage aM_text m_thrown m_shut m_dots m_draftShut m_draftDots m_undos m_base m_slopeX m_slopeY m_seen m_letters m_next m_begin m_token m_gain m_bestDot m_bestCell m_told x3 x4 z74 (hP.sub [0, 1] rfl) hz74) ok_X10_distance tw_935 ⟨rfl, rfl, Nat.le_of_ble_eq_true rfl, Nat.le_of_ble_eq_true rfl⟩ (va_recv hk.1 hP (ci := 10) (q0 := 0) rfl rfl) rfl hl.1 rfl (Nat.le_of_ble_eq_true rfl) dX10_gapOf_74 ⟨Nat.zero_le _, Nat.zero_le _⟩ rfl ?_
              refine lv_goto (tgt := 81) hx hb dX10_gapOf_77 (by decide) ?_
              exact J81 x3 x4 z74 ls (lv_sub hl [1, 2, 4, 5] rfl) hf
          intro x2 x3 x4 ls hl hf
          rw [lp_X10_gapOf_16_s] at hf
          refine lv_iload hx hb dX10_gapOf_16 (lv_at hl 4 rfl) ?_
          refine lv_iload_n hx hb dX10_gapOf_18 rfl (lv_at hl 3 rfl) ?_
          refine lv_icmp_ge (tgt := 88) hx hb dX10_gapOf_19 (by decide) (fun hc => ?_) (fun hc => ?_)
          · have hf := q_t hc hf
            refine lv_iinc (v := (x3 + 1)) (lv' := [(3, .int (x3 + 1)), (0, .ref aM), (1, .int x1), (2, .int x2), (4, .int x4)]) hx hb dX10_gapOf_88 hl (k := 3) rfl rfl (by decide) rfl (fun ls hl => ?_)
            refine lv_goto (tgt := 5) hx hb dX10_gapOf_91 (by decide) ?_
            exact ih5 x2 (x3 + 1) ls (lv_sub hl [1, 2, 3, 0] rfl) hf
          · have hf := q_f hc hf
            refine lv_aload_n hx hb dX10_gapOf_22 rfl (lv_at hl 0 rfl) ?_
            refine lv_iload_n hx hb dX10_gapOf_23 rfl (lv_at hl 3 rfl) ?_
            refine lv_iload_n hx hb dX10_gapOf_24 rfl (lv_at hl 1 rfl) ?_
            obtain ⟨z25, hz25, hf⟩ := q_bind hf
            refine q_rdV (As := [.int x3, .int x1]) (rest := []) (st2 := [.int z25]) S hk (c_X10_isIn l D cy H0 aM aM_told aM_draft aM_past aM_kept aM_isKept aM_seenLine aM_seenIs aM_rank aM_stage aM_text m_thrown m_shut m_dots m_draftShut m_draftDots m_undos m_base m_slopeX m_slopeY m_seen m_letters m_next m_begin m_token m_gain m_bestDot m_bestCell m_rank x3 x1 z25 (hP.sub [0, 2] rfl) hz25) ok_X10_isIn tw_1057 ⟨rfl, rfl, Nat.le_of_ble_eq_true rfl, Nat.le_of_ble_eq_true rfl⟩ (va_recv hk.1 hP (ci := 10) (q0 := 0) rfl rfl) rfl hl.1 rfl (Nat.le_of_ble_eq_true rfl) dX10_gapOf_25 ⟨Nat.zero_le _, Nat.zero_le _⟩ rfl ?_
            refine lv_if_eq (tgt := 88) hx hb dX10_gapOf_28 (by decide) (fun hc => ?_) (fun hc => ?_)
            · have hf := q_t hc hf
              refine lv_iinc (v := (x3 + 1)) (lv' := [(3, .int (x3 + 1)), (0, .ref aM), (1, .int x1), (2, .int x2), (4, .int x4)]) hx hb dX10_gapOf_88 hl (k := 3) rfl rfl (by decide) rfl (fun ls hl => ?_)
              refine lv_goto (tgt := 5) hx hb dX10_gapOf_91 (by decide) ?_
              exact ih5 x2 (x3 + 1) ls (lv_sub hl [1, 2, 3, 0] rfl) hf
            · have hf := q_f hc hf
              refine lv_aload_n hx hb dX10_gapOf_31 rfl (lv_at hl 0 rfl) ?_
              refine lv_iload hx hb dX10_gapOf_32 (lv_at hl 4 rfl) ?_
              refine lv_iload_n hx hb dX10_gapOf_34 rfl (lv_at hl 1 rfl) ?_
              obtain ⟨z35, hz35, hf⟩ := q_bind hf
              refine q_rdV (As := [.int x4, .int x1]) (rest := []) (st2 := [.int z35]) S hk (c_X10_isIn l D cy H0 aM aM_told aM_draft aM_past aM_kept aM_isKept aM_seenLine aM_seenIs aM_rank aM_stage aM_text m_thrown m_shut m_dots m_draftShut m_draftDots m_undos m_base m_slopeX m_slopeY m_seen m_letters m_next m_begin m_token m_gain m_bestDot m_bestCell m_rank x4 x1 z35 (hP.sub [0, 2] rfl) hz35) ok_X10_isIn tw_1057 ⟨rfl, rfl, Nat.le_of_ble_eq_true rfl, Nat.le_of_ble_eq_true rfl⟩ (va_recv hk.1 hP (ci := 10) (q0 := 0) rfl rfl) rfl hl.1 rfl (Nat.le_of_ble_eq_true rfl) dX10_gapOf_35 ⟨Nat.zero_le _, Nat.zero_le _⟩ rfl ?_
              refine lv_if_eq (tgt := 62) hx hb dX10_gapOf_38 (by decide) (fun hc => ?_) (fun hc => ?_)
              · have hf := q_t hc hf
                refine lv_iconst (v := (0 : Int32)) hx hb dX10_gapOf_62 (by decide) ?_
                exact J63 x2 x3 x4 (0 : Int32) ls (lv_sub hl [0, 1, 2, 3, 4] rfl) hf
              · have hf := q_f hc hf
                refine lv_iload_n hx hb dX10_gapOf_41 rfl (lv_at hl 2 rfl) ?_
                refine lv_bipush (v := (-9 : Int32)) hx hb dX10_gapOf_42 (by decide) ?_
                refine lv_icmp_eq (tgt := 58) hx hb dX10_gapOf_44 (by decide) (fun hc => ?_) (fun hc => ?_)
                · have hf := q_t hc hf
                  refine lv_iconst (v := (1 : Int32)) hx hb dX10_gapOf_58 (by decide) ?_
                  refine lv_goto (tgt := 63) hx hb dX10_gapOf_59 (by decide) ?_
                  exact J63 x2 x3 x4 (1 : Int32) ls (lv_sub hl [0, 1, 2, 3, 4] rfl) hf
                · have hf := q_f hc hf
                  refine lv_aload_n hx hb dX10_gapOf_47 rfl (lv_at hl 0 rfl) ?_
                  refine lv_iload_n hx hb dX10_gapOf_48 rfl (lv_at hl 3 rfl) ?_
                  refine lv_iload hx hb dX10_gapOf_49 (lv_at hl 4 rfl) ?_
                  obtain ⟨z51, hz51, hf⟩ := q_bind hf
                  refine q_rdV (As := [.int x3, .int x4]) (rest := []) (st2 := [.int z51]) S hk (c_X10_distance l D cy H0 aM aM_told aM_draft aM_past aM_kept aM_isKept aM_seenLine aM_seenIs aM_rank aM_stage aM_text m_thrown m_shut m_dots m_draftShut m_draftDots m_undos m_base m_slopeX m_slopeY m_seen m_letters m_next m_begin m_token m_gain m_bestDot m_bestCell m_told x3 x4 z51 (hP.sub [0, 1] rfl) hz51) ok_X10_distance tw_935 ⟨rfl, rfl, Nat.le_of_ble_eq_true rfl, Nat.le_of_ble_eq_true rfl⟩ (va_recv hk.1 hP (ci := 10) (q0 := 0) rfl rfl) rfl hl.1 rfl (Nat.le_of_ble_eq_true rfl) dX10_gapOf_51 ⟨Nat.zero_le _, Nat.zero_le _⟩ rfl ?_
                  refine lv_iload_n hx hb dX10_gapOf_54 rfl (lv_at hl 2 rfl) ?_
                  refine lv_icmp_ge (tgt := 62) hx hb dX10_gapOf_55 (by decide) (fun hc => ?_) (fun hc => ?_)
                  · have hf := q_t hc hf
                    refine lv_iconst (v := (0 : Int32)) hx hb dX10_gapOf_62 (by decide) ?_
                    exact J63 x2 x3 x4 (0 : Int32) ls (lv_sub hl [0, 1, 2, 3, 4] rfl) hf
                  · have hf := q_f hc hf
                    refine lv_iconst (v := (1 : Int32)) hx hb dX10_gapOf_58 (by decide) ?_
                    refine lv_goto (tgt := 63) hx hb dX10_gapOf_59 (by decide) ?_
                    exact J63 x2 x3 x4 (1 : Int32) ls (lv_sub hl [0, 1, 2, 3, 4] rfl) hf
      intro x2 x3 ls hl hf
      rw [lp_X10_gapOf_5_s] at hf
      refine lv_iload_n hx hb dX10_gapOf_5 rfl (lv_at hl 3 rfl) ?_
      refine lv_aload_n hx hb dX10_gapOf_6 rfl (lv_at hl 0 rfl) ?_
      obtain ⟨z7, hz7, hf⟩ := q_bind hf
      refine q_rdV (As := []) (rest := [.int x3]) (st2 := [.int z7, .int x3]) S hk (c_X10_cells l D cy H0 aM aM_told aM_draft aM_past aM_kept aM_isKept aM_seenLine aM_seenIs aM_rank aM_stage aM_text m_thrown m_shut m_dots m_draftShut m_draftDots m_undos m_base m_slopeX m_slopeY m_seen m_letters m_next m_begin m_token m_gain m_bestDot m_bestCell m_told z7 (hP.sub [0, 1] rfl) hz7) ok_X10_cells tw_931 ⟨rfl, rfl, Nat.le_of_ble_eq_true rfl, Nat.le_of_ble_eq_true rfl⟩ (va_recv hk.1 hP (ci := 10) (q0 := 0) rfl rfl) rfl hl.1 rfl (Nat.le_of_ble_eq_true rfl) dX10_gapOf_7 ⟨Nat.zero_le _, Nat.zero_le _⟩ rfl ?_
      refine lv_icmp_ge (tgt := 94) hx hb dX10_gapOf_10 (by decide) (fun hc => ?_) (fun hc => ?_)
      · have hf := q_t hc hf
        refine lv_iload_n hx hb dX10_gapOf_94 rfl (lv_at hl 2 rfl) ?_
        have hf := Option.some.inj hf
        subst hf
        exact q_riR hx hb hr hlocks dX10_gapOf_95
      · have hf := q_f hc hf
        refine lv_iconst (v := (0 : Int32)) hx hb dX10_gapOf_13 (by decide) ?_
        refine lv_istore (lv' := [(4, .int (0 : Int32)), (0, .ref aM), (1, .int x1), (2, .int x2), (3, .int x3)]) hx hb dX10_gapOf_14 hl (by decide) rfl (fun ls hl => ?_)
        exact J16 FU x2 x3 (0 : Int32) ls (lv_sub hl [1, 2, 3, 4, 0] rfl) hf
  refine lv_bipush (v := (-9 : Int32)) hx hb dX10_gapOf_0 (by decide) ?_
  refine lv_istore_n (lv' := [(2, .int (-9 : Int32)), (0, .ref aM), (1, .int x1)]) hx hb dX10_gapOf_2 rfl hl (by decide) rfl (fun ls hl => ?_)
  refine lv_iconst (v := (0 : Int32)) hx hb dX10_gapOf_3 (by decide) ?_
  refine lv_istore_n (lv' := [(3, .int (0 : Int32)), (2, .int (-9 : Int32)), (0, .ref aM), (1, .int x1)]) hx hb dX10_gapOf_4 rfl hl (by decide) rfl (fun ls hl => ?_)
  exact J5 FU (-9 : Int32) (0 : Int32) ls (lv_sub hl [2, 3, 1, 0] rfl) hf
def j_X10_holeOf_96 (k5 : Int32 → Int32 → Option (Int32)) (x3 : Int32) (k0 : Int32) : Option (Int32) := k5 k0 (x3 + 1)
def j_X10_holeOf_68 (k25 : Int32 → Int32 → Int32 → Int32 → Option (Int32)) (x2 : Int32) (x3 : Int32) (x5 : Int32) (k0 : Int32) : Option (Int32) := k25 x2 x3 k0 (x5 + 1)
def lp_X10_holeOf_25 (m_shut : Int64) (m_told : Nat → Int32) (m_rank : Nat → Int32) (x1 : Int32) (k5 : Int32 → Int32 → Option (Int32)) : Nat → Int32 → Int32 → Int32 → Int32 → Option (Int32)
  | 0, _, _, _, _ => none
  | n + 1, x2, x3, x4, x5 => (f_X10_cells m_told).bind (fun z28 => if z28 ≤ x5 then ((f_X10_isFree m_shut x3).bind (fun z78 => if z78 = 0 then (j_X10_holeOf_96 k5 x3 x2) else (if x4 ≤ x2 then (j_X10_holeOf_96 k5 x3 x2) else (j_X10_holeOf_96 k5 x3 x4)))) else ((f_X10_isIn m_rank x5 x1).bind (fun z38 => if z38 = 0 then (j_X10_holeOf_68 (lp_X10_holeOf_25 m_shut m_told m_rank x1 k5 n) x2 x3 x5 x4) else ((f_X10_distance m_told x3 x5).bind (fun z48 => if x4 ≤ z48 then (j_X10_holeOf_68 (lp_X10_holeOf_25 m_shut m_told m_rank x1 k5 n) x2 x3 x5 x4) else ((f_X10_distance m_told x3 x5).bind (fun z60 => j_X10_holeOf_68 (lp_X10_holeOf_25 m_shut m_told m_rank x1 k5 n) x2 x3 x5 z60)))))))
theorem lp_X10_holeOf_25_s (m_shut : Int64) (m_told : Nat → Int32) (m_rank : Nat → Int32) (x1 : Int32) (k5 : Int32 → Int32 → Option (Int32)) (n : Nat) (x2 : Int32) (x3 : Int32) (x4 : Int32) (x5 : Int32) : lp_X10_holeOf_25 m_shut m_told m_rank x1 k5 (n + 1) x2 x3 x4 x5 = ((f_X10_cells m_told).bind (fun z28 => if z28 ≤ x5 then ((f_X10_isFree m_shut x3).bind (fun z78 => if z78 = 0 then (j_X10_holeOf_96 k5 x3 x2) else (if x4 ≤ x2 then (j_X10_holeOf_96 k5 x3 x2) else (j_X10_holeOf_96 k5 x3 x4)))) else ((f_X10_isIn m_rank x5 x1).bind (fun z38 => if z38 = 0 then (j_X10_holeOf_68 (lp_X10_holeOf_25 m_shut m_told m_rank x1 k5 n) x2 x3 x5 x4) else ((f_X10_distance m_told x3 x5).bind (fun z48 => if x4 ≤ z48 then (j_X10_holeOf_68 (lp_X10_holeOf_25 m_shut m_told m_rank x1 k5 n) x2 x3 x5 x4) else ((f_X10_distance m_told x3 x5).bind (fun z60 => j_X10_holeOf_68 (lp_X10_holeOf_25 m_shut m_told m_rank x1 k5 n) x2 x3 x5 z60)))))))) := rfl
theorem lp_X10_holeOf_25_z (m_shut : Int64) (m_told : Nat → Int32) (m_rank : Nat → Int32) (x1 : Int32) (k5 : Int32 → Int32 → Option (Int32)) (x2 : Int32) (x3 : Int32) (x4 : Int32) (x5 : Int32) : lp_X10_holeOf_25 m_shut m_told m_rank x1 k5 0 x2 x3 x4 x5 = none := rfl
def lp_X10_holeOf_5 (m_shut : Int64) (m_told : Nat → Int32) (m_rank : Nat → Int32) (x1 : Int32) : Nat → Int32 → Int32 → Option (Int32)
  | 0, _, _ => none
  | n + 1, x2, x3 => (f_X10_cells m_told).bind (fun z7 => if z7 ≤ x3 then (some x2) else (if x1 ≤ 0 then (some x2) else (lp_X10_holeOf_25 m_shut m_told m_rank x1 (lp_X10_holeOf_5 m_shut m_told m_rank x1 n) FU x2 x3 (1000 : Int32) (0 : Int32))))
theorem lp_X10_holeOf_5_s (m_shut : Int64) (m_told : Nat → Int32) (m_rank : Nat → Int32) (x1 : Int32) (n : Nat) (x2 : Int32) (x3 : Int32) : lp_X10_holeOf_5 m_shut m_told m_rank x1 (n + 1) x2 x3 = ((f_X10_cells m_told).bind (fun z7 => if z7 ≤ x3 then (some x2) else (if x1 ≤ 0 then (some x2) else (lp_X10_holeOf_25 m_shut m_told m_rank x1 (lp_X10_holeOf_5 m_shut m_told m_rank x1 n) FU x2 x3 (1000 : Int32) (0 : Int32))))) := rfl
theorem lp_X10_holeOf_5_z (m_shut : Int64) (m_told : Nat → Int32) (m_rank : Nat → Int32) (x1 : Int32) (x2 : Int32) (x3 : Int32) : lp_X10_holeOf_5 m_shut m_told m_rank x1 0 x2 x3 = none := rfl
def f_X10_holeOf (m_shut : Int64) (m_told : Nat → Int32) (m_rank : Nat → Int32) (x1 : Int32) : Option (Int32) := lp_X10_holeOf_5 m_shut m_told m_rank x1 FU (-9 : Int32) (0 : Int32)
theorem ok_X10_holeOf : OkV yX10_holeOf cX10_holeOf 6 (some Jvm.ClassFile.FieldType.int) 1 := ⟨⟨tw_1064, tw_13, by decide +kernel, by decide +kernel, by decide +kernel⟩, tw_1063, tp_55⟩
set_option maxHeartbeats 4000000 in
set_option maxRecDepth 100000 in
theorem c_X10_holeOf (l : Launch) (D : va_G) (cy : ClassId × ClassId × ClassId) (H0 : Heap) (aM aM_told aM_draft aM_past aM_kept aM_isKept aM_seenLine aM_seenIs aM_rank aM_stage aM_text : Nat) (m_thrown : Int32) (m_shut : Int64) (m_dots : Int64) (m_draftShut : Int64) (m_draftDots : Int64) (m_undos : Int32) (m_base : Int32) (m_slopeX : Int32) (m_slopeY : Int32) (m_seen : Int32) (m_letters : Int32) (m_next : Int32) (m_begin : Int32) (m_token : Int32) (m_gain : Int32) (m_bestDot : Int32) (m_bestCell : Int32) (m_told : Nat → Int32) (m_rank : Nat → Int32) (x1 : Int32) (r : Int32) (hP : va_P D vwCl [(aM, .inr (10, [.int m_thrown, .ref aM_told, .ref aM_draft, .long m_shut, .long m_dots, .long m_draftShut, .long m_draftDots, .int m_undos, .ref aM_past, .ref aM_kept, .ref aM_isKept, .int m_base, .int m_slopeX, .int m_slopeY, .int m_seen, .ref aM_seenLine, .ref aM_seenIs, .ref aM_rank, .ref aM_stage, .int m_letters, .ref aM_text, .int m_next, .int m_begin, .int m_token, .int m_gain, .int m_bestDot, .int m_bestCell])), (aM_told, .inl (cy.1, 7, .inl m_told)), (aM_rank, .inl (cy.1, 64, .inl m_rank))] H0) (hf : f_X10_holeOf m_shut m_told m_rank x1 = some r) : Rd l yX10_holeOf cX10_holeOf 6 (some Jvm.ClassFile.FieldType.int) ({ frames := 2, cells := 0, slots := 0, locals := 48 } : Room) ([.ref aM, .int x1] : List Value) (some (.int r)) D cy H0 := by
  refine rd_of (by decide +kernel) (Nat.le_of_ble_eq_true rfl) ?_
  intro p e s m below meth c ls S hr hlocks hk hl
  obtain ⟨hx, hb, hml, hown, hts⟩ := id S
  have hl : lv_has ls 6 [(0, .ref aM), (1, .int x1)] := hl
  rw [f_X10_holeOf] at hf
  have J5 : ∀ (n5 : Nat) (x2 : Int32) (x3 : Int32) (ls : Array Slot), lv_has ls 6 [(0, .ref aM), (1, .int x1), (2, .int x2), (3, .int x3)] → lp_X10_holeOf_5 m_shut m_told m_rank x1 n5 x2 x3 = some r → W p l e ({ frames := 2, cells := 0, slots := 0, locals := 48 } : Room) s m ([.ref aM, .int x1] : List Value).toArray below meth c H0 [] 0 0 (MQ below (QR (some (.int r)) H0) ([.ref aM, .int x1] : List Value).toArray s 0 0 (fun _ => False)) (F0 m 5 ls []) := by
    intro n5
    induction n5 with
    | zero =>
      intro x2 x3 ls hl hf
      rw [lp_X10_holeOf_5_z] at hf
      cases hf
    | succ n5 ih5 =>
      have J96 : ∀ (x3 : Int32) (k0 : Int32) (ls : Array Slot), lv_has ls 6 [(0, .ref aM), (1, .int x1), (3, .int x3)] → j_X10_holeOf_96 (lp_X10_holeOf_5 m_shut m_told m_rank x1 n5) x3 k0 = some r → W p l e ({ frames := 2, cells := 0, slots := 0, locals := 48 } : Room) s m ([.ref aM, .int x1] : List Value).toArray below meth c H0 [] 0 0 (MQ below (QR (some (.int r)) H0) ([.ref aM, .int x1] : List Value).toArray s 0 0 (fun _ => False)) (F0 m 96 ls [.int k0]) := by
        intro x3 k0 ls hl hf
        rw [j_X10_holeOf_96] at hf
        refine lv_istore_n (lv' := [(2, .int k0), (0, .ref aM), (1, .int x1), (3, .int x3)]) hx hb dX10_holeOf_96 rfl hl (by decide) rfl (fun ls hl => ?_)
        refine lv_iinc (v := (x3 + 1)) (lv' := [(3, .int (x3 + 1)), (2, .int k0), (0, .ref aM), (1, .int x1)]) hx hb dX10_holeOf_97 hl (k := 3) rfl rfl (by decide) rfl (fun ls hl => ?_)
        refine lv_goto (tgt := 5) hx hb dX10_holeOf_100 (by decide) ?_
        exact ih5 k0 (x3 + 1) ls (lv_sub hl [2, 3, 1, 0] rfl) hf
      have J25 : ∀ (n25 : Nat) (x2 : Int32) (x3 : Int32) (x4 : Int32) (x5 : Int32) (ls : Array Slot), lv_has ls 6 [(0, .ref aM), (1, .int x1), (2, .int x2), (3, .int x3), (4, .int x4), (5, .int x5)] → lp_X10_holeOf_25 m_shut m_told m_rank x1 (lp_X10_holeOf_5 m_shut m_told m_rank x1 n5) n25 x2 x3 x4 x5 = some r → W p l e ({ frames := 2, cells := 0, slots := 0, locals := 48 } : Room) s m ([.ref aM, .int x1] : List Value).toArray below meth c H0 [] 0 0 (MQ below (QR (some (.int r)) H0) ([.ref aM, .int x1] : List Value).toArray s 0 0 (fun _ => False)) (F0 m 25 ls []) := by
        intro n25
        induction n25 with
        | zero =>
          intro x2 x3 x4 x5 ls hl hf
          rw [lp_X10_holeOf_25_z] at hf
          cases hf
        | succ n25 ih25 =>
          have J68 : ∀ (x2 : Int32) (x3 : Int32) (x5 : Int32) (k0 : Int32) (ls : Array Slot), lv_has ls 6 [(0, .ref aM), (1, .int x1), (2, .int x2), (3, .int x3), (5, .int x5)] → j_X10_holeOf_68 (lp_X10_holeOf_25 m_shut m_told m_rank x1 (lp_X10_holeOf_5 m_shut m_told m_rank x1 n5) n25) x2 x3 x5 k0 = some r → W p l e ({ frames := 2, cells := 0, slots := 0, locals := 48 } : Room) s m ([.ref aM, .int x1] : List Value).toArray below meth c H0 [] 0 0 (MQ below (QR (some (.int r)) H0) ([.ref aM, .int x1] : List Value).toArray s 0 0 (fun _ => False)) (F0 m 68 ls [.int k0]) := by
            intro x2 x3 x5 k0 ls hl hf
            rw [j_X10_holeOf_68] at hf
            refine lv_istore (lv' := [(4, .int k0), (0, .ref aM), (1, .int x1), (2, .int x2), (3, .int x3), (5, .int x5)]) hx hb dX10_holeOf_68 hl (by decide) rfl (fun ls hl => ?_)
            refine lv_iinc (v := (x5 + 1)) (lv' := [(5, .int (x5 + 1)), (4, .int k0), (0, .ref aM), (1, .int x1), (2, .int x2), (3, .int x3)]) hx hb dX10_holeOf_70 hl (k := 5) rfl rfl (by decide) rfl (fun ls hl => ?_)
            refine lv_goto (tgt := 25) hx hb dX10_holeOf_73 (by decide) ?_
            exact ih25 x2 x3 k0 (x5 + 1) ls (lv_sub hl [2, 3, 4, 5, 1, 0] rfl) hf
          intro x2 x3 x4 x5 ls hl hf
          rw [lp_X10_holeOf_25_s] at hf
          refine lv_iload hx hb dX10_holeOf_25 (lv_at hl 5 rfl) ?_
          refine lv_aload_n hx hb dX10_holeOf_27 rfl (lv_at hl 0 rfl) ?_
          obtain ⟨z28, hz28, hf⟩ := q_bind hf
          refine q_rdV (As := []) (rest := [.int x5]) (st2 := [.int z28, .int x5]) S hk (c_X10_cells l D cy H0 aM aM_told aM_draft aM_past aM_kept aM_isKept aM_seenLine aM_seenIs aM_rank aM_stage aM_text m_thrown m_shut m_dots m_draftShut m_draftDots m_undos m_base m_slopeX m_slopeY m_seen m_letters m_next m_begin m_token m_gain m_bestDot m_bestCell m_told z28 (hP.sub [0, 1] rfl) hz28) ok_X10_cells tw_931 ⟨rfl, rfl, Nat.le_of_ble_eq_true rfl, Nat.le_of_ble_eq_true rfl⟩ (va_recv hk.1 hP (ci := 10) (q0 := 0) rfl rfl) rfl hl.1 rfl (Nat.le_of_ble_eq_true rfl) dX10_holeOf_28 ⟨Nat.zero_le _, Nat.zero_le _⟩ rfl ?_
          refine lv_icmp_ge (tgt := 76) hx hb dX10_holeOf_31 (by decide) (fun hc => ?_) (fun hc => ?_)
          · have hf := q_t hc hf
            refine lv_aload_n hx hb dX10_holeOf_76 rfl (lv_at hl 0 rfl) ?_
            refine lv_iload_n hx hb dX10_holeOf_77 rfl (lv_at hl 3 rfl) ?_
            obtain ⟨z78, hz78, hf⟩ := q_bind hf
            refine q_rdV (As := [.int x3]) (rest := []) (st2 := [.int z78]) S hk (c_X10_isFree l D cy H0 aM aM_told aM_draft aM_past aM_kept aM_isKept aM_seenLine aM_seenIs aM_rank aM_stage aM_text m_thrown m_shut m_dots m_draftShut m_draftDots m_undos m_base m_slopeX m_slopeY m_seen m_letters m_next m_begin m_token m_gain m_bestDot m_bestCell x3 z78 (hP.sub [0] rfl) hz78) ok_X10_isFree tw_979 ⟨rfl, rfl, Nat.le_of_ble_eq_true rfl, Nat.le_of_ble_eq_true rfl⟩ (va_recv hk.1 hP (ci := 10) (q0 := 0) rfl rfl) rfl hl.1 rfl (Nat.le_of_ble_eq_true rfl) dX10_holeOf_78 ⟨Nat.zero_le _, Nat.zero_le _⟩ rfl ?_
            refine lv_if_eq (tgt := 95) hx hb dX10_holeOf_81 (by decide) (fun hc => ?_) (fun hc => ?_)
            · have hf := q_t hc hf
              refine lv_iload_n hx hb dX10_holeOf_95 rfl (lv_at hl 2 rfl) ?_
              exact J96 x3 x2 ls (lv_sub hl [0, 1, 3] rfl) hf
            · have hf := q_f hc hf
              refine lv_iload hx hb dX10_holeOf_84 (lv_at hl 4 rfl) ?_
              refine lv_iload_n hx hb dX10_holeOf_86 rfl (lv_at hl 2 rfl) ?_
              refine lv_icmp_le (tgt := 95) hx hb dX10_holeOf_87 (by decide) (fun hc => ?_) (fun hc => ?_)
              · have hf := q_t hc hf
                refine lv_iload_n hx hb dX10_holeOf_95 rfl (lv_at hl 2 rfl) ?_
                exact J96 x3 x2 ls (lv_sub hl [0, 1, 3] rfl) hf
              · have hf := q_f hc hf
                refine lv_iload hx hb dX10_holeOf_90 (lv_at hl 4 rfl) ?_
                refine lv_goto (tgt := 96) hx hb dX10_holeOf_92 (by decide) ?_
                exact J96 x3 x4 ls (lv_sub hl [0, 1, 3] rfl) hf
          · have hf := q_f hc hf
            refine lv_aload_n hx hb dX10_holeOf_34 rfl (lv_at hl 0 rfl) ?_
            refine lv_iload hx hb dX10_holeOf_35 (lv_at hl 5 rfl) ?_
            refine lv_iload_n hx hb dX10_holeOf_37 rfl (lv_at hl 1 rfl) ?_
            obtain ⟨z38, hz38, hf⟩ := q_bind hf
            refine q_rdV (As := [.int x5, .int x1]) (rest := []) (st2 := [.int z38]) S hk (c_X10_isIn l D cy H0 aM aM_told aM_draft aM_past aM_kept aM_isKept aM_seenLine aM_seenIs aM_rank aM_stage aM_text m_thrown m_shut m_dots m_draftShut m_draftDots m_undos m_base m_slopeX m_slopeY m_seen m_letters m_next m_begin m_token m_gain m_bestDot m_bestCell m_rank x5 x1 z38 (hP.sub [0, 2] rfl) hz38) ok_X10_isIn tw_1057 ⟨rfl, rfl, Nat.le_of_ble_eq_true rfl, Nat.le_of_ble_eq_true rfl⟩ (va_recv hk.1 hP (ci := 10) (q0 := 0) rfl rfl) rfl hl.1 rfl (Nat.le_of_ble_eq_true rfl) dX10_holeOf_38 ⟨Nat.zero_le _, Nat.zero_le _⟩ rfl ?_
            refine lv_if_eq (tgt := 66) hx hb dX10_holeOf_41 (by decide) (fun hc => ?_) (fun hc => ?_)
            · have hf := q_t hc hf
              refine lv_iload hx hb dX10_holeOf_66 (lv_at hl 4 rfl) ?_
              exact J68 x2 x3 x5 x4 ls (lv_sub hl [0, 1, 2, 3, 5] rfl) hf
            · have hf := q_f hc hf
              refine lv_aload_n hx hb dX10_holeOf_44 rfl (lv_at hl 0 rfl) ?_
              refine lv_iload_n hx hb dX10_holeOf_45 rfl (lv_at hl 3 rfl) ?_
              refine lv_iload hx hb dX10_holeOf_46 (lv_at hl 5 rfl) ?_
              obtain ⟨z48, hz48, hf⟩ := q_bind hf
              refine q_rdV (As := [.int x3, .int x5]) (rest := []) (st2 := [.int z48]) S hk (c_X10_distance l D cy H0 aM aM_told aM_draft aM_past aM_kept aM_isKept aM_seenLine aM_seenIs aM_rank aM_stage aM_text m_thrown m_shut m_dots m_draftShut m_draftDots m_undos m_base m_slopeX m_slopeY m_seen m_letters m_next m_begin m_token m_gain m_bestDot m_bestCell m_told x3 x5 z48 (hP.sub [0, 1] rfl) hz48) ok_X10_distance tw_935 ⟨rfl, rfl, Nat.le_of_ble_eq_true rfl, Nat.le_of_ble_eq_true rfl⟩ (va_recv hk.1 hP (ci := 10) (q0 := 0) rfl rfl) rfl hl.1 rfl (Nat.le_of_ble_eq_true rfl) dX10_holeOf_48 ⟨Nat.zero_le _, Nat.zero_le _⟩ rfl ?_
              refine lv_iload hx hb dX10_holeOf_51 (lv_at hl 4 rfl) ?_
              refine lv_icmp_ge (tgt := 66) hx hb dX10_holeOf_53 (by decide) (fun hc => ?_) (fun hc => ?_)
              · have hf := q_t hc hf
                refine lv_iload hx hb dX10_holeOf_66 (lv_at hl 4 rfl) ?_
                exact J68 x2 x3 x5 x4 ls (lv_sub hl [0, 1, 2, 3, 5] rfl) hf
              · have hf := q_f hc hf
                refine lv_aload_n hx hb dX10_holeOf_56 rfl (lv_at hl 0 rfl) ?_
                refine lv_iload_n hx hb dX10_holeOf_57 rfl (lv_at hl 3 rfl) ?_
                refine lv_iload hx hb dX10_holeOf_58 (lv_at hl 5 rfl) ?_
                obtain ⟨z60, hz60, hf⟩ := q_bind hf
                refine q_rdV (As := [.int x3, .int x5]) (rest := []) (st2 := [.int z60]) S hk (c_X10_distance l D cy H0 aM aM_told aM_draft aM_past aM_kept aM_isKept aM_seenLine aM_seenIs aM_rank aM_stage aM_text m_thrown m_shut m_dots m_draftShut m_draftDots m_undos m_base m_slopeX m_slopeY m_seen m_letters m_next m_begin m_token m_gain m_bestDot m_bestCell m_told x3 x5 z60 (hP.sub [0, 1] rfl) hz60) ok_X10_distance tw_935 ⟨rfl, rfl, Nat.le_of_ble_eq_true rfl, Nat.le_of_ble_eq_true rfl⟩ (va_recv hk.1 hP (ci := 10) (q0 := 0) rfl rfl) rfl hl.1 rfl (Nat.le_of_ble_eq_true rfl) dX10_holeOf_60 ⟨Nat.zero_le _, Nat.zero_le _⟩ rfl ?_
                refine lv_goto (tgt := 68) hx hb dX10_holeOf_63 (by decide) ?_
                exact J68 x2 x3 x5 z60 ls (lv_sub hl [0, 1, 2, 3, 5] rfl) hf
      intro x2 x3 ls hl hf
      rw [lp_X10_holeOf_5_s] at hf
      refine lv_iload_n hx hb dX10_holeOf_5 rfl (lv_at hl 3 rfl) ?_
      refine lv_aload_n hx hb dX10_holeOf_6 rfl (lv_at hl 0 rfl) ?_
      obtain ⟨z7, hz7, hf⟩ := q_bind hf
      refine q_rdV (As := []) (rest := [.int x3]) (st2 := [.int z7, .int x3]) S hk (c_X10_cells l D cy H0 aM aM_told aM_draft aM_past aM_kept aM_isKept aM_seenLine aM_seenIs aM_rank aM_stage aM_text m_thrown m_shut m_dots m_draftShut m_draftDots m_undos m_base m_slopeX m_slopeY m_seen m_letters m_next m_begin m_token m_gain m_bestDot m_bestCell m_told z7 (hP.sub [0, 1] rfl) hz7) ok_X10_cells tw_931 ⟨rfl, rfl, Nat.le_of_ble_eq_true rfl, Nat.le_of_ble_eq_true rfl⟩ (va_recv hk.1 hP (ci := 10) (q0 := 0) rfl rfl) rfl hl.1 rfl (Nat.le_of_ble_eq_true rfl) dX10_holeOf_7 ⟨Nat.zero_le _, Nat.zero_le _⟩ rfl ?_
      refine lv_icmp_ge (tgt := 103) hx hb dX10_holeOf_10 (by decide) (fun hc => ?_) (fun hc => ?_)
      · have hf := q_t hc hf
        refine lv_iload_n hx hb dX10_holeOf_103 rfl (lv_at hl 2 rfl) ?_
        have hf := Option.some.inj hf
        subst hf
        exact q_riR hx hb hr hlocks dX10_holeOf_104
      · have hf := q_f hc hf
        refine lv_iload_n hx hb dX10_holeOf_13 rfl (lv_at hl 1 rfl) ?_
        refine lv_if_le (tgt := 103) hx hb dX10_holeOf_14 (by decide) (fun hc => ?_) (fun hc => ?_)
        · have hf := q_t hc hf
          refine lv_iload_n hx hb dX10_holeOf_103 rfl (lv_at hl 2 rfl) ?_
          have hf := Option.some.inj hf
          subst hf
          exact q_riR hx hb hr hlocks dX10_holeOf_104
        · have hf := q_f hc hf
          refine lv_sipush (v := (1000 : Int32)) hx hb dX10_holeOf_17 (by decide) ?_
          refine lv_istore (lv' := [(4, .int (1000 : Int32)), (0, .ref aM), (1, .int x1), (2, .int x2), (3, .int x3)]) hx hb dX10_holeOf_20 hl (by decide) rfl (fun ls hl => ?_)
          refine lv_iconst (v := (0 : Int32)) hx hb dX10_holeOf_22 (by decide) ?_
          refine lv_istore (lv' := [(5, .int (0 : Int32)), (4, .int (1000 : Int32)), (0, .ref aM), (1, .int x1), (2, .int x2), (3, .int x3)]) hx hb dX10_holeOf_23 hl (by decide) rfl (fun ls hl => ?_)
          exact J25 FU x2 x3 (1000 : Int32) (0 : Int32) ls (lv_sub hl [2, 3, 4, 5, 1, 0] rfl) hf
  refine lv_bipush (v := (-9 : Int32)) hx hb dX10_holeOf_0 (by decide) ?_
  refine lv_istore_n (lv' := [(2, .int (-9 : Int32)), (0, .ref aM), (1, .int x1)]) hx hb dX10_holeOf_2 rfl hl (by decide) rfl (fun ls hl => ?_)
  refine lv_iconst (v := (0 : Int32)) hx hb dX10_holeOf_3 (by decide) ?_
  refine lv_istore_n (lv' := [(3, .int (0 : Int32)), (2, .int (-9 : Int32)), (0, .ref aM), (1, .int x1)]) hx hb dX10_holeOf_4 rfl hl (by decide) rfl (fun ls hl => ?_)
  exact J5 FU (-9 : Int32) (0 : Int32) ls (lv_sub hl [2, 3, 1, 0] rfl) hf
def f_X10_shade (m_thrown : Int32) (m_shut : Int64) (m_dots : Int64) (m_told : Nat → Int32) (m_rank : Nat → Int32) (m_stage : Nat → Int32) (x1 : Int32) (x2 : Int32) : Option (Int32 × Int32 × (Nat → Int32) × (Nat → Int32)) := (f_X10_free m_shut m_told).bind (fun z8 => (f_X10_in x1 (0 : Int32) z8).bind (fun z11 => if z11 = 0 then (some ((-1 : Int32), (0 : Int32), m_rank, m_stage)) else ((f_X10_in x2 (0 : Int32) (1 : Int32)).bind (fun z20 => if z20 = 0 then (some ((-1 : Int32), (0 : Int32), m_rank, m_stage)) else (if (lg_cmp m_dots (0 : Int64)) = 0 then (some ((-2 : Int32), (0 : Int32), m_rank, m_stage)) else ((f_X10_ranks m_shut m_dots m_told m_rank m_stage).bind (fun z41 => if x2 = 0 then ((f_X10_gapOf m_told (z41.1) x1).bind (fun z50 => some (z50, (0 : Int32), (z41.1), (z41.2)))) else ((f_X10_holeOf m_shut m_told (z41.1) x1).bind (fun z58 => some (z58, (0 : Int32), (z41.1), (z41.2)))))))))))
theorem ok_X10_shade : OkV yX10_shade cX10_shade 3 (some Jvm.ClassFile.FieldType.int) 2 := ⟨⟨tw_1052, tw_13, by decide +kernel, by decide +kernel, by decide +kernel⟩, tw_1050, tw_1051⟩
set_option maxHeartbeats 4000000 in
set_option maxRecDepth 100000 in
theorem c_X10_shade (l : Launch) (D : va_G) (cy : ClassId × ClassId × ClassId) (H0 : Heap) (aM aM_told aM_draft aM_past aM_kept aM_isKept aM_seenLine aM_seenIs aM_rank aM_stage aM_text : Nat) (m_thrown : Int32) (m_shut : Int64) (m_dots : Int64) (m_draftShut : Int64) (m_draftDots : Int64) (m_undos : Int32) (m_base : Int32) (m_slopeX : Int32) (m_slopeY : Int32) (m_seen : Int32) (m_letters : Int32) (m_next : Int32) (m_begin : Int32) (m_token : Int32) (m_gain : Int32) (m_bestDot : Int32) (m_bestCell : Int32) (m_told : Nat → Int32) (m_rank : Nat → Int32) (m_stage : Nat → Int32) (x1 : Int32) (x2 : Int32) (r : Int32 × Int32 × (Nat → Int32) × (Nat → Int32)) (hP : va_P D vwCl [(aM, .inr (10, [.int m_thrown, .ref aM_told, .ref aM_draft, .long m_shut, .long m_dots, .long m_draftShut, .long m_draftDots, .int m_undos, .ref aM_past, .ref aM_kept, .ref aM_isKept, .int m_base, .int m_slopeX, .int m_slopeY, .int m_seen, .ref aM_seenLine, .ref aM_seenIs, .ref aM_rank, .ref aM_stage, .int m_letters, .ref aM_text, .int m_next, .int m_begin, .int m_token, .int m_gain, .int m_bestDot, .int m_bestCell])), (aM_told, .inl (cy.1, 7, .inl m_told)), (aM_rank, .inl (cy.1, 64, .inl m_rank)), (aM_stage, .inl (cy.1, 64, .inl m_stage))] H0) (hD0 : va_D (fun _ => True) [(aM, .inr (10, [.int m_thrown, .ref aM_told, .ref aM_draft, .long m_shut, .long m_dots, .long m_draftShut, .long m_draftDots, .int m_undos, .ref aM_past, .ref aM_kept, .ref aM_isKept, .int m_base, .int m_slopeX, .int m_slopeY, .int m_seen, .ref aM_seenLine, .ref aM_seenIs, .ref aM_rank, .ref aM_stage, .int m_letters, .ref aM_text, .int m_next, .int m_begin, .int m_token, .int m_gain, .int m_bestDot, .int m_bestCell])), (aM_told, .inl (cy.1, 7, .inl m_told)), (aM_rank, .inl (cy.1, 64, .inl m_rank)), (aM_stage, .inl (cy.1, 64, .inl m_stage))]) (hf : f_X10_shade m_thrown m_shut m_dots m_told m_rank m_stage x1 x2 = some r) : Wr l yX10_shade cX10_shade 3 (some Jvm.ClassFile.FieldType.int) ({ frames := 6, cells := 0, slots := 0, locals := 154 } : Room) ([.ref aM, .int x1, .int x2] : List Value) (some (.int (r.1))) D cy H0 [(aM, .inr (10, [.int m_thrown, .ref aM_told, .ref aM_draft, .long m_shut, .long m_dots, .long m_draftShut, .long m_draftDots, .int m_undos, .ref aM_past, .ref aM_kept, .ref aM_isKept, .int m_base, .int m_slopeX, .int m_slopeY, .int m_seen, .ref aM_seenLine, .ref aM_seenIs, .ref aM_rank, .ref aM_stage, .int m_letters, .ref aM_text, .int m_next, .int m_begin, .int m_token, .int m_gain, .int m_bestDot, .int m_bestCell])), (aM_told, .inl (cy.1, 7, .inl m_told)), (aM_rank, .inl (cy.1, 64, .inl m_rank)), (aM_stage, .inl (cy.1, 64, .inl m_stage))] [(aM, .inr (10, [.int (r.2.1), .ref aM_told, .ref aM_draft, .long m_shut, .long m_dots, .long m_draftShut, .long m_draftDots, .int m_undos, .ref aM_past, .ref aM_kept, .ref aM_isKept, .int m_base, .int m_slopeX, .int m_slopeY, .int m_seen, .ref aM_seenLine, .ref aM_seenIs, .ref aM_rank, .ref aM_stage, .int m_letters, .ref aM_text, .int m_next, .int m_begin, .int m_token, .int m_gain, .int m_bestDot, .int m_bestCell])), (aM_told, .inl (cy.1, 7, .inl m_told)), (aM_rank, .inl (cy.1, 64, .inl (r.2.2.1))), (aM_stage, .inl (cy.1, 64, .inl (r.2.2.2)))] := by
  refine wr_of (by decide +kernel) (Nat.le_of_ble_eq_true rfl) hD0 ?_
  intro p e s m below meth c ls A S hr hlocks hk hl hD hS hA
  obtain ⟨hx, hb, hml, hown, hts⟩ := id S
  have hl : lv_has ls 3 [(0, .ref aM), (1, .int x1), (2, .int x2)] := hl
  rw [f_X10_shade] at hf
  refine lv_aload_n hx hb dX10_shade_0 rfl (lv_at hl 0 rfl) ?_
  refine lv_iconst (v := (0 : Int32)) hx hb dX10_shade_1 (by decide) ?_
  refine va_put (D := D) (ci := 10) (v := .int (0 : Int32)) (ty := .int) (C := RX10) (T := TX10) (N := 27) hx hb hts iX10 tyX10 tyX10_ok nmX10 hown hk.1 hP hD hS 0 rfl rfl 0 (by decide) (hts _ tw_783) (fun _ h9 => h9) rfl (by decide +kernel) rfl rfl (Nat.le_of_ble_eq_true rfl) dX10_shade_2 (fun H locs hP hD hS => ?_)
  have hP : va_P D vwCl [(aM, .inr (10, [.int (0 : Int32), .ref aM_told, .ref aM_draft, .long m_shut, .long m_dots, .long m_draftShut, .long m_draftDots, .int m_undos, .ref aM_past, .ref aM_kept, .ref aM_isKept, .int m_base, .int m_slopeX, .int m_slopeY, .int m_seen, .ref aM_seenLine, .ref aM_seenIs, .ref aM_rank, .ref aM_stage, .int m_letters, .ref aM_text, .int m_next, .int m_begin, .int m_token, .int m_gain, .int m_bestDot, .int m_bestCell])), (aM_told, .inl (cy.1, 7, .inl m_told)), (aM_rank, .inl (cy.1, 64, .inl m_rank)), (aM_stage, .inl (cy.1, 64, .inl m_stage))] H := hP
  have hD : va_D A [(aM, .inr (10, [.int (0 : Int32), .ref aM_told, .ref aM_draft, .long m_shut, .long m_dots, .long m_draftShut, .long m_draftDots, .int m_undos, .ref aM_past, .ref aM_kept, .ref aM_isKept, .int m_base, .int m_slopeX, .int m_slopeY, .int m_seen, .ref aM_seenLine, .ref aM_seenIs, .ref aM_rank, .ref aM_stage, .int m_letters, .ref aM_text, .int m_next, .int m_begin, .int m_token, .int m_gain, .int m_bestDot, .int m_bestCell])), (aM_told, .inl (cy.1, 7, .inl m_told)), (aM_rank, .inl (cy.1, 64, .inl m_rank)), (aM_stage, .inl (cy.1, 64, .inl m_stage))] := hD
  refine lv_iload_n hx hb dX10_shade_5 rfl (lv_at hl 1 rfl) ?_
  refine lv_iconst (v := (0 : Int32)) hx hb dX10_shade_6 (by decide) ?_
  refine lv_aload_n hx hb dX10_shade_7 rfl (lv_at hl 0 rfl) ?_
  obtain ⟨z8, hz8, hf⟩ := q_bind hf
  refine q_rdV (As := []) (rest := [.int (0 : Int32), .int x1]) (st2 := [.int z8, .int (0 : Int32), .int x1]) S hk (c_X10_free l D cy H aM aM_told aM_draft aM_past aM_kept aM_isKept aM_seenLine aM_seenIs aM_rank aM_stage aM_text (0 : Int32) m_shut m_dots m_draftShut m_draftDots m_undos m_base m_slopeX m_slopeY m_seen m_letters m_next m_begin m_token m_gain m_bestDot m_bestCell m_told z8 (hP.sub [0, 1] rfl) hz8) ok_X10_free tw_1037 ⟨rfl, rfl, Nat.le_of_ble_eq_true rfl, Nat.le_of_ble_eq_true rfl⟩ (va_recv hk.1 hP (ci := 10) (q0 := 0) rfl rfl) rfl hl.1 rfl (Nat.le_of_ble_eq_true rfl) dX10_shade_8 ⟨Nat.zero_le _, Nat.zero_le _⟩ rfl ?_
  obtain ⟨z11, hz11, hf⟩ := q_bind hf
  refine q_rdS (As := [.int x1, .int (0 : Int32), .int z8]) (rest := []) (st2 := [.int z11]) S hk (c_X10_in l D cy H x1 (0 : Int32) z8 z11 hz11) ok_X10_in tw_869 ⟨rfl, rfl, Nat.le_of_ble_eq_true rfl, Nat.le_of_ble_eq_true rfl⟩ rfl hl.1 rfl (Nat.le_of_ble_eq_true rfl) dX10_shade_11 ⟨Nat.zero_le _, Nat.zero_le _⟩ rfl ?_
  refine lv_if_eq (tgt := 26) hx hb dX10_shade_14 (by decide) (fun hc => ?_) (fun hc => ?_)
  · have hf := q_t hc hf
    refine lv_iconst (v := (-1 : Int32)) hx hb dX10_shade_26 (by decide) ?_
    have hf := Option.some.inj hf
    subst hf
    exact q_riW hP hS hx hb hr hlocks dX10_shade_27
  · have hf := q_f hc hf
    refine lv_iload_n hx hb dX10_shade_17 rfl (lv_at hl 2 rfl) ?_
    refine lv_iconst (v := (0 : Int32)) hx hb dX10_shade_18 (by decide) ?_
    refine lv_iconst (v := (1 : Int32)) hx hb dX10_shade_19 (by decide) ?_
    obtain ⟨z20, hz20, hf⟩ := q_bind hf
    refine q_rdS (As := [.int x2, .int (0 : Int32), .int (1 : Int32)]) (rest := []) (st2 := [.int z20]) S hk (c_X10_in l D cy H x2 (0 : Int32) (1 : Int32) z20 hz20) ok_X10_in tw_869 ⟨rfl, rfl, Nat.le_of_ble_eq_true rfl, Nat.le_of_ble_eq_true rfl⟩ rfl hl.1 rfl (Nat.le_of_ble_eq_true rfl) dX10_shade_20 ⟨Nat.zero_le _, Nat.zero_le _⟩ rfl ?_
    refine lv_if_ne (tgt := 28) hx hb dX10_shade_23 (by decide) (fun hc => ?_) (fun hc => ?_)
    · have hf := q_f hc hf
      refine lv_aload_n hx hb dX10_shade_28 rfl (lv_at hl 0 rfl) ?_
      refine va_get (D := D) (ci := 10) (v := .long m_dots) (C := RX10) (T := TX10) (N := 27) hx hb hts iX10 hown hk.1 hP 0 rfl rfl 4 (by decide) (hts _ tw_787) (fun _ h9 => h9) rfl dX10_shade_29 ?_
      refine lv_lconst (v := (0 : Int64)) hx hb dX10_shade_32 (by decide) ?_
      refine W.lcmp hx hb dX10_shade_33 ?_
      refine lv_if_ne (tgt := 40) hx hb dX10_shade_34 (by decide) (fun hc => ?_) (fun hc => ?_)
      · have hf := q_f hc hf
        refine lv_aload_n hx hb dX10_shade_40 rfl (lv_at hl 0 rfl) ?_
        obtain ⟨z41, hz41, hf⟩ := q_bind hf
        refine q_wrV (As := []) (rest := []) (st2 := []) (ws' := [(aM, .inr (10, [.int (0 : Int32), .ref aM_told, .ref aM_draft, .long m_shut, .long m_dots, .long m_draftShut, .long m_draftDots, .int m_undos, .ref aM_past, .ref aM_kept, .ref aM_isKept, .int m_base, .int m_slopeX, .int m_slopeY, .int m_seen, .ref aM_seenLine, .ref aM_seenIs, .ref aM_rank, .ref aM_stage, .int m_letters, .ref aM_text, .int m_next, .int m_begin, .int m_token, .int m_gain, .int m_bestDot, .int m_bestCell])), (aM_told, .inl (cy.1, 7, .inl m_told)), (aM_rank, .inl (cy.1, 64, .inl (z41.1))), (aM_stage, .inl (cy.1, 64, .inl (z41.2)))]) S hk (c_X10_ranks l D cy H aM aM_told aM_draft aM_past aM_kept aM_isKept aM_seenLine aM_seenIs aM_rank aM_stage aM_text (0 : Int32) m_shut m_dots m_draftShut m_draftDots m_undos m_base m_slopeX m_slopeY m_seen m_letters m_next m_begin m_token m_gain m_bestDot m_bestCell m_told m_rank m_stage z41 (hP.sub [0, 1, 2, 3] rfl) (qD_sub hD [0, 1, 2, 3] (by decide) rfl) hz41) ok_X10_ranks tw_1030 ⟨rfl, rfl, Nat.le_of_ble_eq_true rfl, Nat.le_of_ble_eq_true rfl⟩ (va_recv hk.1 hP (ci := 10) (q0 := 0) rfl rfl) rfl hl.1 rfl (Nat.le_of_ble_eq_true rfl) dX10_shade_41 ⟨Nat.zero_le _, Nat.zero_le _⟩ rfl hP hD hS hA [0, 1, 2, 3] rfl rfl rfl rfl (fun H locs hP hD hS => ?_)
        refine lv_iload_n hx hb dX10_shade_44 rfl (lv_at hl 2 rfl) ?_
        refine lv_if_ne (tgt := 56) hx hb dX10_shade_45 (by decide) (fun hc => ?_) (fun hc => ?_)
        · have hf := q_f hc hf
          refine lv_aload_n hx hb dX10_shade_56 rfl (lv_at hl 0 rfl) ?_
          refine lv_iload_n hx hb dX10_shade_57 rfl (lv_at hl 1 rfl) ?_
          obtain ⟨z58, hz58, hf⟩ := q_bind hf
          refine q_rdV (As := [.int x1]) (rest := []) (st2 := [.int z58]) S hk (c_X10_holeOf l D cy H aM aM_told aM_draft aM_past aM_kept aM_isKept aM_seenLine aM_seenIs aM_rank aM_stage aM_text (0 : Int32) m_shut m_dots m_draftShut m_draftDots m_undos m_base m_slopeX m_slopeY m_seen m_letters m_next m_begin m_token m_gain m_bestDot m_bestCell m_told (z41.1) x1 z58 (hP.sub [0, 1, 2] rfl) hz58) ok_X10_holeOf tw_1061 ⟨rfl, rfl, Nat.le_of_ble_eq_true rfl, Nat.le_of_ble_eq_true rfl⟩ (va_recv hk.1 hP (ci := 10) (q0 := 0) rfl rfl) rfl hl.1 rfl (Nat.le_of_ble_eq_true rfl) dX10_shade_58 ⟨Nat.zero_le _, Nat.zero_le _⟩ rfl ?_
          have hf := Option.some.inj hf
          subst hf
          exact q_riW hP hS hx hb hr hlocks dX10_shade_61
        · have hf := q_t hc hf
          refine lv_aload_n hx hb dX10_shade_48 rfl (lv_at hl 0 rfl) ?_
          refine lv_iload_n hx hb dX10_shade_49 rfl (lv_at hl 1 rfl) ?_
          obtain ⟨z50, hz50, hf⟩ := q_bind hf
          refine q_rdV (As := [.int x1]) (rest := []) (st2 := [.int z50]) S hk (c_X10_gapOf l D cy H aM aM_told aM_draft aM_past aM_kept aM_isKept aM_seenLine aM_seenIs aM_rank aM_stage aM_text (0 : Int32) m_shut m_dots m_draftShut m_draftDots m_undos m_base m_slopeX m_slopeY m_seen m_letters m_next m_begin m_token m_gain m_bestDot m_bestCell m_told (z41.1) x1 z50 (hP.sub [0, 1, 2] rfl) hz50) ok_X10_gapOf tw_1053 ⟨rfl, rfl, Nat.le_of_ble_eq_true rfl, Nat.le_of_ble_eq_true rfl⟩ (va_recv hk.1 hP (ci := 10) (q0 := 0) rfl rfl) rfl hl.1 rfl (Nat.le_of_ble_eq_true rfl) dX10_shade_50 ⟨Nat.zero_le _, Nat.zero_le _⟩ rfl ?_
          refine lv_goto (tgt := 61) hx hb dX10_shade_53 (by decide) ?_
          have hf := Option.some.inj hf
          subst hf
          exact q_riW hP hS hx hb hr hlocks dX10_shade_61
      · have hf := q_t hc hf
        refine lv_bipush (v := (-2 : Int32)) hx hb dX10_shade_37 (by decide) ?_
        have hf := Option.some.inj hf
        subst hf
        exact q_riW hP hS hx hb hr hlocks dX10_shade_39
    · have hf := q_t hc hf
      refine lv_iconst (v := (-1 : Int32)) hx hb dX10_shade_26 (by decide) ?_
      have hf := Option.some.inj hf
      subst hf
      exact q_riW hP hS hx hb hr hlocks dX10_shade_27
def lp_X10_finest_39 (m_told : Nat → Int32) (x1 : Int32) : Nat → Int32 → Int32 → (Nat → Int32) → (Nat → Int32) → Option (Int32 × Int32 × (Nat → Int32) × (Nat → Int32))
  | 0, _, _, _, _ => none
  | n + 1, x2, m_thrown, m_rank, m_stage => if x2 ≤ (1 : Int32) then (some (x2, m_thrown, m_rank, m_stage)) else ((f_X10_gapOf m_told m_rank x2).bind (fun z46 => if x1 ≤ z46 then (some (x2, m_thrown, m_rank, m_stage)) else (lp_X10_finest_39 m_told x1 n (x2 + (-1)) m_thrown m_rank m_stage)))
theorem lp_X10_finest_39_s (m_told : Nat → Int32) (x1 : Int32) (n : Nat) (x2 : Int32) (m_thrown : Int32) (m_rank : Nat → Int32) (m_stage : Nat → Int32) : lp_X10_finest_39 m_told x1 (n + 1) x2 m_thrown m_rank m_stage = (if x2 ≤ (1 : Int32) then (some (x2, m_thrown, m_rank, m_stage)) else ((f_X10_gapOf m_told m_rank x2).bind (fun z46 => if x1 ≤ z46 then (some (x2, m_thrown, m_rank, m_stage)) else (lp_X10_finest_39 m_told x1 n (x2 + (-1)) m_thrown m_rank m_stage)))) := rfl
theorem lp_X10_finest_39_z (m_told : Nat → Int32) (x1 : Int32) (x2 : Int32) (m_thrown : Int32) (m_rank : Nat → Int32) (m_stage : Nat → Int32) : lp_X10_finest_39 m_told x1 0 x2 m_thrown m_rank m_stage = none := rfl
def f_X10_finest (m_thrown : Int32) (m_shut : Int64) (m_dots : Int64) (m_told : Nat → Int32) (m_rank : Nat → Int32) (m_stage : Nat → Int32) (x1 : Int32) : Option (Int32 × Int32 × (Nat → Int32) × (Nat → Int32)) := (f_X10_in x1 (0 : Int32) (999 : Int32)).bind (fun z10 => if z10 = 0 then (some ((-1 : Int32), (0 : Int32), m_rank, m_stage)) else (if (lg_cmp m_dots (0 : Int64)) = 0 then (some ((-2 : Int32), (0 : Int32), m_rank, m_stage)) else ((f_X10_ranks m_shut m_dots m_told m_rank m_stage).bind (fun z31 => (f_X10_free m_shut m_told).bind (fun z35 => lp_X10_finest_39 m_told x1 FU z35 (0 : Int32) (z31.1) (z31.2))))))
theorem ok_X10_finest : OkV yX10_finest cX10_finest 3 (some Jvm.ClassFile.FieldType.int) 1 := ⟨⟨tw_1068, tw_13, by decide +kernel, by decide +kernel, by decide +kernel⟩, tw_1066, tw_1067⟩
set_option maxHeartbeats 4000000 in
set_option maxRecDepth 100000 in
theorem c_X10_finest (l : Launch) (D : va_G) (cy : ClassId × ClassId × ClassId) (H0 : Heap) (aM aM_told aM_draft aM_past aM_kept aM_isKept aM_seenLine aM_seenIs aM_rank aM_stage aM_text : Nat) (m_thrown : Int32) (m_shut : Int64) (m_dots : Int64) (m_draftShut : Int64) (m_draftDots : Int64) (m_undos : Int32) (m_base : Int32) (m_slopeX : Int32) (m_slopeY : Int32) (m_seen : Int32) (m_letters : Int32) (m_next : Int32) (m_begin : Int32) (m_token : Int32) (m_gain : Int32) (m_bestDot : Int32) (m_bestCell : Int32) (m_told : Nat → Int32) (m_rank : Nat → Int32) (m_stage : Nat → Int32) (x1 : Int32) (r : Int32 × Int32 × (Nat → Int32) × (Nat → Int32)) (hP : va_P D vwCl [(aM, .inr (10, [.int m_thrown, .ref aM_told, .ref aM_draft, .long m_shut, .long m_dots, .long m_draftShut, .long m_draftDots, .int m_undos, .ref aM_past, .ref aM_kept, .ref aM_isKept, .int m_base, .int m_slopeX, .int m_slopeY, .int m_seen, .ref aM_seenLine, .ref aM_seenIs, .ref aM_rank, .ref aM_stage, .int m_letters, .ref aM_text, .int m_next, .int m_begin, .int m_token, .int m_gain, .int m_bestDot, .int m_bestCell])), (aM_told, .inl (cy.1, 7, .inl m_told)), (aM_rank, .inl (cy.1, 64, .inl m_rank)), (aM_stage, .inl (cy.1, 64, .inl m_stage))] H0) (hD0 : va_D (fun _ => True) [(aM, .inr (10, [.int m_thrown, .ref aM_told, .ref aM_draft, .long m_shut, .long m_dots, .long m_draftShut, .long m_draftDots, .int m_undos, .ref aM_past, .ref aM_kept, .ref aM_isKept, .int m_base, .int m_slopeX, .int m_slopeY, .int m_seen, .ref aM_seenLine, .ref aM_seenIs, .ref aM_rank, .ref aM_stage, .int m_letters, .ref aM_text, .int m_next, .int m_begin, .int m_token, .int m_gain, .int m_bestDot, .int m_bestCell])), (aM_told, .inl (cy.1, 7, .inl m_told)), (aM_rank, .inl (cy.1, 64, .inl m_rank)), (aM_stage, .inl (cy.1, 64, .inl m_stage))]) (hf : f_X10_finest m_thrown m_shut m_dots m_told m_rank m_stage x1 = some r) : Wr l yX10_finest cX10_finest 3 (some Jvm.ClassFile.FieldType.int) ({ frames := 6, cells := 0, slots := 0, locals := 154 } : Room) ([.ref aM, .int x1] : List Value) (some (.int (r.1))) D cy H0 [(aM, .inr (10, [.int m_thrown, .ref aM_told, .ref aM_draft, .long m_shut, .long m_dots, .long m_draftShut, .long m_draftDots, .int m_undos, .ref aM_past, .ref aM_kept, .ref aM_isKept, .int m_base, .int m_slopeX, .int m_slopeY, .int m_seen, .ref aM_seenLine, .ref aM_seenIs, .ref aM_rank, .ref aM_stage, .int m_letters, .ref aM_text, .int m_next, .int m_begin, .int m_token, .int m_gain, .int m_bestDot, .int m_bestCell])), (aM_told, .inl (cy.1, 7, .inl m_told)), (aM_rank, .inl (cy.1, 64, .inl m_rank)), (aM_stage, .inl (cy.1, 64, .inl m_stage))] [(aM, .inr (10, [.int (r.2.1), .ref aM_told, .ref aM_draft, .long m_shut, .long m_dots, .long m_draftShut, .long m_draftDots, .int m_undos, .ref aM_past, .ref aM_kept, .ref aM_isKept, .int m_base, .int m_slopeX, .int m_slopeY, .int m_seen, .ref aM_seenLine, .ref aM_seenIs, .ref aM_rank, .ref aM_stage, .int m_letters, .ref aM_text, .int m_next, .int m_begin, .int m_token, .int m_gain, .int m_bestDot, .int m_bestCell])), (aM_told, .inl (cy.1, 7, .inl m_told)), (aM_rank, .inl (cy.1, 64, .inl (r.2.2.1))), (aM_stage, .inl (cy.1, 64, .inl (r.2.2.2)))] := by
  refine wr_of (by decide +kernel) (Nat.le_of_ble_eq_true rfl) hD0 ?_
  intro p e s m below meth c ls A S hr hlocks hk hl hD hS hA
  obtain ⟨hx, hb, hml, hown, hts⟩ := id S
  have hl : lv_has ls 3 [(0, .ref aM), (1, .int x1)] := hl
  rw [f_X10_finest] at hf
  have J39 : ∀ (n39 : Nat) (x2 : Int32) (m_thrown : Int32) (m_rank : Nat → Int32) (m_stage : Nat → Int32) (H : Heap) (locs : List Loc) (ls : Array Slot), va_P D vwCl [(aM, .inr (10, [.int m_thrown, .ref aM_told, .ref aM_draft, .long m_shut, .long m_dots, .long m_draftShut, .long m_draftDots, .int m_undos, .ref aM_past, .ref aM_kept, .ref aM_isKept, .int m_base, .int m_slopeX, .int m_slopeY, .int m_seen, .ref aM_seenLine, .ref aM_seenIs, .ref aM_rank, .ref aM_stage, .int m_letters, .ref aM_text, .int m_next, .int m_begin, .int m_token, .int m_gain, .int m_bestDot, .int m_bestCell])), (aM_told, .inl (cy.1, 7, .inl m_told)), (aM_rank, .inl (cy.1, 64, .inl m_rank)), (aM_stage, .inl (cy.1, 64, .inl m_stage))] H → va_D A [(aM, .inr (10, [.int m_thrown, .ref aM_told, .ref aM_draft, .long m_shut, .long m_dots, .long m_draftShut, .long m_draftDots, .int m_undos, .ref aM_past, .ref aM_kept, .ref aM_isKept, .int m_base, .int m_slopeX, .int m_slopeY, .int m_seen, .ref aM_seenLine, .ref aM_seenIs, .ref aM_rank, .ref aM_stage, .int m_letters, .ref aM_text, .int m_next, .int m_begin, .int m_token, .int m_gain, .int m_bestDot, .int m_bestCell])), (aM_told, .inl (cy.1, 7, .inl m_told)), (aM_rank, .inl (cy.1, 64, .inl m_rank)), (aM_stage, .inl (cy.1, 64, .inl m_stage))] → va_S A H0 H locs → lv_has ls 3 [(0, .ref aM), (1, .int x1), (2, .int x2)] → lp_X10_finest_39 m_told x1 n39 x2 m_thrown m_rank m_stage = some r → W p l e ({ frames := 6, cells := 0, slots := 0, locals := 154 } : Room) s m ([.ref aM, .int x1] : List Value).toArray below meth c H locs 0 0 (MQ below (QW (some (.int (r.1))) D [(aM, .inr (10, [.int (r.2.1), .ref aM_told, .ref aM_draft, .long m_shut, .long m_dots, .long m_draftShut, .long m_draftDots, .int m_undos, .ref aM_past, .ref aM_kept, .ref aM_isKept, .int m_base, .int m_slopeX, .int m_slopeY, .int m_seen, .ref aM_seenLine, .ref aM_seenIs, .ref aM_rank, .ref aM_stage, .int m_letters, .ref aM_text, .int m_next, .int m_begin, .int m_token, .int m_gain, .int m_bestDot, .int m_bestCell])), (aM_told, .inl (cy.1, 7, .inl m_told)), (aM_rank, .inl (cy.1, 64, .inl (r.2.2.1))), (aM_stage, .inl (cy.1, 64, .inl (r.2.2.2)))] H0 A) ([.ref aM, .int x1] : List Value).toArray s 0 0 A) (F0 m 39 ls []) := by
    intro n39
    induction n39 with
    | zero =>
      intro x2 m_thrown m_rank m_stage H locs ls hP hD hS hl hf
      rw [lp_X10_finest_39_z] at hf
      cases hf
    | succ n39 ih39 =>
      intro x2 m_thrown m_rank m_stage H locs ls hP hD hS hl hf
      rw [lp_X10_finest_39_s] at hf
      refine lv_iload_n hx hb dX10_finest_39 rfl (lv_at hl 2 rfl) ?_
      refine lv_iconst (v := (1 : Int32)) hx hb dX10_finest_40 (by decide) ?_
      refine lv_icmp_le (tgt := 59) hx hb dX10_finest_41 (by decide) (fun hc => ?_) (fun hc => ?_)
      · have hf := q_t hc hf
        refine lv_iload_n hx hb dX10_finest_59 rfl (lv_at hl 2 rfl) ?_
        have hf := Option.some.inj hf
        subst hf
        exact q_riW hP hS hx hb hr hlocks dX10_finest_60
      · have hf := q_f hc hf
        refine lv_aload_n hx hb dX10_finest_44 rfl (lv_at hl 0 rfl) ?_
        refine lv_iload_n hx hb dX10_finest_45 rfl (lv_at hl 2 rfl) ?_
        obtain ⟨z46, hz46, hf⟩ := q_bind hf
        refine q_rdV (As := [.int x2]) (rest := []) (st2 := [.int z46]) S hk (c_X10_gapOf l D cy H aM aM_told aM_draft aM_past aM_kept aM_isKept aM_seenLine aM_seenIs aM_rank aM_stage aM_text m_thrown m_shut m_dots m_draftShut m_draftDots m_undos m_base m_slopeX m_slopeY m_seen m_letters m_next m_begin m_token m_gain m_bestDot m_bestCell m_told m_rank x2 z46 (hP.sub [0, 1, 2] rfl) hz46) ok_X10_gapOf tw_1053 ⟨rfl, rfl, Nat.le_of_ble_eq_true rfl, Nat.le_of_ble_eq_true rfl⟩ (va_recv hk.1 hP (ci := 10) (q0 := 0) rfl rfl) rfl hl.1 rfl (Nat.le_of_ble_eq_true rfl) dX10_finest_46 ⟨Nat.zero_le _, Nat.zero_le _⟩ rfl ?_
        refine lv_iload_n hx hb dX10_finest_49 rfl (lv_at hl 1 rfl) ?_
        refine lv_icmp_ge (tgt := 59) hx hb dX10_finest_50 (by decide) (fun hc => ?_) (fun hc => ?_)
        · have hf := q_t hc hf
          refine lv_iload_n hx hb dX10_finest_59 rfl (lv_at hl 2 rfl) ?_
          have hf := Option.some.inj hf
          subst hf
          exact q_riW hP hS hx hb hr hlocks dX10_finest_60
        · have hf := q_f hc hf
          refine lv_iinc (v := (x2 + (-1))) (lv' := [(2, .int (x2 + (-1))), (0, .ref aM), (1, .int x1)]) hx hb dX10_finest_53 hl (k := 2) rfl rfl (by decide) rfl (fun ls hl => ?_)
          refine lv_goto (tgt := 39) hx hb dX10_finest_56 (by decide) ?_
          exact ih39 (x2 + (-1)) m_thrown m_rank m_stage H locs ls hP hD hS (lv_sub hl [1, 2, 0] rfl) hf
  refine lv_aload_n hx hb dX10_finest_0 rfl (lv_at hl 0 rfl) ?_
  refine lv_iconst (v := (0 : Int32)) hx hb dX10_finest_1 (by decide) ?_
  refine va_put (D := D) (ci := 10) (v := .int (0 : Int32)) (ty := .int) (C := RX10) (T := TX10) (N := 27) hx hb hts iX10 tyX10 tyX10_ok nmX10 hown hk.1 hP hD hS 0 rfl rfl 0 (by decide) (hts _ tw_783) (fun _ h9 => h9) rfl (by decide +kernel) rfl rfl (Nat.le_of_ble_eq_true rfl) dX10_finest_2 (fun H locs hP hD hS => ?_)
  have hP : va_P D vwCl [(aM, .inr (10, [.int (0 : Int32), .ref aM_told, .ref aM_draft, .long m_shut, .long m_dots, .long m_draftShut, .long m_draftDots, .int m_undos, .ref aM_past, .ref aM_kept, .ref aM_isKept, .int m_base, .int m_slopeX, .int m_slopeY, .int m_seen, .ref aM_seenLine, .ref aM_seenIs, .ref aM_rank, .ref aM_stage, .int m_letters, .ref aM_text, .int m_next, .int m_begin, .int m_token, .int m_gain, .int m_bestDot, .int m_bestCell])), (aM_told, .inl (cy.1, 7, .inl m_told)), (aM_rank, .inl (cy.1, 64, .inl m_rank)), (aM_stage, .inl (cy.1, 64, .inl m_stage))] H := hP
  have hD : va_D A [(aM, .inr (10, [.int (0 : Int32), .ref aM_told, .ref aM_draft, .long m_shut, .long m_dots, .long m_draftShut, .long m_draftDots, .int m_undos, .ref aM_past, .ref aM_kept, .ref aM_isKept, .int m_base, .int m_slopeX, .int m_slopeY, .int m_seen, .ref aM_seenLine, .ref aM_seenIs, .ref aM_rank, .ref aM_stage, .int m_letters, .ref aM_text, .int m_next, .int m_begin, .int m_token, .int m_gain, .int m_bestDot, .int m_bestCell])), (aM_told, .inl (cy.1, 7, .inl m_told)), (aM_rank, .inl (cy.1, 64, .inl m_rank)), (aM_stage, .inl (cy.1, 64, .inl m_stage))] := hD
  refine lv_iload_n hx hb dX10_finest_5 rfl (lv_at hl 1 rfl) ?_
  refine lv_iconst (v := (0 : Int32)) hx hb dX10_finest_6 (by decide) ?_
  refine lv_sipush (v := (999 : Int32)) hx hb dX10_finest_7 (by decide) ?_
  obtain ⟨z10, hz10, hf⟩ := q_bind hf
  refine q_rdS (As := [.int x1, .int (0 : Int32), .int (999 : Int32)]) (rest := []) (st2 := [.int z10]) S hk (c_X10_in l D cy H x1 (0 : Int32) (999 : Int32) z10 hz10) ok_X10_in tw_869 ⟨rfl, rfl, Nat.le_of_ble_eq_true rfl, Nat.le_of_ble_eq_true rfl⟩ rfl hl.1 rfl (Nat.le_of_ble_eq_true rfl) dX10_finest_10 ⟨Nat.zero_le _, Nat.zero_le _⟩ rfl ?_
  refine lv_if_ne (tgt := 18) hx hb dX10_finest_13 (by decide) (fun hc => ?_) (fun hc => ?_)
  · have hf := q_f hc hf
    refine lv_aload_n hx hb dX10_finest_18 rfl (lv_at hl 0 rfl) ?_
    refine va_get (D := D) (ci := 10) (v := .long m_dots) (C := RX10) (T := TX10) (N := 27) hx hb hts iX10 hown hk.1 hP 0 rfl rfl 4 (by decide) (hts _ tw_787) (fun _ h9 => h9) rfl dX10_finest_19 ?_
    refine lv_lconst (v := (0 : Int64)) hx hb dX10_finest_22 (by decide) ?_
    refine W.lcmp hx hb dX10_finest_23 ?_
    refine lv_if_ne (tgt := 30) hx hb dX10_finest_24 (by decide) (fun hc => ?_) (fun hc => ?_)
    · have hf := q_f hc hf
      refine lv_aload_n hx hb dX10_finest_30 rfl (lv_at hl 0 rfl) ?_
      obtain ⟨z31, hz31, hf⟩ := q_bind hf
      refine q_wrV (As := []) (rest := []) (st2 := []) (ws' := [(aM, .inr (10, [.int (0 : Int32), .ref aM_told, .ref aM_draft, .long m_shut, .long m_dots, .long m_draftShut, .long m_draftDots, .int m_undos, .ref aM_past, .ref aM_kept, .ref aM_isKept, .int m_base, .int m_slopeX, .int m_slopeY, .int m_seen, .ref aM_seenLine, .ref aM_seenIs, .ref aM_rank, .ref aM_stage, .int m_letters, .ref aM_text, .int m_next, .int m_begin, .int m_token, .int m_gain, .int m_bestDot, .int m_bestCell])), (aM_told, .inl (cy.1, 7, .inl m_told)), (aM_rank, .inl (cy.1, 64, .inl (z31.1))), (aM_stage, .inl (cy.1, 64, .inl (z31.2)))]) S hk (c_X10_ranks l D cy H aM aM_told aM_draft aM_past aM_kept aM_isKept aM_seenLine aM_seenIs aM_rank aM_stage aM_text (0 : Int32) m_shut m_dots m_draftShut m_draftDots m_undos m_base m_slopeX m_slopeY m_seen m_letters m_next m_begin m_token m_gain m_bestDot m_bestCell m_told m_rank m_stage z31 (hP.sub [0, 1, 2, 3] rfl) (qD_sub hD [0, 1, 2, 3] (by decide) rfl) hz31) ok_X10_ranks tw_1030 ⟨rfl, rfl, Nat.le_of_ble_eq_true rfl, Nat.le_of_ble_eq_true rfl⟩ (va_recv hk.1 hP (ci := 10) (q0 := 0) rfl rfl) rfl hl.1 rfl (Nat.le_of_ble_eq_true rfl) dX10_finest_31 ⟨Nat.zero_le _, Nat.zero_le _⟩ rfl hP hD hS hA [0, 1, 2, 3] rfl rfl rfl rfl (fun H locs hP hD hS => ?_)
      refine lv_aload_n hx hb dX10_finest_34 rfl (lv_at hl 0 rfl) ?_
      obtain ⟨z35, hz35, hf⟩ := q_bind hf
      refine q_rdV (As := []) (rest := []) (st2 := [.int z35]) S hk (c_X10_free l D cy H aM aM_told aM_draft aM_past aM_kept aM_isKept aM_seenLine aM_seenIs aM_rank aM_stage aM_text (0 : Int32) m_shut m_dots m_draftShut m_draftDots m_undos m_base m_slopeX m_slopeY m_seen m_letters m_next m_begin m_token m_gain m_bestDot m_bestCell m_told z35 (hP.sub [0, 1] rfl) hz35) ok_X10_free tw_1037 ⟨rfl, rfl, Nat.le_of_ble_eq_true rfl, Nat.le_of_ble_eq_true rfl⟩ (va_recv hk.1 hP (ci := 10) (q0 := 0) rfl rfl) rfl hl.1 rfl (Nat.le_of_ble_eq_true rfl) dX10_finest_35 ⟨Nat.zero_le _, Nat.zero_le _⟩ rfl ?_
      refine lv_istore_n (lv' := [(2, .int z35), (0, .ref aM), (1, .int x1)]) hx hb dX10_finest_38 rfl hl (by decide) rfl (fun ls hl => ?_)
      exact J39 FU z35 (0 : Int32) (z31.1) (z31.2) H locs ls hP hD hS (lv_sub hl [1, 2, 0] rfl) hf
    · have hf := q_t hc hf
      refine lv_bipush (v := (-2 : Int32)) hx hb dX10_finest_27 (by decide) ?_
      have hf := Option.some.inj hf
      subst hf
      exact q_riW hP hS hx hb hr hlocks dX10_finest_29
  · have hf := q_t hc hf
    refine lv_iconst (v := (-1 : Int32)) hx hb dX10_finest_16 (by decide) ?_
    have hf := Option.some.inj hf
    subst hf
    exact q_riW hP hS hx hb hr hlocks dX10_finest_17
def f_X10_level (m_shut : Int64) (m_base : Int32) (m_slopeX : Int32) (m_slopeY : Int32) (m_told : Nat → Int32) (x1 : Int32) : Option (Int32) := if inb (0 : Int32) 7 = true then (if (m_told (0 : Int32).toNatClampNeg) = 0 then none else (if inb (0 : Int32) 7 = true then (if (m_told (0 : Int32).toNatClampNeg) = 0 then none else (if 0 ≤ ((m_base + ((x1 - x1 / (m_told (0 : Int32).toNatClampNeg) * (m_told (0 : Int32).toNatClampNeg)) * m_slopeX)) + ((x1 / (m_told (0 : Int32).toNatClampNeg)) * m_slopeY)) then ((f_X10_free m_shut m_told).bind (fun z43 => if ((m_base + ((x1 - x1 / (m_told (0 : Int32).toNatClampNeg) * (m_told (0 : Int32).toNatClampNeg)) * m_slopeX)) + ((x1 / (m_told (0 : Int32).toNatClampNeg)) * m_slopeY)) ≤ z43 then (some ((m_base + ((x1 - x1 / (m_told (0 : Int32).toNatClampNeg) * (m_told (0 : Int32).toNatClampNeg)) * m_slopeX)) + ((x1 / (m_told (0 : Int32).toNatClampNeg)) * m_slopeY))) else ((f_X10_free m_shut m_told).bind (fun z50 => some z50)))) else (some (0 : Int32)))) else none)) else none
theorem ok_X10_level : OkV yX10_level cX10_level 3 (some Jvm.ClassFile.FieldType.int) 1 := ⟨⟨tw_1084, tw_13, by decide +kernel, by decide +kernel, by decide +kernel⟩, tw_1083, tp_58⟩
set_option maxHeartbeats 4000000 in
set_option maxRecDepth 100000 in
theorem c_X10_level (l : Launch) (D : va_G) (cy : ClassId × ClassId × ClassId) (H0 : Heap) (aM aM_told aM_draft aM_past aM_kept aM_isKept aM_seenLine aM_seenIs aM_rank aM_stage aM_text : Nat) (m_thrown : Int32) (m_shut : Int64) (m_dots : Int64) (m_draftShut : Int64) (m_draftDots : Int64) (m_undos : Int32) (m_base : Int32) (m_slopeX : Int32) (m_slopeY : Int32) (m_seen : Int32) (m_letters : Int32) (m_next : Int32) (m_begin : Int32) (m_token : Int32) (m_gain : Int32) (m_bestDot : Int32) (m_bestCell : Int32) (m_told : Nat → Int32) (x1 : Int32) (r : Int32) (hP : va_P D vwCl [(aM, .inr (10, [.int m_thrown, .ref aM_told, .ref aM_draft, .long m_shut, .long m_dots, .long m_draftShut, .long m_draftDots, .int m_undos, .ref aM_past, .ref aM_kept, .ref aM_isKept, .int m_base, .int m_slopeX, .int m_slopeY, .int m_seen, .ref aM_seenLine, .ref aM_seenIs, .ref aM_rank, .ref aM_stage, .int m_letters, .ref aM_text, .int m_next, .int m_begin, .int m_token, .int m_gain, .int m_bestDot, .int m_bestCell])), (aM_told, .inl (cy.1, 7, .inl m_told))] H0) (hf : f_X10_level m_shut m_base m_slopeX m_slopeY m_told x1 = some r) : Rd l yX10_level cX10_level 3 (some Jvm.ClassFile.FieldType.int) ({ frames := 3, cells := 0, slots := 0, locals := 65 } : Room) ([.ref aM, .int x1] : List Value) (some (.int r)) D cy H0 := by
  refine rd_of (by decide +kernel) (Nat.le_of_ble_eq_true rfl) ?_
  intro p e s m below meth c ls S hr hlocks hk hl
  obtain ⟨hx, hb, hml, hown, hts⟩ := id S
  have hl : lv_has ls 3 [(0, .ref aM), (1, .int x1)] := hl
  rw [f_X10_level] at hf
  refine lv_aload_n hx hb dX10_level_0 rfl (lv_at hl 0 rfl) ?_
  refine va_get (D := D) (ci := 10) (v := .int m_base) (C := RX10) (T := TX10) (N := 27) hx hb hts iX10 hown hk.1 hP 0 rfl rfl 11 (by decide) (hts _ tw_794) (fun _ h9 => h9) rfl dX10_level_1 ?_
  refine lv_iload_n hx hb dX10_level_4 rfl (lv_at hl 1 rfl) ?_
  refine lv_aload_n hx hb dX10_level_5 rfl (lv_at hl 0 rfl) ?_
  refine va_get (D := D) (ci := 10) (v := .ref aM_told) (C := RX10) (T := TX10) (N := 27) hx hb hts iX10 hown hk.1 hP 0 rfl rfl 1 (by decide) (hts _ tw_784) (fun _ h9 => h9) rfl dX10_level_6 ?_
  refine lv_iconst (v := (0 : Int32)) hx hb dX10_level_9 (by decide) ?_
  obtain ⟨hi, hf⟩ := q_in hf
  refine va_iald hx hb hk.1 hP 1 0 rfl rfl hi dX10_level_10 ?_
  obtain ⟨hne, hf⟩ := q_nz hf
  refine lv_irem hx hb dX10_level_11 hne ?_
  refine lv_aload_n hx hb dX10_level_12 rfl (lv_at hl 0 rfl) ?_
  refine va_get (D := D) (ci := 10) (v := .int m_slopeX) (C := RX10) (T := TX10) (N := 27) hx hb hts iX10 hown hk.1 hP 0 rfl rfl 12 (by decide) (hts _ tw_795) (fun _ h9 => h9) rfl dX10_level_13 ?_
  refine lv_imul hx hb dX10_level_16 ?_
  refine lv_iadd hx hb dX10_level_17 ?_
  refine lv_iload_n hx hb dX10_level_18 rfl (lv_at hl 1 rfl) ?_
  refine lv_aload_n hx hb dX10_level_19 rfl (lv_at hl 0 rfl) ?_
  refine va_get (D := D) (ci := 10) (v := .ref aM_told) (C := RX10) (T := TX10) (N := 27) hx hb hts iX10 hown hk.1 hP 0 rfl rfl 1 (by decide) (hts _ tw_784) (fun _ h9 => h9) rfl dX10_level_20 ?_
  refine lv_iconst (v := (0 : Int32)) hx hb dX10_level_23 (by decide) ?_
  obtain ⟨hi, hf⟩ := q_in hf
  refine va_iald hx hb hk.1 hP 1 0 rfl rfl hi dX10_level_24 ?_
  obtain ⟨hne, hf⟩ := q_nz hf
  refine lv_idiv hx hb dX10_level_25 hne ?_
  refine lv_aload_n hx hb dX10_level_26 rfl (lv_at hl 0 rfl) ?_
  refine va_get (D := D) (ci := 10) (v := .int m_slopeY) (C := RX10) (T := TX10) (N := 27) hx hb hts iX10 hown hk.1 hP 0 rfl rfl 13 (by decide) (hts _ tw_796) (fun _ h9 => h9) rfl dX10_level_27 ?_
  refine lv_imul hx hb dX10_level_30 ?_
  refine lv_iadd hx hb dX10_level_31 ?_
  refine lv_istore_n (lv' := [(2, .int ((m_base + ((x1 - x1 / (m_told (0 : Int32).toNatClampNeg) * (m_told (0 : Int32).toNatClampNeg)) * m_slopeX)) + ((x1 / (m_told (0 : Int32).toNatClampNeg)) * m_slopeY))), (0, .ref aM), (1, .int x1)]) hx hb dX10_level_32 rfl hl (by decide) rfl (fun ls hl => ?_)
  refine lv_iload_n hx hb dX10_level_33 rfl (lv_at hl 0 rfl) ?_
  refine lv_if_ge (tgt := 41) hx hb dX10_level_34 (by decide) (fun hc => ?_) (fun hc => ?_)
  · have hf := q_t hc hf
    refine lv_iload_n hx hb dX10_level_41 rfl (lv_at hl 0 rfl) ?_
    refine lv_aload_n hx hb dX10_level_42 rfl (lv_at hl 1 rfl) ?_
    obtain ⟨z43, hz43, hf⟩ := q_bind hf
    refine q_rdV (As := []) (rest := [.int ((m_base + ((x1 - x1 / (m_told (0 : Int32).toNatClampNeg) * (m_told (0 : Int32).toNatClampNeg)) * m_slopeX)) + ((x1 / (m_told (0 : Int32).toNatClampNeg)) * m_slopeY))]) (st2 := [.int z43, .int ((m_base + ((x1 - x1 / (m_told (0 : Int32).toNatClampNeg) * (m_told (0 : Int32).toNatClampNeg)) * m_slopeX)) + ((x1 / (m_told (0 : Int32).toNatClampNeg)) * m_slopeY))]) S hk (c_X10_free l D cy H0 aM aM_told aM_draft aM_past aM_kept aM_isKept aM_seenLine aM_seenIs aM_rank aM_stage aM_text m_thrown m_shut m_dots m_draftShut m_draftDots m_undos m_base m_slopeX m_slopeY m_seen m_letters m_next m_begin m_token m_gain m_bestDot m_bestCell m_told z43 (hP.sub [0, 1] rfl) hz43) ok_X10_free tw_1037 ⟨rfl, rfl, Nat.le_of_ble_eq_true rfl, Nat.le_of_ble_eq_true rfl⟩ (va_recv hk.1 hP (ci := 10) (q0 := 0) rfl rfl) rfl hl.1 rfl (Nat.le_of_ble_eq_true rfl) dX10_level_43 ⟨Nat.zero_le _, Nat.zero_le _⟩ rfl ?_
    refine lv_icmp_le (tgt := 56) hx hb dX10_level_46 (by decide) (fun hc => ?_) (fun hc => ?_)
    · have hf := q_t hc hf
      refine lv_iload_n hx hb dX10_level_56 rfl (lv_at hl 0 rfl) ?_
      have hf := Option.some.inj hf
      subst hf
      exact q_riR hx hb hr hlocks dX10_level_57
    · have hf := q_f hc hf
      refine lv_aload_n hx hb dX10_level_49 rfl (lv_at hl 1 rfl) ?_
      obtain ⟨z50, hz50, hf⟩ := q_bind hf
      refine q_rdV (As := []) (rest := []) (st2 := [.int z50]) S hk (c_X10_free l D cy H0 aM aM_told aM_draft aM_past aM_kept aM_isKept aM_seenLine aM_seenIs aM_rank aM_stage aM_text m_thrown m_shut m_dots m_draftShut m_draftDots m_undos m_base m_slopeX m_slopeY m_seen m_letters m_next m_begin m_token m_gain m_bestDot m_bestCell m_told z50 (hP.sub [0, 1] rfl) hz50) ok_X10_free tw_1037 ⟨rfl, rfl, Nat.le_of_ble_eq_true rfl, Nat.le_of_ble_eq_true rfl⟩ (va_recv hk.1 hP (ci := 10) (q0 := 0) rfl rfl) rfl hl.1 rfl (Nat.le_of_ble_eq_true rfl) dX10_level_50 ⟨Nat.zero_le _, Nat.zero_le _⟩ rfl ?_
      refine lv_goto (tgt := 57) hx hb dX10_level_53 (by decide) ?_
      have hf := Option.some.inj hf
      subst hf
      exact q_riR hx hb hr hlocks dX10_level_57
  · have hf := q_f hc hf
    refine lv_iconst (v := (0 : Int32)) hx hb dX10_level_37 (by decide) ?_
    refine lv_goto (tgt := 57) hx hb dX10_level_38 (by decide) ?_
    have hf := Option.some.inj hf
    subst hf
    exact q_riR hx hb hr hlocks dX10_level_57
def f_X10_isInk (m_shut : Int64) (m_base : Int32) (m_slopeX : Int32) (m_slopeY : Int32) (m_told : Nat → Int32) (m_rank : Nat → Int32) (x1 : Int32) : Option (Int32) := if inb x1 64 = true then (if (m_rank x1.toNatClampNeg) < 0 then (some (0 : Int32)) else (if inb x1 64 = true then ((f_X10_level m_shut m_base m_slopeX m_slopeY m_told x1).bind (fun z17 => if z17 ≤ (m_rank x1.toNatClampNeg) then (some (0 : Int32)) else (some (1 : Int32)))) else none)) else none
theorem ok_X10_isInk : OkV yX10_isInk cX10_isInk 2 (some Jvm.ClassFile.FieldType.boolean) 1 := ⟨⟨tw_1080, tw_13, by decide +kernel, by decide +kernel, by decide +kernel⟩, tw_1079, tp_57⟩
set_option maxHeartbeats 4000000 in
set_option maxRecDepth 100000 in
theorem c_X10_isInk (l : Launch) (D : va_G) (cy : ClassId × ClassId × ClassId) (H0 : Heap) (aM aM_told aM_draft aM_past aM_kept aM_isKept aM_seenLine aM_seenIs aM_rank aM_stage aM_text : Nat) (m_thrown : Int32) (m_shut : Int64) (m_dots : Int64) (m_draftShut : Int64) (m_draftDots : Int64) (m_undos : Int32) (m_base : Int32) (m_slopeX : Int32) (m_slopeY : Int32) (m_seen : Int32) (m_letters : Int32) (m_next : Int32) (m_begin : Int32) (m_token : Int32) (m_gain : Int32) (m_bestDot : Int32) (m_bestCell : Int32) (m_told : Nat → Int32) (m_rank : Nat → Int32) (x1 : Int32) (r : Int32) (hP : va_P D vwCl [(aM, .inr (10, [.int m_thrown, .ref aM_told, .ref aM_draft, .long m_shut, .long m_dots, .long m_draftShut, .long m_draftDots, .int m_undos, .ref aM_past, .ref aM_kept, .ref aM_isKept, .int m_base, .int m_slopeX, .int m_slopeY, .int m_seen, .ref aM_seenLine, .ref aM_seenIs, .ref aM_rank, .ref aM_stage, .int m_letters, .ref aM_text, .int m_next, .int m_begin, .int m_token, .int m_gain, .int m_bestDot, .int m_bestCell])), (aM_told, .inl (cy.1, 7, .inl m_told)), (aM_rank, .inl (cy.1, 64, .inl m_rank))] H0) (hf : f_X10_isInk m_shut m_base m_slopeX m_slopeY m_told m_rank x1 = some r) : Rd l yX10_isInk cX10_isInk 2 (some Jvm.ClassFile.FieldType.boolean) ({ frames := 4, cells := 0, slots := 0, locals := 87 } : Room) ([.ref aM, .int x1] : List Value) (some (.int r)) D cy H0 := by
  refine rd_of (by decide +kernel) (Nat.le_of_ble_eq_true rfl) ?_
  intro p e s m below meth c ls S hr hlocks hk hl
  obtain ⟨hx, hb, hml, hown, hts⟩ := id S
  have hl : lv_has ls 2 [(0, .ref aM), (1, .int x1)] := hl
  rw [f_X10_isInk] at hf
  refine lv_aload_n hx hb dX10_isInk_0 rfl (lv_at hl 0 rfl) ?_
  refine va_get (D := D) (ci := 10) (v := .ref aM_rank) (C := RX10) (T := TX10) (N := 27) hx hb hts iX10 hown hk.1 hP 0 rfl rfl 17 (by decide) (hts _ tw_800) (fun _ h9 => h9) rfl dX10_isInk_1 ?_
  refine lv_iload_n hx hb dX10_isInk_4 rfl (lv_at hl 1 rfl) ?_
  obtain ⟨hi, hf⟩ := q_in hf
  refine va_iald hx hb hk.1 hP 2 0 rfl rfl hi dX10_isInk_5 ?_
  refine lv_if_lt (tgt := 27) hx hb dX10_isInk_6 (by decide) (fun hc => ?_) (fun hc => ?_)
  · have hf := q_t hc hf
    refine lv_iconst (v := (0 : Int32)) hx hb dX10_isInk_27 (by decide) ?_
    have hf := Option.some.inj hf
    subst hf
    exact q_rzR (Or.inl rfl) hx hb hr hlocks dX10_isInk_28
  · have hf := q_f hc hf
    refine lv_aload_n hx hb dX10_isInk_9 rfl (lv_at hl 0 rfl) ?_
    refine va_get (D := D) (ci := 10) (v := .ref aM_rank) (C := RX10) (T := TX10) (N := 27) hx hb hts iX10 hown hk.1 hP 0 rfl rfl 17 (by decide) (hts _ tw_800) (fun _ h9 => h9) rfl dX10_isInk_10 ?_
    refine lv_iload_n hx hb dX10_isInk_13 rfl (lv_at hl 1 rfl) ?_
    obtain ⟨hi, hf⟩ := q_in hf
    refine va_iald hx hb hk.1 hP 2 0 rfl rfl hi dX10_isInk_14 ?_
    refine lv_aload_n hx hb dX10_isInk_15 rfl (lv_at hl 0 rfl) ?_
    refine lv_iload_n hx hb dX10_isInk_16 rfl (lv_at hl 1 rfl) ?_
    obtain ⟨z17, hz17, hf⟩ := q_bind hf
    refine q_rdV (As := [.int x1]) (rest := [.int (m_rank x1.toNatClampNeg)]) (st2 := [.int z17, .int (m_rank x1.toNatClampNeg)]) S hk (c_X10_level l D cy H0 aM aM_told aM_draft aM_past aM_kept aM_isKept aM_seenLine aM_seenIs aM_rank aM_stage aM_text m_thrown m_shut m_dots m_draftShut m_draftDots m_undos m_base m_slopeX m_slopeY m_seen m_letters m_next m_begin m_token m_gain m_bestDot m_bestCell m_told x1 z17 (hP.sub [0, 1] rfl) hz17) ok_X10_level tw_1081 ⟨rfl, rfl, Nat.le_of_ble_eq_true rfl, Nat.le_of_ble_eq_true rfl⟩ (va_recv hk.1 hP (ci := 10) (q0 := 0) rfl rfl) rfl hl.1 rfl (Nat.le_of_ble_eq_true rfl) dX10_isInk_17 ⟨Nat.zero_le _, Nat.zero_le _⟩ rfl ?_
    refine lv_icmp_ge (tgt := 27) hx hb dX10_isInk_20 (by decide) (fun hc => ?_) (fun hc => ?_)
    · have hf := q_t hc hf
      refine lv_iconst (v := (0 : Int32)) hx hb dX10_isInk_27 (by decide) ?_
      have hf := Option.some.inj hf
      subst hf
      exact q_rzR (Or.inl rfl) hx hb hr hlocks dX10_isInk_28
    · have hf := q_f hc hf
      refine lv_iconst (v := (1 : Int32)) hx hb dX10_isInk_23 (by decide) ?_
      refine lv_goto (tgt := 28) hx hb dX10_isInk_24 (by decide) ?_
      have hf := Option.some.inj hf
      subst hf
      exact q_rzR (Or.inr rfl) hx hb hr hlocks dX10_isInk_28
def j_X10_printed_26 (k4 : Int32 → Int32 → Option (Int32)) (x2 : Int32) (k0 : Int32) (k1 : Int32) : Option (Int32) := k4 (k0 + k1) (x2 + 1)
def lp_X10_printed_4 (m_shut : Int64) (m_base : Int32) (m_slopeX : Int32) (m_slopeY : Int32) (m_told : Nat → Int32) (m_rank : Nat → Int32) : Nat → Int32 → Int32 → Option (Int32)
  | 0, _, _ => none
  | n + 1, x1, x2 => (f_X10_cells m_told).bind (fun z6 => if z6 ≤ x2 then (some x1) else ((f_X10_isInk m_shut m_base m_slopeX m_slopeY m_told m_rank x2).bind (fun z15 => if z15 = 0 then (j_X10_printed_26 (lp_X10_printed_4 m_shut m_base m_slopeX m_slopeY m_told m_rank n) x2 x1 (0 : Int32)) else (j_X10_printed_26 (lp_X10_printed_4 m_shut m_base m_slopeX m_slopeY m_told m_rank n) x2 x1 (1 : Int32)))))
theorem lp_X10_printed_4_s (m_shut : Int64) (m_base : Int32) (m_slopeX : Int32) (m_slopeY : Int32) (m_told : Nat → Int32) (m_rank : Nat → Int32) (n : Nat) (x1 : Int32) (x2 : Int32) : lp_X10_printed_4 m_shut m_base m_slopeX m_slopeY m_told m_rank (n + 1) x1 x2 = ((f_X10_cells m_told).bind (fun z6 => if z6 ≤ x2 then (some x1) else ((f_X10_isInk m_shut m_base m_slopeX m_slopeY m_told m_rank x2).bind (fun z15 => if z15 = 0 then (j_X10_printed_26 (lp_X10_printed_4 m_shut m_base m_slopeX m_slopeY m_told m_rank n) x2 x1 (0 : Int32)) else (j_X10_printed_26 (lp_X10_printed_4 m_shut m_base m_slopeX m_slopeY m_told m_rank n) x2 x1 (1 : Int32)))))) := rfl
theorem lp_X10_printed_4_z (m_shut : Int64) (m_base : Int32) (m_slopeX : Int32) (m_slopeY : Int32) (m_told : Nat → Int32) (m_rank : Nat → Int32) (x1 : Int32) (x2 : Int32) : lp_X10_printed_4 m_shut m_base m_slopeX m_slopeY m_told m_rank 0 x1 x2 = none := rfl
def f_X10_printed (m_shut : Int64) (m_base : Int32) (m_slopeX : Int32) (m_slopeY : Int32) (m_told : Nat → Int32) (m_rank : Nat → Int32) : Option (Int32) := lp_X10_printed_4 m_shut m_base m_slopeX m_slopeY m_told m_rank FU (0 : Int32) (0 : Int32)
theorem ok_X10_printed : OkV yX10_printed cX10_printed 3 (some Jvm.ClassFile.FieldType.int) 0 := ⟨⟨tw_1076, tw_13, by decide +kernel, by decide +kernel, by decide +kernel⟩, tw_1075, tp_56⟩
set_option maxHeartbeats 4000000 in
set_option maxRecDepth 100000 in
theorem c_X10_printed (l : Launch) (D : va_G) (cy : ClassId × ClassId × ClassId) (H0 : Heap) (aM aM_told aM_draft aM_past aM_kept aM_isKept aM_seenLine aM_seenIs aM_rank aM_stage aM_text : Nat) (m_thrown : Int32) (m_shut : Int64) (m_dots : Int64) (m_draftShut : Int64) (m_draftDots : Int64) (m_undos : Int32) (m_base : Int32) (m_slopeX : Int32) (m_slopeY : Int32) (m_seen : Int32) (m_letters : Int32) (m_next : Int32) (m_begin : Int32) (m_token : Int32) (m_gain : Int32) (m_bestDot : Int32) (m_bestCell : Int32) (m_told : Nat → Int32) (m_rank : Nat → Int32) (r : Int32) (hP : va_P D vwCl [(aM, .inr (10, [.int m_thrown, .ref aM_told, .ref aM_draft, .long m_shut, .long m_dots, .long m_draftShut, .long m_draftDots, .int m_undos, .ref aM_past, .ref aM_kept, .ref aM_isKept, .int m_base, .int m_slopeX, .int m_slopeY, .int m_seen, .ref aM_seenLine, .ref aM_seenIs, .ref aM_rank, .ref aM_stage, .int m_letters, .ref aM_text, .int m_next, .int m_begin, .int m_token, .int m_gain, .int m_bestDot, .int m_bestCell])), (aM_told, .inl (cy.1, 7, .inl m_told)), (aM_rank, .inl (cy.1, 64, .inl m_rank))] H0) (hf : f_X10_printed m_shut m_base m_slopeX m_slopeY m_told m_rank = some r) : Rd l yX10_printed cX10_printed 3 (some Jvm.ClassFile.FieldType.int) ({ frames := 5, cells := 0, slots := 0, locals := 108 } : Room) ([.ref aM] : List Value) (some (.int r)) D cy H0 := by
  refine rd_of (by decide +kernel) (Nat.le_of_ble_eq_true rfl) ?_
  intro p e s m below meth c ls S hr hlocks hk hl
  obtain ⟨hx, hb, hml, hown, hts⟩ := id S
  have hl : lv_has ls 3 [(0, .ref aM)] := hl
  rw [f_X10_printed] at hf
  have J4 : ∀ (n4 : Nat) (x1 : Int32) (x2 : Int32) (ls : Array Slot), lv_has ls 3 [(0, .ref aM), (1, .int x1), (2, .int x2)] → lp_X10_printed_4 m_shut m_base m_slopeX m_slopeY m_told m_rank n4 x1 x2 = some r → W p l e ({ frames := 5, cells := 0, slots := 0, locals := 108 } : Room) s m ([.ref aM] : List Value).toArray below meth c H0 [] 0 0 (MQ below (QR (some (.int r)) H0) ([.ref aM] : List Value).toArray s 0 0 (fun _ => False)) (F0 m 4 ls []) := by
    intro n4
    induction n4 with
    | zero =>
      intro x1 x2 ls hl hf
      rw [lp_X10_printed_4_z] at hf
      cases hf
    | succ n4 ih4 =>
      have J26 : ∀ (x2 : Int32) (k0 : Int32) (k1 : Int32) (ls : Array Slot), lv_has ls 3 [(0, .ref aM), (2, .int x2)] → j_X10_printed_26 (lp_X10_printed_4 m_shut m_base m_slopeX m_slopeY m_told m_rank n4) x2 k0 k1 = some r → W p l e ({ frames := 5, cells := 0, slots := 0, locals := 108 } : Room) s m ([.ref aM] : List Value).toArray below meth c H0 [] 0 0 (MQ below (QR (some (.int r)) H0) ([.ref aM] : List Value).toArray s 0 0 (fun _ => False)) (F0 m 26 ls [.int k1, .int k0]) := by
        intro x2 k0 k1 ls hl hf
        rw [j_X10_printed_26] at hf
        refine lv_iadd hx hb dX10_printed_26 ?_
        refine lv_istore_n (lv' := [(1, .int (k0 + k1)), (0, .ref aM), (2, .int x2)]) hx hb dX10_printed_27 rfl hl (by decide) rfl (fun ls hl => ?_)
        refine lv_iinc (v := (x2 + 1)) (lv' := [(2, .int (x2 + 1)), (1, .int (k0 + k1)), (0, .ref aM)]) hx hb dX10_printed_28 hl (k := 2) rfl rfl (by decide) rfl (fun ls hl => ?_)
        refine lv_goto (tgt := 4) hx hb dX10_printed_31 (by decide) ?_
        exact ih4 (k0 + k1) (x2 + 1) ls (lv_sub hl [2, 1, 0] rfl) hf
      intro x1 x2 ls hl hf
      rw [lp_X10_printed_4_s] at hf
      refine lv_iload_n hx hb dX10_printed_4 rfl (lv_at hl 2 rfl) ?_
      refine lv_aload_n hx hb dX10_printed_5 rfl (lv_at hl 0 rfl) ?_
      obtain ⟨z6, hz6, hf⟩ := q_bind hf
      refine q_rdV (As := []) (rest := [.int x2]) (st2 := [.int z6, .int x2]) S hk (c_X10_cells l D cy H0 aM aM_told aM_draft aM_past aM_kept aM_isKept aM_seenLine aM_seenIs aM_rank aM_stage aM_text m_thrown m_shut m_dots m_draftShut m_draftDots m_undos m_base m_slopeX m_slopeY m_seen m_letters m_next m_begin m_token m_gain m_bestDot m_bestCell m_told z6 (hP.sub [0, 1] rfl) hz6) ok_X10_cells tw_931 ⟨rfl, rfl, Nat.le_of_ble_eq_true rfl, Nat.le_of_ble_eq_true rfl⟩ (va_recv hk.1 hP (ci := 10) (q0 := 0) rfl rfl) rfl hl.1 rfl (Nat.le_of_ble_eq_true rfl) dX10_printed_6 ⟨Nat.zero_le _, Nat.zero_le _⟩ rfl ?_
      refine lv_icmp_ge (tgt := 34) hx hb dX10_printed_9 (by decide) (fun hc => ?_) (fun hc => ?_)
      · have hf := q_t hc hf
        refine lv_iload_n hx hb dX10_printed_34 rfl (lv_at hl 1 rfl) ?_
        have hf := Option.some.inj hf
        subst hf
        exact q_riR hx hb hr hlocks dX10_printed_35
      · have hf := q_f hc hf
        refine lv_iload_n hx hb dX10_printed_12 rfl (lv_at hl 1 rfl) ?_
        refine lv_aload_n hx hb dX10_printed_13 rfl (lv_at hl 0 rfl) ?_
        refine lv_iload_n hx hb dX10_printed_14 rfl (lv_at hl 2 rfl) ?_
        obtain ⟨z15, hz15, hf⟩ := q_bind hf
        refine q_rdV (As := [.int x2]) (rest := [.int x1]) (st2 := [.int z15, .int x1]) S hk (c_X10_isInk l D cy H0 aM aM_told aM_draft aM_past aM_kept aM_isKept aM_seenLine aM_seenIs aM_rank aM_stage aM_text m_thrown m_shut m_dots m_draftShut m_draftDots m_undos m_base m_slopeX m_slopeY m_seen m_letters m_next m_begin m_token m_gain m_bestDot m_bestCell m_told m_rank x2 z15 (hP.sub [0, 1, 2] rfl) hz15) ok_X10_isInk tw_1077 ⟨rfl, rfl, Nat.le_of_ble_eq_true rfl, Nat.le_of_ble_eq_true rfl⟩ (va_recv hk.1 hP (ci := 10) (q0 := 0) rfl rfl) rfl hl.1 rfl (Nat.le_of_ble_eq_true rfl) dX10_printed_15 ⟨Nat.zero_le _, Nat.zero_le _⟩ rfl ?_
        refine lv_if_eq (tgt := 25) hx hb dX10_printed_18 (by decide) (fun hc => ?_) (fun hc => ?_)
        · have hf := q_t hc hf
          refine lv_iconst (v := (0 : Int32)) hx hb dX10_printed_25 (by decide) ?_
          exact J26 x2 x1 (0 : Int32) ls (lv_sub hl [0, 2] rfl) hf
        · have hf := q_f hc hf
          refine lv_iconst (v := (1 : Int32)) hx hb dX10_printed_21 (by decide) ?_
          refine lv_goto (tgt := 26) hx hb dX10_printed_22 (by decide) ?_
          exact J26 x2 x1 (1 : Int32) ls (lv_sub hl [0, 2] rfl) hf
  refine lv_iconst (v := (0 : Int32)) hx hb dX10_printed_0 (by decide) ?_
  refine lv_istore_n (lv' := [(1, .int (0 : Int32)), (0, .ref aM)]) hx hb dX10_printed_1 rfl hl (by decide) rfl (fun ls hl => ?_)
  refine lv_iconst (v := (0 : Int32)) hx hb dX10_printed_2 (by decide) ?_
  refine lv_istore_n (lv' := [(2, .int (0 : Int32)), (1, .int (0 : Int32)), (0, .ref aM)]) hx hb dX10_printed_3 rfl hl (by decide) rfl (fun ls hl => ?_)
  exact J4 FU (0 : Int32) (0 : Int32) ls (lv_sub hl [2, 1, 0] rfl) hf
def f_X10_paints (m_thrown : Int32) (m_shut : Int64) (m_dots : Int64) (m_base : Int32) (m_slopeX : Int32) (m_slopeY : Int32) (m_told : Nat → Int32) (m_rank : Nat → Int32) (m_stage : Nat → Int32) (x1 : Int32) (x2 : Int32) (x3 : Int32) : Option (Int32 × Int32 × Int32 × Int32 × Int32 × (Nat → Int32) × (Nat → Int32)) := (f_X10_in x1 (0 : Int32) (64 : Int32)).bind (fun z9 => if z9 = 0 then (some ((-1 : Int32), (0 : Int32), m_base, m_slopeX, m_slopeY, m_rank, m_stage)) else ((f_X10_in x2 (-9 : Int32) (9 : Int32)).bind (fun z20 => if z20 = 0 then (some ((-1 : Int32), (0 : Int32), m_base, m_slopeX, m_slopeY, m_rank, m_stage)) else ((f_X10_in x3 (-9 : Int32) (9 : Int32)).bind (fun z31 => if z31 = 0 then (some ((-1 : Int32), (0 : Int32), m_base, m_slopeX, m_slopeY, m_rank, m_stage)) else (if (lg_cmp m_dots (0 : Int64)) = 0 then (some ((-2 : Int32), (0 : Int32), m_base, m_slopeX, m_slopeY, m_rank, m_stage)) else ((f_X10_ranks m_shut m_dots m_told m_rank m_stage).bind (fun z67 => (f_X10_printed m_shut x1 x2 x3 m_told (z67.1)).bind (fun z71 => some (z71, (0 : Int32), x1, x2, x3, (z67.1), (z67.2)))))))))))
theorem ok_X10_paints : OkV yX10_paints cX10_paints 4 (some Jvm.ClassFile.FieldType.int) 3 := ⟨⟨tw_1072, tw_13, by decide +kernel, by decide +kernel, by decide +kernel⟩, tw_1070, tw_1071⟩
set_option maxHeartbeats 4000000 in
set_option maxRecDepth 100000 in
theorem c_X10_paints (l : Launch) (D : va_G) (cy : ClassId × ClassId × ClassId) (H0 : Heap) (aM aM_told aM_draft aM_past aM_kept aM_isKept aM_seenLine aM_seenIs aM_rank aM_stage aM_text : Nat) (m_thrown : Int32) (m_shut : Int64) (m_dots : Int64) (m_draftShut : Int64) (m_draftDots : Int64) (m_undos : Int32) (m_base : Int32) (m_slopeX : Int32) (m_slopeY : Int32) (m_seen : Int32) (m_letters : Int32) (m_next : Int32) (m_begin : Int32) (m_token : Int32) (m_gain : Int32) (m_bestDot : Int32) (m_bestCell : Int32) (m_told : Nat → Int32) (m_rank : Nat → Int32) (m_stage : Nat → Int32) (x1 : Int32) (x2 : Int32) (x3 : Int32) (r : Int32 × Int32 × Int32 × Int32 × Int32 × (Nat → Int32) × (Nat → Int32)) (hP : va_P D vwCl [(aM, .inr (10, [.int m_thrown, .ref aM_told, .ref aM_draft, .long m_shut, .long m_dots, .long m_draftShut, .long m_draftDots, .int m_undos, .ref aM_past, .ref aM_kept, .ref aM_isKept, .int m_base, .int m_slopeX, .int m_slopeY, .int m_seen, .ref aM_seenLine, .ref aM_seenIs, .ref aM_rank, .ref aM_stage, .int m_letters, .ref aM_text, .int m_next, .int m_begin, .int m_token, .int m_gain, .int m_bestDot, .int m_bestCell])), (aM_told, .inl (cy.1, 7, .inl m_told)), (aM_rank, .inl (cy.1, 64, .inl m_rank)), (aM_stage, .inl (cy.1, 64, .inl m_stage))] H0) (hD0 : va_D (fun _ => True) [(aM, .inr (10, [.int m_thrown, .ref aM_told, .ref aM_draft, .long m_shut, .long m_dots, .long m_draftShut, .long m_draftDots, .int m_undos, .ref aM_past, .ref aM_kept, .ref aM_isKept, .int m_base, .int m_slopeX, .int m_slopeY, .int m_seen, .ref aM_seenLine, .ref aM_seenIs, .ref aM_rank, .ref aM_stage, .int m_letters, .ref aM_text, .int m_next, .int m_begin, .int m_token, .int m_gain, .int m_bestDot, .int m_bestCell])), (aM_told, .inl (cy.1, 7, .inl m_told)), (aM_rank, .inl (cy.1, 64, .inl m_rank)), (aM_stage, .inl (cy.1, 64, .inl m_stage))]) (hf : f_X10_paints m_thrown m_shut m_dots m_base m_slopeX m_slopeY m_told m_rank m_stage x1 x2 x3 = some r) : Wr l yX10_paints cX10_paints 4 (some Jvm.ClassFile.FieldType.int) ({ frames := 6, cells := 0, slots := 0, locals := 154 } : Room) ([.ref aM, .int x1, .int x2, .int x3] : List Value) (some (.int (r.1))) D cy H0 [(aM, .inr (10, [.int m_thrown, .ref aM_told, .ref aM_draft, .long m_shut, .long m_dots, .long m_draftShut, .long m_draftDots, .int m_undos, .ref aM_past, .ref aM_kept, .ref aM_isKept, .int m_base, .int m_slopeX, .int m_slopeY, .int m_seen, .ref aM_seenLine, .ref aM_seenIs, .ref aM_rank, .ref aM_stage, .int m_letters, .ref aM_text, .int m_next, .int m_begin, .int m_token, .int m_gain, .int m_bestDot, .int m_bestCell])), (aM_told, .inl (cy.1, 7, .inl m_told)), (aM_rank, .inl (cy.1, 64, .inl m_rank)), (aM_stage, .inl (cy.1, 64, .inl m_stage))] [(aM, .inr (10, [.int (r.2.1), .ref aM_told, .ref aM_draft, .long m_shut, .long m_dots, .long m_draftShut, .long m_draftDots, .int m_undos, .ref aM_past, .ref aM_kept, .ref aM_isKept, .int (r.2.2.1), .int (r.2.2.2.1), .int (r.2.2.2.2.1), .int m_seen, .ref aM_seenLine, .ref aM_seenIs, .ref aM_rank, .ref aM_stage, .int m_letters, .ref aM_text, .int m_next, .int m_begin, .int m_token, .int m_gain, .int m_bestDot, .int m_bestCell])), (aM_told, .inl (cy.1, 7, .inl m_told)), (aM_rank, .inl (cy.1, 64, .inl (r.2.2.2.2.2.1))), (aM_stage, .inl (cy.1, 64, .inl (r.2.2.2.2.2.2)))] := by
  refine wr_of (by decide +kernel) (Nat.le_of_ble_eq_true rfl) hD0 ?_
  intro p e s m below meth c ls A S hr hlocks hk hl hD hS hA
  obtain ⟨hx, hb, hml, hown, hts⟩ := id S
  have hl : lv_has ls 4 [(0, .ref aM), (1, .int x1), (2, .int x2), (3, .int x3)] := hl
  rw [f_X10_paints] at hf
  refine lv_aload_n hx hb dX10_paints_0 rfl (lv_at hl 0 rfl) ?_
  refine lv_iconst (v := (0 : Int32)) hx hb dX10_paints_1 (by decide) ?_
  refine va_put (D := D) (ci := 10) (v := .int (0 : Int32)) (ty := .int) (C := RX10) (T := TX10) (N := 27) hx hb hts iX10 tyX10 tyX10_ok nmX10 hown hk.1 hP hD hS 0 rfl rfl 0 (by decide) (hts _ tw_783) (fun _ h9 => h9) rfl (by decide +kernel) rfl rfl (Nat.le_of_ble_eq_true rfl) dX10_paints_2 (fun H locs hP hD hS => ?_)
  have hP : va_P D vwCl [(aM, .inr (10, [.int (0 : Int32), .ref aM_told, .ref aM_draft, .long m_shut, .long m_dots, .long m_draftShut, .long m_draftDots, .int m_undos, .ref aM_past, .ref aM_kept, .ref aM_isKept, .int m_base, .int m_slopeX, .int m_slopeY, .int m_seen, .ref aM_seenLine, .ref aM_seenIs, .ref aM_rank, .ref aM_stage, .int m_letters, .ref aM_text, .int m_next, .int m_begin, .int m_token, .int m_gain, .int m_bestDot, .int m_bestCell])), (aM_told, .inl (cy.1, 7, .inl m_told)), (aM_rank, .inl (cy.1, 64, .inl m_rank)), (aM_stage, .inl (cy.1, 64, .inl m_stage))] H := hP
  have hD : va_D A [(aM, .inr (10, [.int (0 : Int32), .ref aM_told, .ref aM_draft, .long m_shut, .long m_dots, .long m_draftShut, .long m_draftDots, .int m_undos, .ref aM_past, .ref aM_kept, .ref aM_isKept, .int m_base, .int m_slopeX, .int m_slopeY, .int m_seen, .ref aM_seenLine, .ref aM_seenIs, .ref aM_rank, .ref aM_stage, .int m_letters, .ref aM_text, .int m_next, .int m_begin, .int m_token, .int m_gain, .int m_bestDot, .int m_bestCell])), (aM_told, .inl (cy.1, 7, .inl m_told)), (aM_rank, .inl (cy.1, 64, .inl m_rank)), (aM_stage, .inl (cy.1, 64, .inl m_stage))] := hD
  refine lv_iload_n hx hb dX10_paints_5 rfl (lv_at hl 1 rfl) ?_
  refine lv_iconst (v := (0 : Int32)) hx hb dX10_paints_6 (by decide) ?_
  refine lv_bipush (v := (64 : Int32)) hx hb dX10_paints_7 (by decide) ?_
  obtain ⟨z9, hz9, hf⟩ := q_bind hf
  refine q_rdS (As := [.int x1, .int (0 : Int32), .int (64 : Int32)]) (rest := []) (st2 := [.int z9]) S hk (c_X10_in l D cy H x1 (0 : Int32) (64 : Int32) z9 hz9) ok_X10_in tw_869 ⟨rfl, rfl, Nat.le_of_ble_eq_true rfl, Nat.le_of_ble_eq_true rfl⟩ rfl hl.1 rfl (Nat.le_of_ble_eq_true rfl) dX10_paints_9 ⟨Nat.zero_le _, Nat.zero_le _⟩ rfl ?_
  refine lv_if_eq (tgt := 37) hx hb dX10_paints_12 (by decide) (fun hc => ?_) (fun hc => ?_)
  · have hf := q_t hc hf
    refine lv_iconst (v := (-1 : Int32)) hx hb dX10_paints_37 (by decide) ?_
    have hf := Option.some.inj hf
    subst hf
    exact q_riW hP hS hx hb hr hlocks dX10_paints_38
  · have hf := q_f hc hf
    refine lv_iload_n hx hb dX10_paints_15 rfl (lv_at hl 2 rfl) ?_
    refine lv_bipush (v := (-9 : Int32)) hx hb dX10_paints_16 (by decide) ?_
    refine lv_bipush (v := (9 : Int32)) hx hb dX10_paints_18 (by decide) ?_
    obtain ⟨z20, hz20, hf⟩ := q_bind hf
    refine q_rdS (As := [.int x2, .int (-9 : Int32), .int (9 : Int32)]) (rest := []) (st2 := [.int z20]) S hk (c_X10_in l D cy H x2 (-9 : Int32) (9 : Int32) z20 hz20) ok_X10_in tw_869 ⟨rfl, rfl, Nat.le_of_ble_eq_true rfl, Nat.le_of_ble_eq_true rfl⟩ rfl hl.1 rfl (Nat.le_of_ble_eq_true rfl) dX10_paints_20 ⟨Nat.zero_le _, Nat.zero_le _⟩ rfl ?_
    refine lv_if_eq (tgt := 37) hx hb dX10_paints_23 (by decide) (fun hc => ?_) (fun hc => ?_)
    · have hf := q_t hc hf
      refine lv_iconst (v := (-1 : Int32)) hx hb dX10_paints_37 (by decide) ?_
      have hf := Option.some.inj hf
      subst hf
      exact q_riW hP hS hx hb hr hlocks dX10_paints_38
    · have hf := q_f hc hf
      refine lv_iload_n hx hb dX10_paints_26 rfl (lv_at hl 3 rfl) ?_
      refine lv_bipush (v := (-9 : Int32)) hx hb dX10_paints_27 (by decide) ?_
      refine lv_bipush (v := (9 : Int32)) hx hb dX10_paints_29 (by decide) ?_
      obtain ⟨z31, hz31, hf⟩ := q_bind hf
      refine q_rdS (As := [.int x3, .int (-9 : Int32), .int (9 : Int32)]) (rest := []) (st2 := [.int z31]) S hk (c_X10_in l D cy H x3 (-9 : Int32) (9 : Int32) z31 hz31) ok_X10_in tw_869 ⟨rfl, rfl, Nat.le_of_ble_eq_true rfl, Nat.le_of_ble_eq_true rfl⟩ rfl hl.1 rfl (Nat.le_of_ble_eq_true rfl) dX10_paints_31 ⟨Nat.zero_le _, Nat.zero_le _⟩ rfl ?_
      refine lv_if_ne (tgt := 39) hx hb dX10_paints_34 (by decide) (fun hc => ?_) (fun hc => ?_)
      · have hf := q_f hc hf
        refine lv_aload_n hx hb dX10_paints_39 rfl (lv_at hl 0 rfl) ?_
        refine va_get (D := D) (ci := 10) (v := .long m_dots) (C := RX10) (T := TX10) (N := 27) hx hb hts iX10 hown hk.1 hP 0 rfl rfl 4 (by decide) (hts _ tw_787) (fun _ h9 => h9) rfl dX10_paints_40 ?_
        refine lv_lconst (v := (0 : Int64)) hx hb dX10_paints_43 (by decide) ?_
        refine W.lcmp hx hb dX10_paints_44 ?_
        refine lv_if_ne (tgt := 51) hx hb dX10_paints_45 (by decide) (fun hc => ?_) (fun hc => ?_)
        · have hf := q_f hc hf
          refine lv_aload_n hx hb dX10_paints_51 rfl (lv_at hl 0 rfl) ?_
          refine lv_iload_n hx hb dX10_paints_52 rfl (lv_at hl 1 rfl) ?_
          refine va_put (D := D) (ci := 10) (v := .int x1) (ty := .int) (C := RX10) (T := TX10) (N := 27) hx hb hts iX10 tyX10 tyX10_ok nmX10 hown hk.1 hP hD hS 0 rfl rfl 11 (by decide) (hts _ tw_794) (fun _ h9 => h9) rfl (by decide +kernel) rfl rfl (Nat.le_of_ble_eq_true rfl) dX10_paints_53 (fun H locs hP hD hS => ?_)
          have hP : va_P D vwCl [(aM, .inr (10, [.int (0 : Int32), .ref aM_told, .ref aM_draft, .long m_shut, .long m_dots, .long m_draftShut, .long m_draftDots, .int m_undos, .ref aM_past, .ref aM_kept, .ref aM_isKept, .int x1, .int m_slopeX, .int m_slopeY, .int m_seen, .ref aM_seenLine, .ref aM_seenIs, .ref aM_rank, .ref aM_stage, .int m_letters, .ref aM_text, .int m_next, .int m_begin, .int m_token, .int m_gain, .int m_bestDot, .int m_bestCell])), (aM_told, .inl (cy.1, 7, .inl m_told)), (aM_rank, .inl (cy.1, 64, .inl m_rank)), (aM_stage, .inl (cy.1, 64, .inl m_stage))] H := hP
          have hD : va_D A [(aM, .inr (10, [.int (0 : Int32), .ref aM_told, .ref aM_draft, .long m_shut, .long m_dots, .long m_draftShut, .long m_draftDots, .int m_undos, .ref aM_past, .ref aM_kept, .ref aM_isKept, .int x1, .int m_slopeX, .int m_slopeY, .int m_seen, .ref aM_seenLine, .ref aM_seenIs, .ref aM_rank, .ref aM_stage, .int m_letters, .ref aM_text, .int m_next, .int m_begin, .int m_token, .int m_gain, .int m_bestDot, .int m_bestCell])), (aM_told, .inl (cy.1, 7, .inl m_told)), (aM_rank, .inl (cy.1, 64, .inl m_rank)), (aM_stage, .inl (cy.1, 64, .inl m_stage))] := hD
          refine lv_aload_n hx hb dX10_paints_56 rfl (lv_at hl 0 rfl) ?_
          refine lv_iload_n hx hb dX10_paints_57 rfl (lv_at hl 2 rfl) ?_
          refine va_put (D := D) (ci := 10) (v := .int x2) (ty := .int) (C := RX10) (T := TX10) (N := 27) hx hb hts iX10 tyX10 tyX10_ok nmX10 hown hk.1 hP hD hS 0 rfl rfl 12 (by decide) (hts _ tw_795) (fun _ h9 => h9) rfl (by decide +kernel) rfl rfl (Nat.le_of_ble_eq_true rfl) dX10_paints_58 (fun H locs hP hD hS => ?_)
          have hP : va_P D vwCl [(aM, .inr (10, [.int (0 : Int32), .ref aM_told, .ref aM_draft, .long m_shut, .long m_dots, .long m_draftShut, .long m_draftDots, .int m_undos, .ref aM_past, .ref aM_kept, .ref aM_isKept, .int x1, .int x2, .int m_slopeY, .int m_seen, .ref aM_seenLine, .ref aM_seenIs, .ref aM_rank, .ref aM_stage, .int m_letters, .ref aM_text, .int m_next, .int m_begin, .int m_token, .int m_gain, .int m_bestDot, .int m_bestCell])), (aM_told, .inl (cy.1, 7, .inl m_told)), (aM_rank, .inl (cy.1, 64, .inl m_rank)), (aM_stage, .inl (cy.1, 64, .inl m_stage))] H := hP
          have hD : va_D A [(aM, .inr (10, [.int (0 : Int32), .ref aM_told, .ref aM_draft, .long m_shut, .long m_dots, .long m_draftShut, .long m_draftDots, .int m_undos, .ref aM_past, .ref aM_kept, .ref aM_isKept, .int x1, .int x2, .int m_slopeY, .int m_seen, .ref aM_seenLine, .ref aM_seenIs, .ref aM_rank, .ref aM_stage, .int m_letters, .ref aM_text, .int m_next, .int m_begin, .int m_token, .int m_gain, .int m_bestDot, .int m_bestCell])), (aM_told, .inl (cy.1, 7, .inl m_told)), (aM_rank, .inl (cy.1, 64, .inl m_rank)), (aM_stage, .inl (cy.1, 64, .inl m_stage))] := hD
          refine lv_aload_n hx hb dX10_paints_61 rfl (lv_at hl 0 rfl) ?_
          refine lv_iload_n hx hb dX10_paints_62 rfl (lv_at hl 3 rfl) ?_
          refine va_put (D := D) (ci := 10) (v := .int x3) (ty := .int) (C := RX10) (T := TX10) (N := 27) hx hb hts iX10 tyX10 tyX10_ok nmX10 hown hk.1 hP hD hS 0 rfl rfl 13 (by decide) (hts _ tw_796) (fun _ h9 => h9) rfl (by decide +kernel) rfl rfl (Nat.le_of_ble_eq_true rfl) dX10_paints_63 (fun H locs hP hD hS => ?_)
          have hP : va_P D vwCl [(aM, .inr (10, [.int (0 : Int32), .ref aM_told, .ref aM_draft, .long m_shut, .long m_dots, .long m_draftShut, .long m_draftDots, .int m_undos, .ref aM_past, .ref aM_kept, .ref aM_isKept, .int x1, .int x2, .int x3, .int m_seen, .ref aM_seenLine, .ref aM_seenIs, .ref aM_rank, .ref aM_stage, .int m_letters, .ref aM_text, .int m_next, .int m_begin, .int m_token, .int m_gain, .int m_bestDot, .int m_bestCell])), (aM_told, .inl (cy.1, 7, .inl m_told)), (aM_rank, .inl (cy.1, 64, .inl m_rank)), (aM_stage, .inl (cy.1, 64, .inl m_stage))] H := hP
          have hD : va_D A [(aM, .inr (10, [.int (0 : Int32), .ref aM_told, .ref aM_draft, .long m_shut, .long m_dots, .long m_draftShut, .long m_draftDots, .int m_undos, .ref aM_past, .ref aM_kept, .ref aM_isKept, .int x1, .int x2, .int x3, .int m_seen, .ref aM_seenLine, .ref aM_seenIs, .ref aM_rank, .ref aM_stage, .int m_letters, .ref aM_text, .int m_next, .int m_begin, .int m_token, .int m_gain, .int m_bestDot, .int m_bestCell])), (aM_told, .inl (cy.1, 7, .inl m_told)), (aM_rank, .inl (cy.1, 64, .inl m_rank)), (aM_stage, .inl (cy.1, 64, .inl m_stage))] := hD
          refine lv_aload_n hx hb dX10_paints_66 rfl (lv_at hl 0 rfl) ?_
          obtain ⟨z67, hz67, hf⟩ := q_bind hf
          refine q_wrV (As := []) (rest := []) (st2 := []) (ws' := [(aM, .inr (10, [.int (0 : Int32), .ref aM_told, .ref aM_draft, .long m_shut, .long m_dots, .long m_draftShut, .long m_draftDots, .int m_undos, .ref aM_past, .ref aM_kept, .ref aM_isKept, .int x1, .int x2, .int x3, .int m_seen, .ref aM_seenLine, .ref aM_seenIs, .ref aM_rank, .ref aM_stage, .int m_letters, .ref aM_text, .int m_next, .int m_begin, .int m_token, .int m_gain, .int m_bestDot, .int m_bestCell])), (aM_told, .inl (cy.1, 7, .inl m_told)), (aM_rank, .inl (cy.1, 64, .inl (z67.1))), (aM_stage, .inl (cy.1, 64, .inl (z67.2)))]) S hk (c_X10_ranks l D cy H aM aM_told aM_draft aM_past aM_kept aM_isKept aM_seenLine aM_seenIs aM_rank aM_stage aM_text (0 : Int32) m_shut m_dots m_draftShut m_draftDots m_undos x1 x2 x3 m_seen m_letters m_next m_begin m_token m_gain m_bestDot m_bestCell m_told m_rank m_stage z67 (hP.sub [0, 1, 2, 3] rfl) (qD_sub hD [0, 1, 2, 3] (by decide) rfl) hz67) ok_X10_ranks tw_1030 ⟨rfl, rfl, Nat.le_of_ble_eq_true rfl, Nat.le_of_ble_eq_true rfl⟩ (va_recv hk.1 hP (ci := 10) (q0 := 0) rfl rfl) rfl hl.1 rfl (Nat.le_of_ble_eq_true rfl) dX10_paints_67 ⟨Nat.zero_le _, Nat.zero_le _⟩ rfl hP hD hS hA [0, 1, 2, 3] rfl rfl rfl rfl (fun H locs hP hD hS => ?_)
          refine lv_aload_n hx hb dX10_paints_70 rfl (lv_at hl 0 rfl) ?_
          obtain ⟨z71, hz71, hf⟩ := q_bind hf
          refine q_rdV (As := []) (rest := []) (st2 := [.int z71]) S hk (c_X10_printed l D cy H aM aM_told aM_draft aM_past aM_kept aM_isKept aM_seenLine aM_seenIs aM_rank aM_stage aM_text (0 : Int32) m_shut m_dots m_draftShut m_draftDots m_undos x1 x2 x3 m_seen m_letters m_next m_begin m_token m_gain m_bestDot m_bestCell m_told (z67.1) z71 (hP.sub [0, 1, 2] rfl) hz71) ok_X10_printed tw_1073 ⟨rfl, rfl, Nat.le_of_ble_eq_true rfl, Nat.le_of_ble_eq_true rfl⟩ (va_recv hk.1 hP (ci := 10) (q0 := 0) rfl rfl) rfl hl.1 rfl (Nat.le_of_ble_eq_true rfl) dX10_paints_71 ⟨Nat.zero_le _, Nat.zero_le _⟩ rfl ?_
          have hf := Option.some.inj hf
          subst hf
          exact q_riW hP hS hx hb hr hlocks dX10_paints_74
        · have hf := q_t hc hf
          refine lv_bipush (v := (-2 : Int32)) hx hb dX10_paints_48 (by decide) ?_
          have hf := Option.some.inj hf
          subst hf
          exact q_riW hP hS hx hb hr hlocks dX10_paints_50
      · have hf := q_t hc hf
        refine lv_iconst (v := (-1 : Int32)) hx hb dX10_paints_37 (by decide) ?_
        have hf := Option.some.inj hf
        subst hf
        exact q_riW hP hS hx hb hr hlocks dX10_paints_38
def f_X10_ink (m_thrown : Int32) (m_shut : Int64) (m_dots : Int64) (m_base : Int32) (m_slopeX : Int32) (m_slopeY : Int32) (m_told : Nat → Int32) (m_rank : Nat → Int32) (m_stage : Nat → Int32) (x1 : Int32) (x2 : Int32) : Option (Int32 × Int32 × (Nat → Int32) × (Nat → Int32)) := (f_X10_isPlace m_told x1 x2).bind (fun z8 => if z8 = 0 then (some ((-1 : Int32), (0 : Int32), m_rank, m_stage)) else (if (lg_cmp m_dots (0 : Int64)) = 0 then (some ((-2 : Int32), (0 : Int32), m_rank, m_stage)) else ((f_X10_ranks m_shut m_dots m_told m_rank m_stage).bind (fun z29 => (f_X10_at m_told x1 x2).bind (fun z36 => (f_X10_isInk m_shut m_base m_slopeX m_slopeY m_told (z29.1) z36).bind (fun z39 => if z39 = 0 then (some ((0 : Int32), (0 : Int32), (z29.1), (z29.2))) else (some ((1 : Int32), (0 : Int32), (z29.1), (z29.2)))))))))
theorem ok_X10_ink : OkV yX10_ink cX10_ink 3 (some Jvm.ClassFile.FieldType.int) 2 := ⟨⟨tw_1088, tw_13, by decide +kernel, by decide +kernel, by decide +kernel⟩, tw_1086, tw_1087⟩
set_option maxHeartbeats 4000000 in
set_option maxRecDepth 100000 in
theorem c_X10_ink (l : Launch) (D : va_G) (cy : ClassId × ClassId × ClassId) (H0 : Heap) (aM aM_told aM_draft aM_past aM_kept aM_isKept aM_seenLine aM_seenIs aM_rank aM_stage aM_text : Nat) (m_thrown : Int32) (m_shut : Int64) (m_dots : Int64) (m_draftShut : Int64) (m_draftDots : Int64) (m_undos : Int32) (m_base : Int32) (m_slopeX : Int32) (m_slopeY : Int32) (m_seen : Int32) (m_letters : Int32) (m_next : Int32) (m_begin : Int32) (m_token : Int32) (m_gain : Int32) (m_bestDot : Int32) (m_bestCell : Int32) (m_told : Nat → Int32) (m_rank : Nat → Int32) (m_stage : Nat → Int32) (x1 : Int32) (x2 : Int32) (r : Int32 × Int32 × (Nat → Int32) × (Nat → Int32)) (hP : va_P D vwCl [(aM, .inr (10, [.int m_thrown, .ref aM_told, .ref aM_draft, .long m_shut, .long m_dots, .long m_draftShut, .long m_draftDots, .int m_undos, .ref aM_past, .ref aM_kept, .ref aM_isKept, .int m_base, .int m_slopeX, .int m_slopeY, .int m_seen, .ref aM_seenLine, .ref aM_seenIs, .ref aM_rank, .ref aM_stage, .int m_letters, .ref aM_text, .int m_next, .int m_begin, .int m_token, .int m_gain, .int m_bestDot, .int m_bestCell])), (aM_told, .inl (cy.1, 7, .inl m_told)), (aM_rank, .inl (cy.1, 64, .inl m_rank)), (aM_stage, .inl (cy.1, 64, .inl m_stage))] H0) (hD0 : va_D (fun _ => True) [(aM, .inr (10, [.int m_thrown, .ref aM_told, .ref aM_draft, .long m_shut, .long m_dots, .long m_draftShut, .long m_draftDots, .int m_undos, .ref aM_past, .ref aM_kept, .ref aM_isKept, .int m_base, .int m_slopeX, .int m_slopeY, .int m_seen, .ref aM_seenLine, .ref aM_seenIs, .ref aM_rank, .ref aM_stage, .int m_letters, .ref aM_text, .int m_next, .int m_begin, .int m_token, .int m_gain, .int m_bestDot, .int m_bestCell])), (aM_told, .inl (cy.1, 7, .inl m_told)), (aM_rank, .inl (cy.1, 64, .inl m_rank)), (aM_stage, .inl (cy.1, 64, .inl m_stage))]) (hf : f_X10_ink m_thrown m_shut m_dots m_base m_slopeX m_slopeY m_told m_rank m_stage x1 x2 = some r) : Wr l yX10_ink cX10_ink 3 (some Jvm.ClassFile.FieldType.int) ({ frames := 6, cells := 0, slots := 0, locals := 154 } : Room) ([.ref aM, .int x1, .int x2] : List Value) (some (.int (r.1))) D cy H0 [(aM, .inr (10, [.int m_thrown, .ref aM_told, .ref aM_draft, .long m_shut, .long m_dots, .long m_draftShut, .long m_draftDots, .int m_undos, .ref aM_past, .ref aM_kept, .ref aM_isKept, .int m_base, .int m_slopeX, .int m_slopeY, .int m_seen, .ref aM_seenLine, .ref aM_seenIs, .ref aM_rank, .ref aM_stage, .int m_letters, .ref aM_text, .int m_next, .int m_begin, .int m_token, .int m_gain, .int m_bestDot, .int m_bestCell])), (aM_told, .inl (cy.1, 7, .inl m_told)), (aM_rank, .inl (cy.1, 64, .inl m_rank)), (aM_stage, .inl (cy.1, 64, .inl m_stage))] [(aM, .inr (10, [.int (r.2.1), .ref aM_told, .ref aM_draft, .long m_shut, .long m_dots, .long m_draftShut, .long m_draftDots, .int m_undos, .ref aM_past, .ref aM_kept, .ref aM_isKept, .int m_base, .int m_slopeX, .int m_slopeY, .int m_seen, .ref aM_seenLine, .ref aM_seenIs, .ref aM_rank, .ref aM_stage, .int m_letters, .ref aM_text, .int m_next, .int m_begin, .int m_token, .int m_gain, .int m_bestDot, .int m_bestCell])), (aM_told, .inl (cy.1, 7, .inl m_told)), (aM_rank, .inl (cy.1, 64, .inl (r.2.2.1))), (aM_stage, .inl (cy.1, 64, .inl (r.2.2.2)))] := by
  refine wr_of (by decide +kernel) (Nat.le_of_ble_eq_true rfl) hD0 ?_
  intro p e s m below meth c ls A S hr hlocks hk hl hD hS hA
  obtain ⟨hx, hb, hml, hown, hts⟩ := id S
  have hl : lv_has ls 3 [(0, .ref aM), (1, .int x1), (2, .int x2)] := hl
  rw [f_X10_ink] at hf
  refine lv_aload_n hx hb dX10_ink_0 rfl (lv_at hl 0 rfl) ?_
  refine lv_iconst (v := (0 : Int32)) hx hb dX10_ink_1 (by decide) ?_
  refine va_put (D := D) (ci := 10) (v := .int (0 : Int32)) (ty := .int) (C := RX10) (T := TX10) (N := 27) hx hb hts iX10 tyX10 tyX10_ok nmX10 hown hk.1 hP hD hS 0 rfl rfl 0 (by decide) (hts _ tw_783) (fun _ h9 => h9) rfl (by decide +kernel) rfl rfl (Nat.le_of_ble_eq_true rfl) dX10_ink_2 (fun H locs hP hD hS => ?_)
  have hP : va_P D vwCl [(aM, .inr (10, [.int (0 : Int32), .ref aM_told, .ref aM_draft, .long m_shut, .long m_dots, .long m_draftShut, .long m_draftDots, .int m_undos, .ref aM_past, .ref aM_kept, .ref aM_isKept, .int m_base, .int m_slopeX, .int m_slopeY, .int m_seen, .ref aM_seenLine, .ref aM_seenIs, .ref aM_rank, .ref aM_stage, .int m_letters, .ref aM_text, .int m_next, .int m_begin, .int m_token, .int m_gain, .int m_bestDot, .int m_bestCell])), (aM_told, .inl (cy.1, 7, .inl m_told)), (aM_rank, .inl (cy.1, 64, .inl m_rank)), (aM_stage, .inl (cy.1, 64, .inl m_stage))] H := hP
  have hD : va_D A [(aM, .inr (10, [.int (0 : Int32), .ref aM_told, .ref aM_draft, .long m_shut, .long m_dots, .long m_draftShut, .long m_draftDots, .int m_undos, .ref aM_past, .ref aM_kept, .ref aM_isKept, .int m_base, .int m_slopeX, .int m_slopeY, .int m_seen, .ref aM_seenLine, .ref aM_seenIs, .ref aM_rank, .ref aM_stage, .int m_letters, .ref aM_text, .int m_next, .int m_begin, .int m_token, .int m_gain, .int m_bestDot, .int m_bestCell])), (aM_told, .inl (cy.1, 7, .inl m_told)), (aM_rank, .inl (cy.1, 64, .inl m_rank)), (aM_stage, .inl (cy.1, 64, .inl m_stage))] := hD
  refine lv_aload_n hx hb dX10_ink_5 rfl (lv_at hl 0 rfl) ?_
  refine lv_iload_n hx hb dX10_ink_6 rfl (lv_at hl 1 rfl) ?_
  refine lv_iload_n hx hb dX10_ink_7 rfl (lv_at hl 2 rfl) ?_
  obtain ⟨z8, hz8, hf⟩ := q_bind hf
  refine q_rdV (As := [.int x1, .int x2]) (rest := []) (st2 := [.int z8]) S hk (c_X10_isPlace l D cy H aM aM_told aM_draft aM_past aM_kept aM_isKept aM_seenLine aM_seenIs aM_rank aM_stage aM_text (0 : Int32) m_shut m_dots m_draftShut m_draftDots m_undos m_base m_slopeX m_slopeY m_seen m_letters m_next m_begin m_token m_gain m_bestDot m_bestCell m_told x1 x2 z8 (hP.sub [0, 1] rfl) hz8) ok_X10_isPlace tw_915 ⟨rfl, rfl, Nat.le_of_ble_eq_true rfl, Nat.le_of_ble_eq_true rfl⟩ (va_recv hk.1 hP (ci := 10) (q0 := 0) rfl rfl) rfl hl.1 rfl (Nat.le_of_ble_eq_true rfl) dX10_ink_8 ⟨Nat.zero_le _, Nat.zero_le _⟩ rfl ?_
  refine lv_if_ne (tgt := 16) hx hb dX10_ink_11 (by decide) (fun hc => ?_) (fun hc => ?_)
  · have hf := q_f hc hf
    refine lv_aload_n hx hb dX10_ink_16 rfl (lv_at hl 0 rfl) ?_
    refine va_get (D := D) (ci := 10) (v := .long m_dots) (C := RX10) (T := TX10) (N := 27) hx hb hts iX10 hown hk.1 hP 0 rfl rfl 4 (by decide) (hts _ tw_787) (fun _ h9 => h9) rfl dX10_ink_17 ?_
    refine lv_lconst (v := (0 : Int64)) hx hb dX10_ink_20 (by decide) ?_
    refine W.lcmp hx hb dX10_ink_21 ?_
    refine lv_if_ne (tgt := 28) hx hb dX10_ink_22 (by decide) (fun hc => ?_) (fun hc => ?_)
    · have hf := q_f hc hf
      refine lv_aload_n hx hb dX10_ink_28 rfl (lv_at hl 0 rfl) ?_
      obtain ⟨z29, hz29, hf⟩ := q_bind hf
      refine q_wrV (As := []) (rest := []) (st2 := []) (ws' := [(aM, .inr (10, [.int (0 : Int32), .ref aM_told, .ref aM_draft, .long m_shut, .long m_dots, .long m_draftShut, .long m_draftDots, .int m_undos, .ref aM_past, .ref aM_kept, .ref aM_isKept, .int m_base, .int m_slopeX, .int m_slopeY, .int m_seen, .ref aM_seenLine, .ref aM_seenIs, .ref aM_rank, .ref aM_stage, .int m_letters, .ref aM_text, .int m_next, .int m_begin, .int m_token, .int m_gain, .int m_bestDot, .int m_bestCell])), (aM_told, .inl (cy.1, 7, .inl m_told)), (aM_rank, .inl (cy.1, 64, .inl (z29.1))), (aM_stage, .inl (cy.1, 64, .inl (z29.2)))]) S hk (c_X10_ranks l D cy H aM aM_told aM_draft aM_past aM_kept aM_isKept aM_seenLine aM_seenIs aM_rank aM_stage aM_text (0 : Int32) m_shut m_dots m_draftShut m_draftDots m_undos m_base m_slopeX m_slopeY m_seen m_letters m_next m_begin m_token m_gain m_bestDot m_bestCell m_told m_rank m_stage z29 (hP.sub [0, 1, 2, 3] rfl) (qD_sub hD [0, 1, 2, 3] (by decide) rfl) hz29) ok_X10_ranks tw_1030 ⟨rfl, rfl, Nat.le_of_ble_eq_true rfl, Nat.le_of_ble_eq_true rfl⟩ (va_recv hk.1 hP (ci := 10) (q0 := 0) rfl rfl) rfl hl.1 rfl (Nat.le_of_ble_eq_true rfl) dX10_ink_29 ⟨Nat.zero_le _, Nat.zero_le _⟩ rfl hP hD hS hA [0, 1, 2, 3] rfl rfl rfl rfl (fun H locs hP hD hS => ?_)
      refine lv_aload_n hx hb dX10_ink_32 rfl (lv_at hl 0 rfl) ?_
      refine lv_aload_n hx hb dX10_ink_33 rfl (lv_at hl 0 rfl) ?_
      refine lv_iload_n hx hb dX10_ink_34 rfl (lv_at hl 1 rfl) ?_
      refine lv_iload_n hx hb dX10_ink_35 rfl (lv_at hl 2 rfl) ?_
      obtain ⟨z36, hz36, hf⟩ := q_bind hf
      refine q_rdV (As := [.int x1, .int x2]) (rest := [.ref aM]) (st2 := [.int z36, .ref aM]) S hk (c_X10_at l D cy H aM aM_told aM_draft aM_past aM_kept aM_isKept aM_seenLine aM_seenIs aM_rank aM_stage aM_text (0 : Int32) m_shut m_dots m_draftShut m_draftDots m_undos m_base m_slopeX m_slopeY m_seen m_letters m_next m_begin m_token m_gain m_bestDot m_bestCell m_told x1 x2 z36 (hP.sub [0, 1] rfl) hz36) ok_X10_at tw_919 ⟨rfl, rfl, Nat.le_of_ble_eq_true rfl, Nat.le_of_ble_eq_true rfl⟩ (va_recv hk.1 hP (ci := 10) (q0 := 0) rfl rfl) rfl hl.1 rfl (Nat.le_of_ble_eq_true rfl) dX10_ink_36 ⟨Nat.zero_le _, Nat.zero_le _⟩ rfl ?_
      obtain ⟨z39, hz39, hf⟩ := q_bind hf
      refine q_rdV (As := [.int z36]) (rest := []) (st2 := [.int z39]) S hk (c_X10_isInk l D cy H aM aM_told aM_draft aM_past aM_kept aM_isKept aM_seenLine aM_seenIs aM_rank aM_stage aM_text (0 : Int32) m_shut m_dots m_draftShut m_draftDots m_undos m_base m_slopeX m_slopeY m_seen m_letters m_next m_begin m_token m_gain m_bestDot m_bestCell m_told (z29.1) z36 z39 (hP.sub [0, 1, 2] rfl) hz39) ok_X10_isInk tw_1077 ⟨rfl, rfl, Nat.le_of_ble_eq_true rfl, Nat.le_of_ble_eq_true rfl⟩ (va_recv hk.1 hP (ci := 10) (q0 := 0) rfl rfl) rfl hl.1 rfl (Nat.le_of_ble_eq_true rfl) dX10_ink_39 ⟨Nat.zero_le _, Nat.zero_le _⟩ rfl ?_
      refine lv_if_eq (tgt := 49) hx hb dX10_ink_42 (by decide) (fun hc => ?_) (fun hc => ?_)
      · have hf := q_t hc hf
        refine lv_iconst (v := (0 : Int32)) hx hb dX10_ink_49 (by decide) ?_
        have hf := Option.some.inj hf
        subst hf
        exact q_riW hP hS hx hb hr hlocks dX10_ink_50
      · have hf := q_f hc hf
        refine lv_iconst (v := (1 : Int32)) hx hb dX10_ink_45 (by decide) ?_
        refine lv_goto (tgt := 50) hx hb dX10_ink_46 (by decide) ?_
        have hf := Option.some.inj hf
        subst hf
        exact q_riW hP hS hx hb hr hlocks dX10_ink_50
    · have hf := q_t hc hf
      refine lv_bipush (v := (-2 : Int32)) hx hb dX10_ink_25 (by decide) ?_
      have hf := Option.some.inj hf
      subst hf
      exact q_riW hP hS hx hb hr hlocks dX10_ink_27
  · have hf := q_t hc hf
    refine lv_iconst (v := (-1 : Int32)) hx hb dX10_ink_14 (by decide) ?_
    have hf := Option.some.inj hf
    subst hf
    exact q_riW hP hS hx hb hr hlocks dX10_ink_15
def j_X10_off_59 (k33 : Int32 → Int32 → Int32 → (Nat → Int32) → (Nat → Int32) → Option (Int32 × Int32 × (Nat → Int32) × (Nat → Int32))) (x2 : Int32) (k0 : Int32) (k1 : Int32) (m_thrown : Int32) (m_rank : Nat → Int32) (m_stage : Nat → Int32) : Option (Int32 × Int32 × (Nat → Int32) × (Nat → Int32)) := k33 (k0 - k1) (x2 + 1) m_thrown m_rank m_stage
def lp_X10_off_33 (m_shut : Int64) (m_base : Int32) (m_slopeX : Int32) (m_slopeY : Int32) (m_told : Nat → Int32) : Nat → Int32 → Int32 → Int32 → (Nat → Int32) → (Nat → Int32) → Option (Int32 × Int32 × (Nat → Int32) × (Nat → Int32))
  | 0, _, _, _, _, _ => none
  | n + 1, x1, x2, m_thrown, m_rank, m_stage => (f_X10_cells m_told).bind (fun z35 => if z35 ≤ x2 then (some (x1, m_thrown, m_rank, m_stage)) else ((f_X10_isFree m_shut x2).bind (fun z44 => if z44 = 0 then (j_X10_off_59 (lp_X10_off_33 m_shut m_base m_slopeX m_slopeY m_told n) x2 x1 (0 : Int32) m_thrown m_rank m_stage) else ((f_X10_level m_shut m_base m_slopeX m_slopeY m_told x2).bind (fun z52 => j_X10_off_59 (lp_X10_off_33 m_shut m_base m_slopeX m_slopeY m_told n) x2 x1 z52 m_thrown m_rank m_stage)))))
theorem lp_X10_off_33_s (m_shut : Int64) (m_base : Int32) (m_slopeX : Int32) (m_slopeY : Int32) (m_told : Nat → Int32) (n : Nat) (x1 : Int32) (x2 : Int32) (m_thrown : Int32) (m_rank : Nat → Int32) (m_stage : Nat → Int32) : lp_X10_off_33 m_shut m_base m_slopeX m_slopeY m_told (n + 1) x1 x2 m_thrown m_rank m_stage = ((f_X10_cells m_told).bind (fun z35 => if z35 ≤ x2 then (some (x1, m_thrown, m_rank, m_stage)) else ((f_X10_isFree m_shut x2).bind (fun z44 => if z44 = 0 then (j_X10_off_59 (lp_X10_off_33 m_shut m_base m_slopeX m_slopeY m_told n) x2 x1 (0 : Int32) m_thrown m_rank m_stage) else ((f_X10_level m_shut m_base m_slopeX m_slopeY m_told x2).bind (fun z52 => j_X10_off_59 (lp_X10_off_33 m_shut m_base m_slopeX m_slopeY m_told n) x2 x1 z52 m_thrown m_rank m_stage)))))) := rfl
theorem lp_X10_off_33_z (m_shut : Int64) (m_base : Int32) (m_slopeX : Int32) (m_slopeY : Int32) (m_told : Nat → Int32) (x1 : Int32) (x2 : Int32) (m_thrown : Int32) (m_rank : Nat → Int32) (m_stage : Nat → Int32) : lp_X10_off_33 m_shut m_base m_slopeX m_slopeY m_told 0 x1 x2 m_thrown m_rank m_stage = none := rfl
def f_X10_off (m_thrown : Int32) (m_shut : Int64) (m_dots : Int64) (m_base : Int32) (m_slopeX : Int32) (m_slopeY : Int32) (m_told : Nat → Int32) (m_rank : Nat → Int32) (m_stage : Nat → Int32) : Option (Int32 × Int32 × (Nat → Int32) × (Nat → Int32)) := if (lg_cmp m_dots (0 : Int64)) = 0 then (some ((-2 : Int32), (0 : Int32), m_rank, m_stage)) else ((f_X10_ranks m_shut m_dots m_told m_rank m_stage).bind (fun z18 => (f_X10_free m_shut m_told).bind (fun z22 => (f_X10_printed m_shut m_base m_slopeX m_slopeY m_told (z18.1)).bind (fun z26 => lp_X10_off_33 m_shut m_base m_slopeX m_slopeY m_told FU (z22 * z26) (0 : Int32) (0 : Int32) (z18.1) (z18.2)))))
theorem ok_X10_off : OkV yX10_off cX10_off 3 (some Jvm.ClassFile.FieldType.int) 0 := ⟨⟨tw_1092, tw_13, by decide +kernel, by decide +kernel, by decide +kernel⟩, tw_1090, tw_1091⟩
set_option maxHeartbeats 4000000 in
set_option maxRecDepth 100000 in
theorem c_X10_off (l : Launch) (D : va_G) (cy : ClassId × ClassId × ClassId) (H0 : Heap) (aM aM_told aM_draft aM_past aM_kept aM_isKept aM_seenLine aM_seenIs aM_rank aM_stage aM_text : Nat) (m_thrown : Int32) (m_shut : Int64) (m_dots : Int64) (m_draftShut : Int64) (m_draftDots : Int64) (m_undos : Int32) (m_base : Int32) (m_slopeX : Int32) (m_slopeY : Int32) (m_seen : Int32) (m_letters : Int32) (m_next : Int32) (m_begin : Int32) (m_token : Int32) (m_gain : Int32) (m_bestDot : Int32) (m_bestCell : Int32) (m_told : Nat → Int32) (m_rank : Nat → Int32) (m_stage : Nat → Int32) (r : Int32 × Int32 × (Nat → Int32) × (Nat → Int32)) (hP : va_P D vwCl [(aM, .inr (10, [.int m_thrown, .ref aM_told, .ref aM_draft, .long m_shut, .long m_dots, .long m_draftShut, .long m_draftDots, .int m_undos, .ref aM_past, .ref aM_kept, .ref aM_isKept, .int m_base, .int m_slopeX, .int m_slopeY, .int m_seen, .ref aM_seenLine, .ref aM_seenIs, .ref aM_rank, .ref aM_stage, .int m_letters, .ref aM_text, .int m_next, .int m_begin, .int m_token, .int m_gain, .int m_bestDot, .int m_bestCell])), (aM_told, .inl (cy.1, 7, .inl m_told)), (aM_rank, .inl (cy.1, 64, .inl m_rank)), (aM_stage, .inl (cy.1, 64, .inl m_stage))] H0) (hD0 : va_D (fun _ => True) [(aM, .inr (10, [.int m_thrown, .ref aM_told, .ref aM_draft, .long m_shut, .long m_dots, .long m_draftShut, .long m_draftDots, .int m_undos, .ref aM_past, .ref aM_kept, .ref aM_isKept, .int m_base, .int m_slopeX, .int m_slopeY, .int m_seen, .ref aM_seenLine, .ref aM_seenIs, .ref aM_rank, .ref aM_stage, .int m_letters, .ref aM_text, .int m_next, .int m_begin, .int m_token, .int m_gain, .int m_bestDot, .int m_bestCell])), (aM_told, .inl (cy.1, 7, .inl m_told)), (aM_rank, .inl (cy.1, 64, .inl m_rank)), (aM_stage, .inl (cy.1, 64, .inl m_stage))]) (hf : f_X10_off m_thrown m_shut m_dots m_base m_slopeX m_slopeY m_told m_rank m_stage = some r) : Wr l yX10_off cX10_off 3 (some Jvm.ClassFile.FieldType.int) ({ frames := 6, cells := 0, slots := 0, locals := 154 } : Room) ([.ref aM] : List Value) (some (.int (r.1))) D cy H0 [(aM, .inr (10, [.int m_thrown, .ref aM_told, .ref aM_draft, .long m_shut, .long m_dots, .long m_draftShut, .long m_draftDots, .int m_undos, .ref aM_past, .ref aM_kept, .ref aM_isKept, .int m_base, .int m_slopeX, .int m_slopeY, .int m_seen, .ref aM_seenLine, .ref aM_seenIs, .ref aM_rank, .ref aM_stage, .int m_letters, .ref aM_text, .int m_next, .int m_begin, .int m_token, .int m_gain, .int m_bestDot, .int m_bestCell])), (aM_told, .inl (cy.1, 7, .inl m_told)), (aM_rank, .inl (cy.1, 64, .inl m_rank)), (aM_stage, .inl (cy.1, 64, .inl m_stage))] [(aM, .inr (10, [.int (r.2.1), .ref aM_told, .ref aM_draft, .long m_shut, .long m_dots, .long m_draftShut, .long m_draftDots, .int m_undos, .ref aM_past, .ref aM_kept, .ref aM_isKept, .int m_base, .int m_slopeX, .int m_slopeY, .int m_seen, .ref aM_seenLine, .ref aM_seenIs, .ref aM_rank, .ref aM_stage, .int m_letters, .ref aM_text, .int m_next, .int m_begin, .int m_token, .int m_gain, .int m_bestDot, .int m_bestCell])), (aM_told, .inl (cy.1, 7, .inl m_told)), (aM_rank, .inl (cy.1, 64, .inl (r.2.2.1))), (aM_stage, .inl (cy.1, 64, .inl (r.2.2.2)))] := by
  refine wr_of (by decide +kernel) (Nat.le_of_ble_eq_true rfl) hD0 ?_
  intro p e s m below meth c ls A S hr hlocks hk hl hD hS hA
  obtain ⟨hx, hb, hml, hown, hts⟩ := id S
  have hl : lv_has ls 3 [(0, .ref aM)] := hl
  rw [f_X10_off] at hf
  have J33 : ∀ (n33 : Nat) (x1 : Int32) (x2 : Int32) (m_thrown : Int32) (m_rank : Nat → Int32) (m_stage : Nat → Int32) (H : Heap) (locs : List Loc) (ls : Array Slot), va_P D vwCl [(aM, .inr (10, [.int m_thrown, .ref aM_told, .ref aM_draft, .long m_shut, .long m_dots, .long m_draftShut, .long m_draftDots, .int m_undos, .ref aM_past, .ref aM_kept, .ref aM_isKept, .int m_base, .int m_slopeX, .int m_slopeY, .int m_seen, .ref aM_seenLine, .ref aM_seenIs, .ref aM_rank, .ref aM_stage, .int m_letters, .ref aM_text, .int m_next, .int m_begin, .int m_token, .int m_gain, .int m_bestDot, .int m_bestCell])), (aM_told, .inl (cy.1, 7, .inl m_told)), (aM_rank, .inl (cy.1, 64, .inl m_rank)), (aM_stage, .inl (cy.1, 64, .inl m_stage))] H → va_D A [(aM, .inr (10, [.int m_thrown, .ref aM_told, .ref aM_draft, .long m_shut, .long m_dots, .long m_draftShut, .long m_draftDots, .int m_undos, .ref aM_past, .ref aM_kept, .ref aM_isKept, .int m_base, .int m_slopeX, .int m_slopeY, .int m_seen, .ref aM_seenLine, .ref aM_seenIs, .ref aM_rank, .ref aM_stage, .int m_letters, .ref aM_text, .int m_next, .int m_begin, .int m_token, .int m_gain, .int m_bestDot, .int m_bestCell])), (aM_told, .inl (cy.1, 7, .inl m_told)), (aM_rank, .inl (cy.1, 64, .inl m_rank)), (aM_stage, .inl (cy.1, 64, .inl m_stage))] → va_S A H0 H locs → lv_has ls 3 [(0, .ref aM), (1, .int x1), (2, .int x2)] → lp_X10_off_33 m_shut m_base m_slopeX m_slopeY m_told n33 x1 x2 m_thrown m_rank m_stage = some r → W p l e ({ frames := 6, cells := 0, slots := 0, locals := 154 } : Room) s m ([.ref aM] : List Value).toArray below meth c H locs 0 0 (MQ below (QW (some (.int (r.1))) D [(aM, .inr (10, [.int (r.2.1), .ref aM_told, .ref aM_draft, .long m_shut, .long m_dots, .long m_draftShut, .long m_draftDots, .int m_undos, .ref aM_past, .ref aM_kept, .ref aM_isKept, .int m_base, .int m_slopeX, .int m_slopeY, .int m_seen, .ref aM_seenLine, .ref aM_seenIs, .ref aM_rank, .ref aM_stage, .int m_letters, .ref aM_text, .int m_next, .int m_begin, .int m_token, .int m_gain, .int m_bestDot, .int m_bestCell])), (aM_told, .inl (cy.1, 7, .inl m_told)), (aM_rank, .inl (cy.1, 64, .inl (r.2.2.1))), (aM_stage, .inl (cy.1, 64, .inl (r.2.2.2)))] H0 A) ([.ref aM] : List Value).toArray s 0 0 A) (F0 m 33 ls []) := by
    intro n33
    induction n33 with
    | zero =>
      intro x1 x2 m_thrown m_rank m_stage H locs ls hP hD hS hl hf
      rw [lp_X10_off_33_z] at hf
      cases hf
    | succ n33 ih33 =>
      have J59 : ∀ (x2 : Int32) (k0 : Int32) (k1 : Int32) (m_thrown : Int32) (m_rank : Nat → Int32) (m_stage : Nat → Int32) (H : Heap) (locs : List Loc) (ls : Array Slot), va_P D vwCl [(aM, .inr (10, [.int m_thrown, .ref aM_told, .ref aM_draft, .long m_shut, .long m_dots, .long m_draftShut, .long m_draftDots, .int m_undos, .ref aM_past, .ref aM_kept, .ref aM_isKept, .int m_base, .int m_slopeX, .int m_slopeY, .int m_seen, .ref aM_seenLine, .ref aM_seenIs, .ref aM_rank, .ref aM_stage, .int m_letters, .ref aM_text, .int m_next, .int m_begin, .int m_token, .int m_gain, .int m_bestDot, .int m_bestCell])), (aM_told, .inl (cy.1, 7, .inl m_told)), (aM_rank, .inl (cy.1, 64, .inl m_rank)), (aM_stage, .inl (cy.1, 64, .inl m_stage))] H → va_D A [(aM, .inr (10, [.int m_thrown, .ref aM_told, .ref aM_draft, .long m_shut, .long m_dots, .long m_draftShut, .long m_draftDots, .int m_undos, .ref aM_past, .ref aM_kept, .ref aM_isKept, .int m_base, .int m_slopeX, .int m_slopeY, .int m_seen, .ref aM_seenLine, .ref aM_seenIs, .ref aM_rank, .ref aM_stage, .int m_letters, .ref aM_text, .int m_next, .int m_begin, .int m_token, .int m_gain, .int m_bestDot, .int m_bestCell])), (aM_told, .inl (cy.1, 7, .inl m_told)), (aM_rank, .inl (cy.1, 64, .inl m_rank)), (aM_stage, .inl (cy.1, 64, .inl m_stage))] → va_S A H0 H locs → lv_has ls 3 [(0, .ref aM), (2, .int x2)] → j_X10_off_59 (lp_X10_off_33 m_shut m_base m_slopeX m_slopeY m_told n33) x2 k0 k1 m_thrown m_rank m_stage = some r → W p l e ({ frames := 6, cells := 0, slots := 0, locals := 154 } : Room) s m ([.ref aM] : List Value).toArray below meth c H locs 0 0 (MQ below (QW (some (.int (r.1))) D [(aM, .inr (10, [.int (r.2.1), .ref aM_told, .ref aM_draft, .long m_shut, .long m_dots, .long m_draftShut, .long m_draftDots, .int m_undos, .ref aM_past, .ref aM_kept, .ref aM_isKept, .int m_base, .int m_slopeX, .int m_slopeY, .int m_seen, .ref aM_seenLine, .ref aM_seenIs, .ref aM_rank, .ref aM_stage, .int m_letters, .ref aM_text, .int m_next, .int m_begin, .int m_token, .int m_gain, .int m_bestDot, .int m_bestCell])), (aM_told, .inl (cy.1, 7, .inl m_told)), (aM_rank, .inl (cy.1, 64, .inl (r.2.2.1))), (aM_stage, .inl (cy.1, 64, .inl (r.2.2.2)))] H0 A) ([.ref aM] : List Value).toArray s 0 0 A) (F0 m 59 ls [.int k1, .int k0]) := by
        intro x2 k0 k1 m_thrown m_rank m_stage H locs ls hP hD hS hl hf
        rw [j_X10_off_59] at hf
        refine lv_isub hx hb dX10_off_59 ?_
        refine lv_istore_n (lv' := [(1, .int (k0 - k1)), (0, .ref aM), (2, .int x2)]) hx hb dX10_off_60 rfl hl (by decide) rfl (fun ls hl => ?_)
        refine lv_iinc (v := (x2 + 1)) (lv' := [(2, .int (x2 + 1)), (1, .int (k0 - k1)), (0, .ref aM)]) hx hb dX10_off_61 hl (k := 2) rfl rfl (by decide) rfl (fun ls hl => ?_)
        refine lv_goto (tgt := 33) hx hb dX10_off_64 (by decide) ?_
        exact ih33 (k0 - k1) (x2 + 1) m_thrown m_rank m_stage H locs ls hP hD hS (lv_sub hl [2, 1, 0] rfl) hf
      intro x1 x2 m_thrown m_rank m_stage H locs ls hP hD hS hl hf
      rw [lp_X10_off_33_s] at hf
      refine lv_iload_n hx hb dX10_off_33 rfl (lv_at hl 2 rfl) ?_
      refine lv_aload_n hx hb dX10_off_34 rfl (lv_at hl 0 rfl) ?_
      obtain ⟨z35, hz35, hf⟩ := q_bind hf
      refine q_rdV (As := []) (rest := [.int x2]) (st2 := [.int z35, .int x2]) S hk (c_X10_cells l D cy H aM aM_told aM_draft aM_past aM_kept aM_isKept aM_seenLine aM_seenIs aM_rank aM_stage aM_text m_thrown m_shut m_dots m_draftShut m_draftDots m_undos m_base m_slopeX m_slopeY m_seen m_letters m_next m_begin m_token m_gain m_bestDot m_bestCell m_told z35 (hP.sub [0, 1] rfl) hz35) ok_X10_cells tw_931 ⟨rfl, rfl, Nat.le_of_ble_eq_true rfl, Nat.le_of_ble_eq_true rfl⟩ (va_recv hk.1 hP (ci := 10) (q0 := 0) rfl rfl) rfl hl.1 rfl (Nat.le_of_ble_eq_true rfl) dX10_off_35 ⟨Nat.zero_le _, Nat.zero_le _⟩ rfl ?_
      refine lv_icmp_ge (tgt := 67) hx hb dX10_off_38 (by decide) (fun hc => ?_) (fun hc => ?_)
      · have hf := q_t hc hf
        refine lv_iload_n hx hb dX10_off_67 rfl (lv_at hl 1 rfl) ?_
        have hf := Option.some.inj hf
        subst hf
        exact q_riW hP hS hx hb hr hlocks dX10_off_68
      · have hf := q_f hc hf
        refine lv_iload_n hx hb dX10_off_41 rfl (lv_at hl 1 rfl) ?_
        refine lv_aload_n hx hb dX10_off_42 rfl (lv_at hl 0 rfl) ?_
        refine lv_iload_n hx hb dX10_off_43 rfl (lv_at hl 2 rfl) ?_
        obtain ⟨z44, hz44, hf⟩ := q_bind hf
        refine q_rdV (As := [.int x2]) (rest := [.int x1]) (st2 := [.int z44, .int x1]) S hk (c_X10_isFree l D cy H aM aM_told aM_draft aM_past aM_kept aM_isKept aM_seenLine aM_seenIs aM_rank aM_stage aM_text m_thrown m_shut m_dots m_draftShut m_draftDots m_undos m_base m_slopeX m_slopeY m_seen m_letters m_next m_begin m_token m_gain m_bestDot m_bestCell x2 z44 (hP.sub [0] rfl) hz44) ok_X10_isFree tw_979 ⟨rfl, rfl, Nat.le_of_ble_eq_true rfl, Nat.le_of_ble_eq_true rfl⟩ (va_recv hk.1 hP (ci := 10) (q0 := 0) rfl rfl) rfl hl.1 rfl (Nat.le_of_ble_eq_true rfl) dX10_off_44 ⟨Nat.zero_le _, Nat.zero_le _⟩ rfl ?_
        refine lv_if_eq (tgt := 58) hx hb dX10_off_47 (by decide) (fun hc => ?_) (fun hc => ?_)
        · have hf := q_t hc hf
          refine lv_iconst (v := (0 : Int32)) hx hb dX10_off_58 (by decide) ?_
          exact J59 x2 x1 (0 : Int32) m_thrown m_rank m_stage H locs ls hP hD hS (lv_sub hl [0, 2] rfl) hf
        · have hf := q_f hc hf
          refine lv_aload_n hx hb dX10_off_50 rfl (lv_at hl 0 rfl) ?_
          refine lv_iload_n hx hb dX10_off_51 rfl (lv_at hl 2 rfl) ?_
          obtain ⟨z52, hz52, hf⟩ := q_bind hf
          refine q_rdV (As := [.int x2]) (rest := [.int x1]) (st2 := [.int z52, .int x1]) S hk (c_X10_level l D cy H aM aM_told aM_draft aM_past aM_kept aM_isKept aM_seenLine aM_seenIs aM_rank aM_stage aM_text m_thrown m_shut m_dots m_draftShut m_draftDots m_undos m_base m_slopeX m_slopeY m_seen m_letters m_next m_begin m_token m_gain m_bestDot m_bestCell m_told x2 z52 (hP.sub [0, 1] rfl) hz52) ok_X10_level tw_1081 ⟨rfl, rfl, Nat.le_of_ble_eq_true rfl, Nat.le_of_ble_eq_true rfl⟩ (va_recv hk.1 hP (ci := 10) (q0 := 0) rfl rfl) rfl hl.1 rfl (Nat.le_of_ble_eq_true rfl) dX10_off_52 ⟨Nat.zero_le _, Nat.zero_le _⟩ rfl ?_
          refine lv_goto (tgt := 59) hx hb dX10_off_55 (by decide) ?_
          exact J59 x2 x1 z52 m_thrown m_rank m_stage H locs ls hP hD hS (lv_sub hl [0, 2] rfl) hf
  refine lv_aload_n hx hb dX10_off_0 rfl (lv_at hl 0 rfl) ?_
  refine lv_iconst (v := (0 : Int32)) hx hb dX10_off_1 (by decide) ?_
  refine va_put (D := D) (ci := 10) (v := .int (0 : Int32)) (ty := .int) (C := RX10) (T := TX10) (N := 27) hx hb hts iX10 tyX10 tyX10_ok nmX10 hown hk.1 hP hD hS 0 rfl rfl 0 (by decide) (hts _ tw_783) (fun _ h9 => h9) rfl (by decide +kernel) rfl rfl (Nat.le_of_ble_eq_true rfl) dX10_off_2 (fun H locs hP hD hS => ?_)
  have hP : va_P D vwCl [(aM, .inr (10, [.int (0 : Int32), .ref aM_told, .ref aM_draft, .long m_shut, .long m_dots, .long m_draftShut, .long m_draftDots, .int m_undos, .ref aM_past, .ref aM_kept, .ref aM_isKept, .int m_base, .int m_slopeX, .int m_slopeY, .int m_seen, .ref aM_seenLine, .ref aM_seenIs, .ref aM_rank, .ref aM_stage, .int m_letters, .ref aM_text, .int m_next, .int m_begin, .int m_token, .int m_gain, .int m_bestDot, .int m_bestCell])), (aM_told, .inl (cy.1, 7, .inl m_told)), (aM_rank, .inl (cy.1, 64, .inl m_rank)), (aM_stage, .inl (cy.1, 64, .inl m_stage))] H := hP
  have hD : va_D A [(aM, .inr (10, [.int (0 : Int32), .ref aM_told, .ref aM_draft, .long m_shut, .long m_dots, .long m_draftShut, .long m_draftDots, .int m_undos, .ref aM_past, .ref aM_kept, .ref aM_isKept, .int m_base, .int m_slopeX, .int m_slopeY, .int m_seen, .ref aM_seenLine, .ref aM_seenIs, .ref aM_rank, .ref aM_stage, .int m_letters, .ref aM_text, .int m_next, .int m_begin, .int m_token, .int m_gain, .int m_bestDot, .int m_bestCell])), (aM_told, .inl (cy.1, 7, .inl m_told)), (aM_rank, .inl (cy.1, 64, .inl m_rank)), (aM_stage, .inl (cy.1, 64, .inl m_stage))] := hD
  refine lv_aload_n hx hb dX10_off_5 rfl (lv_at hl 0 rfl) ?_
  refine va_get (D := D) (ci := 10) (v := .long m_dots) (C := RX10) (T := TX10) (N := 27) hx hb hts iX10 hown hk.1 hP 0 rfl rfl 4 (by decide) (hts _ tw_787) (fun _ h9 => h9) rfl dX10_off_6 ?_
  refine lv_lconst (v := (0 : Int64)) hx hb dX10_off_9 (by decide) ?_
  refine W.lcmp hx hb dX10_off_10 ?_
  refine lv_if_ne (tgt := 17) hx hb dX10_off_11 (by decide) (fun hc => ?_) (fun hc => ?_)
  · have hf := q_f hc hf
    refine lv_aload_n hx hb dX10_off_17 rfl (lv_at hl 0 rfl) ?_
    obtain ⟨z18, hz18, hf⟩ := q_bind hf
    refine q_wrV (As := []) (rest := []) (st2 := []) (ws' := [(aM, .inr (10, [.int (0 : Int32), .ref aM_told, .ref aM_draft, .long m_shut, .long m_dots, .long m_draftShut, .long m_draftDots, .int m_undos, .ref aM_past, .ref aM_kept, .ref aM_isKept, .int m_base, .int m_slopeX, .int m_slopeY, .int m_seen, .ref aM_seenLine, .ref aM_seenIs, .ref aM_rank, .ref aM_stage, .int m_letters, .ref aM_text, .int m_next, .int m_begin, .int m_token, .int m_gain, .int m_bestDot, .int m_bestCell])), (aM_told, .inl (cy.1, 7, .inl m_told)), (aM_rank, .inl (cy.1, 64, .inl (z18.1))), (aM_stage, .inl (cy.1, 64, .inl (z18.2)))]) S hk (c_X10_ranks l D cy H aM aM_told aM_draft aM_past aM_kept aM_isKept aM_seenLine aM_seenIs aM_rank aM_stage aM_text (0 : Int32) m_shut m_dots m_draftShut m_draftDots m_undos m_base m_slopeX m_slopeY m_seen m_letters m_next m_begin m_token m_gain m_bestDot m_bestCell m_told m_rank m_stage z18 (hP.sub [0, 1, 2, 3] rfl) (qD_sub hD [0, 1, 2, 3] (by decide) rfl) hz18) ok_X10_ranks tw_1030 ⟨rfl, rfl, Nat.le_of_ble_eq_true rfl, Nat.le_of_ble_eq_true rfl⟩ (va_recv hk.1 hP (ci := 10) (q0 := 0) rfl rfl) rfl hl.1 rfl (Nat.le_of_ble_eq_true rfl) dX10_off_18 ⟨Nat.zero_le _, Nat.zero_le _⟩ rfl hP hD hS hA [0, 1, 2, 3] rfl rfl rfl rfl (fun H locs hP hD hS => ?_)
    refine lv_aload_n hx hb dX10_off_21 rfl (lv_at hl 0 rfl) ?_
    obtain ⟨z22, hz22, hf⟩ := q_bind hf
    refine q_rdV (As := []) (rest := []) (st2 := [.int z22]) S hk (c_X10_free l D cy H aM aM_told aM_draft aM_past aM_kept aM_isKept aM_seenLine aM_seenIs aM_rank aM_stage aM_text (0 : Int32) m_shut m_dots m_draftShut m_draftDots m_undos m_base m_slopeX m_slopeY m_seen m_letters m_next m_begin m_token m_gain m_bestDot m_bestCell m_told z22 (hP.sub [0, 1] rfl) hz22) ok_X10_free tw_1037 ⟨rfl, rfl, Nat.le_of_ble_eq_true rfl, Nat.le_of_ble_eq_true rfl⟩ (va_recv hk.1 hP (ci := 10) (q0 := 0) rfl rfl) rfl hl.1 rfl (Nat.le_of_ble_eq_true rfl) dX10_off_22 ⟨Nat.zero_le _, Nat.zero_le _⟩ rfl ?_
    refine lv_aload_n hx hb dX10_off_25 rfl (lv_at hl 0 rfl) ?_
    obtain ⟨z26, hz26, hf⟩ := q_bind hf
    refine q_rdV (As := []) (rest := [.int z22]) (st2 := [.int z26, .int z22]) S hk (c_X10_printed l D cy H aM aM_told aM_draft aM_past aM_kept aM_isKept aM_seenLine aM_seenIs aM_rank aM_stage aM_text (0 : Int32) m_shut m_dots m_draftShut m_draftDots m_undos m_base m_slopeX m_slopeY m_seen m_letters m_next m_begin m_token m_gain m_bestDot m_bestCell m_told (z18.1) z26 (hP.sub [0, 1, 2] rfl) hz26) ok_X10_printed tw_1073 ⟨rfl, rfl, Nat.le_of_ble_eq_true rfl, Nat.le_of_ble_eq_true rfl⟩ (va_recv hk.1 hP (ci := 10) (q0 := 0) rfl rfl) rfl hl.1 rfl (Nat.le_of_ble_eq_true rfl) dX10_off_26 ⟨Nat.zero_le _, Nat.zero_le _⟩ rfl ?_
    refine lv_imul hx hb dX10_off_29 ?_
    refine lv_istore_n (lv' := [(1, .int (z22 * z26)), (0, .ref aM)]) hx hb dX10_off_30 rfl hl (by decide) rfl (fun ls hl => ?_)
    refine lv_iconst (v := (0 : Int32)) hx hb dX10_off_31 (by decide) ?_
    refine lv_istore_n (lv' := [(2, .int (0 : Int32)), (1, .int (z22 * z26)), (0, .ref aM)]) hx hb dX10_off_32 rfl hl (by decide) rfl (fun ls hl => ?_)
    exact J33 FU (z22 * z26) (0 : Int32) (0 : Int32) (z18.1) (z18.2) H locs ls hP hD hS (lv_sub hl [2, 1, 0] rfl) hf
  · have hf := q_t hc hf
    refine lv_bipush (v := (-2 : Int32)) hx hb dX10_off_14 (by decide) ?_
    have hf := Option.some.inj hf
    subst hf
    exact q_riW hP hS hx hb hr hlocks dX10_off_16
def j_X10_sees_39 (x1 : Int32) (x2 : Int32) (m_thrown : Int32) (m_seen : Int32) (m_seenLine : Nat → Int32) (m_seenIs : Nat → Int32) : Option (Int32 × Int32 × Int32 × (Nat → Int32) × (Nat → Int32)) := (f_X10_in x2 (0 : Int32) (8 : Int32)).bind (fun z43 => if z43 = 0 then (some ((-1 : Int32), m_thrown, m_seen, m_seenLine, m_seenIs)) else (if m_seen = (6 : Int32) then (some ((-3 : Int32), m_thrown, m_seen, m_seenLine, m_seenIs)) else (if inb m_seen 6 = true then (if inb m_seen 6 = true then (some ((m_seen + (1 : Int32)), m_thrown, (m_seen + (1 : Int32)), (upd m_seenLine m_seen.toNatClampNeg x1), (upd m_seenIs m_seen.toNatClampNeg x2))) else none) else none)))
def f_X10_sees (m_thrown : Int32) (m_seen : Int32) (m_told : Nat → Int32) (m_seenLine : Nat → Int32) (m_seenIs : Nat → Int32) (x1 : Int32) (x2 : Int32) : Option (Int32 × Int32 × Int32 × (Nat → Int32) × (Nat → Int32)) := if inb (1 : Int32) 7 = true then ((f_X10_in x1 (0 : Int32) ((m_told (1 : Int32).toNatClampNeg) - (1 : Int32))).bind (fun z15 => if z15 = 0 then (if inb (0 : Int32) 7 = true then ((f_X10_in x1 (8 : Int32) ((7 : Int32) + (m_told (0 : Int32).toNatClampNeg))).bind (fun z33 => if z33 = 0 then (some ((-1 : Int32), (0 : Int32), m_seen, m_seenLine, m_seenIs)) else (j_X10_sees_39 x1 x2 (0 : Int32) m_seen m_seenLine m_seenIs))) else none) else (j_X10_sees_39 x1 x2 (0 : Int32) m_seen m_seenLine m_seenIs))) else none
theorem ok_X10_sees : OkV yX10_sees cX10_sees 3 (some Jvm.ClassFile.FieldType.int) 2 := ⟨⟨tw_1096, tw_13, by decide +kernel, by decide +kernel, by decide +kernel⟩, tw_1094, tw_1095⟩
set_option maxHeartbeats 4000000 in
set_option maxRecDepth 100000 in
theorem c_X10_sees (l : Launch) (D : va_G) (cy : ClassId × ClassId × ClassId) (H0 : Heap) (aM aM_told aM_draft aM_past aM_kept aM_isKept aM_seenLine aM_seenIs aM_rank aM_stage aM_text : Nat) (m_thrown : Int32) (m_shut : Int64) (m_dots : Int64) (m_draftShut : Int64) (m_draftDots : Int64) (m_undos : Int32) (m_base : Int32) (m_slopeX : Int32) (m_slopeY : Int32) (m_seen : Int32) (m_letters : Int32) (m_next : Int32) (m_begin : Int32) (m_token : Int32) (m_gain : Int32) (m_bestDot : Int32) (m_bestCell : Int32) (m_told : Nat → Int32) (m_seenLine : Nat → Int32) (m_seenIs : Nat → Int32) (x1 : Int32) (x2 : Int32) (r : Int32 × Int32 × Int32 × (Nat → Int32) × (Nat → Int32)) (hP : va_P D vwCl [(aM, .inr (10, [.int m_thrown, .ref aM_told, .ref aM_draft, .long m_shut, .long m_dots, .long m_draftShut, .long m_draftDots, .int m_undos, .ref aM_past, .ref aM_kept, .ref aM_isKept, .int m_base, .int m_slopeX, .int m_slopeY, .int m_seen, .ref aM_seenLine, .ref aM_seenIs, .ref aM_rank, .ref aM_stage, .int m_letters, .ref aM_text, .int m_next, .int m_begin, .int m_token, .int m_gain, .int m_bestDot, .int m_bestCell])), (aM_told, .inl (cy.1, 7, .inl m_told)), (aM_seenLine, .inl (cy.1, 6, .inl m_seenLine)), (aM_seenIs, .inl (cy.1, 6, .inl m_seenIs))] H0) (hD0 : va_D (fun _ => True) [(aM, .inr (10, [.int m_thrown, .ref aM_told, .ref aM_draft, .long m_shut, .long m_dots, .long m_draftShut, .long m_draftDots, .int m_undos, .ref aM_past, .ref aM_kept, .ref aM_isKept, .int m_base, .int m_slopeX, .int m_slopeY, .int m_seen, .ref aM_seenLine, .ref aM_seenIs, .ref aM_rank, .ref aM_stage, .int m_letters, .ref aM_text, .int m_next, .int m_begin, .int m_token, .int m_gain, .int m_bestDot, .int m_bestCell])), (aM_told, .inl (cy.1, 7, .inl m_told)), (aM_seenLine, .inl (cy.1, 6, .inl m_seenLine)), (aM_seenIs, .inl (cy.1, 6, .inl m_seenIs))]) (hf : f_X10_sees m_thrown m_seen m_told m_seenLine m_seenIs x1 x2 = some r) : Wr l yX10_sees cX10_sees 3 (some Jvm.ClassFile.FieldType.int) ({ frames := 1, cells := 0, slots := 0, locals := 22 } : Room) ([.ref aM, .int x1, .int x2] : List Value) (some (.int (r.1))) D cy H0 [(aM, .inr (10, [.int m_thrown, .ref aM_told, .ref aM_draft, .long m_shut, .long m_dots, .long m_draftShut, .long m_draftDots, .int m_undos, .ref aM_past, .ref aM_kept, .ref aM_isKept, .int m_base, .int m_slopeX, .int m_slopeY, .int m_seen, .ref aM_seenLine, .ref aM_seenIs, .ref aM_rank, .ref aM_stage, .int m_letters, .ref aM_text, .int m_next, .int m_begin, .int m_token, .int m_gain, .int m_bestDot, .int m_bestCell])), (aM_told, .inl (cy.1, 7, .inl m_told)), (aM_seenLine, .inl (cy.1, 6, .inl m_seenLine)), (aM_seenIs, .inl (cy.1, 6, .inl m_seenIs))] [(aM, .inr (10, [.int (r.2.1), .ref aM_told, .ref aM_draft, .long m_shut, .long m_dots, .long m_draftShut, .long m_draftDots, .int m_undos, .ref aM_past, .ref aM_kept, .ref aM_isKept, .int m_base, .int m_slopeX, .int m_slopeY, .int (r.2.2.1), .ref aM_seenLine, .ref aM_seenIs, .ref aM_rank, .ref aM_stage, .int m_letters, .ref aM_text, .int m_next, .int m_begin, .int m_token, .int m_gain, .int m_bestDot, .int m_bestCell])), (aM_told, .inl (cy.1, 7, .inl m_told)), (aM_seenLine, .inl (cy.1, 6, .inl (r.2.2.2.1))), (aM_seenIs, .inl (cy.1, 6, .inl (r.2.2.2.2)))] := by
  refine wr_of (by decide +kernel) (Nat.le_of_ble_eq_true rfl) hD0 ?_
  intro p e s m below meth c ls A S hr hlocks hk hl hD hS hA
  obtain ⟨hx, hb, hml, hown, hts⟩ := id S
  have hl : lv_has ls 3 [(0, .ref aM), (1, .int x1), (2, .int x2)] := hl
  rw [f_X10_sees] at hf
  have J39 : ∀ (m_thrown : Int32) (m_seen : Int32) (m_seenLine : Nat → Int32) (m_seenIs : Nat → Int32) (H : Heap) (locs : List Loc) (ls : Array Slot), va_P D vwCl [(aM, .inr (10, [.int m_thrown, .ref aM_told, .ref aM_draft, .long m_shut, .long m_dots, .long m_draftShut, .long m_draftDots, .int m_undos, .ref aM_past, .ref aM_kept, .ref aM_isKept, .int m_base, .int m_slopeX, .int m_slopeY, .int m_seen, .ref aM_seenLine, .ref aM_seenIs, .ref aM_rank, .ref aM_stage, .int m_letters, .ref aM_text, .int m_next, .int m_begin, .int m_token, .int m_gain, .int m_bestDot, .int m_bestCell])), (aM_told, .inl (cy.1, 7, .inl m_told)), (aM_seenLine, .inl (cy.1, 6, .inl m_seenLine)), (aM_seenIs, .inl (cy.1, 6, .inl m_seenIs))] H → va_D A [(aM, .inr (10, [.int m_thrown, .ref aM_told, .ref aM_draft, .long m_shut, .long m_dots, .long m_draftShut, .long m_draftDots, .int m_undos, .ref aM_past, .ref aM_kept, .ref aM_isKept, .int m_base, .int m_slopeX, .int m_slopeY, .int m_seen, .ref aM_seenLine, .ref aM_seenIs, .ref aM_rank, .ref aM_stage, .int m_letters, .ref aM_text, .int m_next, .int m_begin, .int m_token, .int m_gain, .int m_bestDot, .int m_bestCell])), (aM_told, .inl (cy.1, 7, .inl m_told)), (aM_seenLine, .inl (cy.1, 6, .inl m_seenLine)), (aM_seenIs, .inl (cy.1, 6, .inl m_seenIs))] → va_S A H0 H locs → lv_has ls 3 [(0, .ref aM), (1, .int x1), (2, .int x2)] → j_X10_sees_39 x1 x2 m_thrown m_seen m_seenLine m_seenIs = some r → W p l e ({ frames := 1, cells := 0, slots := 0, locals := 22 } : Room) s m ([.ref aM, .int x1, .int x2] : List Value).toArray below meth c H locs 0 0 (MQ below (QW (some (.int (r.1))) D [(aM, .inr (10, [.int (r.2.1), .ref aM_told, .ref aM_draft, .long m_shut, .long m_dots, .long m_draftShut, .long m_draftDots, .int m_undos, .ref aM_past, .ref aM_kept, .ref aM_isKept, .int m_base, .int m_slopeX, .int m_slopeY, .int (r.2.2.1), .ref aM_seenLine, .ref aM_seenIs, .ref aM_rank, .ref aM_stage, .int m_letters, .ref aM_text, .int m_next, .int m_begin, .int m_token, .int m_gain, .int m_bestDot, .int m_bestCell])), (aM_told, .inl (cy.1, 7, .inl m_told)), (aM_seenLine, .inl (cy.1, 6, .inl (r.2.2.2.1))), (aM_seenIs, .inl (cy.1, 6, .inl (r.2.2.2.2)))] H0 A) ([.ref aM, .int x1, .int x2] : List Value).toArray s 0 0 A) (F0 m 39 ls []) := by
    intro m_thrown m_seen m_seenLine m_seenIs H locs ls hP hD hS hl hf
    rw [j_X10_sees_39] at hf
    refine lv_iload_n hx hb dX10_sees_39 rfl (lv_at hl 2 rfl) ?_
    refine lv_iconst (v := (0 : Int32)) hx hb dX10_sees_40 (by decide) ?_
    refine lv_bipush (v := (8 : Int32)) hx hb dX10_sees_41 (by decide) ?_
    obtain ⟨z43, hz43, hf⟩ := q_bind hf
    refine q_rdS (As := [.int x2, .int (0 : Int32), .int (8 : Int32)]) (rest := []) (st2 := [.int z43]) S hk (c_X10_in l D cy H x2 (0 : Int32) (8 : Int32) z43 hz43) ok_X10_in tw_869 ⟨rfl, rfl, Nat.le_of_ble_eq_true rfl, Nat.le_of_ble_eq_true rfl⟩ rfl hl.1 rfl (Nat.le_of_ble_eq_true rfl) dX10_sees_43 ⟨Nat.zero_le _, Nat.zero_le _⟩ rfl ?_
    refine lv_if_ne (tgt := 51) hx hb dX10_sees_46 (by decide) (fun hc => ?_) (fun hc => ?_)
    · have hf := q_f hc hf
      refine lv_aload_n hx hb dX10_sees_51 rfl (lv_at hl 0 rfl) ?_
      refine va_get (D := D) (ci := 10) (v := .int m_seen) (C := RX10) (T := TX10) (N := 27) hx hb hts iX10 hown hk.1 hP 0 rfl rfl 14 (by decide) (hts _ tw_797) (fun _ h9 => h9) rfl dX10_sees_52 ?_
      refine lv_bipush (v := (6 : Int32)) hx hb dX10_sees_55 (by decide) ?_
      refine lv_icmp_ne (tgt := 63) hx hb dX10_sees_57 (by decide) (fun hc => ?_) (fun hc => ?_)
      · have hf := q_f hc hf
        refine lv_aload_n hx hb dX10_sees_63 rfl (lv_at hl 0 rfl) ?_
        refine va_get (D := D) (ci := 10) (v := .ref aM_seenLine) (C := RX10) (T := TX10) (N := 27) hx hb hts iX10 hown hk.1 hP 0 rfl rfl 15 (by decide) (hts _ tw_798) (fun _ h9 => h9) rfl dX10_sees_64 ?_
        refine lv_aload_n hx hb dX10_sees_67 rfl (lv_at hl 0 rfl) ?_
        refine va_get (D := D) (ci := 10) (v := .int m_seen) (C := RX10) (T := TX10) (N := 27) hx hb hts iX10 hown hk.1 hP 0 rfl rfl 14 (by decide) (hts _ tw_797) (fun _ h9 => h9) rfl dX10_sees_68 ?_
        refine lv_iload_n hx hb dX10_sees_71 rfl (lv_at hl 1 rfl) ?_
        obtain ⟨hi, hf⟩ := q_in hf
        refine va_iast hx hb hk.1 hP hD hS 2 0 rfl rfl hi dX10_sees_72 (fun H locs hP hD hS => ?_)
        have hP : va_P D vwCl [(aM, .inr (10, [.int m_thrown, .ref aM_told, .ref aM_draft, .long m_shut, .long m_dots, .long m_draftShut, .long m_draftDots, .int m_undos, .ref aM_past, .ref aM_kept, .ref aM_isKept, .int m_base, .int m_slopeX, .int m_slopeY, .int m_seen, .ref aM_seenLine, .ref aM_seenIs, .ref aM_rank, .ref aM_stage, .int m_letters, .ref aM_text, .int m_next, .int m_begin, .int m_token, .int m_gain, .int m_bestDot, .int m_bestCell])), (aM_told, .inl (cy.1, 7, .inl m_told)), (aM_seenLine, .inl (cy.1, 6, .inl (upd m_seenLine m_seen.toNatClampNeg x1))), (aM_seenIs, .inl (cy.1, 6, .inl m_seenIs))] H := hP
        have hD : va_D A [(aM, .inr (10, [.int m_thrown, .ref aM_told, .ref aM_draft, .long m_shut, .long m_dots, .long m_draftShut, .long m_draftDots, .int m_undos, .ref aM_past, .ref aM_kept, .ref aM_isKept, .int m_base, .int m_slopeX, .int m_slopeY, .int m_seen, .ref aM_seenLine, .ref aM_seenIs, .ref aM_rank, .ref aM_stage, .int m_letters, .ref aM_text, .int m_next, .int m_begin, .int m_token, .int m_gain, .int m_bestDot, .int m_bestCell])), (aM_told, .inl (cy.1, 7, .inl m_told)), (aM_seenLine, .inl (cy.1, 6, .inl (upd m_seenLine m_seen.toNatClampNeg x1))), (aM_seenIs, .inl (cy.1, 6, .inl m_seenIs))] := hD
        refine lv_aload_n hx hb dX10_sees_73 rfl (lv_at hl 0 rfl) ?_
        refine va_get (D := D) (ci := 10) (v := .ref aM_seenIs) (C := RX10) (T := TX10) (N := 27) hx hb hts iX10 hown hk.1 hP 0 rfl rfl 16 (by decide) (hts _ tw_799) (fun _ h9 => h9) rfl dX10_sees_74 ?_
        refine lv_aload_n hx hb dX10_sees_77 rfl (lv_at hl 0 rfl) ?_
        refine va_get (D := D) (ci := 10) (v := .int m_seen) (C := RX10) (T := TX10) (N := 27) hx hb hts iX10 hown hk.1 hP 0 rfl rfl 14 (by decide) (hts _ tw_797) (fun _ h9 => h9) rfl dX10_sees_78 ?_
        refine lv_iload_n hx hb dX10_sees_81 rfl (lv_at hl 2 rfl) ?_
        obtain ⟨hi, hf⟩ := q_in hf
        refine va_iast hx hb hk.1 hP hD hS 3 0 rfl rfl hi dX10_sees_82 (fun H locs hP hD hS => ?_)
        have hP : va_P D vwCl [(aM, .inr (10, [.int m_thrown, .ref aM_told, .ref aM_draft, .long m_shut, .long m_dots, .long m_draftShut, .long m_draftDots, .int m_undos, .ref aM_past, .ref aM_kept, .ref aM_isKept, .int m_base, .int m_slopeX, .int m_slopeY, .int m_seen, .ref aM_seenLine, .ref aM_seenIs, .ref aM_rank, .ref aM_stage, .int m_letters, .ref aM_text, .int m_next, .int m_begin, .int m_token, .int m_gain, .int m_bestDot, .int m_bestCell])), (aM_told, .inl (cy.1, 7, .inl m_told)), (aM_seenLine, .inl (cy.1, 6, .inl (upd m_seenLine m_seen.toNatClampNeg x1))), (aM_seenIs, .inl (cy.1, 6, .inl (upd m_seenIs m_seen.toNatClampNeg x2)))] H := hP
        have hD : va_D A [(aM, .inr (10, [.int m_thrown, .ref aM_told, .ref aM_draft, .long m_shut, .long m_dots, .long m_draftShut, .long m_draftDots, .int m_undos, .ref aM_past, .ref aM_kept, .ref aM_isKept, .int m_base, .int m_slopeX, .int m_slopeY, .int m_seen, .ref aM_seenLine, .ref aM_seenIs, .ref aM_rank, .ref aM_stage, .int m_letters, .ref aM_text, .int m_next, .int m_begin, .int m_token, .int m_gain, .int m_bestDot, .int m_bestCell])), (aM_told, .inl (cy.1, 7, .inl m_told)), (aM_seenLine, .inl (cy.1, 6, .inl (upd m_seenLine m_seen.toNatClampNeg x1))), (aM_seenIs, .inl (cy.1, 6, .inl (upd m_seenIs m_seen.toNatClampNeg x2)))] := hD
        refine lv_aload_n hx hb dX10_sees_83 rfl (lv_at hl 0 rfl) ?_
        refine lv_dup hx hb dX10_sees_84 rfl ?_
        refine va_get (D := D) (ci := 10) (v := .int m_seen) (C := RX10) (T := TX10) (N := 27) hx hb hts iX10 hown hk.1 hP 0 rfl rfl 14 (by decide) (hts _ tw_797) (fun _ h9 => h9) rfl dX10_sees_85 ?_
        refine lv_iconst (v := (1 : Int32)) hx hb dX10_sees_88 (by decide) ?_
        refine lv_iadd hx hb dX10_sees_89 ?_
        refine va_put (D := D) (ci := 10) (v := .int (m_seen + (1 : Int32))) (ty := .int) (C := RX10) (T := TX10) (N := 27) hx hb hts iX10 tyX10 tyX10_ok nmX10 hown hk.1 hP hD hS 0 rfl rfl 14 (by decide) (hts _ tw_797) (fun _ h9 => h9) rfl (by decide +kernel) rfl rfl (Nat.le_of_ble_eq_true rfl) dX10_sees_90 (fun H locs hP hD hS => ?_)
        have hP : va_P D vwCl [(aM, .inr (10, [.int m_thrown, .ref aM_told, .ref aM_draft, .long m_shut, .long m_dots, .long m_draftShut, .long m_draftDots, .int m_undos, .ref aM_past, .ref aM_kept, .ref aM_isKept, .int m_base, .int m_slopeX, .int m_slopeY, .int (m_seen + (1 : Int32)), .ref aM_seenLine, .ref aM_seenIs, .ref aM_rank, .ref aM_stage, .int m_letters, .ref aM_text, .int m_next, .int m_begin, .int m_token, .int m_gain, .int m_bestDot, .int m_bestCell])), (aM_told, .inl (cy.1, 7, .inl m_told)), (aM_seenLine, .inl (cy.1, 6, .inl (upd m_seenLine m_seen.toNatClampNeg x1))), (aM_seenIs, .inl (cy.1, 6, .inl (upd m_seenIs m_seen.toNatClampNeg x2)))] H := hP
        have hD : va_D A [(aM, .inr (10, [.int m_thrown, .ref aM_told, .ref aM_draft, .long m_shut, .long m_dots, .long m_draftShut, .long m_draftDots, .int m_undos, .ref aM_past, .ref aM_kept, .ref aM_isKept, .int m_base, .int m_slopeX, .int m_slopeY, .int (m_seen + (1 : Int32)), .ref aM_seenLine, .ref aM_seenIs, .ref aM_rank, .ref aM_stage, .int m_letters, .ref aM_text, .int m_next, .int m_begin, .int m_token, .int m_gain, .int m_bestDot, .int m_bestCell])), (aM_told, .inl (cy.1, 7, .inl m_told)), (aM_seenLine, .inl (cy.1, 6, .inl (upd m_seenLine m_seen.toNatClampNeg x1))), (aM_seenIs, .inl (cy.1, 6, .inl (upd m_seenIs m_seen.toNatClampNeg x2)))] := hD
        refine lv_aload_n hx hb dX10_sees_93 rfl (lv_at hl 0 rfl) ?_
        refine va_get (D := D) (ci := 10) (v := .int (m_seen + (1 : Int32))) (C := RX10) (T := TX10) (N := 27) hx hb hts iX10 hown hk.1 hP 0 rfl rfl 14 (by decide) (hts _ tw_797) (fun _ h9 => h9) rfl dX10_sees_94 ?_
        have hf := Option.some.inj hf
        subst hf
        exact q_riW hP hS hx hb hr hlocks dX10_sees_97
      · have hf := q_t hc hf
        refine lv_bipush (v := (-3 : Int32)) hx hb dX10_sees_60 (by decide) ?_
        have hf := Option.some.inj hf
        subst hf
        exact q_riW hP hS hx hb hr hlocks dX10_sees_62
    · have hf := q_t hc hf
      refine lv_iconst (v := (-1 : Int32)) hx hb dX10_sees_49 (by decide) ?_
      have hf := Option.some.inj hf
      subst hf
      exact q_riW hP hS hx hb hr hlocks dX10_sees_50
  refine lv_aload_n hx hb dX10_sees_0 rfl (lv_at hl 0 rfl) ?_
  refine lv_iconst (v := (0 : Int32)) hx hb dX10_sees_1 (by decide) ?_
  refine va_put (D := D) (ci := 10) (v := .int (0 : Int32)) (ty := .int) (C := RX10) (T := TX10) (N := 27) hx hb hts iX10 tyX10 tyX10_ok nmX10 hown hk.1 hP hD hS 0 rfl rfl 0 (by decide) (hts _ tw_783) (fun _ h9 => h9) rfl (by decide +kernel) rfl rfl (Nat.le_of_ble_eq_true rfl) dX10_sees_2 (fun H locs hP hD hS => ?_)
  have hP : va_P D vwCl [(aM, .inr (10, [.int (0 : Int32), .ref aM_told, .ref aM_draft, .long m_shut, .long m_dots, .long m_draftShut, .long m_draftDots, .int m_undos, .ref aM_past, .ref aM_kept, .ref aM_isKept, .int m_base, .int m_slopeX, .int m_slopeY, .int m_seen, .ref aM_seenLine, .ref aM_seenIs, .ref aM_rank, .ref aM_stage, .int m_letters, .ref aM_text, .int m_next, .int m_begin, .int m_token, .int m_gain, .int m_bestDot, .int m_bestCell])), (aM_told, .inl (cy.1, 7, .inl m_told)), (aM_seenLine, .inl (cy.1, 6, .inl m_seenLine)), (aM_seenIs, .inl (cy.1, 6, .inl m_seenIs))] H := hP
  have hD : va_D A [(aM, .inr (10, [.int (0 : Int32), .ref aM_told, .ref aM_draft, .long m_shut, .long m_dots, .long m_draftShut, .long m_draftDots, .int m_undos, .ref aM_past, .ref aM_kept, .ref aM_isKept, .int m_base, .int m_slopeX, .int m_slopeY, .int m_seen, .ref aM_seenLine, .ref aM_seenIs, .ref aM_rank, .ref aM_stage, .int m_letters, .ref aM_text, .int m_next, .int m_begin, .int m_token, .int m_gain, .int m_bestDot, .int m_bestCell])), (aM_told, .inl (cy.1, 7, .inl m_told)), (aM_seenLine, .inl (cy.1, 6, .inl m_seenLine)), (aM_seenIs, .inl (cy.1, 6, .inl m_seenIs))] := hD
  refine lv_iload_n hx hb dX10_sees_5 rfl (lv_at hl 1 rfl) ?_
  refine lv_iconst (v := (0 : Int32)) hx hb dX10_sees_6 (by decide) ?_
  refine lv_aload_n hx hb dX10_sees_7 rfl (lv_at hl 0 rfl) ?_
  refine va_get (D := D) (ci := 10) (v := .ref aM_told) (C := RX10) (T := TX10) (N := 27) hx hb hts iX10 hown hk.1 hP 0 rfl rfl 1 (by decide) (hts _ tw_784) (fun _ h9 => h9) rfl dX10_sees_8 ?_
  refine lv_iconst (v := (1 : Int32)) hx hb dX10_sees_11 (by decide) ?_
  obtain ⟨hi, hf⟩ := q_in hf
  refine va_iald hx hb hk.1 hP 1 0 rfl rfl hi dX10_sees_12 ?_
  refine lv_iconst (v := (1 : Int32)) hx hb dX10_sees_13 (by decide) ?_
  refine lv_isub hx hb dX10_sees_14 ?_
  obtain ⟨z15, hz15, hf⟩ := q_bind hf
  refine q_rdS (As := [.int x1, .int (0 : Int32), .int ((m_told (1 : Int32).toNatClampNeg) - (1 : Int32))]) (rest := []) (st2 := [.int z15]) S hk (c_X10_in l D cy H x1 (0 : Int32) ((m_told (1 : Int32).toNatClampNeg) - (1 : Int32)) z15 hz15) ok_X10_in tw_869 ⟨rfl, rfl, Nat.le_of_ble_eq_true rfl, Nat.le_of_ble_eq_true rfl⟩ rfl hl.1 rfl (Nat.le_of_ble_eq_true rfl) dX10_sees_15 ⟨Nat.zero_le _, Nat.zero_le _⟩ rfl ?_
  refine lv_if_ne (tgt := 39) hx hb dX10_sees_18 (by decide) (fun hc => ?_) (fun hc => ?_)
  · have hf := q_f hc hf
    exact J39 (0 : Int32) m_seen m_seenLine m_seenIs H locs ls hP hD hS (lv_sub hl [0, 1, 2] rfl) hf
  · have hf := q_t hc hf
    refine lv_iload_n hx hb dX10_sees_21 rfl (lv_at hl 1 rfl) ?_
    refine lv_bipush (v := (8 : Int32)) hx hb dX10_sees_22 (by decide) ?_
    refine lv_bipush (v := (7 : Int32)) hx hb dX10_sees_24 (by decide) ?_
    refine lv_aload_n hx hb dX10_sees_26 rfl (lv_at hl 0 rfl) ?_
    refine va_get (D := D) (ci := 10) (v := .ref aM_told) (C := RX10) (T := TX10) (N := 27) hx hb hts iX10 hown hk.1 hP 0 rfl rfl 1 (by decide) (hts _ tw_784) (fun _ h9 => h9) rfl dX10_sees_27 ?_
    refine lv_iconst (v := (0 : Int32)) hx hb dX10_sees_30 (by decide) ?_
    obtain ⟨hi, hf⟩ := q_in hf
    refine va_iald hx hb hk.1 hP 1 0 rfl rfl hi dX10_sees_31 ?_
    refine lv_iadd hx hb dX10_sees_32 ?_
    obtain ⟨z33, hz33, hf⟩ := q_bind hf
    refine q_rdS (As := [.int x1, .int (8 : Int32), .int ((7 : Int32) + (m_told (0 : Int32).toNatClampNeg))]) (rest := []) (st2 := [.int z33]) S hk (c_X10_in l D cy H x1 (8 : Int32) ((7 : Int32) + (m_told (0 : Int32).toNatClampNeg)) z33 hz33) ok_X10_in tw_869 ⟨rfl, rfl, Nat.le_of_ble_eq_true rfl, Nat.le_of_ble_eq_true rfl⟩ rfl hl.1 rfl (Nat.le_of_ble_eq_true rfl) dX10_sees_33 ⟨Nat.zero_le _, Nat.zero_le _⟩ rfl ?_
    refine lv_if_eq (tgt := 49) hx hb dX10_sees_36 (by decide) (fun hc => ?_) (fun hc => ?_)
    · have hf := q_t hc hf
      refine lv_iconst (v := (-1 : Int32)) hx hb dX10_sees_49 (by decide) ?_
      have hf := Option.some.inj hf
      subst hf
      exact q_riW hP hS hx hb hr hlocks dX10_sees_50
    · have hf := q_f hc hf
      exact J39 (0 : Int32) m_seen m_seenLine m_seenIs H locs ls hP hD hS (lv_sub hl [0, 1, 2] rfl) hf
def f_X10_forget (m_thrown : Int32) (m_seen : Int32) : Option (Int32 × Int32 × Int32) := some (m_seen, (0 : Int32), (0 : Int32))
theorem ok_X10_forget : OkV yX10_forget cX10_forget 2 (some Jvm.ClassFile.FieldType.int) 0 := ⟨⟨tw_1100, tw_13, by decide +kernel, by decide +kernel, by decide +kernel⟩, tw_1098, tw_1099⟩
set_option maxHeartbeats 4000000 in
set_option maxRecDepth 100000 in
theorem c_X10_forget (l : Launch) (D : va_G) (cy : ClassId × ClassId × ClassId) (H0 : Heap) (aM aM_told aM_draft aM_past aM_kept aM_isKept aM_seenLine aM_seenIs aM_rank aM_stage aM_text : Nat) (m_thrown : Int32) (m_shut : Int64) (m_dots : Int64) (m_draftShut : Int64) (m_draftDots : Int64) (m_undos : Int32) (m_base : Int32) (m_slopeX : Int32) (m_slopeY : Int32) (m_seen : Int32) (m_letters : Int32) (m_next : Int32) (m_begin : Int32) (m_token : Int32) (m_gain : Int32) (m_bestDot : Int32) (m_bestCell : Int32) (r : Int32 × Int32 × Int32) (hP : va_P D vwCl [(aM, .inr (10, [.int m_thrown, .ref aM_told, .ref aM_draft, .long m_shut, .long m_dots, .long m_draftShut, .long m_draftDots, .int m_undos, .ref aM_past, .ref aM_kept, .ref aM_isKept, .int m_base, .int m_slopeX, .int m_slopeY, .int m_seen, .ref aM_seenLine, .ref aM_seenIs, .ref aM_rank, .ref aM_stage, .int m_letters, .ref aM_text, .int m_next, .int m_begin, .int m_token, .int m_gain, .int m_bestDot, .int m_bestCell]))] H0) (hD0 : va_D (fun _ => True) [(aM, .inr (10, [.int m_thrown, .ref aM_told, .ref aM_draft, .long m_shut, .long m_dots, .long m_draftShut, .long m_draftDots, .int m_undos, .ref aM_past, .ref aM_kept, .ref aM_isKept, .int m_base, .int m_slopeX, .int m_slopeY, .int m_seen, .ref aM_seenLine, .ref aM_seenIs, .ref aM_rank, .ref aM_stage, .int m_letters, .ref aM_text, .int m_next, .int m_begin, .int m_token, .int m_gain, .int m_bestDot, .int m_bestCell]))]) (hf : f_X10_forget m_thrown m_seen = some r) : Wr l yX10_forget cX10_forget 2 (some Jvm.ClassFile.FieldType.int) ({ frames := 0, cells := 0, slots := 0, locals := 0 } : Room) ([.ref aM] : List Value) (some (.int (r.1))) D cy H0 [(aM, .inr (10, [.int m_thrown, .ref aM_told, .ref aM_draft, .long m_shut, .long m_dots, .long m_draftShut, .long m_draftDots, .int m_undos, .ref aM_past, .ref aM_kept, .ref aM_isKept, .int m_base, .int m_slopeX, .int m_slopeY, .int m_seen, .ref aM_seenLine, .ref aM_seenIs, .ref aM_rank, .ref aM_stage, .int m_letters, .ref aM_text, .int m_next, .int m_begin, .int m_token, .int m_gain, .int m_bestDot, .int m_bestCell]))] [(aM, .inr (10, [.int (r.2.1), .ref aM_told, .ref aM_draft, .long m_shut, .long m_dots, .long m_draftShut, .long m_draftDots, .int m_undos, .ref aM_past, .ref aM_kept, .ref aM_isKept, .int m_base, .int m_slopeX, .int m_slopeY, .int (r.2.2), .ref aM_seenLine, .ref aM_seenIs, .ref aM_rank, .ref aM_stage, .int m_letters, .ref aM_text, .int m_next, .int m_begin, .int m_token, .int m_gain, .int m_bestDot, .int m_bestCell]))] := by
  refine wr_of (by decide +kernel) (Nat.le_of_ble_eq_true rfl) hD0 ?_
  intro p e s m below meth c ls A S hr hlocks hk hl hD hS hA
  obtain ⟨hx, hb, hml, hown, hts⟩ := id S
  have hl : lv_has ls 2 [(0, .ref aM)] := hl
  rw [f_X10_forget] at hf
  refine lv_aload_n hx hb dX10_forget_0 rfl (lv_at hl 0 rfl) ?_
  refine lv_iconst (v := (0 : Int32)) hx hb dX10_forget_1 (by decide) ?_
  refine va_put (D := D) (ci := 10) (v := .int (0 : Int32)) (ty := .int) (C := RX10) (T := TX10) (N := 27) hx hb hts iX10 tyX10 tyX10_ok nmX10 hown hk.1 hP hD hS 0 rfl rfl 0 (by decide) (hts _ tw_783) (fun _ h9 => h9) rfl (by decide +kernel) rfl rfl (Nat.le_of_ble_eq_true rfl) dX10_forget_2 (fun H locs hP hD hS => ?_)
  have hP : va_P D vwCl [(aM, .inr (10, [.int (0 : Int32), .ref aM_told, .ref aM_draft, .long m_shut, .long m_dots, .long m_draftShut, .long m_draftDots, .int m_undos, .ref aM_past, .ref aM_kept, .ref aM_isKept, .int m_base, .int m_slopeX, .int m_slopeY, .int m_seen, .ref aM_seenLine, .ref aM_seenIs, .ref aM_rank, .ref aM_stage, .int m_letters, .ref aM_text, .int m_next, .int m_begin, .int m_token, .int m_gain, .int m_bestDot, .int m_bestCell]))] H := hP
  have hD : va_D A [(aM, .inr (10, [.int (0 : Int32), .ref aM_told, .ref aM_draft, .long m_shut, .long m_dots, .long m_draftShut, .long m_draftDots, .int m_undos, .ref aM_past, .ref aM_kept, .ref aM_isKept, .int m_base, .int m_slopeX, .int m_slopeY, .int m_seen, .ref aM_seenLine, .ref aM_seenIs, .ref aM_rank, .ref aM_stage, .int m_letters, .ref aM_text, .int m_next, .int m_begin, .int m_token, .int m_gain, .int m_bestDot, .int m_bestCell]))] := hD
  refine lv_aload_n hx hb dX10_forget_5 rfl (lv_at hl 0 rfl) ?_
  refine va_get (D := D) (ci := 10) (v := .int m_seen) (C := RX10) (T := TX10) (N := 27) hx hb hts iX10 hown hk.1 hP 0 rfl rfl 14 (by decide) (hts _ tw_797) (fun _ h9 => h9) rfl dX10_forget_6 ?_
  refine lv_istore_n (lv' := [(1, .int m_seen), (0, .ref aM)]) hx hb dX10_forget_9 rfl hl (by decide) rfl (fun ls hl => ?_)
  refine lv_aload_n hx hb dX10_forget_10 rfl (lv_at hl 1 rfl) ?_
  refine lv_iconst (v := (0 : Int32)) hx hb dX10_forget_11 (by decide) ?_
  refine va_put (D := D) (ci := 10) (v := .int (0 : Int32)) (ty := .int) (C := RX10) (T := TX10) (N := 27) hx hb hts iX10 tyX10 tyX10_ok nmX10 hown hk.1 hP hD hS 0 rfl rfl 14 (by decide) (hts _ tw_797) (fun _ h9 => h9) rfl (by decide +kernel) rfl rfl (Nat.le_of_ble_eq_true rfl) dX10_forget_12 (fun H locs hP hD hS => ?_)
  have hP : va_P D vwCl [(aM, .inr (10, [.int (0 : Int32), .ref aM_told, .ref aM_draft, .long m_shut, .long m_dots, .long m_draftShut, .long m_draftDots, .int m_undos, .ref aM_past, .ref aM_kept, .ref aM_isKept, .int m_base, .int m_slopeX, .int m_slopeY, .int (0 : Int32), .ref aM_seenLine, .ref aM_seenIs, .ref aM_rank, .ref aM_stage, .int m_letters, .ref aM_text, .int m_next, .int m_begin, .int m_token, .int m_gain, .int m_bestDot, .int m_bestCell]))] H := hP
  have hD : va_D A [(aM, .inr (10, [.int (0 : Int32), .ref aM_told, .ref aM_draft, .long m_shut, .long m_dots, .long m_draftShut, .long m_draftDots, .int m_undos, .ref aM_past, .ref aM_kept, .ref aM_isKept, .int m_base, .int m_slopeX, .int m_slopeY, .int (0 : Int32), .ref aM_seenLine, .ref aM_seenIs, .ref aM_rank, .ref aM_stage, .int m_letters, .ref aM_text, .int m_next, .int m_begin, .int m_token, .int m_gain, .int m_bestDot, .int m_bestCell]))] := hD
  refine lv_iload_n hx hb dX10_forget_15 rfl (lv_at hl 0 rfl) ?_
  have hf := Option.some.inj hf
  subst hf
  exact q_riW hP hS hx hb hr hlocks dX10_forget_16
def j_X10_inLine_85 (k5 : Int32 → Int32 → Option (Int32)) (x4 : Int32) (k0 : Int32) (k1 : Int32) : Option (Int32) := k5 (k0 + k1) (x4 + 1)
def j_X10_inLine_62 (m_rank : Nat → Int32) (x2 : Int32) (k5 : Int32 → Int32 → Option (Int32)) (x3 : Int32) (x4 : Int32) (k0 : Int32) : Option (Int32) := if k0 = 0 then (j_X10_inLine_85 k5 x4 x3 (0 : Int32)) else ((f_X10_isIn m_rank x4 x2).bind (fun z74 => if z74 = 0 then (j_X10_inLine_85 k5 x4 x3 (0 : Int32)) else (j_X10_inLine_85 k5 x4 x3 (1 : Int32))))
def lp_X10_inLine_5 (m_told : Nat → Int32) (m_rank : Nat → Int32) (x1 : Int32) (x2 : Int32) : Nat → Int32 → Int32 → Option (Int32)
  | 0, _, _ => none
  | n + 1, x3, x4 => (f_X10_cells m_told).bind (fun z8 => if z8 ≤ x4 then (some x3) else (if (8 : Int32) ≤ x1 then (if inb (0 : Int32) 7 = true then (if (m_told (0 : Int32).toNatClampNeg) = 0 then none else (if (x4 - x4 / (m_told (0 : Int32).toNatClampNeg) * (m_told (0 : Int32).toNatClampNeg)) = (x1 - (8 : Int32)) then (j_X10_inLine_62 m_rank x2 (lp_X10_inLine_5 m_told m_rank x1 x2 n) x3 x4 (1 : Int32)) else (j_X10_inLine_62 m_rank x2 (lp_X10_inLine_5 m_told m_rank x1 x2 n) x3 x4 (0 : Int32)))) else none) else (if inb (0 : Int32) 7 = true then (if (m_told (0 : Int32).toNatClampNeg) = 0 then none else (if (x4 / (m_told (0 : Int32).toNatClampNeg)) = x1 then (j_X10_inLine_62 m_rank x2 (lp_X10_inLine_5 m_told m_rank x1 x2 n) x3 x4 (1 : Int32)) else (j_X10_inLine_62 m_rank x2 (lp_X10_inLine_5 m_told m_rank x1 x2 n) x3 x4 (0 : Int32)))) else none)))
theorem lp_X10_inLine_5_s (m_told : Nat → Int32) (m_rank : Nat → Int32) (x1 : Int32) (x2 : Int32) (n : Nat) (x3 : Int32) (x4 : Int32) : lp_X10_inLine_5 m_told m_rank x1 x2 (n + 1) x3 x4 = ((f_X10_cells m_told).bind (fun z8 => if z8 ≤ x4 then (some x3) else (if (8 : Int32) ≤ x1 then (if inb (0 : Int32) 7 = true then (if (m_told (0 : Int32).toNatClampNeg) = 0 then none else (if (x4 - x4 / (m_told (0 : Int32).toNatClampNeg) * (m_told (0 : Int32).toNatClampNeg)) = (x1 - (8 : Int32)) then (j_X10_inLine_62 m_rank x2 (lp_X10_inLine_5 m_told m_rank x1 x2 n) x3 x4 (1 : Int32)) else (j_X10_inLine_62 m_rank x2 (lp_X10_inLine_5 m_told m_rank x1 x2 n) x3 x4 (0 : Int32)))) else none) else (if inb (0 : Int32) 7 = true then (if (m_told (0 : Int32).toNatClampNeg) = 0 then none else (if (x4 / (m_told (0 : Int32).toNatClampNeg)) = x1 then (j_X10_inLine_62 m_rank x2 (lp_X10_inLine_5 m_told m_rank x1 x2 n) x3 x4 (1 : Int32)) else (j_X10_inLine_62 m_rank x2 (lp_X10_inLine_5 m_told m_rank x1 x2 n) x3 x4 (0 : Int32)))) else none)))) := rfl
theorem lp_X10_inLine_5_z (m_told : Nat → Int32) (m_rank : Nat → Int32) (x1 : Int32) (x2 : Int32) (x3 : Int32) (x4 : Int32) : lp_X10_inLine_5 m_told m_rank x1 x2 0 x3 x4 = none := rfl
def f_X10_inLine (m_told : Nat → Int32) (m_rank : Nat → Int32) (x1 : Int32) (x2 : Int32) : Option (Int32) := lp_X10_inLine_5 m_told m_rank x1 x2 FU (0 : Int32) (0 : Int32)
theorem ok_X10_inLine : OkV yX10_inLine cX10_inLine 6 (some Jvm.ClassFile.FieldType.int) 2 := ⟨⟨tw_1112, tw_13, by decide +kernel, by decide +kernel, by decide +kernel⟩, tw_1111, tp_60⟩
set_option maxHeartbeats 4000000 in
set_option maxRecDepth 100000 in
theorem c_X10_inLine (l : Launch) (D : va_G) (cy : ClassId × ClassId × ClassId) (H0 : Heap) (aM aM_told aM_draft aM_past aM_kept aM_isKept aM_seenLine aM_seenIs aM_rank aM_stage aM_text : Nat) (m_thrown : Int32) (m_shut : Int64) (m_dots : Int64) (m_draftShut : Int64) (m_draftDots : Int64) (m_undos : Int32) (m_base : Int32) (m_slopeX : Int32) (m_slopeY : Int32) (m_seen : Int32) (m_letters : Int32) (m_next : Int32) (m_begin : Int32) (m_token : Int32) (m_gain : Int32) (m_bestDot : Int32) (m_bestCell : Int32) (m_told : Nat → Int32) (m_rank : Nat → Int32) (x1 : Int32) (x2 : Int32) (r : Int32) (hP : va_P D vwCl [(aM, .inr (10, [.int m_thrown, .ref aM_told, .ref aM_draft, .long m_shut, .long m_dots, .long m_draftShut, .long m_draftDots, .int m_undos, .ref aM_past, .ref aM_kept, .ref aM_isKept, .int m_base, .int m_slopeX, .int m_slopeY, .int m_seen, .ref aM_seenLine, .ref aM_seenIs, .ref aM_rank, .ref aM_stage, .int m_letters, .ref aM_text, .int m_next, .int m_begin, .int m_token, .int m_gain, .int m_bestDot, .int m_bestCell])), (aM_told, .inl (cy.1, 7, .inl m_told)), (aM_rank, .inl (cy.1, 64, .inl m_rank))] H0) (hf : f_X10_inLine m_told m_rank x1 x2 = some r) : Rd l yX10_inLine cX10_inLine 6 (some Jvm.ClassFile.FieldType.int) ({ frames := 1, cells := 0, slots := 0, locals := 22 } : Room) ([.ref aM, .int x1, .int x2] : List Value) (some (.int r)) D cy H0 := by
  refine rd_of (by decide +kernel) (Nat.le_of_ble_eq_true rfl) ?_
  intro p e s m below meth c ls S hr hlocks hk hl
  obtain ⟨hx, hb, hml, hown, hts⟩ := id S
  have hl : lv_has ls 6 [(0, .ref aM), (1, .int x1), (2, .int x2)] := hl
  rw [f_X10_inLine] at hf
  have J5 : ∀ (n5 : Nat) (x3 : Int32) (x4 : Int32) (ls : Array Slot), lv_has ls 6 [(0, .ref aM), (1, .int x1), (2, .int x2), (3, .int x3), (4, .int x4)] → lp_X10_inLine_5 m_told m_rank x1 x2 n5 x3 x4 = some r → W p l e ({ frames := 1, cells := 0, slots := 0, locals := 22 } : Room) s m ([.ref aM, .int x1, .int x2] : List Value).toArray below meth c H0 [] 0 0 (MQ below (QR (some (.int r)) H0) ([.ref aM, .int x1, .int x2] : List Value).toArray s 0 0 (fun _ => False)) (F0 m 5 ls []) := by
    intro n5
    induction n5 with
    | zero =>
      intro x3 x4 ls hl hf
      rw [lp_X10_inLine_5_z] at hf
      cases hf
    | succ n5 ih5 =>
      have J85 : ∀ (x4 : Int32) (k0 : Int32) (k1 : Int32) (ls : Array Slot), lv_has ls 6 [(0, .ref aM), (1, .int x1), (2, .int x2), (4, .int x4)] → j_X10_inLine_85 (lp_X10_inLine_5 m_told m_rank x1 x2 n5) x4 k0 k1 = some r → W p l e ({ frames := 1, cells := 0, slots := 0, locals := 22 } : Room) s m ([.ref aM, .int x1, .int x2] : List Value).toArray below meth c H0 [] 0 0 (MQ below (QR (some (.int r)) H0) ([.ref aM, .int x1, .int x2] : List Value).toArray s 0 0 (fun _ => False)) (F0 m 85 ls [.int k1, .int k0]) := by
        intro x4 k0 k1 ls hl hf
        rw [j_X10_inLine_85] at hf
        refine lv_iadd hx hb dX10_inLine_85 ?_
        refine lv_istore_n (lv' := [(3, .int (k0 + k1)), (0, .ref aM), (1, .int x1), (2, .int x2), (4, .int x4)]) hx hb dX10_inLine_86 rfl hl (by decide) rfl (fun ls hl => ?_)
        refine lv_iinc (v := (x4 + 1)) (lv' := [(4, .int (x4 + 1)), (3, .int (k0 + k1)), (0, .ref aM), (1, .int x1), (2, .int x2)]) hx hb dX10_inLine_87 hl (k := 4) rfl rfl (by decide) rfl (fun ls hl => ?_)
        refine lv_goto (tgt := 5) hx hb dX10_inLine_90 (by decide) ?_
        exact ih5 (k0 + k1) (x4 + 1) ls (lv_sub hl [2, 3, 4, 1, 0] rfl) hf
      have J62 : ∀ (x3 : Int32) (x4 : Int32) (k0 : Int32) (ls : Array Slot), lv_has ls 6 [(0, .ref aM), (1, .int x1), (2, .int x2), (3, .int x3), (4, .int x4)] → j_X10_inLine_62 m_rank x2 (lp_X10_inLine_5 m_told m_rank x1 x2 n5) x3 x4 k0 = some r → W p l e ({ frames := 1, cells := 0, slots := 0, locals := 22 } : Room) s m ([.ref aM, .int x1, .int x2] : List Value).toArray below meth c H0 [] 0 0 (MQ below (QR (some (.int r)) H0) ([.ref aM, .int x1, .int x2] : List Value).toArray s 0 0 (fun _ => False)) (F0 m 62 ls [.int k0]) := by
        intro x3 x4 k0 ls hl hf
        rw [j_X10_inLine_62] at hf
        refine lv_istore (lv' := [(5, .int k0), (0, .ref aM), (1, .int x1), (2, .int x2), (3, .int x3), (4, .int x4)]) hx hb dX10_inLine_62 hl (by decide) rfl (fun ls hl => ?_)
        refine lv_iload_n hx hb dX10_inLine_64 rfl (lv_at hl 4 rfl) ?_
        refine lv_iload hx hb dX10_inLine_65 (lv_at hl 0 rfl) ?_
        refine lv_if_eq (tgt := 84) hx hb dX10_inLine_67 (by decide) (fun hc => ?_) (fun hc => ?_)
        · have hf := q_t hc hf
          refine lv_iconst (v := (0 : Int32)) hx hb dX10_inLine_84 (by decide) ?_
          exact J85 x4 x3 (0 : Int32) ls (lv_sub hl [1, 2, 3, 5] rfl) hf
        · have hf := q_f hc hf
          refine lv_aload_n hx hb dX10_inLine_70 rfl (lv_at hl 1 rfl) ?_
          refine lv_iload hx hb dX10_inLine_71 (lv_at hl 5 rfl) ?_
          refine lv_iload_n hx hb dX10_inLine_73 rfl (lv_at hl 3 rfl) ?_
          obtain ⟨z74, hz74, hf⟩ := q_bind hf
          refine q_rdV (As := [.int x4, .int x2]) (rest := [.int x3]) (st2 := [.int z74, .int x3]) S hk (c_X10_isIn l D cy H0 aM aM_told aM_draft aM_past aM_kept aM_isKept aM_seenLine aM_seenIs aM_rank aM_stage aM_text m_thrown m_shut m_dots m_draftShut m_draftDots m_undos m_base m_slopeX m_slopeY m_seen m_letters m_next m_begin m_token m_gain m_bestDot m_bestCell m_rank x4 x2 z74 (hP.sub [0, 2] rfl) hz74) ok_X10_isIn tw_1057 ⟨rfl, rfl, Nat.le_of_ble_eq_true rfl, Nat.le_of_ble_eq_true rfl⟩ (va_recv hk.1 hP (ci := 10) (q0 := 0) rfl rfl) rfl hl.1 rfl (Nat.le_of_ble_eq_true rfl) dX10_inLine_74 ⟨Nat.zero_le _, Nat.zero_le _⟩ rfl ?_
          refine lv_if_eq (tgt := 84) hx hb dX10_inLine_77 (by decide) (fun hc => ?_) (fun hc => ?_)
          · have hf := q_t hc hf
            refine lv_iconst (v := (0 : Int32)) hx hb dX10_inLine_84 (by decide) ?_
            exact J85 x4 x3 (0 : Int32) ls (lv_sub hl [1, 2, 3, 5] rfl) hf
          · have hf := q_f hc hf
            refine lv_iconst (v := (1 : Int32)) hx hb dX10_inLine_80 (by decide) ?_
            refine lv_goto (tgt := 85) hx hb dX10_inLine_81 (by decide) ?_
            exact J85 x4 x3 (1 : Int32) ls (lv_sub hl [1, 2, 3, 5] rfl) hf
      intro x3 x4 ls hl hf
      rw [lp_X10_inLine_5_s] at hf
      refine lv_iload hx hb dX10_inLine_5 (lv_at hl 4 rfl) ?_
      refine lv_aload_n hx hb dX10_inLine_7 rfl (lv_at hl 0 rfl) ?_
      obtain ⟨z8, hz8, hf⟩ := q_bind hf
      refine q_rdV (As := []) (rest := [.int x4]) (st2 := [.int z8, .int x4]) S hk (c_X10_cells l D cy H0 aM aM_told aM_draft aM_past aM_kept aM_isKept aM_seenLine aM_seenIs aM_rank aM_stage aM_text m_thrown m_shut m_dots m_draftShut m_draftDots m_undos m_base m_slopeX m_slopeY m_seen m_letters m_next m_begin m_token m_gain m_bestDot m_bestCell m_told z8 (hP.sub [0, 1] rfl) hz8) ok_X10_cells tw_931 ⟨rfl, rfl, Nat.le_of_ble_eq_true rfl, Nat.le_of_ble_eq_true rfl⟩ (va_recv hk.1 hP (ci := 10) (q0 := 0) rfl rfl) rfl hl.1 rfl (Nat.le_of_ble_eq_true rfl) dX10_inLine_8 ⟨Nat.zero_le _, Nat.zero_le _⟩ rfl ?_
      refine lv_icmp_ge (tgt := 93) hx hb dX10_inLine_11 (by decide) (fun hc => ?_) (fun hc => ?_)
      · have hf := q_t hc hf
        refine lv_iload_n hx hb dX10_inLine_93 rfl (lv_at hl 3 rfl) ?_
        have hf := Option.some.inj hf
        subst hf
        exact q_riR hx hb hr hlocks dX10_inLine_94
      · have hf := q_f hc hf
        refine lv_iload_n hx hb dX10_inLine_14 rfl (lv_at hl 1 rfl) ?_
        refine lv_bipush (v := (8 : Int32)) hx hb dX10_inLine_15 (by decide) ?_
        refine lv_icmp_ge (tgt := 41) hx hb dX10_inLine_17 (by decide) (fun hc => ?_) (fun hc => ?_)
        · have hf := q_t hc hf
          refine lv_iload hx hb dX10_inLine_41 (lv_at hl 4 rfl) ?_
          refine lv_aload_n hx hb dX10_inLine_43 rfl (lv_at hl 0 rfl) ?_
          refine va_get (D := D) (ci := 10) (v := .ref aM_told) (C := RX10) (T := TX10) (N := 27) hx hb hts iX10 hown hk.1 hP 0 rfl rfl 1 (by decide) (hts _ tw_784) (fun _ h9 => h9) rfl dX10_inLine_44 ?_
          refine lv_iconst (v := (0 : Int32)) hx hb dX10_inLine_47 (by decide) ?_
          obtain ⟨hi, hf⟩ := q_in hf
          refine va_iald hx hb hk.1 hP 1 0 rfl rfl hi dX10_inLine_48 ?_
          obtain ⟨hne, hf⟩ := q_nz hf
          refine lv_irem hx hb dX10_inLine_49 hne ?_
          refine lv_iload_n hx hb dX10_inLine_50 rfl (lv_at hl 1 rfl) ?_
          refine lv_bipush (v := (8 : Int32)) hx hb dX10_inLine_51 (by decide) ?_
          refine lv_isub hx hb dX10_inLine_53 ?_
          refine lv_icmp_ne (tgt := 61) hx hb dX10_inLine_54 (by decide) (fun hc => ?_) (fun hc => ?_)
          · have hf := q_f hc hf
            refine lv_iconst (v := (0 : Int32)) hx hb dX10_inLine_61 (by decide) ?_
            exact J62 x3 x4 (0 : Int32) ls (lv_sub hl [0, 1, 2, 3, 4] rfl) hf
          · have hf := q_t hc hf
            refine lv_iconst (v := (1 : Int32)) hx hb dX10_inLine_57 (by decide) ?_
            refine lv_goto (tgt := 62) hx hb dX10_inLine_58 (by decide) ?_
            exact J62 x3 x4 (1 : Int32) ls (lv_sub hl [0, 1, 2, 3, 4] rfl) hf
        · have hf := q_f hc hf
          refine lv_iload hx hb dX10_inLine_20 (lv_at hl 4 rfl) ?_
          refine lv_aload_n hx hb dX10_inLine_22 rfl (lv_at hl 0 rfl) ?_
          refine va_get (D := D) (ci := 10) (v := .ref aM_told) (C := RX10) (T := TX10) (N := 27) hx hb hts iX10 hown hk.1 hP 0 rfl rfl 1 (by decide) (hts _ tw_784) (fun _ h9 => h9) rfl dX10_inLine_23 ?_
          refine lv_iconst (v := (0 : Int32)) hx hb dX10_inLine_26 (by decide) ?_
          obtain ⟨hi, hf⟩ := q_in hf
          refine va_iald hx hb hk.1 hP 1 0 rfl rfl hi dX10_inLine_27 ?_
          obtain ⟨hne, hf⟩ := q_nz hf
          refine lv_idiv hx hb dX10_inLine_28 hne ?_
          refine lv_iload_n hx hb dX10_inLine_29 rfl (lv_at hl 1 rfl) ?_
          refine lv_icmp_ne (tgt := 37) hx hb dX10_inLine_30 (by decide) (fun hc => ?_) (fun hc => ?_)
          · have hf := q_f hc hf
            refine lv_iconst (v := (0 : Int32)) hx hb dX10_inLine_37 (by decide) ?_
            refine lv_goto (tgt := 62) hx hb dX10_inLine_38 (by decide) ?_
            exact J62 x3 x4 (0 : Int32) ls (lv_sub hl [0, 1, 2, 3, 4] rfl) hf
          · have hf := q_t hc hf
            refine lv_iconst (v := (1 : Int32)) hx hb dX10_inLine_33 (by decide) ?_
            refine lv_goto (tgt := 62) hx hb dX10_inLine_34 (by decide) ?_
            exact J62 x3 x4 (1 : Int32) ls (lv_sub hl [0, 1, 2, 3, 4] rfl) hf
  refine lv_iconst (v := (0 : Int32)) hx hb dX10_inLine_0 (by decide) ?_
  refine lv_istore_n (lv' := [(3, .int (0 : Int32)), (0, .ref aM), (1, .int x1), (2, .int x2)]) hx hb dX10_inLine_1 rfl hl (by decide) rfl (fun ls hl => ?_)
  refine lv_iconst (v := (0 : Int32)) hx hb dX10_inLine_2 (by decide) ?_
  refine lv_istore (lv' := [(4, .int (0 : Int32)), (3, .int (0 : Int32)), (0, .ref aM), (1, .int x1), (2, .int x2)]) hx hb dX10_inLine_3 hl (by decide) rfl (fun ls hl => ?_)
  exact J5 FU (0 : Int32) (0 : Int32) ls (lv_sub hl [2, 3, 4, 1, 0] rfl) hf
def j_X10_fits_41 (k4 : Int32 → Int32 → Option (Int32)) (x3 : Int32) (k0 : Int32) : Option (Int32) := k4 k0 (x3 + 1)
def lp_X10_fits_4 (m_seen : Int32) (m_told : Nat → Int32) (m_seenLine : Nat → Int32) (m_seenIs : Nat → Int32) (m_rank : Nat → Int32) (x1 : Int32) : Nat → Int32 → Int32 → Option (Int32)
  | 0, _, _ => none
  | n + 1, x2, x3 => if m_seen ≤ x3 then (if isb x2 = true then some x2 else none) else (if x2 = 0 then (j_X10_fits_41 (lp_X10_fits_4 m_seen m_told m_seenLine m_seenIs m_rank x1 n) x3 (0 : Int32)) else (if inb x3 6 = true then ((f_X10_inLine m_told m_rank (m_seenLine x3.toNatClampNeg) x1).bind (fun z24 => if inb x3 6 = true then (if z24 = (m_seenIs x3.toNatClampNeg) then (j_X10_fits_41 (lp_X10_fits_4 m_seen m_told m_seenLine m_seenIs m_rank x1 n) x3 (1 : Int32)) else (j_X10_fits_41 (lp_X10_fits_4 m_seen m_told m_seenLine m_seenIs m_rank x1 n) x3 (0 : Int32))) else none)) else none))
theorem lp_X10_fits_4_s (m_seen : Int32) (m_told : Nat → Int32) (m_seenLine : Nat → Int32) (m_seenIs : Nat → Int32) (m_rank : Nat → Int32) (x1 : Int32) (n : Nat) (x2 : Int32) (x3 : Int32) : lp_X10_fits_4 m_seen m_told m_seenLine m_seenIs m_rank x1 (n + 1) x2 x3 = (if m_seen ≤ x3 then (if isb x2 = true then some x2 else none) else (if x2 = 0 then (j_X10_fits_41 (lp_X10_fits_4 m_seen m_told m_seenLine m_seenIs m_rank x1 n) x3 (0 : Int32)) else (if inb x3 6 = true then ((f_X10_inLine m_told m_rank (m_seenLine x3.toNatClampNeg) x1).bind (fun z24 => if inb x3 6 = true then (if z24 = (m_seenIs x3.toNatClampNeg) then (j_X10_fits_41 (lp_X10_fits_4 m_seen m_told m_seenLine m_seenIs m_rank x1 n) x3 (1 : Int32)) else (j_X10_fits_41 (lp_X10_fits_4 m_seen m_told m_seenLine m_seenIs m_rank x1 n) x3 (0 : Int32))) else none)) else none))) := rfl
theorem lp_X10_fits_4_z (m_seen : Int32) (m_told : Nat → Int32) (m_seenLine : Nat → Int32) (m_seenIs : Nat → Int32) (m_rank : Nat → Int32) (x1 : Int32) (x2 : Int32) (x3 : Int32) : lp_X10_fits_4 m_seen m_told m_seenLine m_seenIs m_rank x1 0 x2 x3 = none := rfl
def f_X10_fits (m_seen : Int32) (m_told : Nat → Int32) (m_seenLine : Nat → Int32) (m_seenIs : Nat → Int32) (m_rank : Nat → Int32) (x1 : Int32) : Option (Int32) := lp_X10_fits_4 m_seen m_told m_seenLine m_seenIs m_rank x1 FU (1 : Int32) (0 : Int32)
theorem ok_X10_fits : OkV yX10_fits cX10_fits 4 (some Jvm.ClassFile.FieldType.boolean) 1 := ⟨⟨tw_1108, tw_13, by decide +kernel, by decide +kernel, by decide +kernel⟩, tw_1107, tp_59⟩
set_option maxHeartbeats 4000000 in
set_option maxRecDepth 100000 in
theorem c_X10_fits (l : Launch) (D : va_G) (cy : ClassId × ClassId × ClassId) (H0 : Heap) (aM aM_told aM_draft aM_past aM_kept aM_isKept aM_seenLine aM_seenIs aM_rank aM_stage aM_text : Nat) (m_thrown : Int32) (m_shut : Int64) (m_dots : Int64) (m_draftShut : Int64) (m_draftDots : Int64) (m_undos : Int32) (m_base : Int32) (m_slopeX : Int32) (m_slopeY : Int32) (m_seen : Int32) (m_letters : Int32) (m_next : Int32) (m_begin : Int32) (m_token : Int32) (m_gain : Int32) (m_bestDot : Int32) (m_bestCell : Int32) (m_told : Nat → Int32) (m_seenLine : Nat → Int32) (m_seenIs : Nat → Int32) (m_rank : Nat → Int32) (x1 : Int32) (r : Int32) (hP : va_P D vwCl [(aM, .inr (10, [.int m_thrown, .ref aM_told, .ref aM_draft, .long m_shut, .long m_dots, .long m_draftShut, .long m_draftDots, .int m_undos, .ref aM_past, .ref aM_kept, .ref aM_isKept, .int m_base, .int m_slopeX, .int m_slopeY, .int m_seen, .ref aM_seenLine, .ref aM_seenIs, .ref aM_rank, .ref aM_stage, .int m_letters, .ref aM_text, .int m_next, .int m_begin, .int m_token, .int m_gain, .int m_bestDot, .int m_bestCell])), (aM_told, .inl (cy.1, 7, .inl m_told)), (aM_seenLine, .inl (cy.1, 6, .inl m_seenLine)), (aM_seenIs, .inl (cy.1, 6, .inl m_seenIs)), (aM_rank, .inl (cy.1, 64, .inl m_rank))] H0) (hf : f_X10_fits m_seen m_told m_seenLine m_seenIs m_rank x1 = some r) : Rd l yX10_fits cX10_fits 4 (some Jvm.ClassFile.FieldType.boolean) ({ frames := 2, cells := 0, slots := 0, locals := 47 } : Room) ([.ref aM, .int x1] : List Value) (some (.int r)) D cy H0 := by
  refine rd_of (by decide +kernel) (Nat.le_of_ble_eq_true rfl) ?_
  intro p e s m below meth c ls S hr hlocks hk hl
  obtain ⟨hx, hb, hml, hown, hts⟩ := id S
  have hl : lv_has ls 4 [(0, .ref aM), (1, .int x1)] := hl
  rw [f_X10_fits] at hf
  have J4 : ∀ (n4 : Nat) (x2 : Int32) (x3 : Int32) (ls : Array Slot), lv_has ls 4 [(0, .ref aM), (1, .int x1), (2, .int x2), (3, .int x3)] → lp_X10_fits_4 m_seen m_told m_seenLine m_seenIs m_rank x1 n4 x2 x3 = some r → W p l e ({ frames := 2, cells := 0, slots := 0, locals := 47 } : Room) s m ([.ref aM, .int x1] : List Value).toArray below meth c H0 [] 0 0 (MQ below (QR (some (.int r)) H0) ([.ref aM, .int x1] : List Value).toArray s 0 0 (fun _ => False)) (F0 m 4 ls []) := by
    intro n4
    induction n4 with
    | zero =>
      intro x2 x3 ls hl hf
      rw [lp_X10_fits_4_z] at hf
      cases hf
    | succ n4 ih4 =>
      have J41 : ∀ (x3 : Int32) (k0 : Int32) (ls : Array Slot), lv_has ls 4 [(0, .ref aM), (1, .int x1), (3, .int x3)] → j_X10_fits_41 (lp_X10_fits_4 m_seen m_told m_seenLine m_seenIs m_rank x1 n4) x3 k0 = some r → W p l e ({ frames := 2, cells := 0, slots := 0, locals := 47 } : Room) s m ([.ref aM, .int x1] : List Value).toArray below meth c H0 [] 0 0 (MQ below (QR (some (.int r)) H0) ([.ref aM, .int x1] : List Value).toArray s 0 0 (fun _ => False)) (F0 m 41 ls [.int k0]) := by
        intro x3 k0 ls hl hf
        rw [j_X10_fits_41] at hf
        refine lv_istore_n (lv' := [(2, .int k0), (0, .ref aM), (1, .int x1), (3, .int x3)]) hx hb dX10_fits_41 rfl hl (by decide) rfl (fun ls hl => ?_)
        refine lv_iinc (v := (x3 + 1)) (lv' := [(3, .int (x3 + 1)), (2, .int k0), (0, .ref aM), (1, .int x1)]) hx hb dX10_fits_42 hl (k := 3) rfl rfl (by decide) rfl (fun ls hl => ?_)
        refine lv_goto (tgt := 4) hx hb dX10_fits_45 (by decide) ?_
        exact ih4 k0 (x3 + 1) ls (lv_sub hl [2, 3, 1, 0] rfl) hf
      intro x2 x3 ls hl hf
      rw [lp_X10_fits_4_s] at hf
      refine lv_iload_n hx hb dX10_fits_4 rfl (lv_at hl 3 rfl) ?_
      refine lv_aload_n hx hb dX10_fits_5 rfl (lv_at hl 0 rfl) ?_
      refine va_get (D := D) (ci := 10) (v := .int m_seen) (C := RX10) (T := TX10) (N := 27) hx hb hts iX10 hown hk.1 hP 0 rfl rfl 14 (by decide) (hts _ tw_797) (fun _ h9 => h9) rfl dX10_fits_6 ?_
      refine lv_icmp_ge (tgt := 48) hx hb dX10_fits_9 (by decide) (fun hc => ?_) (fun hc => ?_)
      · have hf := q_t hc hf
        refine lv_iload_n hx hb dX10_fits_48 rfl (lv_at hl 2 rfl) ?_
        obtain ⟨hz, hf⟩ := q_isb hf
        have hf := Option.some.inj hf
        subst hf
        exact q_rzR hz hx hb hr hlocks dX10_fits_49
      · have hf := q_f hc hf
        refine lv_iload_n hx hb dX10_fits_12 rfl (lv_at hl 2 rfl) ?_
        refine lv_if_eq (tgt := 40) hx hb dX10_fits_13 (by decide) (fun hc => ?_) (fun hc => ?_)
        · have hf := q_t hc hf
          refine lv_iconst (v := (0 : Int32)) hx hb dX10_fits_40 (by decide) ?_
          exact J41 x3 (0 : Int32) ls (lv_sub hl [0, 1, 3] rfl) hf
        · have hf := q_f hc hf
          refine lv_aload_n hx hb dX10_fits_16 rfl (lv_at hl 0 rfl) ?_
          refine lv_aload_n hx hb dX10_fits_17 rfl (lv_at hl 0 rfl) ?_
          refine va_get (D := D) (ci := 10) (v := .ref aM_seenLine) (C := RX10) (T := TX10) (N := 27) hx hb hts iX10 hown hk.1 hP 0 rfl rfl 15 (by decide) (hts _ tw_798) (fun _ h9 => h9) rfl dX10_fits_18 ?_
          refine lv_iload_n hx hb dX10_fits_21 rfl (lv_at hl 3 rfl) ?_
          obtain ⟨hi, hf⟩ := q_in hf
          refine va_iald hx hb hk.1 hP 2 0 rfl rfl hi dX10_fits_22 ?_
          refine lv_iload_n hx hb dX10_fits_23 rfl (lv_at hl 1 rfl) ?_
          obtain ⟨z24, hz24, hf⟩ := q_bind hf
          refine q_rdV (As := [.int (m_seenLine x3.toNatClampNeg), .int x1]) (rest := []) (st2 := [.int z24]) S hk (c_X10_inLine l D cy H0 aM aM_told aM_draft aM_past aM_kept aM_isKept aM_seenLine aM_seenIs aM_rank aM_stage aM_text m_thrown m_shut m_dots m_draftShut m_draftDots m_undos m_base m_slopeX m_slopeY m_seen m_letters m_next m_begin m_token m_gain m_bestDot m_bestCell m_told m_rank (m_seenLine x3.toNatClampNeg) x1 z24 (hP.sub [0, 1, 4] rfl) hz24) ok_X10_inLine tw_1109 ⟨rfl, rfl, Nat.le_of_ble_eq_true rfl, Nat.le_of_ble_eq_true rfl⟩ (va_recv hk.1 hP (ci := 10) (q0 := 0) rfl rfl) rfl hl.1 rfl (Nat.le_of_ble_eq_true rfl) dX10_fits_24 ⟨Nat.zero_le _, Nat.zero_le _⟩ rfl ?_
          refine lv_aload_n hx hb dX10_fits_27 rfl (lv_at hl 0 rfl) ?_
          refine va_get (D := D) (ci := 10) (v := .ref aM_seenIs) (C := RX10) (T := TX10) (N := 27) hx hb hts iX10 hown hk.1 hP 0 rfl rfl 16 (by decide) (hts _ tw_799) (fun _ h9 => h9) rfl dX10_fits_28 ?_
          refine lv_iload_n hx hb dX10_fits_31 rfl (lv_at hl 3 rfl) ?_
          obtain ⟨hi, hf⟩ := q_in hf
          refine va_iald hx hb hk.1 hP 3 0 rfl rfl hi dX10_fits_32 ?_
          refine lv_icmp_ne (tgt := 40) hx hb dX10_fits_33 (by decide) (fun hc => ?_) (fun hc => ?_)
          · have hf := q_f hc hf
            refine lv_iconst (v := (0 : Int32)) hx hb dX10_fits_40 (by decide) ?_
            exact J41 x3 (0 : Int32) ls (lv_sub hl [0, 1, 3] rfl) hf
          · have hf := q_t hc hf
            refine lv_iconst (v := (1 : Int32)) hx hb dX10_fits_36 (by decide) ?_
            refine lv_goto (tgt := 41) hx hb dX10_fits_37 (by decide) ?_
            exact J41 x3 (1 : Int32) ls (lv_sub hl [0, 1, 3] rfl) hf
  refine lv_iconst (v := (1 : Int32)) hx hb dX10_fits_0 (by decide) ?_
  refine lv_istore_n (lv' := [(2, .int (1 : Int32)), (0, .ref aM), (1, .int x1)]) hx hb dX10_fits_1 rfl hl (by decide) rfl (fun ls hl => ?_)
  refine lv_iconst (v := (0 : Int32)) hx hb dX10_fits_2 (by decide) ?_
  refine lv_istore_n (lv' := [(3, .int (0 : Int32)), (2, .int (1 : Int32)), (0, .ref aM), (1, .int x1)]) hx hb dX10_fits_3 rfl hl (by decide) rfl (fun ls hl => ?_)
  exact J4 FU (1 : Int32) (0 : Int32) ls (lv_sub hl [2, 3, 1, 0] rfl) hf
def j_X10_unseen_77 (k44 : Int32 → Int32 → Int32 → Int32 → Int32 → (Nat → Int32) → (Nat → Int32) → Option (Int32 × Int32 × (Nat → Int32) × (Nat → Int32))) (x2 : Int32) (x5 : Int32) (k0 : Int32) (m_thrown : Int32) (m_rank : Nat → Int32) (m_stage : Nat → Int32) : Option (Int32 × Int32 × (Nat → Int32) × (Nat → Int32)) := k44 x2 k0 x5 (x5 + 1) m_thrown m_rank m_stage
def lp_X10_unseen_44 (m_shut : Int64) (m_seen : Int32) (m_told : Nat → Int32) (m_seenLine : Nat → Int32) (m_seenIs : Nat → Int32) (x1 : Int32) : Nat → Int32 → Int32 → Int32 → Int32 → Int32 → (Nat → Int32) → (Nat → Int32) → Option (Int32 × Int32 × (Nat → Int32) × (Nat → Int32))
  | 0, _, _, _, _, _, _, _ => none
  | n + 1, x2, x3, x4, x5, m_thrown, m_rank, m_stage => (f_X10_free m_shut m_told).bind (fun z47 => if z47 < x5 then (if x1 = 0 then (some (x2, m_thrown, m_rank, m_stage)) else (if x1 = (1 : Int32) then (some (x3, m_thrown, m_rank, m_stage)) else (some (x4, m_thrown, m_rank, m_stage)))) else ((f_X10_fits m_seen m_told m_seenLine m_seenIs m_rank x5).bind (fun z56 => if z56 = 0 then (lp_X10_unseen_44 m_shut m_seen m_told m_seenLine m_seenIs x1 n x2 x3 x4 (x5 + 1) m_thrown m_rank m_stage) else (if x3 = (-9 : Int32) then (j_X10_unseen_77 (lp_X10_unseen_44 m_shut m_seen m_told m_seenLine m_seenIs x1 n) (x2 + 1) x5 x5 m_thrown m_rank m_stage) else (j_X10_unseen_77 (lp_X10_unseen_44 m_shut m_seen m_told m_seenLine m_seenIs x1 n) (x2 + 1) x5 x3 m_thrown m_rank m_stage)))))
theorem lp_X10_unseen_44_s (m_shut : Int64) (m_seen : Int32) (m_told : Nat → Int32) (m_seenLine : Nat → Int32) (m_seenIs : Nat → Int32) (x1 : Int32) (n : Nat) (x2 : Int32) (x3 : Int32) (x4 : Int32) (x5 : Int32) (m_thrown : Int32) (m_rank : Nat → Int32) (m_stage : Nat → Int32) : lp_X10_unseen_44 m_shut m_seen m_told m_seenLine m_seenIs x1 (n + 1) x2 x3 x4 x5 m_thrown m_rank m_stage = ((f_X10_free m_shut m_told).bind (fun z47 => if z47 < x5 then (if x1 = 0 then (some (x2, m_thrown, m_rank, m_stage)) else (if x1 = (1 : Int32) then (some (x3, m_thrown, m_rank, m_stage)) else (some (x4, m_thrown, m_rank, m_stage)))) else ((f_X10_fits m_seen m_told m_seenLine m_seenIs m_rank x5).bind (fun z56 => if z56 = 0 then (lp_X10_unseen_44 m_shut m_seen m_told m_seenLine m_seenIs x1 n x2 x3 x4 (x5 + 1) m_thrown m_rank m_stage) else (if x3 = (-9 : Int32) then (j_X10_unseen_77 (lp_X10_unseen_44 m_shut m_seen m_told m_seenLine m_seenIs x1 n) (x2 + 1) x5 x5 m_thrown m_rank m_stage) else (j_X10_unseen_77 (lp_X10_unseen_44 m_shut m_seen m_told m_seenLine m_seenIs x1 n) (x2 + 1) x5 x3 m_thrown m_rank m_stage)))))) := rfl
theorem lp_X10_unseen_44_z (m_shut : Int64) (m_seen : Int32) (m_told : Nat → Int32) (m_seenLine : Nat → Int32) (m_seenIs : Nat → Int32) (x1 : Int32) (x2 : Int32) (x3 : Int32) (x4 : Int32) (x5 : Int32) (m_thrown : Int32) (m_rank : Nat → Int32) (m_stage : Nat → Int32) : lp_X10_unseen_44 m_shut m_seen m_told m_seenLine m_seenIs x1 0 x2 x3 x4 x5 m_thrown m_rank m_stage = none := rfl
def f_X10_unseen (m_thrown : Int32) (m_shut : Int64) (m_dots : Int64) (m_seen : Int32) (m_told : Nat → Int32) (m_seenLine : Nat → Int32) (m_seenIs : Nat → Int32) (m_rank : Nat → Int32) (m_stage : Nat → Int32) (x1 : Int32) : Option (Int32 × Int32 × (Nat → Int32) × (Nat → Int32)) := (f_X10_in x1 (0 : Int32) (2 : Int32)).bind (fun z8 => if z8 = 0 then (some ((-1 : Int32), (0 : Int32), m_rank, m_stage)) else (if (lg_cmp m_dots (0 : Int64)) = 0 then (some ((-2 : Int32), (0 : Int32), m_rank, m_stage)) else ((f_X10_ranks m_shut m_dots m_told m_rank m_stage).bind (fun z29 => lp_X10_unseen_44 m_shut m_seen m_told m_seenLine m_seenIs x1 FU (0 : Int32) (-9 : Int32) (-9 : Int32) (0 : Int32) (0 : Int32) (z29.1) (z29.2)))))
theorem ok_X10_unseen : OkV yX10_unseen cX10_unseen 6 (some Jvm.ClassFile.FieldType.int) 1 := ⟨⟨tw_1104, tw_13, by decide +kernel, by decide +kernel, by decide +kernel⟩, tw_1102, tw_1103⟩
set_option maxHeartbeats 4000000 in
set_option maxRecDepth 100000 in
theorem c_X10_unseen (l : Launch) (D : va_G) (cy : ClassId × ClassId × ClassId) (H0 : Heap) (aM aM_told aM_draft aM_past aM_kept aM_isKept aM_seenLine aM_seenIs aM_rank aM_stage aM_text : Nat) (m_thrown : Int32) (m_shut : Int64) (m_dots : Int64) (m_draftShut : Int64) (m_draftDots : Int64) (m_undos : Int32) (m_base : Int32) (m_slopeX : Int32) (m_slopeY : Int32) (m_seen : Int32) (m_letters : Int32) (m_next : Int32) (m_begin : Int32) (m_token : Int32) (m_gain : Int32) (m_bestDot : Int32) (m_bestCell : Int32) (m_told : Nat → Int32) (m_seenLine : Nat → Int32) (m_seenIs : Nat → Int32) (m_rank : Nat → Int32) (m_stage : Nat → Int32) (x1 : Int32) (r : Int32 × Int32 × (Nat → Int32) × (Nat → Int32)) (hP : va_P D vwCl [(aM, .inr (10, [.int m_thrown, .ref aM_told, .ref aM_draft, .long m_shut, .long m_dots, .long m_draftShut, .long m_draftDots, .int m_undos, .ref aM_past, .ref aM_kept, .ref aM_isKept, .int m_base, .int m_slopeX, .int m_slopeY, .int m_seen, .ref aM_seenLine, .ref aM_seenIs, .ref aM_rank, .ref aM_stage, .int m_letters, .ref aM_text, .int m_next, .int m_begin, .int m_token, .int m_gain, .int m_bestDot, .int m_bestCell])), (aM_told, .inl (cy.1, 7, .inl m_told)), (aM_seenLine, .inl (cy.1, 6, .inl m_seenLine)), (aM_seenIs, .inl (cy.1, 6, .inl m_seenIs)), (aM_rank, .inl (cy.1, 64, .inl m_rank)), (aM_stage, .inl (cy.1, 64, .inl m_stage))] H0) (hD0 : va_D (fun _ => True) [(aM, .inr (10, [.int m_thrown, .ref aM_told, .ref aM_draft, .long m_shut, .long m_dots, .long m_draftShut, .long m_draftDots, .int m_undos, .ref aM_past, .ref aM_kept, .ref aM_isKept, .int m_base, .int m_slopeX, .int m_slopeY, .int m_seen, .ref aM_seenLine, .ref aM_seenIs, .ref aM_rank, .ref aM_stage, .int m_letters, .ref aM_text, .int m_next, .int m_begin, .int m_token, .int m_gain, .int m_bestDot, .int m_bestCell])), (aM_told, .inl (cy.1, 7, .inl m_told)), (aM_seenLine, .inl (cy.1, 6, .inl m_seenLine)), (aM_seenIs, .inl (cy.1, 6, .inl m_seenIs)), (aM_rank, .inl (cy.1, 64, .inl m_rank)), (aM_stage, .inl (cy.1, 64, .inl m_stage))]) (hf : f_X10_unseen m_thrown m_shut m_dots m_seen m_told m_seenLine m_seenIs m_rank m_stage x1 = some r) : Wr l yX10_unseen cX10_unseen 6 (some Jvm.ClassFile.FieldType.int) ({ frames := 6, cells := 0, slots := 0, locals := 154 } : Room) ([.ref aM, .int x1] : List Value) (some (.int (r.1))) D cy H0 [(aM, .inr (10, [.int m_thrown, .ref aM_told, .ref aM_draft, .long m_shut, .long m_dots, .long m_draftShut, .long m_draftDots, .int m_undos, .ref aM_past, .ref aM_kept, .ref aM_isKept, .int m_base, .int m_slopeX, .int m_slopeY, .int m_seen, .ref aM_seenLine, .ref aM_seenIs, .ref aM_rank, .ref aM_stage, .int m_letters, .ref aM_text, .int m_next, .int m_begin, .int m_token, .int m_gain, .int m_bestDot, .int m_bestCell])), (aM_told, .inl (cy.1, 7, .inl m_told)), (aM_seenLine, .inl (cy.1, 6, .inl m_seenLine)), (aM_seenIs, .inl (cy.1, 6, .inl m_seenIs)), (aM_rank, .inl (cy.1, 64, .inl m_rank)), (aM_stage, .inl (cy.1, 64, .inl m_stage))] [(aM, .inr (10, [.int (r.2.1), .ref aM_told, .ref aM_draft, .long m_shut, .long m_dots, .long m_draftShut, .long m_draftDots, .int m_undos, .ref aM_past, .ref aM_kept, .ref aM_isKept, .int m_base, .int m_slopeX, .int m_slopeY, .int m_seen, .ref aM_seenLine, .ref aM_seenIs, .ref aM_rank, .ref aM_stage, .int m_letters, .ref aM_text, .int m_next, .int m_begin, .int m_token, .int m_gain, .int m_bestDot, .int m_bestCell])), (aM_told, .inl (cy.1, 7, .inl m_told)), (aM_seenLine, .inl (cy.1, 6, .inl m_seenLine)), (aM_seenIs, .inl (cy.1, 6, .inl m_seenIs)), (aM_rank, .inl (cy.1, 64, .inl (r.2.2.1))), (aM_stage, .inl (cy.1, 64, .inl (r.2.2.2)))] := by
  refine wr_of (by decide +kernel) (Nat.le_of_ble_eq_true rfl) hD0 ?_
  intro p e s m below meth c ls A S hr hlocks hk hl hD hS hA
  obtain ⟨hx, hb, hml, hown, hts⟩ := id S
  have hl : lv_has ls 6 [(0, .ref aM), (1, .int x1)] := hl
  rw [f_X10_unseen] at hf
  have J44 : ∀ (n44 : Nat) (x2 : Int32) (x3 : Int32) (x4 : Int32) (x5 : Int32) (m_thrown : Int32) (m_rank : Nat → Int32) (m_stage : Nat → Int32) (H : Heap) (locs : List Loc) (ls : Array Slot), va_P D vwCl [(aM, .inr (10, [.int m_thrown, .ref aM_told, .ref aM_draft, .long m_shut, .long m_dots, .long m_draftShut, .long m_draftDots, .int m_undos, .ref aM_past, .ref aM_kept, .ref aM_isKept, .int m_base, .int m_slopeX, .int m_slopeY, .int m_seen, .ref aM_seenLine, .ref aM_seenIs, .ref aM_rank, .ref aM_stage, .int m_letters, .ref aM_text, .int m_next, .int m_begin, .int m_token, .int m_gain, .int m_bestDot, .int m_bestCell])), (aM_told, .inl (cy.1, 7, .inl m_told)), (aM_seenLine, .inl (cy.1, 6, .inl m_seenLine)), (aM_seenIs, .inl (cy.1, 6, .inl m_seenIs)), (aM_rank, .inl (cy.1, 64, .inl m_rank)), (aM_stage, .inl (cy.1, 64, .inl m_stage))] H → va_D A [(aM, .inr (10, [.int m_thrown, .ref aM_told, .ref aM_draft, .long m_shut, .long m_dots, .long m_draftShut, .long m_draftDots, .int m_undos, .ref aM_past, .ref aM_kept, .ref aM_isKept, .int m_base, .int m_slopeX, .int m_slopeY, .int m_seen, .ref aM_seenLine, .ref aM_seenIs, .ref aM_rank, .ref aM_stage, .int m_letters, .ref aM_text, .int m_next, .int m_begin, .int m_token, .int m_gain, .int m_bestDot, .int m_bestCell])), (aM_told, .inl (cy.1, 7, .inl m_told)), (aM_seenLine, .inl (cy.1, 6, .inl m_seenLine)), (aM_seenIs, .inl (cy.1, 6, .inl m_seenIs)), (aM_rank, .inl (cy.1, 64, .inl m_rank)), (aM_stage, .inl (cy.1, 64, .inl m_stage))] → va_S A H0 H locs → lv_has ls 6 [(0, .ref aM), (1, .int x1), (2, .int x2), (3, .int x3), (4, .int x4), (5, .int x5)] → lp_X10_unseen_44 m_shut m_seen m_told m_seenLine m_seenIs x1 n44 x2 x3 x4 x5 m_thrown m_rank m_stage = some r → W p l e ({ frames := 6, cells := 0, slots := 0, locals := 154 } : Room) s m ([.ref aM, .int x1] : List Value).toArray below meth c H locs 0 0 (MQ below (QW (some (.int (r.1))) D [(aM, .inr (10, [.int (r.2.1), .ref aM_told, .ref aM_draft, .long m_shut, .long m_dots, .long m_draftShut, .long m_draftDots, .int m_undos, .ref aM_past, .ref aM_kept, .ref aM_isKept, .int m_base, .int m_slopeX, .int m_slopeY, .int m_seen, .ref aM_seenLine, .ref aM_seenIs, .ref aM_rank, .ref aM_stage, .int m_letters, .ref aM_text, .int m_next, .int m_begin, .int m_token, .int m_gain, .int m_bestDot, .int m_bestCell])), (aM_told, .inl (cy.1, 7, .inl m_told)), (aM_seenLine, .inl (cy.1, 6, .inl m_seenLine)), (aM_seenIs, .inl (cy.1, 6, .inl m_seenIs)), (aM_rank, .inl (cy.1, 64, .inl (r.2.2.1))), (aM_stage, .inl (cy.1, 64, .inl (r.2.2.2)))] H0 A) ([.ref aM, .int x1] : List Value).toArray s 0 0 A) (F0 m 44 ls []) := by
    intro n44
    induction n44 with
    | zero =>
      intro x2 x3 x4 x5 m_thrown m_rank m_stage H locs ls hP hD hS hl hf
      rw [lp_X10_unseen_44_z] at hf
      cases hf
    | succ n44 ih44 =>
      have J77 : ∀ (x2 : Int32) (x5 : Int32) (k0 : Int32) (m_thrown : Int32) (m_rank : Nat → Int32) (m_stage : Nat → Int32) (H : Heap) (locs : List Loc) (ls : Array Slot), va_P D vwCl [(aM, .inr (10, [.int m_thrown, .ref aM_told, .ref aM_draft, .long m_shut, .long m_dots, .long m_draftShut, .long m_draftDots, .int m_undos, .ref aM_past, .ref aM_kept, .ref aM_isKept, .int m_base, .int m_slopeX, .int m_slopeY, .int m_seen, .ref aM_seenLine, .ref aM_seenIs, .ref aM_rank, .ref aM_stage, .int m_letters, .ref aM_text, .int m_next, .int m_begin, .int m_token, .int m_gain, .int m_bestDot, .int m_bestCell])), (aM_told, .inl (cy.1, 7, .inl m_told)), (aM_seenLine, .inl (cy.1, 6, .inl m_seenLine)), (aM_seenIs, .inl (cy.1, 6, .inl m_seenIs)), (aM_rank, .inl (cy.1, 64, .inl m_rank)), (aM_stage, .inl (cy.1, 64, .inl m_stage))] H → va_D A [(aM, .inr (10, [.int m_thrown, .ref aM_told, .ref aM_draft, .long m_shut, .long m_dots, .long m_draftShut, .long m_draftDots, .int m_undos, .ref aM_past, .ref aM_kept, .ref aM_isKept, .int m_base, .int m_slopeX, .int m_slopeY, .int m_seen, .ref aM_seenLine, .ref aM_seenIs, .ref aM_rank, .ref aM_stage, .int m_letters, .ref aM_text, .int m_next, .int m_begin, .int m_token, .int m_gain, .int m_bestDot, .int m_bestCell])), (aM_told, .inl (cy.1, 7, .inl m_told)), (aM_seenLine, .inl (cy.1, 6, .inl m_seenLine)), (aM_seenIs, .inl (cy.1, 6, .inl m_seenIs)), (aM_rank, .inl (cy.1, 64, .inl m_rank)), (aM_stage, .inl (cy.1, 64, .inl m_stage))] → va_S A H0 H locs → lv_has ls 6 [(0, .ref aM), (1, .int x1), (2, .int x2), (5, .int x5)] → j_X10_unseen_77 (lp_X10_unseen_44 m_shut m_seen m_told m_seenLine m_seenIs x1 n44) x2 x5 k0 m_thrown m_rank m_stage = some r → W p l e ({ frames := 6, cells := 0, slots := 0, locals := 154 } : Room) s m ([.ref aM, .int x1] : List Value).toArray below meth c H locs 0 0 (MQ below (QW (some (.int (r.1))) D [(aM, .inr (10, [.int (r.2.1), .ref aM_told, .ref aM_draft, .long m_shut, .long m_dots, .long m_draftShut, .long m_draftDots, .int m_undos, .ref aM_past, .ref aM_kept, .ref aM_isKept, .int m_base, .int m_slopeX, .int m_slopeY, .int m_seen, .ref aM_seenLine, .ref aM_seenIs, .ref aM_rank, .ref aM_stage, .int m_letters, .ref aM_text, .int m_next, .int m_begin, .int m_token, .int m_gain, .int m_bestDot, .int m_bestCell])), (aM_told, .inl (cy.1, 7, .inl m_told)), (aM_seenLine, .inl (cy.1, 6, .inl m_seenLine)), (aM_seenIs, .inl (cy.1, 6, .inl m_seenIs)), (aM_rank, .inl (cy.1, 64, .inl (r.2.2.1))), (aM_stage, .inl (cy.1, 64, .inl (r.2.2.2)))] H0 A) ([.ref aM, .int x1] : List Value).toArray s 0 0 A) (F0 m 77 ls [.int k0]) := by
        intro x2 x5 k0 m_thrown m_rank m_stage H locs ls hP hD hS hl hf
        rw [j_X10_unseen_77] at hf
        refine lv_istore_n (lv' := [(3, .int k0), (0, .ref aM), (1, .int x1), (2, .int x2), (5, .int x5)]) hx hb dX10_unseen_77 rfl hl (by decide) rfl (fun ls hl => ?_)
        refine lv_iload hx hb dX10_unseen_78 (lv_at hl 4 rfl) ?_
        refine lv_istore (lv' := [(4, .int x5), (3, .int k0), (0, .ref aM), (1, .int x1), (2, .int x2), (5, .int x5)]) hx hb dX10_unseen_80 hl (by decide) rfl (fun ls hl => ?_)
        refine lv_iinc (v := (x5 + 1)) (lv' := [(5, .int (x5 + 1)), (4, .int x5), (3, .int k0), (0, .ref aM), (1, .int x1), (2, .int x2)]) hx hb dX10_unseen_82 hl (k := 5) rfl rfl (by decide) rfl (fun ls hl => ?_)
        refine lv_goto (tgt := 44) hx hb dX10_unseen_85 (by decide) ?_
        exact ih44 x2 k0 x5 (x5 + 1) m_thrown m_rank m_stage H locs ls hP hD hS (lv_sub hl [3, 4, 5, 2, 1, 0] rfl) hf
      intro x2 x3 x4 x5 m_thrown m_rank m_stage H locs ls hP hD hS hl hf
      rw [lp_X10_unseen_44_s] at hf
      refine lv_iload hx hb dX10_unseen_44 (lv_at hl 5 rfl) ?_
      refine lv_aload_n hx hb dX10_unseen_46 rfl (lv_at hl 0 rfl) ?_
      obtain ⟨z47, hz47, hf⟩ := q_bind hf
      refine q_rdV (As := []) (rest := [.int x5]) (st2 := [.int z47, .int x5]) S hk (c_X10_free l D cy H aM aM_told aM_draft aM_past aM_kept aM_isKept aM_seenLine aM_seenIs aM_rank aM_stage aM_text m_thrown m_shut m_dots m_draftShut m_draftDots m_undos m_base m_slopeX m_slopeY m_seen m_letters m_next m_begin m_token m_gain m_bestDot m_bestCell m_told z47 (hP.sub [0, 1] rfl) hz47) ok_X10_free tw_1037 ⟨rfl, rfl, Nat.le_of_ble_eq_true rfl, Nat.le_of_ble_eq_true rfl⟩ (va_recv hk.1 hP (ci := 10) (q0 := 0) rfl rfl) rfl hl.1 rfl (Nat.le_of_ble_eq_true rfl) dX10_unseen_47 ⟨Nat.zero_le _, Nat.zero_le _⟩ rfl ?_
      refine lv_icmp_gt (tgt := 88) hx hb dX10_unseen_50 (by decide) (fun hc => ?_) (fun hc => ?_)
      · have hf := q_t hc hf
        refine lv_iload_n hx hb dX10_unseen_88 rfl (lv_at hl 1 rfl) ?_
        refine lv_if_ne (tgt := 96) hx hb dX10_unseen_89 (by decide) (fun hc => ?_) (fun hc => ?_)
        · have hf := q_f hc hf
          refine lv_iload_n hx hb dX10_unseen_96 rfl (lv_at hl 1 rfl) ?_
          refine lv_iconst (v := (1 : Int32)) hx hb dX10_unseen_97 (by decide) ?_
          refine lv_icmp_ne (tgt := 105) hx hb dX10_unseen_98 (by decide) (fun hc => ?_) (fun hc => ?_)
          · have hf := q_f hc hf
            refine lv_iload hx hb dX10_unseen_105 (lv_at hl 4 rfl) ?_
            have hf := Option.some.inj hf
            subst hf
            exact q_riW hP hS hx hb hr hlocks dX10_unseen_107
          · have hf := q_t hc hf
            refine lv_iload_n hx hb dX10_unseen_101 rfl (lv_at hl 3 rfl) ?_
            refine lv_goto (tgt := 107) hx hb dX10_unseen_102 (by decide) ?_
            have hf := Option.some.inj hf
            subst hf
            exact q_riW hP hS hx hb hr hlocks dX10_unseen_107
        · have hf := q_t hc hf
          refine lv_iload_n hx hb dX10_unseen_92 rfl (lv_at hl 2 rfl) ?_
          refine lv_goto (tgt := 107) hx hb dX10_unseen_93 (by decide) ?_
          have hf := Option.some.inj hf
          subst hf
          exact q_riW hP hS hx hb hr hlocks dX10_unseen_107
      · have hf := q_f hc hf
        refine lv_aload_n hx hb dX10_unseen_53 rfl (lv_at hl 0 rfl) ?_
        refine lv_iload hx hb dX10_unseen_54 (lv_at hl 5 rfl) ?_
        obtain ⟨z56, hz56, hf⟩ := q_bind hf
        refine q_rdV (As := [.int x5]) (rest := []) (st2 := [.int z56]) S hk (c_X10_fits l D cy H aM aM_told aM_draft aM_past aM_kept aM_isKept aM_seenLine aM_seenIs aM_rank aM_stage aM_text m_thrown m_shut m_dots m_draftShut m_draftDots m_undos m_base m_slopeX m_slopeY m_seen m_letters m_next m_begin m_token m_gain m_bestDot m_bestCell m_told m_seenLine m_seenIs m_rank x5 z56 (hP.sub [0, 1, 2, 3, 4] rfl) hz56) ok_X10_fits tw_1105 ⟨rfl, rfl, Nat.le_of_ble_eq_true rfl, Nat.le_of_ble_eq_true rfl⟩ (va_recv hk.1 hP (ci := 10) (q0 := 0) rfl rfl) rfl hl.1 rfl (Nat.le_of_ble_eq_true rfl) dX10_unseen_56 ⟨Nat.zero_le _, Nat.zero_le _⟩ rfl ?_
        refine lv_if_eq (tgt := 82) hx hb dX10_unseen_59 (by decide) (fun hc => ?_) (fun hc => ?_)
        · have hf := q_t hc hf
          refine lv_iinc (v := (x5 + 1)) (lv' := [(5, .int (x5 + 1)), (0, .ref aM), (1, .int x1), (2, .int x2), (3, .int x3), (4, .int x4)]) hx hb dX10_unseen_82 hl (k := 5) rfl rfl (by decide) rfl (fun ls hl => ?_)
          refine lv_goto (tgt := 44) hx hb dX10_unseen_85 (by decide) ?_
          exact ih44 x2 x3 x4 (x5 + 1) m_thrown m_rank m_stage H locs ls hP hD hS (lv_sub hl [1, 2, 3, 4, 5, 0] rfl) hf
        · have hf := q_f hc hf
          refine lv_iinc (v := (x2 + 1)) (lv' := [(2, .int (x2 + 1)), (0, .ref aM), (1, .int x1), (3, .int x3), (4, .int x4), (5, .int x5)]) hx hb dX10_unseen_62 hl (k := 2) rfl rfl (by decide) rfl (fun ls hl => ?_)
          refine lv_iload_n hx hb dX10_unseen_65 rfl (lv_at hl 3 rfl) ?_
          refine lv_bipush (v := (-9 : Int32)) hx hb dX10_unseen_66 (by decide) ?_
          refine lv_icmp_ne (tgt := 76) hx hb dX10_unseen_68 (by decide) (fun hc => ?_) (fun hc => ?_)
          · have hf := q_f hc hf
            refine lv_iload_n hx hb dX10_unseen_76 rfl (lv_at hl 3 rfl) ?_
            exact J77 (x2 + 1) x5 x3 m_thrown m_rank m_stage H locs ls hP hD hS (lv_sub hl [1, 2, 0, 5] rfl) hf
          · have hf := q_t hc hf
            refine lv_iload hx hb dX10_unseen_71 (lv_at hl 5 rfl) ?_
            refine lv_goto (tgt := 77) hx hb dX10_unseen_73 (by decide) ?_
            exact J77 (x2 + 1) x5 x5 m_thrown m_rank m_stage H locs ls hP hD hS (lv_sub hl [1, 2, 0, 5] rfl) hf
  refine lv_aload_n hx hb dX10_unseen_0 rfl (lv_at hl 0 rfl) ?_
  refine lv_iconst (v := (0 : Int32)) hx hb dX10_unseen_1 (by decide) ?_
  refine va_put (D := D) (ci := 10) (v := .int (0 : Int32)) (ty := .int) (C := RX10) (T := TX10) (N := 27) hx hb hts iX10 tyX10 tyX10_ok nmX10 hown hk.1 hP hD hS 0 rfl rfl 0 (by decide) (hts _ tw_783) (fun _ h9 => h9) rfl (by decide +kernel) rfl rfl (Nat.le_of_ble_eq_true rfl) dX10_unseen_2 (fun H locs hP hD hS => ?_)
  have hP : va_P D vwCl [(aM, .inr (10, [.int (0 : Int32), .ref aM_told, .ref aM_draft, .long m_shut, .long m_dots, .long m_draftShut, .long m_draftDots, .int m_undos, .ref aM_past, .ref aM_kept, .ref aM_isKept, .int m_base, .int m_slopeX, .int m_slopeY, .int m_seen, .ref aM_seenLine, .ref aM_seenIs, .ref aM_rank, .ref aM_stage, .int m_letters, .ref aM_text, .int m_next, .int m_begin, .int m_token, .int m_gain, .int m_bestDot, .int m_bestCell])), (aM_told, .inl (cy.1, 7, .inl m_told)), (aM_seenLine, .inl (cy.1, 6, .inl m_seenLine)), (aM_seenIs, .inl (cy.1, 6, .inl m_seenIs)), (aM_rank, .inl (cy.1, 64, .inl m_rank)), (aM_stage, .inl (cy.1, 64, .inl m_stage))] H := hP
  have hD : va_D A [(aM, .inr (10, [.int (0 : Int32), .ref aM_told, .ref aM_draft, .long m_shut, .long m_dots, .long m_draftShut, .long m_draftDots, .int m_undos, .ref aM_past, .ref aM_kept, .ref aM_isKept, .int m_base, .int m_slopeX, .int m_slopeY, .int m_seen, .ref aM_seenLine, .ref aM_seenIs, .ref aM_rank, .ref aM_stage, .int m_letters, .ref aM_text, .int m_next, .int m_begin, .int m_token, .int m_gain, .int m_bestDot, .int m_bestCell])), (aM_told, .inl (cy.1, 7, .inl m_told)), (aM_seenLine, .inl (cy.1, 6, .inl m_seenLine)), (aM_seenIs, .inl (cy.1, 6, .inl m_seenIs)), (aM_rank, .inl (cy.1, 64, .inl m_rank)), (aM_stage, .inl (cy.1, 64, .inl m_stage))] := hD
  refine lv_iload_n hx hb dX10_unseen_5 rfl (lv_at hl 1 rfl) ?_
  refine lv_iconst (v := (0 : Int32)) hx hb dX10_unseen_6 (by decide) ?_
  refine lv_iconst (v := (2 : Int32)) hx hb dX10_unseen_7 (by decide) ?_
  obtain ⟨z8, hz8, hf⟩ := q_bind hf
  refine q_rdS (As := [.int x1, .int (0 : Int32), .int (2 : Int32)]) (rest := []) (st2 := [.int z8]) S hk (c_X10_in l D cy H x1 (0 : Int32) (2 : Int32) z8 hz8) ok_X10_in tw_869 ⟨rfl, rfl, Nat.le_of_ble_eq_true rfl, Nat.le_of_ble_eq_true rfl⟩ rfl hl.1 rfl (Nat.le_of_ble_eq_true rfl) dX10_unseen_8 ⟨Nat.zero_le _, Nat.zero_le _⟩ rfl ?_
  refine lv_if_ne (tgt := 16) hx hb dX10_unseen_11 (by decide) (fun hc => ?_) (fun hc => ?_)
  · have hf := q_f hc hf
    refine lv_aload_n hx hb dX10_unseen_16 rfl (lv_at hl 0 rfl) ?_
    refine va_get (D := D) (ci := 10) (v := .long m_dots) (C := RX10) (T := TX10) (N := 27) hx hb hts iX10 hown hk.1 hP 0 rfl rfl 4 (by decide) (hts _ tw_787) (fun _ h9 => h9) rfl dX10_unseen_17 ?_
    refine lv_lconst (v := (0 : Int64)) hx hb dX10_unseen_20 (by decide) ?_
    refine W.lcmp hx hb dX10_unseen_21 ?_
    refine lv_if_ne (tgt := 28) hx hb dX10_unseen_22 (by decide) (fun hc => ?_) (fun hc => ?_)
    · have hf := q_f hc hf
      refine lv_aload_n hx hb dX10_unseen_28 rfl (lv_at hl 0 rfl) ?_
      obtain ⟨z29, hz29, hf⟩ := q_bind hf
      refine q_wrV (As := []) (rest := []) (st2 := []) (ws' := [(aM, .inr (10, [.int (0 : Int32), .ref aM_told, .ref aM_draft, .long m_shut, .long m_dots, .long m_draftShut, .long m_draftDots, .int m_undos, .ref aM_past, .ref aM_kept, .ref aM_isKept, .int m_base, .int m_slopeX, .int m_slopeY, .int m_seen, .ref aM_seenLine, .ref aM_seenIs, .ref aM_rank, .ref aM_stage, .int m_letters, .ref aM_text, .int m_next, .int m_begin, .int m_token, .int m_gain, .int m_bestDot, .int m_bestCell])), (aM_told, .inl (cy.1, 7, .inl m_told)), (aM_seenLine, .inl (cy.1, 6, .inl m_seenLine)), (aM_seenIs, .inl (cy.1, 6, .inl m_seenIs)), (aM_rank, .inl (cy.1, 64, .inl (z29.1))), (aM_stage, .inl (cy.1, 64, .inl (z29.2)))]) S hk (c_X10_ranks l D cy H aM aM_told aM_draft aM_past aM_kept aM_isKept aM_seenLine aM_seenIs aM_rank aM_stage aM_text (0 : Int32) m_shut m_dots m_draftShut m_draftDots m_undos m_base m_slopeX m_slopeY m_seen m_letters m_next m_begin m_token m_gain m_bestDot m_bestCell m_told m_rank m_stage z29 (hP.sub [0, 1, 4, 5] rfl) (qD_sub hD [0, 1, 4, 5] (by decide) rfl) hz29) ok_X10_ranks tw_1030 ⟨rfl, rfl, Nat.le_of_ble_eq_true rfl, Nat.le_of_ble_eq_true rfl⟩ (va_recv hk.1 hP (ci := 10) (q0 := 0) rfl rfl) rfl hl.1 rfl (Nat.le_of_ble_eq_true rfl) dX10_unseen_29 ⟨Nat.zero_le _, Nat.zero_le _⟩ rfl hP hD hS hA [0, 1, 4, 5] rfl rfl rfl rfl (fun H locs hP hD hS => ?_)
      refine lv_iconst (v := (0 : Int32)) hx hb dX10_unseen_32 (by decide) ?_
      refine lv_istore_n (lv' := [(2, .int (0 : Int32)), (0, .ref aM), (1, .int x1)]) hx hb dX10_unseen_33 rfl hl (by decide) rfl (fun ls hl => ?_)
      refine lv_bipush (v := (-9 : Int32)) hx hb dX10_unseen_34 (by decide) ?_
      refine lv_istore_n (lv' := [(3, .int (-9 : Int32)), (2, .int (0 : Int32)), (0, .ref aM), (1, .int x1)]) hx hb dX10_unseen_36 rfl hl (by decide) rfl (fun ls hl => ?_)
      refine lv_bipush (v := (-9 : Int32)) hx hb dX10_unseen_37 (by decide) ?_
      refine lv_istore (lv' := [(4, .int (-9 : Int32)), (3, .int (-9 : Int32)), (2, .int (0 : Int32)), (0, .ref aM), (1, .int x1)]) hx hb dX10_unseen_39 hl (by decide) rfl (fun ls hl => ?_)
      refine lv_iconst (v := (0 : Int32)) hx hb dX10_unseen_41 (by decide) ?_
      refine lv_istore (lv' := [(5, .int (0 : Int32)), (4, .int (-9 : Int32)), (3, .int (-9 : Int32)), (2, .int (0 : Int32)), (0, .ref aM), (1, .int x1)]) hx hb dX10_unseen_42 hl (by decide) rfl (fun ls hl => ?_)
      exact J44 FU (0 : Int32) (-9 : Int32) (-9 : Int32) (0 : Int32) (0 : Int32) (z29.1) (z29.2) H locs ls hP hD hS (lv_sub hl [4, 5, 3, 2, 1, 0] rfl) hf
    · have hf := q_t hc hf
      refine lv_bipush (v := (-2 : Int32)) hx hb dX10_unseen_25 (by decide) ?_
      have hf := Option.some.inj hf
      subst hf
      exact q_riW hP hS hx hb hr hlocks dX10_unseen_27
  · have hf := q_t hc hf
    refine lv_iconst (v := (-1 : Int32)) hx hb dX10_unseen_14 (by decide) ?_
    have hf := Option.some.inj hf
    subst hf
    exact q_riW hP hS hx hb hr hlocks dX10_unseen_15
def f_X10_keep (m_thrown : Int32) (m_dots : Int64) (m_kept : Nat → Int64) (m_isKept : Nat → Int32) (x1 : Int32) : Option (Int32 × Int32 × (Nat → Int64) × (Nat → Int32)) := (f_X10_in x1 (0 : Int32) (1 : Int32)).bind (fun z8 => if z8 = 0 then (some ((-1 : Int32), (0 : Int32), m_kept, m_isKept)) else (if inb x1 2 = true then (if inb x1 2 = true then ((f_X10_ones m_dots).bind (fun z37 => some (z37, (0 : Int32), (vp_updL m_kept x1.toNatClampNeg m_dots), (upd m_isKept x1.toNatClampNeg (1 : Int32))))) else none) else none))
theorem ok_X10_keep : OkV yX10_keep cX10_keep 2 (some Jvm.ClassFile.FieldType.int) 1 := ⟨⟨tw_1116, tw_13, by decide +kernel, by decide +kernel, by decide +kernel⟩, tw_1114, tw_1115⟩
set_option maxHeartbeats 4000000 in
set_option maxRecDepth 100000 in
theorem c_X10_keep (l : Launch) (D : va_G) (cy : ClassId × ClassId × ClassId) (H0 : Heap) (aM aM_told aM_draft aM_past aM_kept aM_isKept aM_seenLine aM_seenIs aM_rank aM_stage aM_text : Nat) (m_thrown : Int32) (m_shut : Int64) (m_dots : Int64) (m_draftShut : Int64) (m_draftDots : Int64) (m_undos : Int32) (m_base : Int32) (m_slopeX : Int32) (m_slopeY : Int32) (m_seen : Int32) (m_letters : Int32) (m_next : Int32) (m_begin : Int32) (m_token : Int32) (m_gain : Int32) (m_bestDot : Int32) (m_bestCell : Int32) (m_kept : Nat → Int64) (m_isKept : Nat → Int32) (x1 : Int32) (r : Int32 × Int32 × (Nat → Int64) × (Nat → Int32)) (hP : va_P D vwCl [(aM, .inr (10, [.int m_thrown, .ref aM_told, .ref aM_draft, .long m_shut, .long m_dots, .long m_draftShut, .long m_draftDots, .int m_undos, .ref aM_past, .ref aM_kept, .ref aM_isKept, .int m_base, .int m_slopeX, .int m_slopeY, .int m_seen, .ref aM_seenLine, .ref aM_seenIs, .ref aM_rank, .ref aM_stage, .int m_letters, .ref aM_text, .int m_next, .int m_begin, .int m_token, .int m_gain, .int m_bestDot, .int m_bestCell])), (aM_kept, .inl (cy.2.1, 2, .inr (.inl m_kept))), (aM_isKept, .inl (cy.2.2, 2, .inl m_isKept))] H0) (hD0 : va_D (fun _ => True) [(aM, .inr (10, [.int m_thrown, .ref aM_told, .ref aM_draft, .long m_shut, .long m_dots, .long m_draftShut, .long m_draftDots, .int m_undos, .ref aM_past, .ref aM_kept, .ref aM_isKept, .int m_base, .int m_slopeX, .int m_slopeY, .int m_seen, .ref aM_seenLine, .ref aM_seenIs, .ref aM_rank, .ref aM_stage, .int m_letters, .ref aM_text, .int m_next, .int m_begin, .int m_token, .int m_gain, .int m_bestDot, .int m_bestCell])), (aM_kept, .inl (cy.2.1, 2, .inr (.inl m_kept))), (aM_isKept, .inl (cy.2.2, 2, .inl m_isKept))]) (hf : f_X10_keep m_thrown m_dots m_kept m_isKept x1 = some r) : Wr l yX10_keep cX10_keep 2 (some Jvm.ClassFile.FieldType.int) ({ frames := 2, cells := 0, slots := 0, locals := 45 } : Room) ([.ref aM, .int x1] : List Value) (some (.int (r.1))) D cy H0 [(aM, .inr (10, [.int m_thrown, .ref aM_told, .ref aM_draft, .long m_shut, .long m_dots, .long m_draftShut, .long m_draftDots, .int m_undos, .ref aM_past, .ref aM_kept, .ref aM_isKept, .int m_base, .int m_slopeX, .int m_slopeY, .int m_seen, .ref aM_seenLine, .ref aM_seenIs, .ref aM_rank, .ref aM_stage, .int m_letters, .ref aM_text, .int m_next, .int m_begin, .int m_token, .int m_gain, .int m_bestDot, .int m_bestCell])), (aM_kept, .inl (cy.2.1, 2, .inr (.inl m_kept))), (aM_isKept, .inl (cy.2.2, 2, .inl m_isKept))] [(aM, .inr (10, [.int (r.2.1), .ref aM_told, .ref aM_draft, .long m_shut, .long m_dots, .long m_draftShut, .long m_draftDots, .int m_undos, .ref aM_past, .ref aM_kept, .ref aM_isKept, .int m_base, .int m_slopeX, .int m_slopeY, .int m_seen, .ref aM_seenLine, .ref aM_seenIs, .ref aM_rank, .ref aM_stage, .int m_letters, .ref aM_text, .int m_next, .int m_begin, .int m_token, .int m_gain, .int m_bestDot, .int m_bestCell])), (aM_kept, .inl (cy.2.1, 2, .inr (.inl (r.2.2.1)))), (aM_isKept, .inl (cy.2.2, 2, .inl (r.2.2.2)))] := by
  refine wr_of (by decide +kernel) (Nat.le_of_ble_eq_true rfl) hD0 ?_
  intro p e s m below meth c ls A S hr hlocks hk hl hD hS hA
  obtain ⟨hx, hb, hml, hown, hts⟩ := id S
  have hl : lv_has ls 2 [(0, .ref aM), (1, .int x1)] := hl
  rw [f_X10_keep] at hf
  refine lv_aload_n hx hb dX10_keep_0 rfl (lv_at hl 0 rfl) ?_
  refine lv_iconst (v := (0 : Int32)) hx hb dX10_keep_1 (by decide) ?_
  refine va_put (D := D) (ci := 10) (v := .int (0 : Int32)) (ty := .int) (C := RX10) (T := TX10) (N := 27) hx hb hts iX10 tyX10 tyX10_ok nmX10 hown hk.1 hP hD hS 0 rfl rfl 0 (by decide) (hts _ tw_783) (fun _ h9 => h9) rfl (by decide +kernel) rfl rfl (Nat.le_of_ble_eq_true rfl) dX10_keep_2 (fun H locs hP hD hS => ?_)
  have hP : va_P D vwCl [(aM, .inr (10, [.int (0 : Int32), .ref aM_told, .ref aM_draft, .long m_shut, .long m_dots, .long m_draftShut, .long m_draftDots, .int m_undos, .ref aM_past, .ref aM_kept, .ref aM_isKept, .int m_base, .int m_slopeX, .int m_slopeY, .int m_seen, .ref aM_seenLine, .ref aM_seenIs, .ref aM_rank, .ref aM_stage, .int m_letters, .ref aM_text, .int m_next, .int m_begin, .int m_token, .int m_gain, .int m_bestDot, .int m_bestCell])), (aM_kept, .inl (cy.2.1, 2, .inr (.inl m_kept))), (aM_isKept, .inl (cy.2.2, 2, .inl m_isKept))] H := hP
  have hD : va_D A [(aM, .inr (10, [.int (0 : Int32), .ref aM_told, .ref aM_draft, .long m_shut, .long m_dots, .long m_draftShut, .long m_draftDots, .int m_undos, .ref aM_past, .ref aM_kept, .ref aM_isKept, .int m_base, .int m_slopeX, .int m_slopeY, .int m_seen, .ref aM_seenLine, .ref aM_seenIs, .ref aM_rank, .ref aM_stage, .int m_letters, .ref aM_text, .int m_next, .int m_begin, .int m_token, .int m_gain, .int m_bestDot, .int m_bestCell])), (aM_kept, .inl (cy.2.1, 2, .inr (.inl m_kept))), (aM_isKept, .inl (cy.2.2, 2, .inl m_isKept))] := hD
  refine lv_iload_n hx hb dX10_keep_5 rfl (lv_at hl 1 rfl) ?_
  refine lv_iconst (v := (0 : Int32)) hx hb dX10_keep_6 (by decide) ?_
  refine lv_iconst (v := (1 : Int32)) hx hb dX10_keep_7 (by decide) ?_
  obtain ⟨z8, hz8, hf⟩ := q_bind hf
  refine q_rdS (As := [.int x1, .int (0 : Int32), .int (1 : Int32)]) (rest := []) (st2 := [.int z8]) S hk (c_X10_in l D cy H x1 (0 : Int32) (1 : Int32) z8 hz8) ok_X10_in tw_869 ⟨rfl, rfl, Nat.le_of_ble_eq_true rfl, Nat.le_of_ble_eq_true rfl⟩ rfl hl.1 rfl (Nat.le_of_ble_eq_true rfl) dX10_keep_8 ⟨Nat.zero_le _, Nat.zero_le _⟩ rfl ?_
  refine lv_if_ne (tgt := 16) hx hb dX10_keep_11 (by decide) (fun hc => ?_) (fun hc => ?_)
  · have hf := q_f hc hf
    refine lv_aload_n hx hb dX10_keep_16 rfl (lv_at hl 0 rfl) ?_
    refine va_get (D := D) (ci := 10) (v := .ref aM_kept) (C := RX10) (T := TX10) (N := 27) hx hb hts iX10 hown hk.1 hP 0 rfl rfl 9 (by decide) (hts _ tw_792) (fun _ h9 => h9) rfl dX10_keep_17 ?_
    refine lv_iload_n hx hb dX10_keep_20 rfl (lv_at hl 1 rfl) ?_
    refine lv_aload_n hx hb dX10_keep_21 rfl (lv_at hl 0 rfl) ?_
    refine va_get (D := D) (ci := 10) (v := .long m_dots) (C := RX10) (T := TX10) (N := 27) hx hb hts iX10 hown hk.1 hP 0 rfl rfl 4 (by decide) (hts _ tw_787) (fun _ h9 => h9) rfl dX10_keep_22 ?_
    obtain ⟨hi, hf⟩ := q_in hf
    refine va_last hx hb hk.1 hP hD hS 1 1 rfl rfl hi dX10_keep_25 (fun H locs hP hD hS => ?_)
    have hP : va_P D vwCl [(aM, .inr (10, [.int (0 : Int32), .ref aM_told, .ref aM_draft, .long m_shut, .long m_dots, .long m_draftShut, .long m_draftDots, .int m_undos, .ref aM_past, .ref aM_kept, .ref aM_isKept, .int m_base, .int m_slopeX, .int m_slopeY, .int m_seen, .ref aM_seenLine, .ref aM_seenIs, .ref aM_rank, .ref aM_stage, .int m_letters, .ref aM_text, .int m_next, .int m_begin, .int m_token, .int m_gain, .int m_bestDot, .int m_bestCell])), (aM_kept, .inl (cy.2.1, 2, .inr (.inl (vp_updL m_kept x1.toNatClampNeg m_dots)))), (aM_isKept, .inl (cy.2.2, 2, .inl m_isKept))] H := hP
    have hD : va_D A [(aM, .inr (10, [.int (0 : Int32), .ref aM_told, .ref aM_draft, .long m_shut, .long m_dots, .long m_draftShut, .long m_draftDots, .int m_undos, .ref aM_past, .ref aM_kept, .ref aM_isKept, .int m_base, .int m_slopeX, .int m_slopeY, .int m_seen, .ref aM_seenLine, .ref aM_seenIs, .ref aM_rank, .ref aM_stage, .int m_letters, .ref aM_text, .int m_next, .int m_begin, .int m_token, .int m_gain, .int m_bestDot, .int m_bestCell])), (aM_kept, .inl (cy.2.1, 2, .inr (.inl (vp_updL m_kept x1.toNatClampNeg m_dots)))), (aM_isKept, .inl (cy.2.2, 2, .inl m_isKept))] := hD
    refine lv_aload_n hx hb dX10_keep_26 rfl (lv_at hl 0 rfl) ?_
    refine va_get (D := D) (ci := 10) (v := .ref aM_isKept) (C := RX10) (T := TX10) (N := 27) hx hb hts iX10 hown hk.1 hP 0 rfl rfl 10 (by decide) (hts _ tw_793) (fun _ h9 => h9) rfl dX10_keep_27 ?_
    refine lv_iload_n hx hb dX10_keep_30 rfl (lv_at hl 1 rfl) ?_
    refine lv_iconst (v := (1 : Int32)) hx hb dX10_keep_31 (by decide) ?_
    obtain ⟨hi, hf⟩ := q_in hf
    refine va_zast hx hb hk.1 hP hD hS 2 2 rfl rfl hi dX10_keep_32 (fun H locs hP hD hS => ?_)
    have hP : va_P D vwCl [(aM, .inr (10, [.int (0 : Int32), .ref aM_told, .ref aM_draft, .long m_shut, .long m_dots, .long m_draftShut, .long m_draftDots, .int m_undos, .ref aM_past, .ref aM_kept, .ref aM_isKept, .int m_base, .int m_slopeX, .int m_slopeY, .int m_seen, .ref aM_seenLine, .ref aM_seenIs, .ref aM_rank, .ref aM_stage, .int m_letters, .ref aM_text, .int m_next, .int m_begin, .int m_token, .int m_gain, .int m_bestDot, .int m_bestCell])), (aM_kept, .inl (cy.2.1, 2, .inr (.inl (vp_updL m_kept x1.toNatClampNeg m_dots)))), (aM_isKept, .inl (cy.2.2, 2, .inl (upd m_isKept x1.toNatClampNeg (1 : Int32))))] H := hP
    have hD : va_D A [(aM, .inr (10, [.int (0 : Int32), .ref aM_told, .ref aM_draft, .long m_shut, .long m_dots, .long m_draftShut, .long m_draftDots, .int m_undos, .ref aM_past, .ref aM_kept, .ref aM_isKept, .int m_base, .int m_slopeX, .int m_slopeY, .int m_seen, .ref aM_seenLine, .ref aM_seenIs, .ref aM_rank, .ref aM_stage, .int m_letters, .ref aM_text, .int m_next, .int m_begin, .int m_token, .int m_gain, .int m_bestDot, .int m_bestCell])), (aM_kept, .inl (cy.2.1, 2, .inr (.inl (vp_updL m_kept x1.toNatClampNeg m_dots)))), (aM_isKept, .inl (cy.2.2, 2, .inl (upd m_isKept x1.toNatClampNeg (1 : Int32))))] := hD
    refine lv_aload_n hx hb dX10_keep_33 rfl (lv_at hl 0 rfl) ?_
    refine va_get (D := D) (ci := 10) (v := .long m_dots) (C := RX10) (T := TX10) (N := 27) hx hb hts iX10 hown hk.1 hP 0 rfl rfl 4 (by decide) (hts _ tw_787) (fun _ h9 => h9) rfl dX10_keep_34 ?_
    obtain ⟨z37, hz37, hf⟩ := q_bind hf
    refine q_rdS (As := [.long m_dots]) (rest := []) (st2 := [.int z37]) S hk (c_X10_ones l D cy H m_dots z37 hz37) ok_X10_ones tw_1034 ⟨rfl, rfl, Nat.le_of_ble_eq_true rfl, Nat.le_of_ble_eq_true rfl⟩ rfl hl.1 rfl (Nat.le_of_ble_eq_true rfl) dX10_keep_37 ⟨Nat.zero_le _, Nat.zero_le _⟩ rfl ?_
    have hf := Option.some.inj hf
    subst hf
    exact q_riW hP hS hx hb hr hlocks dX10_keep_40
  · have hf := q_t hc hf
    refine lv_iconst (v := (-1 : Int32)) hx hb dX10_keep_14 (by decide) ?_
    have hf := Option.some.inj hf
    subst hf
    exact q_riW hP hS hx hb hr hlocks dX10_keep_15
def f_X10_back (m_thrown : Int32) (m_dots : Int64) (m_undos : Int32) (m_kept : Nat → Int64) (m_isKept : Nat → Int32) (x1 : Int32) : Option (Int32 × Int32 × Int64 × Int32) := (f_X10_in x1 (0 : Int32) (1 : Int32)).bind (fun z8 => if z8 = 0 then (some ((-1 : Int32), (0 : Int32), m_dots, m_undos)) else (if inb x1 2 = true then (if (m_isKept x1.toNatClampNeg) = 0 then (some ((-2 : Int32), (0 : Int32), m_dots, m_undos)) else (if inb x1 2 = true then ((f_X10_ones (m_kept x1.toNatClampNeg)).bind (fun z47 => some (z47, (0 : Int32), (m_kept x1.toNatClampNeg), (0 : Int32)))) else none)) else none))
theorem ok_X10_back : OkV yX10_back cX10_back 2 (some Jvm.ClassFile.FieldType.int) 1 := ⟨⟨tw_1120, tw_13, by decide +kernel, by decide +kernel, by decide +kernel⟩, tw_1118, tw_1119⟩
set_option maxHeartbeats 4000000 in
set_option maxRecDepth 100000 in
theorem c_X10_back (l : Launch) (D : va_G) (cy : ClassId × ClassId × ClassId) (H0 : Heap) (aM aM_told aM_draft aM_past aM_kept aM_isKept aM_seenLine aM_seenIs aM_rank aM_stage aM_text : Nat) (m_thrown : Int32) (m_shut : Int64) (m_dots : Int64) (m_draftShut : Int64) (m_draftDots : Int64) (m_undos : Int32) (m_base : Int32) (m_slopeX : Int32) (m_slopeY : Int32) (m_seen : Int32) (m_letters : Int32) (m_next : Int32) (m_begin : Int32) (m_token : Int32) (m_gain : Int32) (m_bestDot : Int32) (m_bestCell : Int32) (m_kept : Nat → Int64) (m_isKept : Nat → Int32) (x1 : Int32) (r : Int32 × Int32 × Int64 × Int32) (hP : va_P D vwCl [(aM, .inr (10, [.int m_thrown, .ref aM_told, .ref aM_draft, .long m_shut, .long m_dots, .long m_draftShut, .long m_draftDots, .int m_undos, .ref aM_past, .ref aM_kept, .ref aM_isKept, .int m_base, .int m_slopeX, .int m_slopeY, .int m_seen, .ref aM_seenLine, .ref aM_seenIs, .ref aM_rank, .ref aM_stage, .int m_letters, .ref aM_text, .int m_next, .int m_begin, .int m_token, .int m_gain, .int m_bestDot, .int m_bestCell])), (aM_kept, .inl (cy.2.1, 2, .inr (.inl m_kept))), (aM_isKept, .inl (cy.2.2, 2, .inl m_isKept))] H0) (hD0 : va_D (fun _ => True) [(aM, .inr (10, [.int m_thrown, .ref aM_told, .ref aM_draft, .long m_shut, .long m_dots, .long m_draftShut, .long m_draftDots, .int m_undos, .ref aM_past, .ref aM_kept, .ref aM_isKept, .int m_base, .int m_slopeX, .int m_slopeY, .int m_seen, .ref aM_seenLine, .ref aM_seenIs, .ref aM_rank, .ref aM_stage, .int m_letters, .ref aM_text, .int m_next, .int m_begin, .int m_token, .int m_gain, .int m_bestDot, .int m_bestCell])), (aM_kept, .inl (cy.2.1, 2, .inr (.inl m_kept))), (aM_isKept, .inl (cy.2.2, 2, .inl m_isKept))]) (hf : f_X10_back m_thrown m_dots m_undos m_kept m_isKept x1 = some r) : Wr l yX10_back cX10_back 2 (some Jvm.ClassFile.FieldType.int) ({ frames := 2, cells := 0, slots := 0, locals := 45 } : Room) ([.ref aM, .int x1] : List Value) (some (.int (r.1))) D cy H0 [(aM, .inr (10, [.int m_thrown, .ref aM_told, .ref aM_draft, .long m_shut, .long m_dots, .long m_draftShut, .long m_draftDots, .int m_undos, .ref aM_past, .ref aM_kept, .ref aM_isKept, .int m_base, .int m_slopeX, .int m_slopeY, .int m_seen, .ref aM_seenLine, .ref aM_seenIs, .ref aM_rank, .ref aM_stage, .int m_letters, .ref aM_text, .int m_next, .int m_begin, .int m_token, .int m_gain, .int m_bestDot, .int m_bestCell])), (aM_kept, .inl (cy.2.1, 2, .inr (.inl m_kept))), (aM_isKept, .inl (cy.2.2, 2, .inl m_isKept))] [(aM, .inr (10, [.int (r.2.1), .ref aM_told, .ref aM_draft, .long m_shut, .long (r.2.2.1), .long m_draftShut, .long m_draftDots, .int (r.2.2.2), .ref aM_past, .ref aM_kept, .ref aM_isKept, .int m_base, .int m_slopeX, .int m_slopeY, .int m_seen, .ref aM_seenLine, .ref aM_seenIs, .ref aM_rank, .ref aM_stage, .int m_letters, .ref aM_text, .int m_next, .int m_begin, .int m_token, .int m_gain, .int m_bestDot, .int m_bestCell])), (aM_kept, .inl (cy.2.1, 2, .inr (.inl m_kept))), (aM_isKept, .inl (cy.2.2, 2, .inl m_isKept))] := by
  refine wr_of (by decide +kernel) (Nat.le_of_ble_eq_true rfl) hD0 ?_
  intro p e s m below meth c ls A S hr hlocks hk hl hD hS hA
  obtain ⟨hx, hb, hml, hown, hts⟩ := id S
  have hl : lv_has ls 2 [(0, .ref aM), (1, .int x1)] := hl
  rw [f_X10_back] at hf
  refine lv_aload_n hx hb dX10_back_0 rfl (lv_at hl 0 rfl) ?_
  refine lv_iconst (v := (0 : Int32)) hx hb dX10_back_1 (by decide) ?_
  refine va_put (D := D) (ci := 10) (v := .int (0 : Int32)) (ty := .int) (C := RX10) (T := TX10) (N := 27) hx hb hts iX10 tyX10 tyX10_ok nmX10 hown hk.1 hP hD hS 0 rfl rfl 0 (by decide) (hts _ tw_783) (fun _ h9 => h9) rfl (by decide +kernel) rfl rfl (Nat.le_of_ble_eq_true rfl) dX10_back_2 (fun H locs hP hD hS => ?_)
  have hP : va_P D vwCl [(aM, .inr (10, [.int (0 : Int32), .ref aM_told, .ref aM_draft, .long m_shut, .long m_dots, .long m_draftShut, .long m_draftDots, .int m_undos, .ref aM_past, .ref aM_kept, .ref aM_isKept, .int m_base, .int m_slopeX, .int m_slopeY, .int m_seen, .ref aM_seenLine, .ref aM_seenIs, .ref aM_rank, .ref aM_stage, .int m_letters, .ref aM_text, .int m_next, .int m_begin, .int m_token, .int m_gain, .int m_bestDot, .int m_bestCell])), (aM_kept, .inl (cy.2.1, 2, .inr (.inl m_kept))), (aM_isKept, .inl (cy.2.2, 2, .inl m_isKept))] H := hP
  have hD : va_D A [(aM, .inr (10, [.int (0 : Int32), .ref aM_told, .ref aM_draft, .long m_shut, .long m_dots, .long m_draftShut, .long m_draftDots, .int m_undos, .ref aM_past, .ref aM_kept, .ref aM_isKept, .int m_base, .int m_slopeX, .int m_slopeY, .int m_seen, .ref aM_seenLine, .ref aM_seenIs, .ref aM_rank, .ref aM_stage, .int m_letters, .ref aM_text, .int m_next, .int m_begin, .int m_token, .int m_gain, .int m_bestDot, .int m_bestCell])), (aM_kept, .inl (cy.2.1, 2, .inr (.inl m_kept))), (aM_isKept, .inl (cy.2.2, 2, .inl m_isKept))] := hD
  refine lv_iload_n hx hb dX10_back_5 rfl (lv_at hl 1 rfl) ?_
  refine lv_iconst (v := (0 : Int32)) hx hb dX10_back_6 (by decide) ?_
  refine lv_iconst (v := (1 : Int32)) hx hb dX10_back_7 (by decide) ?_
  obtain ⟨z8, hz8, hf⟩ := q_bind hf
  refine q_rdS (As := [.int x1, .int (0 : Int32), .int (1 : Int32)]) (rest := []) (st2 := [.int z8]) S hk (c_X10_in l D cy H x1 (0 : Int32) (1 : Int32) z8 hz8) ok_X10_in tw_869 ⟨rfl, rfl, Nat.le_of_ble_eq_true rfl, Nat.le_of_ble_eq_true rfl⟩ rfl hl.1 rfl (Nat.le_of_ble_eq_true rfl) dX10_back_8 ⟨Nat.zero_le _, Nat.zero_le _⟩ rfl ?_
  refine lv_if_ne (tgt := 16) hx hb dX10_back_11 (by decide) (fun hc => ?_) (fun hc => ?_)
  · have hf := q_f hc hf
    refine lv_aload_n hx hb dX10_back_16 rfl (lv_at hl 0 rfl) ?_
    refine va_get (D := D) (ci := 10) (v := .ref aM_isKept) (C := RX10) (T := TX10) (N := 27) hx hb hts iX10 hown hk.1 hP 0 rfl rfl 10 (by decide) (hts _ tw_793) (fun _ h9 => h9) rfl dX10_back_17 ?_
    refine lv_iload_n hx hb dX10_back_20 rfl (lv_at hl 1 rfl) ?_
    obtain ⟨hi, hf⟩ := q_in hf
    refine va_zald hx hb hk.1 hP 2 2 rfl rfl hi dX10_back_21 ?_
    refine lv_if_ne (tgt := 28) hx hb dX10_back_22 (by decide) (fun hc => ?_) (fun hc => ?_)
    · have hf := q_f hc hf
      refine lv_aload_n hx hb dX10_back_28 rfl (lv_at hl 0 rfl) ?_
      refine lv_aload_n hx hb dX10_back_29 rfl (lv_at hl 0 rfl) ?_
      refine va_get (D := D) (ci := 10) (v := .ref aM_kept) (C := RX10) (T := TX10) (N := 27) hx hb hts iX10 hown hk.1 hP 0 rfl rfl 9 (by decide) (hts _ tw_792) (fun _ h9 => h9) rfl dX10_back_30 ?_
      refine lv_iload_n hx hb dX10_back_33 rfl (lv_at hl 1 rfl) ?_
      obtain ⟨hi, hf⟩ := q_in hf
      refine va_lald hx hb hk.1 hP 1 1 rfl rfl hi dX10_back_34 ?_
      refine va_put (D := D) (ci := 10) (v := .long (m_kept x1.toNatClampNeg)) (ty := .long) (C := RX10) (T := TX10) (N := 27) hx hb hts iX10 tyX10 tyX10_ok nmX10 hown hk.1 hP hD hS 0 rfl rfl 4 (by decide) (hts _ tw_787) (fun _ h9 => h9) rfl (by decide +kernel) rfl rfl (Nat.le_of_ble_eq_true rfl) dX10_back_35 (fun H locs hP hD hS => ?_)
      have hP : va_P D vwCl [(aM, .inr (10, [.int (0 : Int32), .ref aM_told, .ref aM_draft, .long m_shut, .long (m_kept x1.toNatClampNeg), .long m_draftShut, .long m_draftDots, .int m_undos, .ref aM_past, .ref aM_kept, .ref aM_isKept, .int m_base, .int m_slopeX, .int m_slopeY, .int m_seen, .ref aM_seenLine, .ref aM_seenIs, .ref aM_rank, .ref aM_stage, .int m_letters, .ref aM_text, .int m_next, .int m_begin, .int m_token, .int m_gain, .int m_bestDot, .int m_bestCell])), (aM_kept, .inl (cy.2.1, 2, .inr (.inl m_kept))), (aM_isKept, .inl (cy.2.2, 2, .inl m_isKept))] H := hP
      have hD : va_D A [(aM, .inr (10, [.int (0 : Int32), .ref aM_told, .ref aM_draft, .long m_shut, .long (m_kept x1.toNatClampNeg), .long m_draftShut, .long m_draftDots, .int m_undos, .ref aM_past, .ref aM_kept, .ref aM_isKept, .int m_base, .int m_slopeX, .int m_slopeY, .int m_seen, .ref aM_seenLine, .ref aM_seenIs, .ref aM_rank, .ref aM_stage, .int m_letters, .ref aM_text, .int m_next, .int m_begin, .int m_token, .int m_gain, .int m_bestDot, .int m_bestCell])), (aM_kept, .inl (cy.2.1, 2, .inr (.inl m_kept))), (aM_isKept, .inl (cy.2.2, 2, .inl m_isKept))] := hD
      refine lv_aload_n hx hb dX10_back_38 rfl (lv_at hl 0 rfl) ?_
      refine lv_iconst (v := (0 : Int32)) hx hb dX10_back_39 (by decide) ?_
      refine va_put (D := D) (ci := 10) (v := .int (0 : Int32)) (ty := .int) (C := RX10) (T := TX10) (N := 27) hx hb hts iX10 tyX10 tyX10_ok nmX10 hown hk.1 hP hD hS 0 rfl rfl 7 (by decide) (hts _ tw_790) (fun _ h9 => h9) rfl (by decide +kernel) rfl rfl (Nat.le_of_ble_eq_true rfl) dX10_back_40 (fun H locs hP hD hS => ?_)
      have hP : va_P D vwCl [(aM, .inr (10, [.int (0 : Int32), .ref aM_told, .ref aM_draft, .long m_shut, .long (m_kept x1.toNatClampNeg), .long m_draftShut, .long m_draftDots, .int (0 : Int32), .ref aM_past, .ref aM_kept, .ref aM_isKept, .int m_base, .int m_slopeX, .int m_slopeY, .int m_seen, .ref aM_seenLine, .ref aM_seenIs, .ref aM_rank, .ref aM_stage, .int m_letters, .ref aM_text, .int m_next, .int m_begin, .int m_token, .int m_gain, .int m_bestDot, .int m_bestCell])), (aM_kept, .inl (cy.2.1, 2, .inr (.inl m_kept))), (aM_isKept, .inl (cy.2.2, 2, .inl m_isKept))] H := hP
      have hD : va_D A [(aM, .inr (10, [.int (0 : Int32), .ref aM_told, .ref aM_draft, .long m_shut, .long (m_kept x1.toNatClampNeg), .long m_draftShut, .long m_draftDots, .int (0 : Int32), .ref aM_past, .ref aM_kept, .ref aM_isKept, .int m_base, .int m_slopeX, .int m_slopeY, .int m_seen, .ref aM_seenLine, .ref aM_seenIs, .ref aM_rank, .ref aM_stage, .int m_letters, .ref aM_text, .int m_next, .int m_begin, .int m_token, .int m_gain, .int m_bestDot, .int m_bestCell])), (aM_kept, .inl (cy.2.1, 2, .inr (.inl m_kept))), (aM_isKept, .inl (cy.2.2, 2, .inl m_isKept))] := hD
      refine lv_aload_n hx hb dX10_back_43 rfl (lv_at hl 0 rfl) ?_
      refine va_get (D := D) (ci := 10) (v := .long (m_kept x1.toNatClampNeg)) (C := RX10) (T := TX10) (N := 27) hx hb hts iX10 hown hk.1 hP 0 rfl rfl 4 (by decide) (hts _ tw_787) (fun _ h9 => h9) rfl dX10_back_44 ?_
      obtain ⟨z47, hz47, hf⟩ := q_bind hf
      refine q_rdS (As := [.long (m_kept x1.toNatClampNeg)]) (rest := []) (st2 := [.int z47]) S hk (c_X10_ones l D cy H (m_kept x1.toNatClampNeg) z47 hz47) ok_X10_ones tw_1034 ⟨rfl, rfl, Nat.le_of_ble_eq_true rfl, Nat.le_of_ble_eq_true rfl⟩ rfl hl.1 rfl (Nat.le_of_ble_eq_true rfl) dX10_back_47 ⟨Nat.zero_le _, Nat.zero_le _⟩ rfl ?_
      have hf := Option.some.inj hf
      subst hf
      exact q_riW hP hS hx hb hr hlocks dX10_back_50
    · have hf := q_t hc hf
      refine lv_bipush (v := (-2 : Int32)) hx hb dX10_back_25 (by decide) ?_
      have hf := Option.some.inj hf
      subst hf
      exact q_riW hP hS hx hb hr hlocks dX10_back_27
  · have hf := q_t hc hf
    refine lv_iconst (v := (-1 : Int32)) hx hb dX10_back_14 (by decide) ?_
    have hf := Option.some.inj hf
    subst hf
    exact q_riW hP hS hx hb hr hlocks dX10_back_15
def f_X10_count (m_thrown : Int32) (m_shut : Int64) (m_dots : Int64) (m_undos : Int32) (m_seen : Int32) (m_letters : Int32) (m_told : Nat → Int32) (x1 : Int32) : Option (Int32 × Int32) := (f_X10_in x1 (0 : Int32) (11 : Int32)).bind (fun z9 => if z9 = 0 then (some ((-1 : Int32), (0 : Int32))) else (if (2 : Int32) ≤ x1 then (if (4 : Int32) ≤ x1 then (if (9 : Int32) ≤ x1 then (if x1 = (9 : Int32) then (some (m_seen, (0 : Int32))) else (if x1 = (10 : Int32) then (some (m_letters, (0 : Int32))) else (some (m_undos, (0 : Int32))))) else (if inb (x1 - (2 : Int32)) 7 = true then (some ((m_told (x1 - (2 : Int32)).toNatClampNeg), (0 : Int32))) else none)) else (if x1 = (2 : Int32) then ((f_X10_free m_shut m_told).bind (fun z40 => some (z40, (0 : Int32)))) else ((f_X10_ones m_dots).bind (fun z50 => some (z50, (0 : Int32)))))) else (if inb x1 7 = true then (some ((m_told x1.toNatClampNeg), (0 : Int32))) else none)))
theorem ok_X10_count : OkV yX10_count cX10_count 2 (some Jvm.ClassFile.FieldType.int) 1 := ⟨⟨tw_1124, tw_13, by decide +kernel, by decide +kernel, by decide +kernel⟩, tw_1122, tw_1123⟩
set_option maxHeartbeats 4000000 in
set_option maxRecDepth 100000 in
theorem c_X10_count (l : Launch) (D : va_G) (cy : ClassId × ClassId × ClassId) (H0 : Heap) (aM aM_told aM_draft aM_past aM_kept aM_isKept aM_seenLine aM_seenIs aM_rank aM_stage aM_text : Nat) (m_thrown : Int32) (m_shut : Int64) (m_dots : Int64) (m_draftShut : Int64) (m_draftDots : Int64) (m_undos : Int32) (m_base : Int32) (m_slopeX : Int32) (m_slopeY : Int32) (m_seen : Int32) (m_letters : Int32) (m_next : Int32) (m_begin : Int32) (m_token : Int32) (m_gain : Int32) (m_bestDot : Int32) (m_bestCell : Int32) (m_told : Nat → Int32) (x1 : Int32) (r : Int32 × Int32) (hP : va_P D vwCl [(aM, .inr (10, [.int m_thrown, .ref aM_told, .ref aM_draft, .long m_shut, .long m_dots, .long m_draftShut, .long m_draftDots, .int m_undos, .ref aM_past, .ref aM_kept, .ref aM_isKept, .int m_base, .int m_slopeX, .int m_slopeY, .int m_seen, .ref aM_seenLine, .ref aM_seenIs, .ref aM_rank, .ref aM_stage, .int m_letters, .ref aM_text, .int m_next, .int m_begin, .int m_token, .int m_gain, .int m_bestDot, .int m_bestCell])), (aM_told, .inl (cy.1, 7, .inl m_told))] H0) (hD0 : va_D (fun _ => True) [(aM, .inr (10, [.int m_thrown, .ref aM_told, .ref aM_draft, .long m_shut, .long m_dots, .long m_draftShut, .long m_draftDots, .int m_undos, .ref aM_past, .ref aM_kept, .ref aM_isKept, .int m_base, .int m_slopeX, .int m_slopeY, .int m_seen, .ref aM_seenLine, .ref aM_seenIs, .ref aM_rank, .ref aM_stage, .int m_letters, .ref aM_text, .int m_next, .int m_begin, .int m_token, .int m_gain, .int m_bestDot, .int m_bestCell])), (aM_told, .inl (cy.1, 7, .inl m_told))]) (hf : f_X10_count m_thrown m_shut m_dots m_undos m_seen m_letters m_told x1 = some r) : Wr l yX10_count cX10_count 2 (some Jvm.ClassFile.FieldType.int) ({ frames := 3, cells := 0, slots := 0, locals := 65 } : Room) ([.ref aM, .int x1] : List Value) (some (.int (r.1))) D cy H0 [(aM, .inr (10, [.int m_thrown, .ref aM_told, .ref aM_draft, .long m_shut, .long m_dots, .long m_draftShut, .long m_draftDots, .int m_undos, .ref aM_past, .ref aM_kept, .ref aM_isKept, .int m_base, .int m_slopeX, .int m_slopeY, .int m_seen, .ref aM_seenLine, .ref aM_seenIs, .ref aM_rank, .ref aM_stage, .int m_letters, .ref aM_text, .int m_next, .int m_begin, .int m_token, .int m_gain, .int m_bestDot, .int m_bestCell])), (aM_told, .inl (cy.1, 7, .inl m_told))] [(aM, .inr (10, [.int (r.2), .ref aM_told, .ref aM_draft, .long m_shut, .long m_dots, .long m_draftShut, .long m_draftDots, .int m_undos, .ref aM_past, .ref aM_kept, .ref aM_isKept, .int m_base, .int m_slopeX, .int m_slopeY, .int m_seen, .ref aM_seenLine, .ref aM_seenIs, .ref aM_rank, .ref aM_stage, .int m_letters, .ref aM_text, .int m_next, .int m_begin, .int m_token, .int m_gain, .int m_bestDot, .int m_bestCell])), (aM_told, .inl (cy.1, 7, .inl m_told))] := by
  refine wr_of (by decide +kernel) (Nat.le_of_ble_eq_true rfl) hD0 ?_
  intro p e s m below meth c ls A S hr hlocks hk hl hD hS hA
  obtain ⟨hx, hb, hml, hown, hts⟩ := id S
  have hl : lv_has ls 2 [(0, .ref aM), (1, .int x1)] := hl
  rw [f_X10_count] at hf
  refine lv_aload_n hx hb dX10_count_0 rfl (lv_at hl 0 rfl) ?_
  refine lv_iconst (v := (0 : Int32)) hx hb dX10_count_1 (by decide) ?_
  refine va_put (D := D) (ci := 10) (v := .int (0 : Int32)) (ty := .int) (C := RX10) (T := TX10) (N := 27) hx hb hts iX10 tyX10 tyX10_ok nmX10 hown hk.1 hP hD hS 0 rfl rfl 0 (by decide) (hts _ tw_783) (fun _ h9 => h9) rfl (by decide +kernel) rfl rfl (Nat.le_of_ble_eq_true rfl) dX10_count_2 (fun H locs hP hD hS => ?_)
  have hP : va_P D vwCl [(aM, .inr (10, [.int (0 : Int32), .ref aM_told, .ref aM_draft, .long m_shut, .long m_dots, .long m_draftShut, .long m_draftDots, .int m_undos, .ref aM_past, .ref aM_kept, .ref aM_isKept, .int m_base, .int m_slopeX, .int m_slopeY, .int m_seen, .ref aM_seenLine, .ref aM_seenIs, .ref aM_rank, .ref aM_stage, .int m_letters, .ref aM_text, .int m_next, .int m_begin, .int m_token, .int m_gain, .int m_bestDot, .int m_bestCell])), (aM_told, .inl (cy.1, 7, .inl m_told))] H := hP
  have hD : va_D A [(aM, .inr (10, [.int (0 : Int32), .ref aM_told, .ref aM_draft, .long m_shut, .long m_dots, .long m_draftShut, .long m_draftDots, .int m_undos, .ref aM_past, .ref aM_kept, .ref aM_isKept, .int m_base, .int m_slopeX, .int m_slopeY, .int m_seen, .ref aM_seenLine, .ref aM_seenIs, .ref aM_rank, .ref aM_stage, .int m_letters, .ref aM_text, .int m_next, .int m_begin, .int m_token, .int m_gain, .int m_bestDot, .int m_bestCell])), (aM_told, .inl (cy.1, 7, .inl m_told))] := hD
  refine lv_iload_n hx hb dX10_count_5 rfl (lv_at hl 1 rfl) ?_
  refine lv_iconst (v := (0 : Int32)) hx hb dX10_count_6 (by decide) ?_
  refine lv_bipush (v := (11 : Int32)) hx hb dX10_count_7 (by decide) ?_
  obtain ⟨z9, hz9, hf⟩ := q_bind hf
  refine q_rdS (As := [.int x1, .int (0 : Int32), .int (11 : Int32)]) (rest := []) (st2 := [.int z9]) S hk (c_X10_in l D cy H x1 (0 : Int32) (11 : Int32) z9 hz9) ok_X10_in tw_869 ⟨rfl, rfl, Nat.le_of_ble_eq_true rfl, Nat.le_of_ble_eq_true rfl⟩ rfl hl.1 rfl (Nat.le_of_ble_eq_true rfl) dX10_count_9 ⟨Nat.zero_le _, Nat.zero_le _⟩ rfl ?_
  refine lv_if_ne (tgt := 17) hx hb dX10_count_12 (by decide) (fun hc => ?_) (fun hc => ?_)
  · have hf := q_f hc hf
    refine lv_iload_n hx hb dX10_count_17 rfl (lv_at hl 1 rfl) ?_
    refine lv_iconst (v := (2 : Int32)) hx hb dX10_count_18 (by decide) ?_
    refine lv_icmp_ge (tgt := 29) hx hb dX10_count_19 (by decide) (fun hc => ?_) (fun hc => ?_)
    · have hf := q_t hc hf
      refine lv_iload_n hx hb dX10_count_29 rfl (lv_at hl 1 rfl) ?_
      refine lv_iconst (v := (4 : Int32)) hx hb dX10_count_30 (by decide) ?_
      refine lv_icmp_ge (tgt := 54) hx hb dX10_count_31 (by decide) (fun hc => ?_) (fun hc => ?_)
      · have hf := q_t hc hf
        refine lv_iload_n hx hb dX10_count_54 rfl (lv_at hl 1 rfl) ?_
        refine lv_bipush (v := (9 : Int32)) hx hb dX10_count_55 (by decide) ?_
        refine lv_icmp_ge (tgt := 71) hx hb dX10_count_57 (by decide) (fun hc => ?_) (fun hc => ?_)
        · have hf := q_t hc hf
          refine lv_iload_n hx hb dX10_count_71 rfl (lv_at hl 1 rfl) ?_
          refine lv_bipush (v := (9 : Int32)) hx hb dX10_count_72 (by decide) ?_
          refine lv_icmp_ne (tgt := 84) hx hb dX10_count_74 (by decide) (fun hc => ?_) (fun hc => ?_)
          · have hf := q_f hc hf
            refine lv_iload_n hx hb dX10_count_84 rfl (lv_at hl 1 rfl) ?_
            refine lv_bipush (v := (10 : Int32)) hx hb dX10_count_85 (by decide) ?_
            refine lv_icmp_ne (tgt := 97) hx hb dX10_count_87 (by decide) (fun hc => ?_) (fun hc => ?_)
            · have hf := q_f hc hf
              refine lv_aload_n hx hb dX10_count_97 rfl (lv_at hl 0 rfl) ?_
              refine va_get (D := D) (ci := 10) (v := .int m_undos) (C := RX10) (T := TX10) (N := 27) hx hb hts iX10 hown hk.1 hP 0 rfl rfl 7 (by decide) (hts _ tw_790) (fun _ h9 => h9) rfl dX10_count_98 ?_
              have hf := Option.some.inj hf
              subst hf
              exact q_riW hP hS hx hb hr hlocks dX10_count_101
            · have hf := q_t hc hf
              refine lv_aload_n hx hb dX10_count_90 rfl (lv_at hl 0 rfl) ?_
              refine va_get (D := D) (ci := 10) (v := .int m_letters) (C := RX10) (T := TX10) (N := 27) hx hb hts iX10 hown hk.1 hP 0 rfl rfl 19 (by decide) (hts _ tw_802) (fun _ h9 => h9) rfl dX10_count_91 ?_
              refine lv_goto (tgt := 101) hx hb dX10_count_94 (by decide) ?_
              have hf := Option.some.inj hf
              subst hf
              exact q_riW hP hS hx hb hr hlocks dX10_count_101
          · have hf := q_t hc hf
            refine lv_aload_n hx hb dX10_count_77 rfl (lv_at hl 0 rfl) ?_
            refine va_get (D := D) (ci := 10) (v := .int m_seen) (C := RX10) (T := TX10) (N := 27) hx hb hts iX10 hown hk.1 hP 0 rfl rfl 14 (by decide) (hts _ tw_797) (fun _ h9 => h9) rfl dX10_count_78 ?_
            refine lv_goto (tgt := 101) hx hb dX10_count_81 (by decide) ?_
            have hf := Option.some.inj hf
            subst hf
            exact q_riW hP hS hx hb hr hlocks dX10_count_101
        · have hf := q_f hc hf
          refine lv_aload_n hx hb dX10_count_60 rfl (lv_at hl 0 rfl) ?_
          refine va_get (D := D) (ci := 10) (v := .ref aM_told) (C := RX10) (T := TX10) (N := 27) hx hb hts iX10 hown hk.1 hP 0 rfl rfl 1 (by decide) (hts _ tw_784) (fun _ h9 => h9) rfl dX10_count_61 ?_
          refine lv_iload_n hx hb dX10_count_64 rfl (lv_at hl 1 rfl) ?_
          refine lv_iconst (v := (2 : Int32)) hx hb dX10_count_65 (by decide) ?_
          refine lv_isub hx hb dX10_count_66 ?_
          obtain ⟨hi, hf⟩ := q_in hf
          refine va_iald hx hb hk.1 hP 1 0 rfl rfl hi dX10_count_67 ?_
          refine lv_goto (tgt := 101) hx hb dX10_count_68 (by decide) ?_
          have hf := Option.some.inj hf
          subst hf
          exact q_riW hP hS hx hb hr hlocks dX10_count_101
      · have hf := q_f hc hf
        refine lv_iload_n hx hb dX10_count_34 rfl (lv_at hl 1 rfl) ?_
        refine lv_iconst (v := (2 : Int32)) hx hb dX10_count_35 (by decide) ?_
        refine lv_icmp_ne (tgt := 46) hx hb dX10_count_36 (by decide) (fun hc => ?_) (fun hc => ?_)
        · have hf := q_f hc hf
          refine lv_aload_n hx hb dX10_count_46 rfl (lv_at hl 0 rfl) ?_
          refine va_get (D := D) (ci := 10) (v := .long m_dots) (C := RX10) (T := TX10) (N := 27) hx hb hts iX10 hown hk.1 hP 0 rfl rfl 4 (by decide) (hts _ tw_787) (fun _ h9 => h9) rfl dX10_count_47 ?_
          obtain ⟨z50, hz50, hf⟩ := q_bind hf
          refine q_rdS (As := [.long m_dots]) (rest := []) (st2 := [.int z50]) S hk (c_X10_ones l D cy H m_dots z50 hz50) ok_X10_ones tw_1034 ⟨rfl, rfl, Nat.le_of_ble_eq_true rfl, Nat.le_of_ble_eq_true rfl⟩ rfl hl.1 rfl (Nat.le_of_ble_eq_true rfl) dX10_count_50 ⟨Nat.zero_le _, Nat.zero_le _⟩ rfl ?_
          have hf := Option.some.inj hf
          subst hf
          exact q_riW hP hS hx hb hr hlocks dX10_count_53
        · have hf := q_t hc hf
          refine lv_aload_n hx hb dX10_count_39 rfl (lv_at hl 0 rfl) ?_
          obtain ⟨z40, hz40, hf⟩ := q_bind hf
          refine q_rdV (As := []) (rest := []) (st2 := [.int z40]) S hk (c_X10_free l D cy H aM aM_told aM_draft aM_past aM_kept aM_isKept aM_seenLine aM_seenIs aM_rank aM_stage aM_text (0 : Int32) m_shut m_dots m_draftShut m_draftDots m_undos m_base m_slopeX m_slopeY m_seen m_letters m_next m_begin m_token m_gain m_bestDot m_bestCell m_told z40 (hP.sub [0, 1] rfl) hz40) ok_X10_free tw_1037 ⟨rfl, rfl, Nat.le_of_ble_eq_true rfl, Nat.le_of_ble_eq_true rfl⟩ (va_recv hk.1 hP (ci := 10) (q0 := 0) rfl rfl) rfl hl.1 rfl (Nat.le_of_ble_eq_true rfl) dX10_count_40 ⟨Nat.zero_le _, Nat.zero_le _⟩ rfl ?_
          refine lv_goto (tgt := 53) hx hb dX10_count_43 (by decide) ?_
          have hf := Option.some.inj hf
          subst hf
          exact q_riW hP hS hx hb hr hlocks dX10_count_53
    · have hf := q_f hc hf
      refine lv_aload_n hx hb dX10_count_22 rfl (lv_at hl 0 rfl) ?_
      refine va_get (D := D) (ci := 10) (v := .ref aM_told) (C := RX10) (T := TX10) (N := 27) hx hb hts iX10 hown hk.1 hP 0 rfl rfl 1 (by decide) (hts _ tw_784) (fun _ h9 => h9) rfl dX10_count_23 ?_
      refine lv_iload_n hx hb dX10_count_26 rfl (lv_at hl 1 rfl) ?_
      obtain ⟨hi, hf⟩ := q_in hf
      refine va_iald hx hb hk.1 hP 1 0 rfl rfl hi dX10_count_27 ?_
      have hf := Option.some.inj hf
      subst hf
      exact q_riW hP hS hx hb hr hlocks dX10_count_28
  · have hf := q_t hc hf
    refine lv_iconst (v := (-1 : Int32)) hx hb dX10_count_15 (by decide) ?_
    have hf := Option.some.inj hf
    subst hf
    exact q_riW hP hS hx hb hr hlocks dX10_count_16
