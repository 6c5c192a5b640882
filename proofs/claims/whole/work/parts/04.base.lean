/-! The forms of contract used here, and the rows of calls over them. -/
theorem iX0 : ∀ w ∈ u_ws RX0 TX0 8, w ∈ TB := by decide +kernel
theorem iX1 : ∀ w ∈ u_ws RX1 TX1 3, w ∈ TB := by decide +kernel
theorem iX2 : ∀ w ∈ u_ws RX2 TX2 2, w ∈ TB := by decide +kernel
theorem iX3 : ∀ w ∈ u_ws RX3 TX3 2, w ∈ TB := by decide +kernel
theorem iX4 : ∀ w ∈ u_ws RX4 TX4 5, w ∈ TB := by decide +kernel
theorem iX5 : ∀ w ∈ u_ws RX5 TX5 9, w ∈ TB := by decide +kernel
theorem iX6 : ∀ w ∈ u_ws RX6 TX6 7, w ∈ TB := by decide +kernel
theorem iX7 : ∀ w ∈ u_ws RX7 TX7 5, w ∈ TB := by decide +kernel
theorem iX8 : ∀ w ∈ u_ws RX8 TX8 6, w ∈ TB := by decide +kernel
theorem iX9 : ∀ w ∈ u_ws RX9 TX9 10, w ∈ TB := by decide +kernel
theorem iX10 : ∀ w ∈ u_ws RX10 TX10 27, w ∈ TB := by decide +kernel
/-- the words on nest mates, which no list of words may hold -/
def NW (U : State) : Prop :=
  (va_Nw (.methodLinkNest RX9 11 yX8_init "DotThresholds") U ∧ va_Nw (.methodLinkNest RX9 69 yX3_init "DotThresholds") U ∧ va_Nw (.methodLinkNest RX9 76 yX2_init "DotThresholds") U) ∧
  va_Nw (.methodLinkNest RX0 81 yX9_has "DotThresholds") U ∧ va_Nw (.methodLinkNest RX1 39 yX9_has "DotThresholds") U ∧ va_Nw (.methodLinkNest RX4 52 yX9_has "DotThresholds") U ∧ va_Nw (.methodLinkNest RX6 110 yX9_has "DotThresholds") U ∧ va_Nw (.methodLinkNest RX8 92 yX9_has "DotThresholds") U
theorem NW.warm {s U : State} (hW : s.WarmedH U.vm) (h : NW s) : NW U := ⟨⟨va_Nw.warmM hW h.1.1, va_Nw.warmM hW h.1.2.1, va_Nw.warmM hW h.1.2.2⟩, va_Nw.warmM hW h.2.1, va_Nw.warmM hW h.2.2.1, va_Nw.warmM hW h.2.2.2.1, va_Nw.warmM hW h.2.2.2.2.1, va_Nw.warmM hW h.2.2.2.2.2⟩
theorem NW.same {u U : State} (hv : u.vm = U.vm) (h : NW u) : NW U := ⟨⟨va_Nw.same rfl hv h.1.1, va_Nw.same rfl hv h.1.2.1, va_Nw.same rfl hv h.1.2.2⟩, va_Nw.same rfl hv h.2.1, va_Nw.same rfl hv h.2.2.1, va_Nw.same rfl hv h.2.2.2.1, va_Nw.same rfl hv h.2.2.2.2.1, va_Nw.same rfl hv h.2.2.2.2.2⟩
def KK (D : va_G) (cy : ClassId × ClassId × ClassId) (U : State) : Prop := va_K D vwCl [(cy.1, .int), (cy.2.1, .long), (cy.2.2, .boolean)] U ∧ NW U
theorem KK.warm {D : va_G} {cy : ClassId × ClassId × ClassId} {s U : State} (hW : s.WarmedH U.vm) (h : KK D cy s) : KK D cy U := ⟨va_K.moved hW.alike h.1, h.2.warm hW⟩
theorem KK.call {D : va_G} {cy : ClassId × ClassId × ClassId} {U : State} {g : JFrame} {mk : MethodId} {a : Array Value} (h : KK D cy U) : KK D cy (U.calling g mk a) := ⟨va_K.moved (u := U) (U := U.calling g mk a) (Vm.Alike.refl U.vm) h.1, NW.same rfl h.2⟩
def Pc0 (av : List Value) (D : va_G) (cy : ClassId × ClassId × ClassId) (H0 : Heap) : Array Value → State → Prop := fun v U => v = av.toArray ∧ U.heap = H0 ∧ KK D cy U
theorem Pc0.blind {av : List Value} {D : va_G} {cy : ClassId × ClassId × ClassId} {H0 : Heap} : FrameBlind (Pc0 av D cy H0) := fun _ _ _ _ h => ⟨h.1, h.2.1, h.2.2.call⟩
/-- the end of a method that writes nothing -/
def QR (v : Option Value) (H0 : Heap) : Array Value → State → Outcome → State → Prop := fun _ _ o t => o = .returned v ∧ t.heap = H0
/-- the end of a method that writes its own world: the world is w1 then -/
def QW (v : Option Value) (D : va_G) (w1 : va_W) (H0 : Heap) (A : Nat → Prop) : Array Value → State → Outcome → State → Prop := fun _ _ o t => o = .returned v ∧ va_P D vwCl w1 t.heap ∧ H0.size ≤ t.heap.size ∧ ∀ q : Nat, q < H0.size → ¬ A q → t.heap[q]? = H0[q]?
def Rd (l : Launch) (y : MethodName) (bytes : ByteArray) (maxL : Nat) (ret : Option FieldType) (rm : Room) (av : List Value) (v : Option Value) (D : va_G) (cy : ClassId × ClassId × ClassId) (H0 : Heap) : Prop := Met l y (Cond.code y bytes maxL ret :: TB) rm (Pc0 av D cy H0) (QR v H0) 0 0 (fun _ => False)
def Wr (l : Launch) (y : MethodName) (bytes : ByteArray) (maxL : Nat) (ret : Option FieldType) (rm : Room) (av : List Value) (v : Option Value) (D : va_G) (cy : ClassId × ClassId × ClassId) (H0 : Heap) (wc w1 : va_W) : Prop := Met l y (Cond.code y bytes maxL ret :: TB) rm (Pc0 av D cy H0) (QW v D w1 H0 (va_A wc H0.size)) 0 0 (va_A wc H0.size)
def OkB (y : MethodName) (bytes : ByteArray) (maxL : Nat) (ret : Option FieldType) (n : Nat) : Prop := Cond.code y bytes maxL ret ∈ TB ∧ Cond.initialized y.cls ∈ TB ∧ y.cls ≠ "java/lang/invoke/MethodHandle" ∧ y.cls ≠ "java/lang/invoke/VarHandle" ∧ (parseMethodDescriptor y.desc).map (fun d => d.parameters.length) = some n
def OkV (y : MethodName) (bytes : ByteArray) (maxL : Nat) (ret : Option FieldType) (n : Nat) : Prop := OkB y bytes maxL ret n ∧ Cond.instanceMethod y ∈ TB ∧ Cond.selects y.cls y y ∈ TB
def OkS (y : MethodName) (bytes : ByteArray) (maxL : Nat) (ret : Option FieldType) (n : Nat) : Prop := OkB y bytes maxL ret n ∧ Cond.static y ∈ TB
def RmOk (R rm : Room) (maxL : Nat) : Prop := rm.cells = 0 ∧ rm.slots = 0 ∧ rm.frames + 1 ≤ R.frames ∧ 8 + (maxL + 11) + rm.locals ≤ R.locals
theorem tb_code {y : MethodName} {bytes : ByteArray} {maxL : Nat} {ret : Option FieldType} (h : Cond.code y bytes maxL ret ∈ TB) : GoodIn TB (Cond.code y bytes maxL ret :: TB) := by
  intro w hw
  rcases List.mem_cons.mp hw with rfl | h1
  · exact tb_good _ h
  · exact tb_good w h1
theorem q_gV {own : String} {index n : Nat} {y : MethodName} {bytes : ByteArray} {maxL : Nat} {ret : Option FieldType} (hy : OkV y bytes maxL ret n) (hl : Cond.methodLink own index y ∈ TB) : GoodIn TB (wsV own index y.cls y (Cond.code y bytes maxL ret :: TB)) := by
  intro w hw
  rcases List.mem_append.mp hw with h | h
  · simp only [List.mem_cons, List.not_mem_nil, or_false] at h
    rcases h with rfl | rfl | rfl | rfl
    · exact tb_good _ hl
    · exact tb_good _ hy.2.1
    · exact tb_good _ hy.2.2
    · exact tb_good _ hy.1.2.1
  · exact tb_code hy.1.1 w h
theorem q_gS {own : String} {index n : Nat} {y : MethodName} {bytes : ByteArray} {maxL : Nat} {ret : Option FieldType} (hy : OkS y bytes maxL ret n) (hl : Cond.methodLink own index y ∈ TB) : GoodIn TB (va_wsS own index y (Cond.code y bytes maxL ret :: TB)) := by
  intro w hw
  rcases List.mem_append.mp hw with h | h
  · simp only [List.mem_cons, List.not_mem_nil, or_false] at h
    rcases h with rfl | rfl | rfl
    · exact tb_good _ hl
    · exact tb_good _ hy.2
    · exact tb_good _ hy.1.2.1
  · exact tb_code hy.1.1 w h
theorem q_cV {R : Room} {s : State} {args : Array Value} {own : String} {index n : Nat} {y : MethodName} {bytes : ByteArray} {maxL : Nat} {ret : Option FieldType} {rm : Room} (hts : ∀ w ∈ TB, w.before args s = true) (hy : OkV y bytes maxL ret n) (hl : Cond.methodLink own index y ∈ TB) (hR : RmOk R rm maxL) : CallW R s args own y.cls index y bytes maxL ret (Cond.code y bytes maxL ret :: TB) rm 0 0 n :=
  cwV n hts (q_gV hy hl) rfl hR.1 hR.2.1 ⟨rfl, hy.1.2.2.1, hy.1.2.2.2.1, hy.1.2.2.2.2⟩ ⟨hR.2.2.1, hR.2.2.2⟩
theorem q_cS {R : Room} {s : State} {args : Array Value} {own : String} {index n : Nat} {y : MethodName} {bytes : ByteArray} {maxL : Nat} {ret : Option FieldType} {rm : Room} (hts : ∀ w ∈ TB, w.before args s = true) (hy : OkS y bytes maxL ret n) (hl : Cond.methodLink own index y ∈ TB) (hR : RmOk R rm maxL) : CallB R s args own index y bytes maxL ret (Cond.code y bytes maxL ret :: TB) rm 0 0 n ∧ (Cond.static y).before args s = true :=
  va_cwS n hts (q_gS hy hl) rfl hR.1 hR.2.1 ⟨hy.1.2.2.1, hy.1.2.2.2.1, hy.1.2.2.2.2⟩ ⟨hR.2.2.1, hR.2.2.2⟩
/-- w1's cells at the places 'is' -/
def qset (ws : va_W) : List Nat → va_W → va_W
  | i :: is, x :: xs => qset (ws.set i x) is xs
  | _, _ => ws
theorem qset_get : ∀ (is : List Nat) (w1 ws : va_W) (k : Nat) (q : Nat × va_E), is.length = w1.length → (qset ws is w1)[k]? = some q → (∃ j : Nat, w1[j]? = some q) ∨ (ws[k]? = some q ∧ k ∉ is) := by
  intro is
  induction is with
  | nil =>
    intro w1 ws k q hl h
    exact Or.inr ⟨by cases w1 <;> exact h, List.not_mem_nil⟩
  | cons i is ih =>
    intro w1 ws k q hl h
    cases w1 with
    | nil => simp at hl
    | cons x xs =>
      rcases ih xs (ws.set i x) k q (by simpa using hl) h with ⟨j, hj⟩ | ⟨h1, h2⟩
      · exact Or.inl ⟨j + 1, hj⟩
      · by_cases hik : i = k
        · subst hik
          rw [List.getElem?_set_self'] at h1
          cases hw : ws[i]? with
          | none => rw [hw] at h1; simp at h1
          | some z =>
            rw [hw] at h1
            refine Or.inl ⟨0, ?_⟩
            simpa using h1
        · rw [List.getElem?_set_ne hik] at h1
          exact Or.inr ⟨h1, fun hm => (List.mem_cons.mp hm).elim (fun h => hik h.symm) h2⟩
theorem qD_re {A : Nat → Prop} {ws ws' : va_W} (hD : va_D A ws) (h : ws'.map Prod.fst = ws.map Prod.fst) : va_D A ws' := by
  have key : ∀ (i : Nat) (p : Nat × va_E), ws'[i]? = some p → ∃ p' : Nat × va_E, ws[i]? = some p' ∧ p'.1 = p.1 := by
    intro i p hp
    have h1 : (ws'.map Prod.fst)[i]? = some p.1 := by rw [List.getElem?_map, hp]; rfl
    rw [h, List.getElem?_map] at h1
    cases hw : ws[i]? with
    | none => rw [hw] at h1; simp at h1
    | some z => rw [hw] at h1; exact ⟨z, rfl, by simpa using h1⟩
  refine ⟨fun i j p q hp hq hpq => ?_, fun k q hq => ?_⟩
  · obtain ⟨p', h1, h2⟩ := key i p hp
    obtain ⟨q', h3, h4⟩ := key j q hq
    exact hD.1 i j p' q' h1 h3 (by rw [h2, h4]; exact hpq)
  · obtain ⟨q', h3, h4⟩ := key k q hq
    rw [← h4]
    exact hD.2 k q' h3
theorem q_join {A : Nat → Prop} {D : va_G} {cl : List vw_C} {ws wc w1 ws' : va_W} {H H1 : Heap} (hP : va_P D cl ws H) (hD : va_D A ws) (is : List Nat) (hC : is.map (fun i => ws[i]?) = wc.map some) (hl : is.length = w1.length) (hw : qset ws is w1 = ws')
    (hk : ∀ q : Nat, q < H.size → ¬ va_A wc H.size q → H1[q]? = H[q]?) (hP1 : va_P D cl w1 H1) : va_P D cl ws' H1 := by
  intro k q hq
  rw [← hw] at hq
  rcases qset_get is w1 ws k q hl hq with ⟨j, hj⟩ | ⟨h1, h2⟩
  · exact hP1 j q hj
  · have hlt := (hP k q h1).lt
    refine (hP k q h1).kept (hk q.1 hlt fun h => ?_)
    rcases h with ⟨k2, e, h⟩ | h
    · have h3 : (is.map (fun i => ws[i]?))[k2]? = some (some (q.1, e)) := by rw [hC, List.getElem?_map, h]; rfl
      rw [List.getElem?_map] at h3
      cases hi : is[k2]? with
      | none => rw [hi] at h3; simp at h3
      | some i =>
        rw [hi] at h3
        have h4 : ws[i]? = some (q.1, e) := by simpa using h3
        have := hD.1 k i q (q.1, e) h1 h4 rfl
        subst this
        exact h2 (List.mem_of_getElem? hi)
    · omega
theorem qD_sub {A : Nat → Prop} {ws wc : va_W} (hD : va_D A ws) (is : List Nat) (hn : va_nd is = true) (hC : is.map (fun i => ws[i]?) = wc.map some) : va_D (fun _ => True) wc := (hD.sub is hn hC).weaken (fun _ _ _ _ => trivial)
section QB
variable {p : Program} {l : Launch} {e : Env} {R : Room} {s : State} {m : MethodId} {args : Array Value} {below : List Frame} {meth : Method} {c : Code} {H : Heap} {locs : List Loc} {cells slots : Nat} {Q : State → Prop}
variable {args' : Array Value} {y : MethodName} {bytes cc : ByteArray} {maxL nL n index pc : Nat} {ret : Option FieldType} {rm : Room} {own host : String} {b : Addr} {As rest st st2 : List Value} {v : Option Value} {D : va_G} {cy : ClassId × ClassId × ClassId} {ls : Array Slot} {A : Nat → Prop} {H0 : Heap} {ws wc w1 ws' : va_W}
theorem q_doneR (run : va_Run p l e R s m args below meth c H locs cells slots 0 0 (F0 m pc ls st) rest (QR v H args') (fun _ => False)) (h2 : v.toList ++ rest = st2)
    (kk : W p l e R s m args below meth c H locs cells slots Q (F0 m (pc + 3) ls st2)) : W p l e R s m args below meth c H locs cells slots Q (F0 m pc ls st) := by
  subst h2
  intro T hT X
  obtain ⟨v', st₀, t, T', L, h0, X', hL, e1, e2, ⟨hv, hb⟩, go⟩ := run T hT X
  cases hv
  have hL0 : L = [] := by
    cases L with
    | nil => rfl
    | cons a b => exact (hL a List.mem_cons_self).elim
  subst hL0
  rw [List.append_nil] at X'
  obtain ⟨t2, a1, b1⟩ := kk T' (e1.trans hb) X'
  exact ⟨t2, go t2 a1, b1⟩
theorem q_doneW (run : va_Run p l e R s m args below meth c H locs cells slots 0 0 (F0 m pc ls st) rest (QW v D w1 H (va_A wc H.size) args') (va_A wc H.size)) (h2 : v.toList ++ rest = st2) (hP : va_P D vwCl ws H) (hD : va_D A ws) (hS : va_S A H0 H locs) (hA : ∀ q, H0.size ≤ q → A q) (is : List Nat) (hC : is.map (fun i => ws[i]?) = wc.map some) (hl : is.length = w1.length) (hw : qset ws is w1 = ws') (had : ws'.map Prod.fst = ws.map Prod.fst)
    (kk : ∀ (H1 : Heap) (locs1 : List Loc), va_P D vwCl ws' H1 → va_D A ws' → va_S A H0 H1 locs1 → W p l e R s m args below meth c H1 locs1 cells slots Q (F0 m (pc + 3) ls st2)) : W p l e R s m args below meth c H locs cells slots Q (F0 m pc ls st) := by
  subst h2
  intro T hT X
  obtain ⟨v', st₀, t, T', L, h0, X', hL, e1, e2, ⟨hv, hb, hz, hk⟩, go⟩ := run T hT X
  cases hv
  have hF := va_free (wc := wc) hD hS hA is hC
  rw [← e1] at hb hz hk
  obtain ⟨t2, a1, b1⟩ := kk T'.heap (locs ++ L) (q_join hP hD is hC hl hw hk hb) (qD_re hD had) ⟨Nat.le_trans hS.1 hz, fun q h1 h2 => (hk q (Nat.lt_of_lt_of_le h1 hS.1) (fun z => h2 (hF q z))).trans (hS.2.1 q h1 h2), fun q hq => by
    rcases List.mem_append.mp hq with h | h
    · exact hS.2.2 q h
    · exact hF _ (hL q h)⟩ T' rfl X'
  exact ⟨t2, go t2 a1, b1⟩
theorem q_rdV (S : CallFix p m c cc nL s args TB own) (hk : KK D cy s) (hM : Rd l y bytes maxL ret rm (.ref b :: As) v D cy H) (hy : OkV y bytes maxL ret n) (hl : Cond.methodLink own index y ∈ TB) (hR : RmOk R rm maxL) (hrc : ∃ cell : Cell, H[b]? = some cell ∧ cell.vm.isStatics = false ∧ s.vm.findClass y.cls = some cell.cls) (hn : As.length = n) (hsize : ls.size = nL) (hst : st = As.reverse ++ .ref b :: rest) (hW : (rest.map fun v => v.category).sum ≤ 8) (hdg : decode cc pc = .ok (.invokevirtual index, 3)) (hf : cells ≤ R.cells ∧ slots ≤ R.slots) (h2 : v.toList ++ rest = st2)
    (kk : W p l e R s m args below meth c H locs cells slots Q (F0 m (pc + 3) ls st2)) : W p l e R s m args below meth c H locs cells slots Q (F0 m pc ls st) :=
  q_doneR (va_runV (g := F0 m pc ls st) (rest := rest) S hM (q_cV S.2.2.2.2 hy hl hR) ⟨Pc0.blind, hrc, fun U hU hW => ⟨rfl, hU, hk.warm hW⟩⟩ rfl hn hsize hst (lv_room hW) hdg hf) h2 kk
theorem q_rdS (S : CallFix p m c cc nL s args TB own) (hk : KK D cy s) (hM : Rd l y bytes maxL ret rm As v D cy H) (hy : OkS y bytes maxL ret n) (hl : Cond.methodLink own index y ∈ TB) (hR : RmOk R rm maxL) (hn : As.length = n) (hsize : ls.size = nL) (hst : st = As.reverse ++ rest) (hW : (rest.map fun v => v.category).sum ≤ 8) (hdg : decode cc pc = .ok (.invokestatic index, 3)) (hf : cells ≤ R.cells ∧ slots ≤ R.slots) (h2 : v.toList ++ rest = st2)
    (kk : W p l e R s m args below meth c H locs cells slots Q (F0 m (pc + 3) ls st2)) : W p l e R s m args below meth c H locs cells slots Q (F0 m pc ls st) :=
  q_doneR (va_runS (g := F0 m pc ls st) (rest := rest) S hM (q_cS S.2.2.2.2 hy hl hR) ⟨Pc0.blind, fun U hU hW => ⟨rfl, hU, hk.warm hW⟩⟩ rfl hn hsize hst (lv_room hW) hdg hf) h2 kk
theorem q_rdN (S : CallFix p m c cc nL s args TB own) (hk : KK D cy s) (hM : Rd l y bytes maxL ret rm As v D cy H) (hy : OkS y bytes maxL ret n) (hl : va_Nw (.methodLinkNest own index y host) s) (hR : RmOk R rm maxL) (hn : As.length = n) (hsize : ls.size = nL) (hst : st = As.reverse ++ rest) (hW : (rest.map fun v => v.category).sum ≤ 8) (hdg : decode cc pc = .ok (.invokestatic index, 3)) (hf : cells ≤ R.cells ∧ slots ≤ R.slots) (h2 : v.toList ++ rest = st2)
    (kk : W p l e R s m args below meth c H locs cells slots Q (F0 m (pc + 3) ls st2)) : W p l e R s m args below meth c H locs cells slots Q (F0 m pc ls st) :=
  q_doneR (va_runSN (g := F0 m pc ls st) (rest := rest) S hM ⟨va_cnB n S.2.2.2.2 (tb_code hy.1.1) rfl hR.1 hR.2.1 hl (S.2.2.2.2 _ hy.1.2.1) ⟨hy.1.2.2.1, hy.1.2.2.2.1, hy.1.2.2.2.2⟩ ⟨hR.2.2.1, hR.2.2.2⟩, S.2.2.2.2 _ hy.2, trivial⟩ ⟨Pc0.blind, fun U hU hW => ⟨rfl, hU, hk.warm hW⟩⟩ rfl hn hsize hst (lv_room hW) hdg hf) h2 kk
theorem q_wrV (S : CallFix p m c cc nL s args TB own) (hk : KK D cy s) (hM : Wr l y bytes maxL ret rm (.ref b :: As) v D cy H wc w1) (hy : OkV y bytes maxL ret n) (hl : Cond.methodLink own index y ∈ TB) (hR : RmOk R rm maxL) (hrc : ∃ cell : Cell, H[b]? = some cell ∧ cell.vm.isStatics = false ∧ s.vm.findClass y.cls = some cell.cls) (hn : As.length = n) (hsize : ls.size = nL) (hst : st = As.reverse ++ .ref b :: rest) (hW : (rest.map fun v => v.category).sum ≤ 8) (hdg : decode cc pc = .ok (.invokevirtual index, 3)) (hf : cells ≤ R.cells ∧ slots ≤ R.slots) (h2 : v.toList ++ rest = st2)
    (hP : va_P D vwCl ws H) (hD : va_D A ws) (hS : va_S A H0 H locs) (hA : ∀ q, H0.size ≤ q → A q) (is : List Nat) (hC : is.map (fun i => ws[i]?) = wc.map some) (hl2 : is.length = w1.length) (hw : qset ws is w1 = ws') (had : ws'.map Prod.fst = ws.map Prod.fst)
    (kk : ∀ (H1 : Heap) (locs1 : List Loc), va_P D vwCl ws' H1 → va_D A ws' → va_S A H0 H1 locs1 → W p l e R s m args below meth c H1 locs1 cells slots Q (F0 m (pc + 3) ls st2)) : W p l e R s m args below meth c H locs cells slots Q (F0 m pc ls st) :=
  q_doneW (va_runV (g := F0 m pc ls st) (rest := rest) S hM (q_cV S.2.2.2.2 hy hl hR) ⟨Pc0.blind, hrc, fun U hU hW => ⟨rfl, hU, hk.warm hW⟩⟩ rfl hn hsize hst (lv_room hW) hdg hf) h2 hP hD hS hA is hC hl2 hw had kk
theorem q_wrS (S : CallFix p m c cc nL s args TB own) (hk : KK D cy s) (hM : Wr l y bytes maxL ret rm As v D cy H wc w1) (hy : OkS y bytes maxL ret n) (hl : Cond.methodLink own index y ∈ TB) (hR : RmOk R rm maxL) (hn : As.length = n) (hsize : ls.size = nL) (hst : st = As.reverse ++ rest) (hW : (rest.map fun v => v.category).sum ≤ 8) (hdg : decode cc pc = .ok (.invokestatic index, 3)) (hf : cells ≤ R.cells ∧ slots ≤ R.slots) (h2 : v.toList ++ rest = st2)
    (hP : va_P D vwCl ws H) (hD : va_D A ws) (hS : va_S A H0 H locs) (hA : ∀ q, H0.size ≤ q → A q) (is : List Nat) (hC : is.map (fun i => ws[i]?) = wc.map some) (hl2 : is.length = w1.length) (hw : qset ws is w1 = ws') (had : ws'.map Prod.fst = ws.map Prod.fst)
    (kk : ∀ (H1 : Heap) (locs1 : List Loc), va_P D vwCl ws' H1 → va_D A ws' → va_S A H0 H1 locs1 → W p l e R s m args below meth c H1 locs1 cells slots Q (F0 m (pc + 3) ls st2)) : W p l e R s m args below meth c H locs cells slots Q (F0 m pc ls st) :=
  q_doneW (va_runS (g := F0 m pc ls st) (rest := rest) S hM (q_cS S.2.2.2.2 hy hl hR) ⟨Pc0.blind, fun U hU hW => ⟨rfl, hU, hk.warm hW⟩⟩ rfl hn hsize hst (lv_room hW) hdg hf) h2 hP hD hS hA is hC hl2 hw had kk
/-- entries -/
theorem rd_of {av : List Value} (hy : plainName y.cls = true) (hln : (lg_sl av).length ≤ maxL)
    (body : ∀ (p : Program) (e : Env) (s : State) (m : MethodId) (below : List Frame) (meth : Method) (c : Code) (ls : Array Slot), CallFix p m c bytes maxL s av.toArray TB y.cls → meth.sig.returnType = ret → meth.locks = false → KK D cy s → lv_has ls maxL (lv_args 0 av) → W p l e rm s m av.toArray below meth c H0 [] 0 0 (MQ below (QR v H0) av.toArray s 0 0 (fun _ => False)) (F0 m 0 ls [])) : Rd l y bytes maxL ret rm av v D cy H0 := by
  refine Met.ofW (cc := bytes) (maxL := maxL) (ret := ret) hy rfl ?_
  intro p e s m args below meth c s₁ B hml hv
  obtain ⟨rfl, hH, hk⟩ := hv
  have hts := atoms_spec (ws := Cond.code y bytes maxL ret :: TB) B.pre
  have hent := lv_entry av hln
  rw [lg_entry_eq, hH]
  exact body p e s m below meth c _ ⟨B.exec, B.bytes, hml, findClass_of_methodNamed B.named, fun w h => hts w (List.mem_cons_of_mem _ h)⟩ B.returns B.notSynchronized hk hent
theorem wr_of {av : List Value} (hy : plainName y.cls = true) (hln : (lg_sl av).length ≤ maxL) (hD : va_D (fun _ => True) wc)
    (body : ∀ (p : Program) (e : Env) (s : State) (m : MethodId) (below : List Frame) (meth : Method) (c : Code) (ls : Array Slot) (A : Nat → Prop), CallFix p m c bytes maxL s av.toArray TB y.cls → meth.sig.returnType = ret → meth.locks = false → KK D cy s → lv_has ls maxL (lv_args 0 av) → va_D A wc → va_S A H0 H0 [] → (∀ q, H0.size ≤ q → A q) → W p l e rm s m av.toArray below meth c H0 [] 0 0 (MQ below (QW v D w1 H0 A) av.toArray s 0 0 A) (F0 m 0 ls [])) : Wr l y bytes maxL ret rm av v D cy H0 wc w1 := by
  refine Met.ofW (cc := bytes) (maxL := maxL) (ret := ret) hy rfl ?_
  intro p e s m args below meth c s₁ B hml hv
  obtain ⟨rfl, hH, hk⟩ := hv
  have hts := atoms_spec (ws := Cond.code y bytes maxL ret :: TB) B.pre
  have hent := lv_entry av hln
  rw [lg_entry_eq, hH]
  exact body p e s m below meth c _ (va_A wc H0.size) ⟨B.exec, B.bytes, hml, findClass_of_methodNamed B.named, fun w h => hts w (List.mem_cons_of_mem _ h)⟩ B.returns B.notSynchronized hk hent hD.self va_S.rf (fun q h => Or.inr h)
/-- ends -/
theorem q_riR {x : Int32} (hx : p.tables.exec = Jvm.exec) (hb : c.code = cc) (hr : meth.sig.returnType = some .int) (hlocks : meth.locks = false) (hdg : decode cc pc = .ok (.ireturn, 1)) : W p l e R s m args below meth c H [] 0 0 (MQ below (QR (some (.int x)) H) args s 0 0 (fun _ => False)) (F0 m pc ls [.int x]) :=
  W.iret hx hb hr (fun _ ht _ => ⟨rfl, ht⟩) (fun _ h => absurd h List.not_mem_nil) hdg hlocks
theorem q_nb {x : Int32} (h : x = 0 ∨ x = 1) : narrow .boolean (.int x) = .int x := by rcases h with rfl | rfl <;> rfl
theorem q_rzR {x : Int32} (hz : x = 0 ∨ x = 1) (hx : p.tables.exec = Jvm.exec) (hb : c.code = cc) (hr : meth.sig.returnType = some .boolean) (hlocks : meth.locks = false) (hdg : decode cc pc = .ok (.ireturn, 1)) : W p l e R s m args below meth c H [] 0 0 (MQ below (QR (some (.int x)) H) args s 0 0 (fun _ => False)) (F0 m pc ls [.int x]) :=
  W.zret hx hb hr (q_nb hz) (fun _ ht _ => ⟨rfl, ht⟩) (fun _ h => absurd h List.not_mem_nil) hdg hlocks
theorem q_rlR {x : Int64} (hx : p.tables.exec = Jvm.exec) (hb : c.code = cc) (hr : meth.sig.returnType = some .long) (hlocks : meth.locks = false) (hdg : decode cc pc = .ok (.lreturn, 1)) : W p l e R s m args below meth c H [] 0 0 (MQ below (QR (some (.long x)) H) args s 0 0 (fun _ => False)) (F0 m pc ls [.long x]) :=
  W.lret hx hb hr (fun _ ht _ => ⟨rfl, ht⟩) (fun _ h => absurd h List.not_mem_nil) hdg hlocks
theorem q_riW {x : Int32} (hP : va_P D vwCl w1 H) (hS : va_S A H0 H locs) (hx : p.tables.exec = Jvm.exec) (hb : c.code = cc) (hr : meth.sig.returnType = some .int) (hlocks : meth.locks = false) (hdg : decode cc pc = .ok (.ireturn, 1)) : W p l e R s m args below meth c H locs 0 0 (MQ below (QW (some (.int x)) D w1 H0 A) args s 0 0 A) (F0 m pc ls [.int x]) :=
  W.iret hx hb hr (fun _ ht _ => ⟨rfl, by rw [ht]; exact hP, by rw [ht]; exact hS.1, by rw [ht]; exact hS.2.1⟩) hS.2.2 hdg hlocks
theorem q_rzW {x : Int32} (hz : x = 0 ∨ x = 1) (hP : va_P D vwCl w1 H) (hS : va_S A H0 H locs) (hx : p.tables.exec = Jvm.exec) (hb : c.code = cc) (hr : meth.sig.returnType = some .boolean) (hlocks : meth.locks = false) (hdg : decode cc pc = .ok (.ireturn, 1)) : W p l e R s m args below meth c H locs 0 0 (MQ below (QW (some (.int x)) D w1 H0 A) args s 0 0 A) (F0 m pc ls [.int x]) :=
  W.zret hx hb hr (q_nb hz) (fun _ ht _ => ⟨rfl, by rw [ht]; exact hP, by rw [ht]; exact hS.1, by rw [ht]; exact hS.2.1⟩) hS.2.2 hdg hlocks
theorem q_rlW {x : Int64} (hP : va_P D vwCl w1 H) (hS : va_S A H0 H locs) (hx : p.tables.exec = Jvm.exec) (hb : c.code = cc) (hr : meth.sig.returnType = some .long) (hlocks : meth.locks = false) (hdg : decode cc pc = .ok (.lreturn, 1)) : W p l e R s m args below meth c H locs 0 0 (MQ below (QW (some (.long x)) D w1 H0 A) args s 0 0 A) (F0 m pc ls [.long x]) :=
  W.lret hx hb hr (fun _ ht _ => ⟨rfl, by rw [ht]; exact hP, by rw [ht]; exact hS.1, by rw [ht]; exact hS.2.1⟩) hS.2.2 hdg hlocks
theorem q_rvW (hP : va_P D vwCl w1 H) (hS : va_S A H0 H locs) (hx : p.tables.exec = Jvm.exec) (hb : c.code = cc) (hr : meth.sig.returnType = none) (hlocks : meth.locks = false) (hdg : decode cc pc = .ok (.return_, 1)) : W p l e R s m args below meth c H locs 0 0 (MQ below (QW none D w1 H0 A) args s 0 0 A) (F0 m pc ls []) :=
  W.vret hx hb hr (fun _ ht _ => ⟨rfl, by rw [ht]; exact hP, by rw [ht]; exact hS.1, by rw [ht]; exact hS.2.1⟩) hS.2.2 hdg hlocks
theorem q_raW {x : Nat} {C : String} (hP : va_P D vwCl w1 H) (hS : va_S A H0 H locs) (hx : p.tables.exec = Jvm.exec) (hb : c.code = cc) (hr : meth.sig.returnType = some (.object C)) (hlocks : meth.locks = false) (hdg : decode cc pc = .ok (.areturn, 1)) : W p l e R s m args below meth c H locs 0 0 (MQ below (QW (some (.ref x)) D w1 H0 A) args s 0 0 A) (F0 m pc ls [.ref x]) :=
  W.aret hx hb hr (Or.inl ⟨C, rfl⟩) (Or.inr ⟨x, rfl⟩) (fun _ ht _ => ⟨rfl, by rw [ht]; exact hP, by rw [ht]; exact hS.1, by rw [ht]; exact hS.2.1⟩) hS.2.2 hdg hlocks
end QB
/-! What the functions that mirror the methods are made of. -/
def FU : Nat := 256
def inb (i : Int32) (n : Nat) : Bool := !(decide (i < 0)) && decide (i.toNatClampNeg < n)
def isb (v : Int32) : Bool := decide (v = 0) || decide (v = 1)
def lsh (x : Int64) (k : Int32) : Int64 := x <<< (k.toInt64 &&& 63)
def lsr (x : Int64) (k : Int32) : Int64 := x >>> (k.toInt64 &&& 63)
def lus (x : Int64) (k : Int32) : Int64 := (x.toUInt64 >>> (k.toInt64.toUInt64 &&& Int64.toUInt64 63)).toInt64
theorem q_t {c : Prop} [Decidable c] {α : Type} {a b r : α} (hc : c) (h : (if c then a else b) = r) : a = r := by rwa [if_pos hc] at h
theorem q_f {c : Prop} [Decidable c] {α : Type} {a b r : α} (hc : ¬ c) (h : (if c then a else b) = r) : b = r := by rwa [if_neg hc] at h
theorem q_bind {α β : Type} {x : Option α} {f : α → Option β} {r : β} (h : x.bind f = some r) : ∃ z, x = some z ∧ f z = some r := by
  cases x with
  | none => cases h
  | some z => exact ⟨z, rfl, h⟩
theorem q_in {α : Type} {i : Int32} {n : Nat} {X : Option α} {r : α} (h : (if inb i n = true then X else none) = some r) : vp_in i n ∧ X = some r := by
  by_cases hc : inb i n = true
  · rw [if_pos hc] at h
    refine ⟨?_, h⟩
    simp only [inb, Bool.and_eq_true, Bool.not_eq_true', decide_eq_false_iff_not, decide_eq_true_eq] at hc
    rintro (h1 | h1)
    · exact hc.1 h1
    · omega
  · rw [if_neg hc] at h
    cases h
theorem q_isb {α : Type} {v : Int32} {X : Option α} {r : α} (h : (if isb v = true then X else none) = some r) : (v = 0 ∨ v = 1) ∧ X = some r := by
  by_cases hc : isb v = true
  · rw [if_pos hc] at h
    refine ⟨?_, h⟩
    simpa only [isb, Bool.or_eq_true, decide_eq_true_eq] using hc
  · rw [if_neg hc] at h
    cases h
theorem q_nz {α : Type} {v : Int32} {X : Option α} {r : α} (h : (if v = 0 then none else X) = some r) : ¬ v = 0 ∧ X = some r := by
  by_cases hc : v = 0
  · rw [if_pos hc] at h; cases h
  · rw [if_neg hc] at h; exact ⟨hc, h⟩
