/-! Constructors: the form of their contracts, the rows of their calls. -/
def QCn (B : (Nat → Prop) → Heap → Prop) (H0 : Heap) (A : Nat → Prop) : Array Value → State → Outcome → State → Prop := fun _ _ o t => o = .returned none ∧ B A t.heap ∧ H0.size ≤ t.heap.size ∧ ∀ q : Nat, q < H0.size → ¬ A q → t.heap[q]? = H0[q]?
def Cn (l : Launch) (y : MethodName) (bytes : ByteArray) (maxL : Nat) (rm : Room) (av : List Value) (D : va_G) (cy : ClassId × ClassId × ClassId) (H0 : Heap) (wc : va_W) (mc ms : Nat) (B : (Nat → Prop) → Heap → Prop) : Prop := Met l y (Cond.code y bytes maxL none :: TB) rm (Pc0 av D cy H0) (QCn B H0 (va_A wc H0.size)) mc ms (va_A wc H0.size)
section QC
variable {p : Program} {l : Launch} {e : Env} {R : Room} {s : State} {m : MethodId} {args : Array Value} {below : List Frame} {meth : Method} {c : Code} {H : Heap} {locs : List Loc} {cells slots : Nat} {Q : State → Prop}
variable {args' : Array Value} {y : MethodName} {bytes cc : ByteArray} {maxL nL n index pc mc ms : Nat} {rm : Room} {own host : String} {b : Addr} {As rest st : List Value} {D : va_G} {cy : ClassId × ClassId × ClassId} {ls : Array Slot} {A : Nat → Prop} {H0 : Heap} {ws wc : va_W} {B : (Nat → Prop) → Heap → Prop}
theorem q_doneC (run : va_Run p l e R s m args below meth c H locs cells slots mc ms (F0 m pc ls st) rest (QCn B H (va_A wc H.size) args') (va_A wc H.size)) (hD : va_D A ws) (hS : va_S A H0 H locs) (hA : ∀ q, H0.size ≤ q → A q) (is : List Nat) (hC : is.map (fun i => ws[i]?) = wc.map some)
    (kk : ∀ (H1 : Heap) (locs1 : List Loc), B (va_A wc H.size) H1 → (∀ q : Nat, q < H.size → ¬ va_A wc H.size q → H1[q]? = H[q]?) → (∀ q, va_A wc H.size q → A q) → va_S A H0 H1 locs1 → W p l e R s m args below meth c H1 locs1 (cells + mc) (slots + ms) Q (F0 m (pc + 3) ls rest)) : W p l e R s m args below meth c H locs cells slots Q (F0 m pc ls st) := by
  intro T hT X
  obtain ⟨v', st₀, t, T', L, h0, X', hL, e1, e2, ⟨hv, hb, hz, hk⟩, go⟩ := run T hT X
  cases hv
  have hF := va_free (wc := wc) hD hS hA is hC
  rw [← e1] at hb hz hk
  obtain ⟨t2, a1, b1⟩ := kk T'.heap (locs ++ L) hb hk hF ⟨Nat.le_trans hS.1 hz, fun q h1 h2 => (hk q (Nat.lt_of_lt_of_le h1 hS.1) (fun z => h2 (hF q z))).trans (hS.2.1 q h1 h2), fun q hq => by
    rcases List.mem_append.mp hq with h | h
    · exact hS.2.2 q h
    · exact hF _ (hL q h)⟩ T' rfl X'
  exact ⟨t2, go t2 a1, b1⟩
theorem q_cnI (S : CallFix p m c cc nL s args TB own) (hk : KK D cy s) (hM : Cn l y bytes maxL rm (.ref b :: As) D cy H wc mc ms B) (hy : OkB y bytes maxL none n) (hyn : y.name = "<init>") (hin : Cond.instanceMethod y ∈ TB) (hl : Cond.methodLink own index y ∈ TB) (hR : rm.cells = mc ∧ rm.slots = ms ∧ rm.frames + 1 ≤ R.frames ∧ 8 + (maxL + 11) + rm.locals ≤ R.locals) (hn : As.length = n) (hsize : ls.size = nL) (hst : st = As.reverse ++ .ref b :: rest) (hW : (rest.map fun v => v.category).sum ≤ 8) (hdg : decode cc pc = .ok (.invokespecial index, 3)) (hf : cells + mc ≤ R.cells ∧ slots + ms ≤ R.slots)
    (hD : va_D A ws) (hS : va_S A H0 H locs) (hA : ∀ q, H0.size ≤ q → A q) (is : List Nat) (hC : is.map (fun i => ws[i]?) = wc.map some)
    (kk : ∀ (H1 : Heap) (locs1 : List Loc), B (va_A wc H.size) H1 → (∀ q : Nat, q < H.size → ¬ va_A wc H.size q → H1[q]? = H[q]?) → (∀ q, va_A wc H.size q → A q) → va_S A H0 H1 locs1 → W p l e R s m args below meth c H1 locs1 (cells + mc) (slots + ms) Q (F0 m (pc + 3) ls rest)) : W p l e R s m args below meth c H locs cells slots Q (F0 m pc ls st) :=
  q_doneC (va_runI (g := F0 m pc ls st) (rest := rest) (b := b) (As := As) S hM (cwI n S.2.2.2.2 (tb_code hy.1) rfl hR.1 hR.2.1 (S.2.2.2.2 _ hy.2.1) (S.2.2.2.2 _ hl) (S.2.2.2.2 _ hin) hyn ⟨hy.2.2.1, hy.2.2.2.1, hy.2.2.2.2⟩ ⟨hR.2.2.1, hR.2.2.2⟩) ⟨Pc0.blind, fun U hU hW => ⟨rfl, hU, hk.warm hW⟩⟩ rfl hn hsize hst (lv_room hW) hdg hf) hD hS hA is hC kk
theorem q_cnN (S : CallFix p m c cc nL s args TB own) (hk : KK D cy s) (hM : Cn l y bytes maxL rm (.ref b :: As) D cy H wc mc ms B) (hy : OkB y bytes maxL none n) (hyn : y.name = "<init>") (hin : Cond.instanceMethod y ∈ TB) (hl : va_Nw (.methodLinkNest own index y host) s) (hR : rm.cells = mc ∧ rm.slots = ms ∧ rm.frames + 1 ≤ R.frames ∧ 8 + (maxL + 11) + rm.locals ≤ R.locals) (hn : As.length = n) (hsize : ls.size = nL) (hst : st = As.reverse ++ .ref b :: rest) (hW : (rest.map fun v => v.category).sum ≤ 8) (hdg : decode cc pc = .ok (.invokespecial index, 3)) (hf : cells + mc ≤ R.cells ∧ slots + ms ≤ R.slots)
    (hD : va_D A ws) (hS : va_S A H0 H locs) (hA : ∀ q, H0.size ≤ q → A q) (is : List Nat) (hC : is.map (fun i => ws[i]?) = wc.map some)
    (kk : ∀ (H1 : Heap) (locs1 : List Loc), B (va_A wc H.size) H1 → (∀ q : Nat, q < H.size → ¬ va_A wc H.size q → H1[q]? = H[q]?) → (∀ q, va_A wc H.size q → A q) → va_S A H0 H1 locs1 → W p l e R s m args below meth c H1 locs1 (cells + mc) (slots + ms) Q (F0 m (pc + 3) ls rest)) : W p l e R s m args below meth c H locs cells slots Q (F0 m pc ls st) :=
  q_doneC (va_runIN (g := F0 m pc ls st) (rest := rest) (b := b) (As := As) S hM ⟨va_cnB n S.2.2.2.2 (tb_code hy.1) rfl hR.1 hR.2.1 hl (S.2.2.2.2 _ hy.2.1) ⟨hy.2.2.1, hy.2.2.2.1, hy.2.2.2.2⟩ ⟨hR.2.2.1, hR.2.2.2⟩, hyn, S.2.2.2.2 _ hin⟩ ⟨Pc0.blind, fun U hU hW => ⟨rfl, hU, hk.warm hW⟩⟩ rfl hn hsize hst (lv_room hW) hdg hf) hD hS hA is hC kk
theorem cn_of {av : List Value} (hy : plainName y.cls = true) (hyn : y.name = "<init>") (hln : (lg_sl av).length ≤ maxL) (hD : va_D (fun _ => True) wc)
    (body : ∀ (p : Program) (e : Env) (s : State) (m : MethodId) (below : List Frame) (meth : Method) (c : Code) (ls : Array Slot) (A : Nat → Prop), CallFix p m c bytes maxL s av.toArray TB y.cls → meth.sig.returnType = none → meth.locks = false → meth.name = "<init>" → KK D cy s → lv_has ls maxL (lv_args 0 av) → va_D A wc → va_S A H0 H0 [] → (∀ q, H0.size ≤ q → A q) → W p l e rm s m av.toArray below meth c H0 [] 0 0 (MQ below (QCn B H0 A) av.toArray s mc ms A) (F0 m 0 ls [])) : Cn l y bytes maxL rm av D cy H0 wc mc ms B := by
  refine Met.ofW (cc := bytes) (maxL := maxL) (ret := none) hy rfl ?_
  intro p e s m args below meth c s₁ B hml hv
  obtain ⟨rfl, hH, hk⟩ := hv
  have hts := atoms_spec (ws := Cond.code y bytes maxL none :: TB) B.pre
  have hent := lv_entry av hln
  have hin : meth.name = "<init>" := (name_of_methodNamed B.named B.method).1.trans hyn
  rw [lg_entry_eq, hH]
  exact body p e s m below meth c _ (va_A wc H0.size) ⟨B.exec, B.bytes, hml, findClass_of_methodNamed B.named, fun w h => hts w (List.mem_cons_of_mem _ h)⟩ B.returns B.notSynchronized hin hk hent hD.self va_S.rf (fun q h => Or.inr h)
theorem q_rvC (hB : B A H) (hS : va_S A H0 H locs) (hx : p.tables.exec = Jvm.exec) (hb : c.code = cc) (hr : meth.sig.returnType = none) (hlocks : meth.locks = false) (hdg : decode cc pc = .ok (.return_, 1)) : W p l e R s m args below meth c H locs cells slots (MQ below (QCn B H0 A) args s cells slots A) (F0 m pc ls []) :=
  W.vret hx hb hr (fun _ ht _ => ⟨rfl, by rw [ht]; exact hB, by rw [ht]; exact hS.1, by rw [ht]; exact hS.2.1⟩) hS.2.2 hdg hlocks
theorem q_newi (hx : p.tables.exec = Jvm.exec) (hb : c.code = cc) (hts : ∀ w ∈ TB, w.before args s = true) (hk : KK D cy s) (hP : va_P D vwCl ws H) (hD : va_D A ws) (hS : va_S A H0 H locs) (hA : ∀ q, H0.size ≤ q → A q) {n : Int32} {N : Nat} (hw : Cond.arrayClass .int ∈ TB) (hn : ¬ n < 0) (hN : n.toNatClampNeg = N) (hby : N * componentBytes .int ≤ 536870912) (hcells : cells + 1 ≤ R.cells) (hslots : slots + N ≤ R.slots) (hdg : decode cc pc = .ok (.newarray .int, 2))
    (kk : ∀ (q : Nat) (H1 : Heap), va_P D vwCl (ws ++ [(q, .inl (cy.1, N, .inl (fun _ => 0)))]) H1 → va_D A (ws ++ [(q, .inl (cy.1, N, .inl (fun _ => 0)))]) → va_S A H0 H1 locs → W p l e R s m args below meth c H1 locs (cells + 1) (slots + N) Q (F0 m (pc + 2) ls (.ref q :: rest))) : W p l e R s m args below meth c H locs cells slots Q (F0 m pc ls (.int n :: rest)) := by
  refine va_newa (atype := .int) hx hb (hts _ hw) rfl hk.1 hP hD hS hA (a0 := (N, .inl (fun _ => 0))) (fun _ => rfl) hn hN hby hcells hslots hdg (fun q cA H1 hK hP hD hS => ?_)
  have h1 : s.vm.findClass ("[" ++ (FieldType.int).toString) = some cA := (hK.2 3 _ rfl).2
  have h2 : s.vm.findClass ("[" ++ (FieldType.int).toString) = some cy.1 := (hk.1.2 0 _ rfl).2
  have he : cA = cy.1 := Option.some.inj (h1.symm.trans h2)
  subst he
  exact kk q H1 hP hD hS
theorem q_newl (hx : p.tables.exec = Jvm.exec) (hb : c.code = cc) (hts : ∀ w ∈ TB, w.before args s = true) (hk : KK D cy s) (hP : va_P D vwCl ws H) (hD : va_D A ws) (hS : va_S A H0 H locs) (hA : ∀ q, H0.size ≤ q → A q) {n : Int32} {N : Nat} (hw : Cond.arrayClass .long ∈ TB) (hn : ¬ n < 0) (hN : n.toNatClampNeg = N) (hby : N * componentBytes .long ≤ 536870912) (hcells : cells + 1 ≤ R.cells) (hslots : slots + N ≤ R.slots) (hdg : decode cc pc = .ok (.newarray .long, 2))
    (kk : ∀ (q : Nat) (H1 : Heap), va_P D vwCl (ws ++ [(q, .inl (cy.2.1, N, .inr (.inl (fun _ => 0))))]) H1 → va_D A (ws ++ [(q, .inl (cy.2.1, N, .inr (.inl (fun _ => 0))))]) → va_S A H0 H1 locs → W p l e R s m args below meth c H1 locs (cells + 1) (slots + N) Q (F0 m (pc + 2) ls (.ref q :: rest))) : W p l e R s m args below meth c H locs cells slots Q (F0 m pc ls (.int n :: rest)) := by
  refine va_newa (atype := .long) hx hb (hts _ hw) rfl hk.1 hP hD hS hA (a0 := (N, .inr (.inl (fun _ => 0)))) (fun _ => rfl) hn hN hby hcells hslots hdg (fun q cA H1 hK hP hD hS => ?_)
  have h1 : s.vm.findClass ("[" ++ (FieldType.long).toString) = some cA := (hK.2 3 _ rfl).2
  have h2 : s.vm.findClass ("[" ++ (FieldType.long).toString) = some cy.2.1 := (hk.1.2 1 _ rfl).2
  have he : cA = cy.2.1 := Option.some.inj (h1.symm.trans h2)
  subst he
  exact kk q H1 hP hD hS
theorem q_newz (hx : p.tables.exec = Jvm.exec) (hb : c.code = cc) (hts : ∀ w ∈ TB, w.before args s = true) (hk : KK D cy s) (hP : va_P D vwCl ws H) (hD : va_D A ws) (hS : va_S A H0 H locs) (hA : ∀ q, H0.size ≤ q → A q) {n : Int32} {N : Nat} (hw : Cond.arrayClass .boolean ∈ TB) (hn : ¬ n < 0) (hN : n.toNatClampNeg = N) (hby : N * componentBytes .boolean ≤ 536870912) (hcells : cells + 1 ≤ R.cells) (hslots : slots + N ≤ R.slots) (hdg : decode cc pc = .ok (.newarray .boolean, 2))
    (kk : ∀ (q : Nat) (H1 : Heap), va_P D vwCl (ws ++ [(q, .inl (cy.2.2, N, .inl (fun _ => 0)))]) H1 → va_D A (ws ++ [(q, .inl (cy.2.2, N, .inl (fun _ => 0)))]) → va_S A H0 H1 locs → W p l e R s m args below meth c H1 locs (cells + 1) (slots + N) Q (F0 m (pc + 2) ls (.ref q :: rest))) : W p l e R s m args below meth c H locs cells slots Q (F0 m pc ls (.int n :: rest)) := by
  refine va_newa (atype := .boolean) hx hb (hts _ hw) rfl hk.1 hP hD hS hA (a0 := (N, .inl (fun _ => 0))) (fun _ => rfl) hn hN hby hcells hslots hdg (fun q cA H1 hK hP hD hS => ?_)
  have h1 : s.vm.findClass ("[" ++ (FieldType.boolean).toString) = some cA := (hK.2 3 _ rfl).2
  have h2 : s.vm.findClass ("[" ++ (FieldType.boolean).toString) = some cy.2.2 := (hk.1.2 2 _ rfl).2
  have he : cA = cy.2.2 := Option.some.inj (h1.symm.trans h2)
  subst he
  exact kk q H1 hP hD hS
end QC
