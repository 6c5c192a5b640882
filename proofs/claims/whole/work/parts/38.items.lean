/-! The text: numbers and items, on both sides. -/
theorem m1_lt (a : Nat) (h : a < 2 ^ 31) : (-1 : Int32) < nI a := by
  rw [show (-1 : Int32) = nI 0 - nI 1 from by decide, Int32.lt_iff_toInt_lt, pk_sub_toInt (by decide) (by decide), nI_toInt h]
  omega
theorem m1_ne (a : Nat) (h : a < 2 ^ 31) : ¬ (-1 : Int32) = nI a := by
  intro e
  have := m1_lt a h
  rw [e] at this
  exact Int32.lt_irrefl this
theorem one_n0 : ¬ (1 : Int32) = 0 := by decide
theorem isb0 : isb 0 = true := by decide
theorem isb1 : isb 1 = true := by decide
theorem in10_0 {a lo hi : Nat} (ha : a < 2 ^ 31) (hlo : lo < 2 ^ 31) (hhi : hi < 2 ^ 31) (h : ¬ (lo ≤ a ∧ a ≤ hi)) : f_X10_in (nI a) (nI lo) (nI hi) = some 0 := by rw [in10 ha hlo hhi, if_neg h]
theorem in10_1 {a lo hi : Nat} (ha : a < 2 ^ 31) (hlo : lo < 2 ^ 31) (hhi : hi < 2 ^ 31) (h : lo ≤ a ∧ a ≤ hi) : f_X10_in (nI a) (nI lo) (nI hi) = some 1 := by rw [in10 ha hlo hhi, if_pos h]
theorem tok_eq {ct cv mk : Int32} (h : TKR ct cv mk) {c : Nat} (hc : c ≤ 255) : ct = nI c ↔ mk = nI c := by
  rcases h with ⟨d, hd, rfl, rfl⟩ | ⟨v, hv, rfl, rfl, rfl⟩ | ⟨rfl, rfl⟩ | ⟨rfl, rfl⟩
  · exact Iff.rfl
  · constructor
    · intro e
      have := (nI_eq (by decide) (by omega)).mp e
      omega
    · intro e
      have := (nI_eq (by omega) (by omega)).mp e
      omega
  · constructor
    · intro e
      have := (nI_eq (by decide) (by omega)).mp e
      omega
    · intro e
      have := (nI_eq (by decide) (by omega)).mp e
      omega
  · constructor
    · intro e
      have := (nI_eq (by decide) (by omega)).mp e
      omega
    · intro e
      exact absurd e (m1_ne c (by omega))
theorem tok_end {ct cv mk : Int32} (h : TKR ct cv mk) : ct = nI 258 ↔ mk = -1 := by
  rcases h with ⟨d, hd, rfl, rfl⟩ | ⟨v, hv, rfl, rfl, rfl⟩ | ⟨rfl, rfl⟩ | ⟨rfl, rfl⟩
  · constructor
    · intro e
      have := (nI_eq (by omega) (by decide)).mp e
      omega
    · intro e
      exact absurd e.symm (m1_ne d (by omega))
  · constructor
    · intro e
      have := (nI_eq (by decide) (by decide)).mp e
      omega
    · intro e
      exact absurd e.symm (m1_ne (1000 + v) (by omega))
  · constructor
    · intro e
      have := (nI_eq (by decide) (by decide)).mp e
      omega
    · intro e
      exact absurd e.symm (m1_ne 3000 (by decide))
  · exact ⟨fun _ => rfl, fun _ => rfl⟩
/-- a number within two bounds, on both sides -/
theorem number_both {n : Nat} {tl mt : Nat → Int32} (hL : Lt n tl mt) {p : Nat} (hp : p ≤ n) (pl0 ct0 cv0 b0 t0 : Int32) {a b : Nat} {lo hi : Int32} (hlo : lo = nI a) (hhi : hi = nI b) (hb : b ≤ 999) (hab : a ≤ 999) :
    (∃ pl nx ct cv mk, f_X8_stepToNumber (nI n) pl0 (nI p) ct0 cv0 tl lo hi = some (0, nI pl, nx, ct, cv) ∧ f_X10_reads (nI n) (nI p) b0 t0 mt lo hi = some (0, nx, nI pl, mk) ∧ pl ≤ n) ∨
    (∃ pl nx ct v, a ≤ v ∧ v ≤ b ∧ p ≤ nx ∧ nx ≤ n ∧ pl ≤ n ∧ f_X8_stepToNumber (nI n) pl0 (nI p) ct0 cv0 tl lo hi = some (1, nI pl, nI nx, ct, nI v) ∧ f_X10_reads (nI n) (nI p) b0 t0 mt lo hi = some (1, nI nx, nI pl, nI (1000 + v))) := by
  subst hlo
  subst hhi
  obtain ⟨pl, nx, ct, cv, mk, h1, h2, h3, h4, h5, h6, h7⟩ := step_both hL hp pl0 ct0 cv0 b0 t0
  unfold f_X8_stepToNumber f_X10_reads
  rw [h6, h7, Option.bind_some, Option.bind_some]
  rw [show (1000 : Int32) = nI 1000 from rfl, nI_add, nI_add]
  show (∃ pl' nx' ct' cv' mk', (if ct = nI 256 then _ else _) = _ ∧ _) ∨ (∃ pl' nx' ct' v, _ ∧ _ ∧ _ ∧ _ ∧ _ ∧ (if ct = nI 256 then _ else _) = _ ∧ _)
  rcases h4 with ⟨d, hd, rfl, rfl⟩ | ⟨v, hv, rfl, rfl, rfl⟩ | ⟨rfl, rfl⟩ | ⟨rfl, rfl⟩
  · refine Or.inl ⟨pl, nI nx, nI d, cv, nI d, ?_, ?_, by omega⟩
    · rw [if_neg (fun e => by have := (nI_eq (by omega) (by decide)).mp e; omega)]
    · rw [in10_0 (by omega) (by omega) (by omega) (by omega), Option.bind_some, if_pos isb0]
  · by_cases q : a ≤ v ∧ v ≤ b
    · refine Or.inr ⟨pl, nx, nI 256, v, q.1, q.2, by omega, h3, by omega, ?_, ?_⟩
      · rw [if_pos rfl, ite_lt (by omega) (by omega), if_neg (by omega), ite_lt (by omega) (by omega), if_neg (by omega)]
      · rw [in10_1 (by omega) (by omega) (by omega) (by omega), Option.bind_some, if_pos isb1]
    · refine Or.inl ⟨pl, nI nx, nI 256, nI v, nI (1000 + v), ?_, ?_, by omega⟩
      · rw [if_pos rfl, ite_lt (by omega) (by omega), ite_lt (by omega) (by omega)]
        by_cases q1 : v < a
        · rw [if_pos q1]
        · rw [if_neg q1, if_pos (by omega)]
      · rw [in10_0 (by omega) (by omega) (by omega) (by omega), Option.bind_some, if_pos isb0]
  · refine Or.inl ⟨pl, nI nx, nI 257, cv, nI 3000, ?_, ?_, by omega⟩
    · rw [if_neg (by decide)]
    · rw [in10_0 (by omega) (by omega) (by omega) (by omega), Option.bind_some, if_pos isb0]
  · refine Or.inl ⟨pl, nI nx, nI 258, cv, -1, ?_, ?_, by omega⟩
    · rw [if_neg (by decide)]
    · unfold f_X10_in
      rw [if_pos (m1_lt _ (by omega)), Option.bind_some, if_pos isb0]
theorem number10 {v : Nat} : f_X10_number (nI (1000 + v)) = some (nI v) := by
  unfold f_X10_number
  rw [show (1000 : Int32) = nI 1000 from rfl, pk_sub (by omega), Nat.add_sub_cancel_left]
theorem to_0 {n p pl : Nat} {mt dr : Nat → Int32} {b0 t0 lo hi nx mk ki : Int32} (hk : inb ki 7 = true) (h : f_X10_reads (nI n) (nI p) b0 t0 mt lo hi = some (0, nx, nI pl, mk)) : f_X10_readsTo (nI n) (nI p) b0 t0 dr mt ki lo hi = some (0, nx, nI pl, mk, upd dr ki.toNatClampNeg (dr ki.toNatClampNeg)) := by
  unfold f_X10_readsTo
  rw [h, Option.bind_some, if_pos rfl, if_pos hk]
  unfold j_X10_readsTo_31
  rw [if_pos hk, if_pos isb0]
theorem to_1 {n p pl v : Nat} {mt dr : Nat → Int32} {b0 t0 lo hi nx ki : Int32} (hk : inb ki 7 = true) (h : f_X10_reads (nI n) (nI p) b0 t0 mt lo hi = some (1, nx, nI pl, nI (1000 + v))) : f_X10_readsTo (nI n) (nI p) b0 t0 dr mt ki lo hi = some (1, nx, nI pl, nI (1000 + v), upd dr ki.toNatClampNeg (nI v)) := by
  unfold f_X10_readsTo
  rw [h, Option.bind_some, if_neg one_n0, number10, Option.bind_some]
  unfold j_X10_readsTo_31
  rw [if_pos hk, if_pos isb1]
theorem j117_0 (n : Int32) (tl : Nat → Int32) (a b c d e f g h i j k : Int32) (l m : Int64) : j_X8_readItem_117 n tl 0 a b c d e f g h i j k l m = some (0, a, b, c, d, e, f, g, h, i, j, k, l, m) := if_pos rfl
def ItIn (n p pl : Nat) (tl : Nat → Int32) (ct cv : Int32) (g : Geo) (shut dots : Int64) (fst : Int32) : Option (Int32 × Int32 × Int32 × Int32 × Int32 × Int32 × Int32 × Int32 × Int32 × Int32 × Int32 × Int32 × Int64 × Int64) := f_X8_readItem (nI n) (nI pl) (nI p) ct cv tl (nI g.W) (nI g.H) (nI g.ke) (nI g.po) (nI g.fa) (nI g.ax) (nI g.ay) shut dots fst
/-- what an item's body makes: a failure at the same place, or the same grid so far -/
def IB (n p : Nat) (tl : Nat → Int32) (C : Option (Int32 × Int32 × Int32 × Int32 × Int32 × Int32 × Int32 × Int32 × Int32 × Int32 × Int32 × Int32 × Int64 × Int64)) (M : Option (Int32 × Int64 × Int64 × Int32 × Int32 × Int32 × (Nat → Int32))) : Prop :=
  (∃ pl a b c d e f g h i j k l s1 s2 x1 x2 dr, pl ≤ n ∧ C = j_X8_readItem_117 (nI n) tl 0 (nI pl) a b c d e f g h i j k l ∧ M = some (0, s1, s2, x1, nI pl, x2, dr)) ∨
  (∃ (pl nx : Nat) (b c : Int32) (g : Geo) (l m : Int64) (x2 : Int32) (dr : Nat → Int32), pl ≤ n ∧ p ≤ nx ∧ nx ≤ n ∧ g.ok ∧ RepT g dr ∧ Inn g l ∧ Inn g m ∧ (∀ k, bit l k = true → bit m k = false) ∧
    C = j_X8_readItem_117 (nI n) tl 1 (nI pl) (nI nx) b c (nI g.W) (nI g.H) (nI g.ke) (nI g.po) (nI g.fa) (nI g.ax) (nI g.ay) l m ∧ M = some (1, l, m, nI nx, nI pl, x2, dr))
theorem ib_stretch {n : Nat} {tl mt : Nat → Int32} (hL : Lt n tl mt) {p pl : Nat} (hp : p ≤ n) (cv mk : Int32) {g : Geo} (hg : g.ok) {dr : Nat → Int32} (hT : RepT g dr) {shut dots : Int64} (h1 : Inn g shut) (h2 : Inn g dots) (h3 : ∀ k, bit shut k = true → bit dots k = false) (fst it : Int32) :
    IB n p tl (ItIn n p pl tl 97 cv g shut dots fst) (f_X10_item shut dots (nI n) (nI p) (nI pl) 97 dr mt it) := by
  have C : ItIn n p pl tl 97 cv g shut dots fst = (f_X8_readStretch (nI n) (nI pl) (nI p) 97 cv tl (nI g.ax) (nI g.ay)).bind (fun z88 => j_X8_readItem_117 (nI n) tl (z88.1) (z88.2.1) (z88.2.2.1) (z88.2.2.2.1) (z88.2.2.2.2.1) (nI g.W) (nI g.H) (nI g.ke) (nI g.po) (nI g.fa) (z88.2.2.2.2.2.1) (z88.2.2.2.2.2.2) shut dots) := by
    unfold ItIn f_X8_readItem
    rw [if_pos rfl]
  unfold f_X10_item
  rw [if_pos rfl, C]
  unfold f_X8_readStretch
  rcases number_both hL hp (nI pl) 97 cv (nI pl) 97 (a := 1) (b := 4) (lo := 1) (hi := 4) rfl rfl (by decide) (by decide) with ⟨pl1, nx1, ct1, cv1, mk1, a1, a2, a3⟩ | ⟨pl1, nx1, ct1, v1, a1, a2, a3, a4, a5, a6, a7⟩
  · rw [a1, to_0 (by decide) a2, Option.bind_some, Option.bind_some]
    exact Or.inl ⟨pl1, _, _, _, _, _, _, _, _, _, _, _, _, _, _, _, _, _, a3, rfl, rfl⟩
  · rw [a6, to_1 (by decide) a7, Option.bind_some, Option.bind_some]
    dsimp only
    rw [if_neg one_n0, if_neg one_n0]
    rcases number_both hL a4 (nI pl1) ct1 (nI v1) (nI pl1) (nI (1000 + v1)) (a := 1) (b := 4) (lo := 1) (hi := 4) rfl rfl (by decide) (by decide) with ⟨pl2, nx2, ct2, cv2, mk2, b1, b2, b3⟩ | ⟨pl2, nx2, ct2, v2, b1, b2, b3, b4, b5, b6, b7⟩
    · rw [b1, to_0 (by decide) b2, Option.bind_some, Option.bind_some]
      exact Or.inl ⟨pl2, _, _, _, _, _, _, _, _, _, _, _, _, _, _, _, _, _, b3, rfl, rfl⟩
    · rw [b6, to_1 (by decide) b7, Option.bind_some, Option.bind_some]
      dsimp only
      rw [if_neg one_n0, if_neg one_n0]
      obtain ⟨t0, t1, t2, t3, t4, t5, t6⟩ := hT
      obtain ⟨g1, g2, g3, g4, g5, g6, g7⟩ := hg
      exact Or.inr ⟨pl2, nx2, _, _, (g.W, g.H, g.ke, g.po, g.fa, v1, v2), shut, dots, _, upd (upd dr 5 (nI v1)) 6 (nI v2), b5, by omega, b4, ⟨g1, g2, g3, g4, g5, ⟨a1, a2⟩, ⟨b1, b2⟩⟩, ⟨t0, t1, t2, t3, t4, rfl, rfl⟩, h1, h2, h3, rfl, rfl⟩
theorem ib_kernel {n : Nat} {tl mt : Nat → Int32} (hL : Lt n tl mt) {p pl : Nat} (hp : p ≤ n) (cv mk : Int32) {g : Geo} (hg : g.ok) {dr : Nat → Int32} (hT : RepT g dr) {shut dots : Int64} (h1 : Inn g shut) (h2 : Inn g dots) (h3 : ∀ k, bit shut k = true → bit dots k = false) (fst it : Int32) :
    IB n p tl (ItIn n p pl tl 107 cv g shut dots fst) (f_X10_item shut dots (nI n) (nI p) (nI pl) 107 dr mt it) := by
  have C : ItIn n p pl tl 107 cv g shut dots fst = (f_X8_readKernel (nI n) (nI pl) (nI p) 107 cv tl (nI g.ke) (nI g.po) (nI g.fa)).bind (fun z79 => j_X8_readItem_117 (nI n) tl (z79.1) (z79.2.1) (z79.2.2.1) (z79.2.2.2.1) (z79.2.2.2.2.1) (nI g.W) (nI g.H) (z79.2.2.2.2.2.1) (z79.2.2.2.2.2.2.1) (z79.2.2.2.2.2.2.2) (nI g.ax) (nI g.ay) shut dots) := by
    unfold ItIn f_X8_readItem
    rw [if_neg (by decide), if_neg (by decide), if_neg (by decide), if_pos rfl]
  unfold f_X10_item
  rw [if_neg (by decide), if_neg (by decide), if_neg (by decide), if_pos rfl, C]
  unfold f_X8_readKernel
  rcases number_both hL hp (nI pl) 107 cv (nI pl) 107 (a := 0) (b := 2) (lo := 0) (hi := 2) rfl rfl (by decide) (by decide) with ⟨pl1, nx1, ct1, cv1, mk1, a1, a2, a3⟩ | ⟨pl1, nx1, ct1, v1, a1, a2, a3, a4, a5, a6, a7⟩
  · rw [a1, to_0 (by decide) a2, Option.bind_some, Option.bind_some]
    exact Or.inl ⟨pl1, _, _, _, _, _, _, _, _, _, _, _, _, _, _, _, _, _, a3, rfl, rfl⟩
  · rw [a6, to_1 (by decide) a7, Option.bind_some, Option.bind_some]
    dsimp only
    rw [if_neg one_n0, if_neg one_n0]
    rcases number_both hL a4 (nI pl1) ct1 (nI v1) (nI pl1) (nI (1000 + v1)) (a := 1) (b := 999) (lo := 1) (hi := 999) rfl rfl (by decide) (by decide) with ⟨pl2, nx2, ct2, cv2, mk2, b1, b2, b3⟩ | ⟨pl2, nx2, ct2, v2, b1, b2, b3, b4, b5, b6, b7⟩
    · rw [b1, to_0 (by decide) b2, Option.bind_some, Option.bind_some]
      exact Or.inl ⟨pl2, _, _, _, _, _, _, _, _, _, _, _, _, _, _, _, _, _, b3, rfl, rfl⟩
    · rw [b6, to_1 (by decide) b7, Option.bind_some, Option.bind_some]
      dsimp only
      rw [if_neg one_n0, if_neg one_n0]
      rcases number_both hL b4 (nI pl2) ct2 (nI v2) (nI pl2) (nI (1000 + v2)) (a := 1) (b := 99) (lo := 1) (hi := 99) rfl rfl (by decide) (by decide) with ⟨pl3, nx3, ct3, cv3, mk3, c1, c2, c3⟩ | ⟨pl3, nx3, ct3, v3, c1, c2, c3, c4, c5, c6, c7⟩
      · rw [c1, to_0 (by decide) c2, Option.bind_some, Option.bind_some]
        exact Or.inl ⟨pl3, _, _, _, _, _, _, _, _, _, _, _, _, _, _, _, _, _, c3, rfl, rfl⟩
      · rw [c6, to_1 (by decide) c7, Option.bind_some, Option.bind_some]
        dsimp only
        rw [if_neg one_n0, if_neg one_n0]
        obtain ⟨t0, t1, t2, t3, t4, t5, t6⟩ := hT
        obtain ⟨g1, g2, g3, g4, g5, g6, g7⟩ := hg
        exact Or.inr ⟨pl3, nx3, _, _, (g.W, g.H, v1, v2, v3, g.ax, g.ay), shut, dots, _, upd (upd (upd dr 2 (nI v1)) 3 (nI v2)) 4 (nI v3), c5, by omega, c4, ⟨g1, g2, a2, ⟨b1, b2⟩, ⟨c1, c2⟩, g6, g7⟩, ⟨t0, t1, rfl, rfl, rfl, t5, t6⟩, h1, h2, h3, rfl, rfl⟩
theorem ib_measures {n : Nat} {tl mt : Nat → Int32} (hL : Lt n tl mt) {p pl : Nat} (hp : p ≤ n) (hpl : pl ≤ n) (cv mk : Int32) {g : Geo} (hg : g.ok) {dr : Nat → Int32} (hT : RepT g dr) {shut dots : Int64} {it : Nat} (hit : it < 2 ^ 31) (h0 : it = 0 → shut = 0 ∧ dots = 0) :
    IB n p tl (ItIn n p pl tl 103 cv g shut dots (if it = 0 then 1 else 0)) (f_X10_item shut dots (nI n) (nI p) (nI pl) 103 dr mt (nI it)) := by
  have C : ItIn n p pl tl 103 cv g shut dots (if it = 0 then 1 else 0) = if (if it = 0 then 1 else 0 : Int32) = 0 then (j_X8_readItem_117 (nI n) tl (0 : Int32) (nI pl) (nI p) 103 cv (nI g.W) (nI g.H) (nI g.ke) (nI g.po) (nI g.fa) (nI g.ax) (nI g.ay) shut dots) else ((f_X8_readMeasures (nI n) (nI pl) (nI p) 103 cv tl (nI g.W) (nI g.H)).bind (fun z62 => if (z62.1) = 0 then (j_X8_readItem_117 (nI n) tl (0 : Int32) (z62.2.1) (z62.2.2.1) (z62.2.2.2.1) (z62.2.2.2.2.1) (z62.2.2.2.2.2.1) (z62.2.2.2.2.2.2) (nI g.ke) (nI g.po) (nI g.fa) (nI g.ax) (nI g.ay) shut dots) else (j_X8_readItem_117 (nI n) tl (1 : Int32) (z62.2.1) (z62.2.2.1) (z62.2.2.2.1) (z62.2.2.2.2.1) (z62.2.2.2.2.2.1) (z62.2.2.2.2.2.2) (nI g.ke) (nI g.po) (nI g.fa) (nI g.ax) (nI g.ay) shut dots))) := by
    unfold ItIn f_X8_readItem
    rw [if_neg (show ¬ (103 : Int32) = 97 by decide), if_neg (show ¬ (103 : Int32) = 100 by decide), if_pos (show (103 : Int32) = 103 from rfl)]
  unfold f_X10_item
  rw [if_neg (show ¬ (103 : Int32) = 97 by decide), if_neg (show ¬ (103 : Int32) = 100 by decide), if_pos (show (103 : Int32) = 103 from rfl), C]
  by_cases hz : it = 0
  · obtain ⟨e1, e2⟩ := h0 hz
    subst hz
    subst e1
    subst e2
    rw [if_neg (by decide), if_pos (by decide)]
    unfold f_X8_readMeasures
    rcases number_both hL hp (nI pl) 103 cv (nI pl) 103 (a := 1) (b := 8) (lo := 1) (hi := 8) rfl rfl (by decide) (by decide) with ⟨pl1, nx1, ct1, cv1, mk1, a1, a2, a3⟩ | ⟨pl1, nx1, ct1, v1, a1, a2, a3, a4, a5, a6, a7⟩
    · rw [a1, to_0 (by decide) a2, Option.bind_some, Option.bind_some]
      exact Or.inl ⟨pl1, _, _, _, _, _, _, _, _, _, _, _, _, _, _, _, _, _, a3, rfl, rfl⟩
    · rw [a6, to_1 (by decide) a7, Option.bind_some, Option.bind_some]
      dsimp only
      rw [if_neg one_n0, if_neg one_n0]
      rcases number_both hL a4 (nI pl1) ct1 (nI v1) (nI pl1) (nI (1000 + v1)) (a := 1) (b := 8) (lo := 1) (hi := 8) rfl rfl (by decide) (by decide) with ⟨pl2, nx2, ct2, cv2, mk2, b1, b2, b3⟩ | ⟨pl2, nx2, ct2, v2, b1, b2, b3, b4, b5, b6, b7⟩
      · rw [b1, to_0 (by decide) b2, Option.bind_some, Option.bind_some]
        exact Or.inl ⟨pl2, _, _, _, _, _, _, _, _, _, _, _, _, _, _, _, _, _, b3, rfl, rfl⟩
      · rw [b6, to_1 (by decide) b7, Option.bind_some, Option.bind_some]
        dsimp only
        rw [if_neg one_n0, if_neg one_n0]
        obtain ⟨t0, t1, t2, t3, t4, t5, t6⟩ := hT
        obtain ⟨g1, g2, g3, g4, g5, g6, g7⟩ := hg
        exact Or.inr ⟨pl2, nx2, _, _, (v1, v2, g.ke, g.po, g.fa, g.ax, g.ay), 0, 0, _, upd (upd dr 0 (nI v1)) 1 (nI v2), b5, by omega, b4, ⟨⟨a1, a2⟩, ⟨b1, b2⟩, g3, g4, g5, g6, g7⟩, ⟨rfl, rfl, t2, t3, t4, t5, t6⟩, Inn_zero _, Inn_zero _, fun k _ => bit_zero k, rfl, rfl⟩
  · rw [if_pos (if_neg hz), if_neg (show ¬ nI it = 0 from fun e => hz ((nI_eq hit (by decide)).mp e))]
    exact Or.inl ⟨pl, _, _, _, _, _, _, _, _, _, _, _, _, _, _, _, _, _, hpl, rfl, rfl⟩
/-- one more cell in one of the sets -/
theorem ib_cell {n : Nat} {tl mt : Nat → Int32} (hL : Lt n tl mt) {p pl : Nat} (hp : p ≤ n) (tk cv : Int32) {g : Geo} (hg : g.ok) {dr : Nat → Int32} (hT : RepT g dr) {shut dots : Int64} (h1 : Inn g shut) (h2 : Inn g dots) (h3 : ∀ k, bit shut k = true → bit dots k = false) (w : Int32) :
    (∃ pl' nx ct cv' x2, pl' ≤ n ∧ f_X8_readCell (nI n) (nI pl) (nI p) tk cv tl (nI g.W) (nI g.H) shut dots w = some (0, nI pl', nx, ct, cv', shut, dots) ∧ f_X10_readsCell shut dots (nI n) (nI p) (nI pl) tk dr mt w = some (0, shut, dots, nx, nI pl', x2)) ∨
    (∃ (pl' nx : Nat) (ct cv' x2 : Int32) (l m : Int64), pl' ≤ n ∧ p ≤ nx ∧ nx ≤ n ∧ Inn g l ∧ Inn g m ∧ (∀ k, bit l k = true → bit m k = false) ∧ f_X8_readCell (nI n) (nI pl) (nI p) tk cv tl (nI g.W) (nI g.H) shut dots w = some (1, nI pl', nI nx, ct, cv', l, m) ∧ f_X10_readsCell shut dots (nI n) (nI p) (nI pl) tk dr mt w = some (1, l, m, nI nx, nI pl', x2)) := by
  obtain ⟨t0, t1, -⟩ := hT
  have hW := hg.1
  have hH := hg.2.1
  unfold f_X8_readCell f_X10_readsCell
  rw [if_pos B0, T0, t0, T1, t1]
  rcases number_both hL hp (nI pl) tk cv (nI pl) tk (a := 0) (b := g.W - 1) (lo := 0) (hi := nI g.W - 1) rfl (by rw [L1, pk_sub hW.1]) (by omega) (by decide) with ⟨pl1, nx1, ct1, cv1, mk1, a1, a2, a3⟩ | ⟨pl1, nx1, ct1, x, a1, a2, a3, a4, a5, a6, a7⟩
  · rw [a1, a2, Option.bind_some, Option.bind_some]
    exact Or.inl ⟨pl1, _, _, _, _, a3, rfl, rfl⟩
  · rw [a6, a7, Option.bind_some, Option.bind_some]
    dsimp only
    rw [if_neg one_n0, if_neg one_n0, number10, Option.bind_some, if_pos B1]
    rcases number_both hL a4 (nI pl1) ct1 (nI x) (nI pl1) (nI (1000 + x)) (a := 0) (b := g.H - 1) (lo := 0) (hi := nI g.H - 1) rfl (by rw [L1, pk_sub hH.1]) (by omega) (by decide) with ⟨pl2, nx2, ct2, cv2, mk2, b1, b2, b3⟩ | ⟨pl2, nx2, ct2, y, b1, b2, b3, b4, b5, b6, b7⟩
    · rw [b1, b2, Option.bind_some, Option.bind_some]
      exact Or.inl ⟨pl2, _, _, _, _, b3, rfl, rfl⟩
    · rw [b6, b7, Option.bind_some, Option.bind_some]
      dsimp only
      rw [if_neg one_n0, if_neg one_n0, number10, Option.bind_some, numberOf5 hg (by omega) (by omega), Option.bind_some, if_pos B0, pk_mul, nI_add]
      have hk : y * g.W + x < g.N := yx_lt (show x < g.W by omega) (show y < g.H by omega)
      have hN := Geo.N_le hg
      generalize y * g.W + x = k at hk
      rw [if_neg (fun e => m1_ne k (by omega) e.symm), has9 _ (by omega), has10 _ (by omega), Option.bind_some, Option.bind_some]
      by_cases hb : bit (shut ||| dots) k = true
      · rw [if_pos hb, if_neg one_n0, if_neg one_n0]
        exact Or.inl ⟨pl2, _, _, _, _, b5, rfl, rfl⟩
      · rw [if_neg hb, if_pos rfl, if_pos rfl]
        have hb' : bit shut k = false ∧ bit dots k = false := by
          rw [bit_or] at hb
          revert hb
          cases bit shut k <;> cases bit dots k <;> simp
        unfold j_X10_readsCell_89 j_X10_readsCell_109
        rw [Int64.or_zero, Int64.or_zero]
        by_cases hw : w = 0
        · rw [if_pos hw, if_pos hw, if_pos hw]
          refine Or.inr ⟨pl2, nx2, _, _, _, shut, dots ||| lsh 1 (nI k), b5, by omega, b4, h1, ?_, ?_, rfl, rfl⟩
          · intro j hj
            rw [bit_set _ (by omega)] at hj
            by_cases hjk : j = k
            · omega
            · rw [decide_eq_false hjk, Bool.or_false] at hj
              exact h2 j hj
          · intro j hj
            rw [bit_set _ (by omega), h3 j hj]
            by_cases hjk : j = k
            · rw [hjk, hb'.1] at hj
              cases hj
            · rw [decide_eq_false hjk]
              rfl
        · rw [if_neg hw, if_neg hw, if_neg hw]
          refine Or.inr ⟨pl2, nx2, _, _, _, shut ||| lsh 1 (nI k), dots, b5, by omega, b4, ?_, h2, ?_, rfl, rfl⟩
          · intro j hj
            rw [bit_set _ (by omega)] at hj
            by_cases hjk : j = k
            · omega
            · rw [decide_eq_false hjk, Bool.or_false] at hj
              exact h1 j hj
          · intro j hj
            rw [bit_set _ (by omega)] at hj
            by_cases hjk : j = k
            · rw [hjk]
              exact hb'.2
            · rw [decide_eq_false hjk, Bool.or_false] at hj
              exact h3 j hj
theorem ib_dots {n : Nat} {tl mt : Nat → Int32} (hL : Lt n tl mt) {p pl : Nat} (hp : p ≤ n) (cv : Int32) {g : Geo} (hg : g.ok) {dr : Nat → Int32} (hT : RepT g dr) {shut dots : Int64} (h1 : Inn g shut) (h2 : Inn g dots) (h3 : ∀ k, bit shut k = true → bit dots k = false) (fst it : Int32) :
    IB n p tl (ItIn n p pl tl 100 cv g shut dots fst) (f_X10_item shut dots (nI n) (nI p) (nI pl) 100 dr mt it) := by
  unfold ItIn f_X8_readItem f_X10_item
  rw [if_neg (show ¬ (100 : Int32) = 97 by decide), if_neg (show ¬ (100 : Int32) = 97 by decide), if_pos (show (100 : Int32) = 100 from rfl), if_pos (show (100 : Int32) = 100 from rfl)]
  rcases ib_cell hL hp (pl := pl) 100 cv hg hT h1 h2 h3 0 with ⟨pl', nx, ct, cv', x2, a1, a2, a3⟩ | ⟨pl', nx, ct, cv', x2, l, m, a1, a2, a3, a4, a5, a6, a7, a8⟩
  · rw [a2, a3, Option.bind_some, Option.bind_some]
    exact Or.inl ⟨pl', _, _, _, _, _, _, _, _, _, _, _, _, _, _, _, _, _, a1, rfl, rfl⟩
  · rw [a7, a8, Option.bind_some, Option.bind_some]
    exact Or.inr ⟨pl', nx, _, _, g, l, m, _, _, a1, a2, a3, hg, hT, a4, a5, a6, rfl, rfl⟩
theorem ib_shut {n : Nat} {tl mt : Nat → Int32} (hL : Lt n tl mt) {p pl : Nat} (hp : p ≤ n) (cv : Int32) {g : Geo} (hg : g.ok) {dr : Nat → Int32} (hT : RepT g dr) {shut dots : Int64} (h1 : Inn g shut) (h2 : Inn g dots) (h3 : ∀ k, bit shut k = true → bit dots k = false) (fst it : Int32) :
    IB n p tl (ItIn n p pl tl 115 cv g shut dots fst) (f_X10_item shut dots (nI n) (nI p) (nI pl) 115 dr mt it) := by
  unfold ItIn f_X8_readItem f_X10_item
  rw [if_neg (show ¬ (115 : Int32) = 97 by decide), if_neg (show ¬ (115 : Int32) = 97 by decide), if_neg (show ¬ (115 : Int32) = 100 by decide), if_neg (show ¬ (115 : Int32) = 100 by decide), if_neg (show ¬ (115 : Int32) = 103 by decide), if_neg (show ¬ (115 : Int32) = 103 by decide), if_neg (show ¬ (115 : Int32) = 107 by decide), if_neg (show ¬ (115 : Int32) = 107 by decide), if_pos (show (115 : Int32) = 115 from rfl), if_pos (show (115 : Int32) = 115 from rfl)]
  rcases ib_cell hL hp (pl := pl) 115 cv hg hT h1 h2 h3 1 with ⟨pl', nx, ct, cv', x2, a1, a2, a3⟩ | ⟨pl', nx, ct, cv', x2, l, m, a1, a2, a3, a4, a5, a6, a7, a8⟩
  · rw [a2, a3, Option.bind_some, Option.bind_some]
    exact Or.inl ⟨pl', _, _, _, _, _, _, _, _, _, _, _, _, _, _, _, _, _, a1, rfl, rfl⟩
  · rw [a7, a8, Option.bind_some, Option.bind_some]
    exact Or.inr ⟨pl', nx, _, _, g, l, m, _, _, a1, a2, a3, hg, hT, a4, a5, a6, rfl, rfl⟩
/-- any item's body -/
theorem ib_any {n : Nat} {tl mt : Nat → Int32} (hL : Lt n tl mt) {p pl : Nat} (hp : p ≤ n) (hpl : pl ≤ n) {ct cv mk : Int32} (hk : TKR ct cv mk) {g : Geo} (hg : g.ok) {dr : Nat → Int32} (hT : RepT g dr) {shut dots : Int64} (h1 : Inn g shut) (h2 : Inn g dots) (h3 : ∀ k, bit shut k = true → bit dots k = false) {it : Nat} (hit : it < 2 ^ 31) (h0 : it = 0 → shut = 0 ∧ dots = 0) :
    IB n p tl (ItIn n p pl tl ct cv g shut dots (if it = 0 then 1 else 0)) (f_X10_item shut dots (nI n) (nI p) (nI pl) mk dr mt (nI it)) := by
  by_cases q1 : ct = nI 97
  · rw [(tok_eq hk (by decide)).mp q1, q1]
    exact ib_stretch hL hp cv mk hg hT h1 h2 h3 _ _
  · by_cases q2 : ct = nI 100
    · rw [(tok_eq hk (by decide)).mp q2, q2]
      exact ib_dots hL hp cv hg hT h1 h2 h3 _ _
    · by_cases q3 : ct = nI 103
      · rw [(tok_eq hk (by decide)).mp q3, q3]
        exact ib_measures hL hp hpl cv mk hg hT hit h0
      · by_cases q4 : ct = nI 107
        · rw [(tok_eq hk (by decide)).mp q4, q4]
          exact ib_kernel hL hp cv mk hg hT h1 h2 h3 _ _
        · by_cases q5 : ct = nI 115
          · rw [(tok_eq hk (by decide)).mp q5, q5]
            exact ib_shut hL hp cv hg hT h1 h2 h3 _ _
          · unfold ItIn f_X8_readItem f_X10_item
            have w1 := fun e => q1 ((tok_eq hk (c := 97) (by decide)).mpr e)
            have w2 := fun e => q2 ((tok_eq hk (c := 100) (by decide)).mpr e)
            have w3 := fun e => q3 ((tok_eq hk (c := 103) (by decide)).mpr e)
            have w4 := fun e => q4 ((tok_eq hk (c := 107) (by decide)).mpr e)
            have w5 := fun e => q5 ((tok_eq hk (c := 115) (by decide)).mpr e)
            rw [if_neg (show ¬ ct = 97 from q1), if_neg (show ¬ mk = 97 from w1), if_neg (show ¬ ct = 100 from q2), if_neg (show ¬ mk = 100 from w2), if_neg (show ¬ ct = 103 from q3), if_neg (show ¬ mk = 103 from w3), if_neg (show ¬ ct = 107 from q4), if_neg (show ¬ mk = 107 from w4), if_neg (show ¬ ct = 115 from q5), if_neg (show ¬ mk = 115 from w5)]
            exact Or.inl ⟨pl, _, _, _, _, _, _, _, _, _, _, _, _, _, _, _, _, _, hpl, rfl, rfl⟩
