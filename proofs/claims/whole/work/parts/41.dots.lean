/-! The dots: the questions and the changes, on both sides. -/
def GI (g : Geo) (shut free dots : Int64) (cols lins dist wts sums told : Nat → Int32) : Prop := g.ok ∧ Inn g shut ∧ Fr g shut free ∧ Tab g cols lins dist wts ∧ HOk g dots sums ∧ Sub dots free ∧ RepT g told
theorem h9t {x : Int64} {k : Nat} (hk : k < 64) (h : bit x k = true) : f_X9_has x (nI k) = some 1 := by rw [has9 x hk, if_pos h]
theorem h9f {x : Int64} {k : Nat} (hk : k < 64) (h : bit x k = false) : f_X9_has x (nI k) = some 0 := by rw [has9 x hk, if_neg (by rw [h]; decide)]
theorem h10t {x : Int64} {k : Nat} (hk : k < 64) (h : bit x k = true) : f_X10_has x (nI k) = some 1 := by rw [has10 x hk, if_pos h]
theorem h10f {x : Int64} {k : Nat} (hk : k < 64) (h : bit x k = false) : f_X10_has x (nI k) = some 0 := by rw [has10 x hk, if_neg (by rw [h]; decide)]
theorem Fr.t {g : Geo} {shut free : Int64} (hF : Fr g shut free) (hg : g.ok) {c : Nat} (hc : c < g.N) (h : bit shut c = false) : bit free c = true := by
  have hN := Geo.N_le hg
  rw [hF c (by omega), h, decide_eq_true hc]
  rfl
theorem Fr.f {g : Geo} {shut free : Int64} (hF : Fr g shut free) (hg : g.ok) {c : Nat} (hc : c < g.N) (h : bit shut c = true) : bit free c = false := by
  have hN := Geo.N_le hg
  rw [hF c (by omega), h, Bool.not_true, Bool.and_false]
theorem sub_xor {S free : Int64} {c : Nat} (hc : c < 64) (hS : Sub S free) (hb : bit free c = true) : Sub (S ^^^ lsh 1 (nI c)) free := by
  intro j hj
  rw [bit_flp S hc] at hj
  by_cases q : j = c
  · rw [q]
    exact hb
  · rw [decide_eq_false q, Bool.xor_false] at hj
    exact hS j hj
section QD
variable {g : Geo} {shut free dots : Int64} {cols lins dist wts sums told : Nat → Int32}
theorem p_cell (h : GI g shut free dots cols lins dist wts sums told) (th x y : Int32) : ∃ v, f_X9_cell (nI g.W) (nI g.H) shut dots x y = some v ∧ f_X10_cell th shut dots told x y = some (v, 0) := by
  obtain ⟨hg, hs, hF, hTb, hS, hD, hT⟩ := h
  have hN := Geo.N_le hg
  unfold f_X9_cell f_X10_cell
  rcases place_both hg hT x y with ⟨e1, e2⟩ | ⟨c, hc, e1, e2, e3⟩
  · rw [e1, e2, Option.bind_some, Option.bind_some, if_pos rfl, if_pos rfl]
    exact ⟨-1, rfl, rfl⟩
  · rw [e1, e2, Option.bind_some, Option.bind_some, if_neg (fun e => m1_ne c (by omega) e.symm), if_neg one_n0, e3, Option.bind_some]
    cases h1 : bit shut c with
    | true =>
      rw [h9t (by omega) h1, h10t (by omega) h1, Option.bind_some, Option.bind_some]
      exact ⟨2, rfl, rfl⟩
    | false =>
      rw [h9f (by omega) h1, h10f (by omega) h1, Option.bind_some, Option.bind_some, if_pos rfl, if_pos rfl, Option.bind_some]
      cases h2 : bit dots c with
      | true =>
        rw [h9t (by omega) h2, h10t (by omega) h2, Option.bind_some, Option.bind_some]
        exact ⟨1, rfl, rfl⟩
      | false =>
        rw [h9f (by omega) h2, h10f (by omega) h2, Option.bind_some, Option.bind_some]
        exact ⟨0, rfl, rfl⟩
theorem p_near (h : GI g shut free dots cols lins dist wts sums told) (th x y z : Int32) : ∃ v, f_X9_near (nI g.N) cols lins dist wts x y z = some v ∧ f_X10_near th told x y z = some (v, 0) := by
  obtain ⟨hg, hs, hF, hTb, hS, hD, hT⟩ := h
  unfold f_X9_near f_X10_near
  rcases cell_both hg hT x with ⟨e1, e2⟩ | ⟨a, ha, rfl, e1, e2⟩
  · rw [e1, e2, Option.bind_some, Option.bind_some]
    exact ⟨-1, rfl, rfl⟩
  · rw [e1, e2, Option.bind_some, Option.bind_some, if_neg one_n0, if_neg one_n0]
    rcases cell_both hg hT y with ⟨e3, e4⟩ | ⟨b, hb, rfl, e3, e4⟩
    · rw [e3, e4, Option.bind_some, Option.bind_some]
      exact ⟨-1, rfl, rfl⟩
    · rw [e3, e4, Option.bind_some, Option.bind_some, if_neg one_n0, if_neg one_n0]
      rcases range0 z with hz | ⟨k, hk, rfl⟩
      · rw [if_pos hz, in_neg hz, Option.bind_some]
        exact ⟨-1, rfl, rfl⟩
      · rw [if_neg (nI_n0 k hk)]
        by_cases q : k ≤ 1
        · rw [if_pos (show nI k ≤ 1 from nI_le q (by decide)), in_yes (hi := 1) (b := 1) hk (by decide) rfl q, Option.bind_some, if_neg one_n0]
          by_cases q0 : nI k = 0
          · rw [if_pos q0, if_pos q0, distance0 hg hTb ha hb, distance10 hg hT ha hb, Option.bind_some, Option.bind_some]
            exact ⟨_, rfl, rfl⟩
          · rw [if_neg q0, if_neg q0, weight0 hg hTb ha hb, distance10 hg hT ha hb, Option.bind_some, Option.bind_some, weight10 hg hT (Geo.dst_le hg a b), Option.bind_some]
            exact ⟨_, rfl, rfl⟩
        · rw [if_neg (show ¬ nI k ≤ 1 from fun e => q ((nI_leI (b := 1) hk (by decide)).mp e)), in_no (hi := 1) (b := 1) hk (by decide) rfl (by omega), Option.bind_some]
          exact ⟨-1, rfl, rfl⟩
theorem p_flips (h : GI g shut free dots cols lins dist wts sums told) {U : Nat} {known past : Nat → Int64} (hP : PI free U known past) (th x y : Int32) : ∃ v S' sums' U' known' past', GI g shut free S' cols lins dist wts sums' told ∧ PI free U' known' past' ∧ f_X9_flips (nI g.W) (nI g.H) shut (nI g.N) cols lins wts dots sums (nI U) known x y = some (v, S', sums', nI U', known') ∧ f_X10_flips th shut dots (nI U) told past x y = some (v, 0, S', nI U', past') := by
  have h0 := h
  obtain ⟨hg, hs, hF, hTb, hS, hD, hT⟩ := h
  have hN := Geo.N_le hg
  unfold f_X9_flips f_X10_flips
  rcases place_both hg hT x y with ⟨e1, e2⟩ | ⟨c, hc, e1, e2, e3⟩
  · rw [e1, e2, Option.bind_some, Option.bind_some, if_pos rfl, if_pos rfl]
    exact ⟨-1, dots, sums, U, known, past, h0, hP, rfl, rfl⟩
  · rw [e1, e2, Option.bind_some, Option.bind_some, if_neg (fun e => m1_ne c (by omega) e.symm), if_neg one_n0, e3, Option.bind_some]
    cases h1 : bit shut c with
    | true =>
      rw [h9t (by omega) h1, h10t (by omega) h1, Option.bind_some, Option.bind_some]
      exact ⟨-2, dots, sums, U, known, past, h0, hP, rfl, rfl⟩
    | false =>
      rw [h9f (by omega) h1, h10f (by omega) h1, Option.bind_some, Option.bind_some, if_pos rfl, if_pos rfl]
      obtain ⟨U', known', past', p1, p2, p3⟩ := remember_both hP hD
      obtain ⟨sums', s1, s2⟩ := flip1 hg hTb hS hc
      rw [p2, p3, Option.bind_some, Option.bind_some, s2, Option.bind_some, Option.bind_some, Option.bind_some]
      have hG : GI g shut free (dots ^^^ lsh 1 (nI c)) cols lins dist wts sums' told := ⟨hg, hs, hF, hTb, s1, sub_xor (by omega) hD (hF.t hg hc h1), hT⟩
      dsimp only
      cases h2 : bit (dots ^^^ lsh 1 (nI c)) c with
      | true =>
        rw [h9t (by omega) h2, h10t (by omega) h2, Option.bind_some, Option.bind_some]
        exact ⟨1, _, sums', U', known', past', hG, p1, rfl, rfl⟩
      | false =>
        rw [h9f (by omega) h2, h10f (by omega) h2, Option.bind_some, Option.bind_some]
        exact ⟨0, _, sums', U', known', past', hG, p1, rfl, rfl⟩
/-- one step of the settling -/
theorem rest_both (hg : g.ok) (hF : Fr g shut free) (hTb : Tab g cols lins dist wts) (hT : RepT g told) {S : Int64} {su : Nat → Int32} (hS : HOk g S su) (hD : Sub S free) (h0 : S ≠ 0) : ∃ a b su', a < g.N ∧ b < g.N ∧ HOk g (ins (clr S a) b) su' ∧ Sub (ins (clr S a) b) free ∧ ins (clr S a) b ≠ 0 ∧
    f_X9_restStep (nI g.N) free cols lins wts S su = some (if a = b then 0 else 1, ins (clr S a) b, su') ∧ f_X10_tightest told S = some (nI a) ∧ f_X10_emptiest shut told (clr S a) = some (nI b) := by
  have hN := Geo.N_le hg
  have hf := Fr_inn hF
  obtain ⟨m1, m2, m3⟩ := tg_in (hD.inn hf) (pc_of_ne h0)
  generalize tg g S = a at m1 m2 m3
  obtain ⟨su1, s1, s2⟩ := flip1 hg hTb hS m2
  rw [xor_clr (by omega) m3] at s1 s2
  have hE : bit (free &&& (clr S a ^^^ (-1))) a = true := by
    rw [bit_and, bit_not _ (by omega), hD a m3]
    unfold clr
    rw [bit_clr _ (by omega), decide_eq_true rfl, Bool.not_true, Bool.and_false]
    rfl
  obtain ⟨b, l1⟩ : ∃ b, lo g (free &&& (clr S a ^^^ (-1))) (clr S a) = some b := bst_ex m2 hE
  obtain ⟨l2, l3⟩ : b < g.N ∧ bit (free &&& (clr S a ^^^ (-1))) b = true := bst_some l1
  rw [bit_and, bit_not _ (by omega)] at l3
  have l4 : bit free b = true := by
    revert l3
    cases bit free b <;> simp
  have l5 : bit (clr S a) b = false := by
    revert l3
    cases bit (clr S a) b <;> simp
  obtain ⟨su2, t1, t2⟩ := flip1 hg hTb s1 l2
  have hx := xor_ins (by omega) l5
  rw [hx] at t1 t2
  have hb1 : bit (ins (clr S a) b) b = true := by
    unfold ins
    rw [bit_set _ (by omega), decide_eq_true rfl, Bool.or_true]
  refine ⟨a, b, su2, m2, l2, t1, ?_, ?_, ?_, ?_, ?_⟩
  · intro j hj
    unfold ins at hj
    rw [bit_set _ (by omega)] at hj
    by_cases q : j = b
    · rw [q]
      exact l4
    · rw [decide_eq_false q, Bool.or_false] at hj
      unfold clr at hj
      rw [bit_clr _ (by omega)] at hj
      refine hD j ?_
      revert hj
      cases bit S j <;> simp
  · intro e
    rw [e, bit_zero] at hb1
    cases hb1
  · unfold f_X9_restStep f_X9_emptyCells
    rw [most1 hg hS, m1, enc_some, Option.bind_some, s2, Option.bind_some, Option.bind_some]
    dsimp only
    rw [least1 hg s1, l1, enc_some, Option.bind_some, t2, Option.bind_some]
    dsimp only
    rw [ite_eq (by omega) (by omega)]
    by_cases q : a = b
    · rw [if_pos q, if_pos q]
    · rw [if_neg q, if_neg q]
  · rw [tightest10 hg hT, m1, enc_some]
  · rw [emptiest10 hg hT hF, l1, enc_some]
theorem rests_lp (hg : g.ok) (hF : Fr g shut free) (hTb : Tab g cols lins dist wts) (hT : RepT g told) {k : Nat} (hk : k ≤ 64) (ps : Int32) (pk : Nat → Int64) (th u : Int32) (past : Nat → Int64) : ∀ (d i fu fu' : Nat) (S : Int64) (su : Nat → Int32), i + d = k → d < fu → d + 1 < fu' → HOk g S su → Sub S free → S ≠ 0 → ∃ v S' su', HOk g S' su' ∧ Sub S' free ∧ lp_X9_rests_39 (nI g.N) free cols lins wts (nI k) fu (nI i) S su ps pk = some (v, S', su', ps, pk) ∧ lp_X10_rests_40 shut told (nI k) fu' (nI i) 1 (nI i) th S u past = some (v, th, S', u, past) := by
  intro d
  induction d with
  | zero =>
    intro i fu fu' S su hi hfu hfu' hS hD h0
    obtain ⟨j, rfl⟩ : ∃ j, fu = j + 1 := ⟨fu - 1, by omega⟩
    obtain ⟨j', rfl⟩ : ∃ j', fu' = j' + 1 := ⟨fu' - 1, by omega⟩
    have hi : i = k := by omega
    subst hi
    refine ⟨nI i, S, su, hS, hD, ?_, ?_⟩
    · rw [lp_X9_rests_39_s, if_pos (nI_le (Nat.le_refl _) (by omega))]
    · rw [lp_X10_rests_40_s, if_pos (nI_le (Nat.le_refl _) (by omega))]
  | succ d ih =>
    intro i fu fu' S su hi hfu hfu' hS hD h0
    obtain ⟨j, rfl⟩ : ∃ j, fu = j + 1 := ⟨fu - 1, by omega⟩
    obtain ⟨j', rfl⟩ : ∃ j', fu' = j' + 1 + 1 := ⟨fu' - 2, by omega⟩
    obtain ⟨a, b, su', a1, a2, a3, a4, a5, a6, a7, a8⟩ := rest_both hg hF hTb hT hS hD h0
    have hN := Geo.N_le hg
    have A : lp_X9_rests_39 (nI g.N) free cols lins wts (nI k) (j + 1) (nI i) S su ps pk = if a = b then some (nI i, ins (clr S a) b, su', ps, pk) else lp_X9_rests_39 (nI g.N) free cols lins wts (nI k) j (nI (i + 1)) (ins (clr S a) b) su' ps pk := by
      rw [lp_X9_rests_39_s, ite_le (by omega) (by omega), if_neg (show ¬ k ≤ i by omega), a6, Option.bind_some]
      dsimp only
      by_cases q : a = b
      · rw [if_pos q, if_pos q, if_pos rfl]
      · rw [if_neg q, if_neg q, if_neg one_n0, nI_1]
    have B : lp_X10_rests_40 shut told (nI k) (j' + 1 + 1) (nI i) 1 (nI i) th S u past = if a = b then lp_X10_rests_40 shut told (nI k) (j' + 1) (nI i) 0 (nI (i + 1)) th (ins (clr S a) b) u past else lp_X10_rests_40 shut told (nI k) (j' + 1) (nI (i + 1)) 1 (nI (i + 1)) th (ins (clr S a) b) u past := by
      rw [lp_X10_rests_40_s, ite_le (by omega) (by omega), if_neg (show ¬ k ≤ i by omega), if_neg one_n0, a7, Option.bind_some]
      rw [show S &&& (lsh 1 (nI a) ^^^ (-1)) = clr S a from rfl, a8, Option.bind_some, ite_eq (by omega) (by omega)]
      unfold j_X10_rests_112 j_X10_rests_123
      by_cases q : a = b
      · rw [if_pos q.symm, if_pos q, if_pos rfl, L0, nI_add, nI_1]
        rfl
      · rw [if_neg (fun e => q e.symm), if_neg q, if_neg one_n0, L1, nI_add]
        rfl
    rw [A, B]
    by_cases q : a = b
    · rw [if_pos q, if_pos q]
      refine ⟨nI i, _, su', a3, a4, rfl, ?_⟩
      rw [lp_X10_rests_40_s, if_pos rfl]
      by_cases q2 : nI k ≤ nI (i + 1)
      · rw [if_pos q2]
      · rw [if_neg q2]
    · rw [if_neg q, if_neg q]
      exact ih (i + 1) j (j' + 1) _ su' (by omega) (by omega) (by omega) a3 a4 a5
theorem p_rests (h : GI g shut free dots cols lins dist wts sums told) {U : Nat} {known past : Nat → Int64} (hP : PI free U known past) (th x : Int32) : ∃ v S' sums' U' known' past', GI g shut free S' cols lins dist wts sums' told ∧ PI free U' known' past' ∧ f_X9_rests (nI g.N) free cols lins wts dots sums (nI U) known x = some (v, S', sums', nI U', known') ∧ f_X10_rests th shut dots (nI U) told past x = some (v, 0, S', nI U', past') := by
  have h0 := h
  obtain ⟨hg, hs, hF, hTb, hS, hD, hT⟩ := h
  unfold f_X9_rests f_X10_rests
  have no : (x < 1 ∨ (¬ x < 1 ∧ ¬ x ≤ 64)) → f_X10_in x 1 64 = some 0 := by
    intro q
    unfold f_X10_in
    rcases q with q | ⟨q1, q2⟩
    · rw [if_pos q]
    · rw [if_neg q1, if_pos (Int32.not_le.mp q2)]
  by_cases q1 : x < 1
  · rw [if_pos q1, no (Or.inl q1), Option.bind_some, if_pos rfl]
    exact ⟨-1, dots, sums, U, known, past, h0, hP, rfl, rfl⟩
  · rw [if_neg q1]
    by_cases q2 : x ≤ 64
    · rw [if_pos q2]
      have yes : f_X10_in x 1 64 = some 1 := by
        unfold f_X10_in
        rw [if_neg q1, if_neg (Int32.not_lt.mpr q2)]
      rw [yes, Option.bind_some, if_neg one_n0]
      by_cases hz : dots = 0
      · rw [noDots_1 hz, if_pos (cmp_1 hz), Option.bind_some]
        exact ⟨-2, dots, sums, U, known, past, h0, hP, rfl, rfl⟩
      · rw [noDots_0 hz, if_neg (cmp_0 hz), Option.bind_some, if_pos rfl]
        obtain ⟨U', known', past', p1, p2, p3⟩ := remember_both hP hD
        rw [p2, p3, Option.bind_some, Option.bind_some]
        obtain ⟨k, hk1, rfl⟩ : ∃ k, k ≤ 64 ∧ x = nI k := by
          rcases range0 x with hx | ⟨k, hk, rfl⟩
          · exact absurd (Int32.lt_of_lt_of_le hx (by decide)) q1
          · exact ⟨k, (nI_leI (b := 64) hk (by decide)).mp q2, rfl⟩
        obtain ⟨v, S', su', r1, r2, r3, r4⟩ := rests_lp hg hF hTb hT hk1 (nI U') known' 0 (nI U') past' k 0 FU FU dots sums (by omega) (by unfold FU; omega) (by unfold FU; omega) hS hD hz
        exact ⟨v, S', su', U', known', past', ⟨hg, hs, hF, hTb, r1, r2, hT⟩, p1, r3, r4⟩
    · rw [if_neg q2, no (Or.inr ⟨q1, q2⟩), Option.bind_some, if_pos rfl]
      exact ⟨-1, dots, sums, U, known, past, h0, hP, rfl, rfl⟩
theorem p_moves (h : GI g shut free dots cols lins dist wts sums told) {U : Nat} {known past : Nat → Int64} (hP : PI free U known past) (th x y : Int32) : ∃ v S' sums' U' known' past', GI g shut free S' cols lins dist wts sums' told ∧ PI free U' known' past' ∧ f_X9_moves (nI g.N) free cols lins wts dots sums (nI U) known x y = some (v, S', sums', nI U', known') ∧ f_X10_moves th shut dots (nI U) told past x y = some (v, 0, S', nI U', past') := by
  have h0 := h
  obtain ⟨hg, hs, hF, hTb, hS, hD, hT⟩ := h
  have hN := Geo.N_le hg
  unfold f_X9_moves f_X10_moves
  rcases cell_both hg hT x with ⟨e1, e2⟩ | ⟨a, ha, rfl, e1, e2⟩
  · rw [e1, e2, Option.bind_some, Option.bind_some]
    exact ⟨-1, dots, sums, U, known, past, h0, hP, rfl, rfl⟩
  · rw [e1, e2, Option.bind_some, Option.bind_some, if_neg one_n0, if_neg one_n0]
    rcases cell_both hg hT y with ⟨e3, e4⟩ | ⟨b, hb, rfl, e3, e4⟩
    · rw [e3, e4, Option.bind_some, Option.bind_some]
      exact ⟨-1, dots, sums, U, known, past, h0, hP, rfl, rfl⟩
    · rw [e3, e4, Option.bind_some, Option.bind_some, if_neg one_n0, if_neg one_n0]
      cases h1 : bit dots a with
      | false =>
        rw [h9f (by omega) h1, h10f (by omega) h1, Option.bind_some, Option.bind_some]
        exact ⟨-2, dots, sums, U, known, past, h0, hP, rfl, rfl⟩
      | true =>
        rw [h9t (by omega) h1, h10t (by omega) h1, Option.bind_some, Option.bind_some, if_neg one_n0, if_neg one_n0, show f_X9_emptyCells free dots = some (free &&& (dots ^^^ (-1))) from rfl, Option.bind_some]
        cases h2 : bit (dots ||| shut) b with
        | true =>
          have h3 : bit (free &&& (dots ^^^ (-1))) b = false := by
            rw [bit_and, bit_not _ (by omega)]
            rw [bit_or] at h2
            cases h4 : bit shut b with
            | true =>
              rw [hF.f hg hb h4]
              rfl
            | false =>
              rw [h4, Bool.or_false] at h2
              rw [h2, Bool.not_true, Bool.and_false]
          rw [h9f (by omega) h3, h10t (by omega) h2, Option.bind_some, Option.bind_some]
          exact ⟨-2, dots, sums, U, known, past, h0, hP, rfl, rfl⟩
        | false =>
          have h4 : bit shut b = false ∧ bit dots b = false := by
            rw [bit_or] at h2
            revert h2
            cases bit shut b <;> cases bit dots b <;> simp
          have h3 : bit (free &&& (dots ^^^ (-1))) b = true := by
            rw [bit_and, bit_not _ (by omega), hF.t hg hb h4.1, h4.2]
            rfl
          rw [h9t (by omega) h3, h10f (by omega) h2, Option.bind_some, Option.bind_some, if_neg one_n0, if_pos rfl]
          obtain ⟨U', known', past', p1, p2, p3⟩ := remember_both hP hD
          obtain ⟨su1, s1, s2⟩ := flip1 hg hTb hS ha
          have hx := xor_clr (by omega) h1
          rw [hx] at s1 s2
          have h5 : bit (clr dots a) b = false := by
            unfold clr
            rw [bit_clr _ (by omega), h4.2, Bool.false_and]
          obtain ⟨su2, t1, t2⟩ := flip1 hg hTb s1 hb
          have hy := xor_ins (by omega) h5
          rw [hy] at t1 t2
          rw [p2, p3, Option.bind_some, Option.bind_some, pairs1 hg hTb hS, Option.bind_some, energy10 hg hT, Option.bind_some, s2, Option.bind_some]
          dsimp only
          rw [t2, Option.bind_some]
          dsimp only
          rw [pairs1 hg hTb t1, Option.bind_some, show f_X10_moved dots (nI a) (nI b) = some (ins (clr dots a) b) from rfl, Option.bind_some, energy10 hg hT, Option.bind_some]
          refine ⟨_, _, su2, U', known', past', ⟨hg, hs, hF, hTb, t1, ?_, hT⟩, p1, rfl, rfl⟩
          rw [← hy, ← hx]
          refine sub_xor (by omega) ?_ (hF.t hg hb h4.1)
          exact sub_xor (by omega) hD (hD a h1)
theorem p_undo (h : GI g shut free dots cols lins dist wts sums told) {U : Nat} {known past : Nat → Int64} (hP : PI free U known past) (th : Int32) : ∃ v S' sums' U', GI g shut free S' cols lins dist wts sums' told ∧ PI free U' known past ∧ f_X9_undo (nI g.N) cols lins wts dots sums (nI U) known = some (v, S', sums', nI U') ∧ f_X10_undo th dots (nI U) past = some (v, 0, S', nI U') := by
  have h0 := h
  obtain ⟨hg, hs, hF, hTb, hS, hD, hT⟩ := h
  have hU := hP.1
  unfold f_X9_undo f_X10_undo
  by_cases q : U = 0
  · subst q
    exact ⟨-2, dots, sums, 0, h0, hP, rfl, rfl⟩
  · have q' : ¬ nI U = 0 := fun e => q ((nI_eq (b := 0) (by omega) (by decide)).mp e)
    rw [if_neg q', if_neg q']
    unfold f_X3_latest
    have e1 : nI U - 1 = nI (U - 1) := by rw [L1, pk_sub (by omega)]
    rw [if_pos (show (1 : Int32) ≤ nI U from nI_le (a := 1) (by omega) (by omega)), e1, if_pos (inb_t (show U - 1 < 10 by omega) (by decide)), if_pos (inb_t (show U - 1 < 10 by omega) (by decide)), nI_clamp (by omega), Option.bind_some]
    obtain ⟨k1, k2⟩ := hP.2 (U - 1) (by omega)
    have hf := Fr_inn hF
    obtain ⟨su', s1, s2⟩ := become1 hg hTb hS (hD.inn hf) (k2.inn hf)
    dsimp only
    rw [k1, s2, Option.bind_some]
    exact ⟨_, _, su', U - 1, ⟨hg, hs, hF, hTb, s1, k2, hT⟩, ⟨by omega, fun i hi => hP.2 i (by omega)⟩, rfl, rfl⟩
theorem p_held (h : GI g shut free dots cols lins dist wts sums told) (th x y : Int32) : ∃ v, f_X9_held (nI g.W) (nI g.H) (nI g.N) sums x y = some v ∧ f_X10_held th dots told x y = some (v, 0) := by
  obtain ⟨hg, hs, hF, hTb, hS, hD, hT⟩ := h
  have hN := Geo.N_le hg
  unfold f_X9_held f_X10_held
  rcases place_both hg hT x y with ⟨e1, e2⟩ | ⟨c, hc, e1, e2, e3⟩
  · rw [e1, e2, Option.bind_some, Option.bind_some, if_pos rfl, if_pos rfl]
    exact ⟨-1, rfl, rfl⟩
  · rw [e1, e2, Option.bind_some, Option.bind_some, if_neg (fun e => m1_ne c (by omega) e.symm), if_neg one_n0, e3, Option.bind_some, sumAt1 hg hS hc, Option.bind_some, heldBy10 hg hT dots hc, Option.bind_some]
    exact ⟨_, rfl, rfl⟩
theorem enc_both (o : Option Nat) (ho : ∀ b, o = some b → b < 2 ^ 31) : j_X9_extreme_43 (enc (-1) o) = some (enc (-9) o) := by
  unfold j_X9_extreme_43
  cases o with
  | none => rfl
  | some b =>
    rw [enc_some, enc_some, if_neg (fun e => m1_ne b (ho b rfl) e.symm)]
theorem p_extreme (h : GI g shut free dots cols lins dist wts sums told) (th x : Int32) : ∃ v, f_X9_extreme (nI g.N) free dots sums x = some v ∧ f_X10_extreme th shut dots told x = some (v, 0) := by
  obtain ⟨hg, hs, hF, hTb, hS, hD, hT⟩ := h
  have hN := Geo.N_le hg
  unfold f_X9_extreme f_X10_extreme
  rcases range0 x with hx | ⟨k, hk, rfl⟩
  · rw [if_pos hx, in_neg hx, Option.bind_some]
    exact ⟨-1, rfl, rfl⟩
  · rw [if_neg (nI_n0 k hk)]
    by_cases q : k ≤ 1
    · rw [if_pos (show nI k ≤ 1 from nI_le q (by decide)), in_yes (hi := 1) (b := 1) hk (by decide) rfl q, Option.bind_some, if_neg one_n0]
      by_cases q0 : nI k = 0
      · rw [if_pos q0, if_pos q0, most1 hg hS, Option.bind_some, tightest10 hg hT, Option.bind_some, enc_both _ (fun b hb => by have := (bst_some hb).1; omega)]
        exact ⟨_, rfl, rfl⟩
      · rw [if_neg q0, if_neg q0, show f_X9_emptyCells free dots = some (free &&& (dots ^^^ (-1))) from rfl, Option.bind_some, least1 hg hS, Option.bind_some, emptiest10 hg hT hF, Option.bind_some, enc_both _ (fun b hb => by have := (bst_some hb).1; omega)]
        exact ⟨_, rfl, rfl⟩
    · rw [if_neg (show ¬ nI k ≤ 1 from fun e => q ((nI_leI (b := 1) hk (by decide)).mp e)), in_no (hi := 1) (b := 1) hk (by decide) rfl (by omega), Option.bind_some]
      exact ⟨-1, rfl, rfl⟩
theorem p_energy (h : GI g shut free dots cols lins dist wts sums told) (th : Int32) : ∃ v, f_X9_energy (nI g.N) cols lins wts dots sums = some v ∧ f_X10_energy th dots told = some (v, 0) := by
  obtain ⟨hg, hs, hF, hTb, hS, hD, hT⟩ := h
  unfold f_X9_energy f_X10_energy
  rw [pairs1 hg hTb hS, energy10 hg hT, Option.bind_some, Option.bind_some]
  exact ⟨_, rfl, rfl⟩
theorem p_better (h : GI g shut free dots cols lins dist wts sums told) (th mg mbd mbc x : Int32) : ∃ v a b c, f_X9_better (nI g.N) free cols lins wts dots sums x = some v ∧ f_X10_better th shut dots mg mbd mbc told x = some (v, 0, a, b, c) := by
  obtain ⟨hg, hs, hF, hTb, hS, hD, hT⟩ := h
  have hN := Geo.N_le hg
  unfold f_X9_better f_X10_better
  rcases range0 x with hx | ⟨k, hk, rfl⟩
  · rw [if_pos hx, in_neg hx, Option.bind_some]
    exact ⟨-1, mg, mbd, mbc, rfl, rfl⟩
  · rw [if_neg (nI_n0 k hk)]
    by_cases q : k ≤ 2
    · rw [if_pos (show nI k ≤ 2 from nI_le q (by decide)), in_yes (hi := 2) (b := 2) hk (by decide) rfl q, Option.bind_some, if_neg one_n0, bestMove9 hg hTb hS, tries10 hg hT hF, Option.bind_some, Option.bind_some]
      have hok : okP (okm free dots) g.N (sct (okm free dots) (gn g dots) g.N g.N) := sct_ok g.N (Nat.le_refl _)
      generalize sct (okm free dots) (gn g dots) g.N g.N = o at hok
      cases o with
      | none =>
        rw [if_pos (show encM none = -1 from rfl)]
        by_cases q0 : nI k = 0
        · rw [if_pos q0, if_pos q0]
          exact ⟨0, _, _, _, rfl, rfl⟩
        · rw [if_neg q0, if_neg q0]
          by_cases q1 : nI k = 1
          · rw [if_pos q1]
            exact ⟨-9, _, _, _, rfl, rfl⟩
          · rw [if_neg q1]
            exact ⟨-9, _, _, _, rfl, rfl⟩
      | some r =>
        obtain ⟨o1, o2, -⟩ := hok r rfl
        rw [show encM (some r) = nI (r.1 * 64 + r.2) from rfl, if_neg (fun e => m1_ne _ (by omega) e.symm), show (64 : Int32) = nI 64 from rfl, pk_rem (by omega) (by decide) (by decide), pk_div (by omega) (by decide) (by decide), show (r.1 * 64 + r.2) / 64 = r.1 by omega, show (r.1 * 64 + r.2) % 64 = r.2 by omega, gain9 hg hTb hS o1 o2, Option.bind_some]
        by_cases q0 : nI k = 0
        · rw [if_pos q0, if_pos q0]
          exact ⟨_, _, _, _, rfl, rfl⟩
        · rw [if_neg q0, if_neg q0]
          by_cases q1 : nI k = 1
          · rw [if_pos q1, if_pos q1]
            exact ⟨_, _, _, _, rfl, rfl⟩
          · rw [if_neg q1, if_neg q1]
            exact ⟨_, _, _, _, rfl, rfl⟩
    · rw [if_neg (show ¬ nI k ≤ 2 from fun e => q ((nI_leI (b := 2) hk (by decide)).mp e)), in_no (hi := 2) (b := 2) hk (by decide) rfl (by omega), Option.bind_some]
      exact ⟨-1, mg, mbd, mbc, rfl, rfl⟩
theorem p_shifts (h : GI g shut free dots cols lins dist wts sums told) (th : Int32) : ∃ v, f_X9_shifts (nI g.W) (nI g.H) shut (nI g.N) cols lins dots = some v ∧ f_X10_shifts th shut dots told = some (v, 0) := by
  obtain ⟨hg, hs, hF, hTb, hS, hD, hT⟩ := h
  exact ⟨_, shifts9 hg hTb dots shut, shifts10 hg hT (hD.inn (Fr_inn hF)) hs th⟩
theorem p_back (h : GI g shut free dots cols lins dist wts sums told) {U : Nat} {known past : Nat → Int64} (hP : PI free U known past) {id mk : Nat → Int64} {ik mik : Nat → Int32} (hK : KI free id ik mk mik) (th x : Int32) : ∃ v S' sums' U', GI g shut free S' cols lins dist wts sums' told ∧ PI free U' known past ∧ f_X9_back (nI g.N) cols lins wts dots sums (nI U) id ik x = some (v, S', sums', nI U') ∧ f_X10_back th dots (nI U) mk mik x = some (v, 0, S', nI U') := by
  have h0 := h
  obtain ⟨hg, hs, hF, hTb, hS, hD, hT⟩ := h
  unfold f_X9_back f_X10_back f_X2_isKept f_X2_dotsOf
  rcases isImage2 x with ⟨e1, e2⟩ | ⟨k, hk, rfl, e1, e2⟩
  · rw [e1, e2, Option.bind_some, Option.bind_some]
    exact ⟨-1, dots, sums, U, h0, hP, rfl, rfl⟩
  · rw [e1, e2, Option.bind_some, Option.bind_some, if_neg one_n0, if_neg one_n0, Option.bind_some, if_neg one_n0, Option.bind_some, if_neg one_n0]
    rw [if_pos (inb_t hk (by decide)), if_pos (inb_t hk (by decide)), if_pos (inb_t hk (by decide)), if_pos (inb_t hk (by decide)), nI_clamp (by omega)]
    obtain ⟨k1, k2, k3⟩ := hK k hk
    rw [k2]
    rcases k1 with q | q
    · rw [q, if_pos rfl, if_pos rfl, Option.bind_some]
      exact ⟨-2, dots, sums, U, h0, hP, rfl, rfl⟩
    · obtain ⟨k4, k5⟩ := k3 q
      rw [q, if_neg one_n0, if_neg one_n0, Option.bind_some, if_neg one_n0, Option.bind_some, k4, ones10, Option.bind_some]
      have hf := Fr_inn hF
      obtain ⟨su', s1, s2⟩ := become1 hg hTb hS (hD.inn hf) (k5.inn hf)
      rw [s2, Option.bind_some]
      dsimp only
      rw [size1, Option.bind_some]
      exact ⟨_, _, su', 0, ⟨hg, hs, hF, hTb, s1, k5, hT⟩, ⟨Nat.zero_le _, fun i hi => absurd hi (Nat.not_lt_zero _)⟩, rfl, rfl⟩

theorem p_count (h : GI g shut free dots cols lins dist wts sums told) {n U k : Nat} (hn : n ≤ 150) (th x : Int32) : ∃ v, f_X9_count (nI n) (nI g.W) (nI g.H) (nI g.ke) (nI g.po) (nI g.fa) (nI g.ax) (nI g.ay) (nI (pc free)) dots (nI k) (nI U) x = some v ∧ f_X10_count th shut dots (nI U) (nI k) (nI n) told x = some (v, 0) := by
  obtain ⟨hg, hs, hF, hTb, hS, hD, hT⟩ := h
  obtain ⟨t0, t1, t2, t3, t4, t5, t6⟩ := id hT
  unfold f_X9_count f_X10_count
  have no : (∀ j, j < 12 → ¬ x = nI j) → f_X10_in x 0 11 = some 0 → ∃ v, f_X9_count (nI n) (nI g.W) (nI g.H) (nI g.ke) (nI g.po) (nI g.fa) (nI g.ax) (nI g.ay) (nI (pc free)) dots (nI k) (nI U) x = some v ∧ f_X10_count th shut dots (nI U) (nI k) (nI n) told x = some (v, 0) := by
    intro q e
    unfold f_X9_count f_X10_count
    rw [e, Option.bind_some]
    rw [if_neg (show ¬ x = 0 from q 0 (by decide)), if_neg (show ¬ x = 1 from q 1 (by decide)), if_neg (show ¬ x = 2 from q 2 (by decide)), if_neg (show ¬ x = 3 from q 3 (by decide)), if_neg (show ¬ x = 4 from q 4 (by decide)), if_neg (show ¬ x = 5 from q 5 (by decide)), if_neg (show ¬ x = 6 from q 6 (by decide)), if_neg (show ¬ x = 7 from q 7 (by decide)), if_neg (show ¬ x = 8 from q 8 (by decide)), if_neg (show ¬ x = 9 from q 9 (by decide)), if_neg (show ¬ x = 10 from q 10 (by decide)), if_neg (show ¬ x = 11 from q 11 (by decide)), if_pos rfl]
    exact ⟨-1, rfl, rfl⟩
  unfold f_X9_count f_X10_count at no
  rcases range0 x with hx | ⟨a, ha, rfl⟩
  · exact no (fun j hj e => nI_n0 j (by omega) (e ▸ hx)) (in_neg hx)
  · by_cases q : a ≤ 11
    · rw [in_yes (hi := 11) (b := 11) ha (by decide) rfl q, Option.bind_some, if_neg one_n0]
      have hc : a = 0 ∨ a = 1 ∨ a = 2 ∨ a = 3 ∨ a = 4 ∨ a = 5 ∨ a = 6 ∨ a = 7 ∨ a = 8 ∨ a = 9 ∨ a = 10 ∨ a = 11 := by omega
      rcases hc with rfl | rfl | rfl | rfl | rfl | rfl | rfl | rfl | rfl | rfl | rfl | rfl
      · refine ⟨nI g.W, ?_, ?_⟩
        · rw [if_pos (show nI 0 = 0 from rfl)]
        · rw [if_neg (show ¬ (2 : Int32) ≤ nI 0 by decide), if_pos (show inb (nI 0) 7 = true by decide), nI_clamp (by decide), t0]
      · refine ⟨nI g.H, ?_, ?_⟩
        · rw [if_neg (show ¬ nI 1 = 0 by decide), if_pos (show nI 1 = 1 from rfl)]
        · rw [if_neg (show ¬ (2 : Int32) ≤ nI 1 by decide), if_pos (show inb (nI 1) 7 = true by decide), nI_clamp (by decide), t1]
      · refine ⟨nI (pc free), ?_, ?_⟩
        · rw [if_neg (show ¬ nI 2 = 0 by decide), if_neg (show ¬ nI 2 = 1 by decide), if_pos (show nI 2 = 2 from rfl)]
        · rw [if_pos (show (2 : Int32) ≤ nI 2 by decide), if_neg (show ¬ (4 : Int32) ≤ nI 2 by decide), if_pos (show nI 2 = 2 from rfl), free10 hg hT hF hs, Option.bind_some]
      · refine ⟨nI (pc dots), ?_, ?_⟩
        · rw [if_neg (show ¬ nI 3 = 0 by decide), if_neg (show ¬ nI 3 = 1 by decide), if_neg (show ¬ nI 3 = 2 by decide), if_pos (show nI 3 = 3 from rfl), size1, Option.bind_some]
        · rw [if_pos (show (2 : Int32) ≤ nI 3 by decide), if_neg (show ¬ (4 : Int32) ≤ nI 3 by decide), if_neg (show ¬ nI 3 = 2 by decide), ones10, Option.bind_some]
      · refine ⟨nI g.ke, ?_, ?_⟩
        · rw [if_neg (show ¬ nI 4 = 0 by decide), if_neg (show ¬ nI 4 = 1 by decide), if_neg (show ¬ nI 4 = 2 by decide), if_neg (show ¬ nI 4 = 3 by decide), if_pos (show nI 4 = 4 from rfl)]
        · rw [if_pos (show (2 : Int32) ≤ nI 4 by decide), if_pos (show (4 : Int32) ≤ nI 4 by decide), if_neg (show ¬ (9 : Int32) ≤ nI 4 by decide), if_pos (show inb (nI 4 - 2) 7 = true by decide), show (nI 4 - 2).toNatClampNeg = 2 from by decide, t2]
      · refine ⟨nI g.po, ?_, ?_⟩
        · rw [if_neg (show ¬ nI 5 = 0 by decide), if_neg (show ¬ nI 5 = 1 by decide), if_neg (show ¬ nI 5 = 2 by decide), if_neg (show ¬ nI 5 = 3 by decide), if_neg (show ¬ nI 5 = 4 by decide), if_pos (show nI 5 = 5 from rfl)]
        · rw [if_pos (show (2 : Int32) ≤ nI 5 by decide), if_pos (show (4 : Int32) ≤ nI 5 by decide), if_neg (show ¬ (9 : Int32) ≤ nI 5 by decide), if_pos (show inb (nI 5 - 2) 7 = true by decide), show (nI 5 - 2).toNatClampNeg = 3 from by decide, t3]
      · refine ⟨nI g.fa, ?_, ?_⟩
        · rw [if_neg (show ¬ nI 6 = 0 by decide), if_neg (show ¬ nI 6 = 1 by decide), if_neg (show ¬ nI 6 = 2 by decide), if_neg (show ¬ nI 6 = 3 by decide), if_neg (show ¬ nI 6 = 4 by decide), if_neg (show ¬ nI 6 = 5 by decide), if_pos (show nI 6 = 6 from rfl)]
        · rw [if_pos (show (2 : Int32) ≤ nI 6 by decide), if_pos (show (4 : Int32) ≤ nI 6 by decide), if_neg (show ¬ (9 : Int32) ≤ nI 6 by decide), if_pos (show inb (nI 6 - 2) 7 = true by decide), show (nI 6 - 2).toNatClampNeg = 4 from by decide, t4]
      · refine ⟨nI g.ax, ?_, ?_⟩
        · rw [if_neg (show ¬ nI 7 = 0 by decide), if_neg (show ¬ nI 7 = 1 by decide), if_neg (show ¬ nI 7 = 2 by decide), if_neg (show ¬ nI 7 = 3 by decide), if_neg (show ¬ nI 7 = 4 by decide), if_neg (show ¬ nI 7 = 5 by decide), if_neg (show ¬ nI 7 = 6 by decide), if_pos (show nI 7 = 7 from rfl)]
        · rw [if_pos (show (2 : Int32) ≤ nI 7 by decide), if_pos (show (4 : Int32) ≤ nI 7 by decide), if_neg (show ¬ (9 : Int32) ≤ nI 7 by decide), if_pos (show inb (nI 7 - 2) 7 = true by decide), show (nI 7 - 2).toNatClampNeg = 5 from by decide, t5]
      · refine ⟨nI g.ay, ?_, ?_⟩
        · rw [if_neg (show ¬ nI 8 = 0 by decide), if_neg (show ¬ nI 8 = 1 by decide), if_neg (show ¬ nI 8 = 2 by decide), if_neg (show ¬ nI 8 = 3 by decide), if_neg (show ¬ nI 8 = 4 by decide), if_neg (show ¬ nI 8 = 5 by decide), if_neg (show ¬ nI 8 = 6 by decide), if_neg (show ¬ nI 8 = 7 by decide), if_pos (show nI 8 = 8 from rfl)]
        · rw [if_pos (show (2 : Int32) ≤ nI 8 by decide), if_pos (show (4 : Int32) ≤ nI 8 by decide), if_neg (show ¬ (9 : Int32) ≤ nI 8 by decide), if_pos (show inb (nI 8 - 2) 7 = true by decide), show (nI 8 - 2).toNatClampNeg = 6 from by decide, t6]
      · refine ⟨nI k, ?_, ?_⟩
        · rw [if_neg (show ¬ nI 9 = 0 by decide), if_neg (show ¬ nI 9 = 1 by decide), if_neg (show ¬ nI 9 = 2 by decide), if_neg (show ¬ nI 9 = 3 by decide), if_neg (show ¬ nI 9 = 4 by decide), if_neg (show ¬ nI 9 = 5 by decide), if_neg (show ¬ nI 9 = 6 by decide), if_neg (show ¬ nI 9 = 7 by decide), if_neg (show ¬ nI 9 = 8 by decide), if_pos (show nI 9 = 9 from rfl)]
        · rw [if_pos (show (2 : Int32) ≤ nI 9 by decide), if_pos (show (4 : Int32) ≤ nI 9 by decide), if_pos (show (9 : Int32) ≤ nI 9 by decide), if_pos (show nI 9 = 9 from rfl)]
      · refine ⟨nI n, ?_, ?_⟩
        · rw [if_neg (show ¬ nI 10 = 0 by decide), if_neg (show ¬ nI 10 = 1 by decide), if_neg (show ¬ nI 10 = 2 by decide), if_neg (show ¬ nI 10 = 3 by decide), if_neg (show ¬ nI 10 = 4 by decide), if_neg (show ¬ nI 10 = 5 by decide), if_neg (show ¬ nI 10 = 6 by decide), if_neg (show ¬ nI 10 = 7 by decide), if_neg (show ¬ nI 10 = 8 by decide), if_neg (show ¬ nI 10 = 9 by decide), if_pos (show nI 10 = 10 from rfl)]
        · rw [if_pos (show (2 : Int32) ≤ nI 10 by decide), if_pos (show (4 : Int32) ≤ nI 10 by decide), if_pos (show (9 : Int32) ≤ nI 10 by decide), if_neg (show ¬ nI 10 = 9 by decide), if_pos (show nI 10 = 10 from rfl)]
      · refine ⟨nI U, ?_, ?_⟩
        · rw [if_neg (show ¬ nI 11 = 0 by decide), if_neg (show ¬ nI 11 = 1 by decide), if_neg (show ¬ nI 11 = 2 by decide), if_neg (show ¬ nI 11 = 3 by decide), if_neg (show ¬ nI 11 = 4 by decide), if_neg (show ¬ nI 11 = 5 by decide), if_neg (show ¬ nI 11 = 6 by decide), if_neg (show ¬ nI 11 = 7 by decide), if_neg (show ¬ nI 11 = 8 by decide), if_neg (show ¬ nI 11 = 9 by decide), if_neg (show ¬ nI 11 = 10 by decide), if_pos (show nI 11 = 11 from rfl)]
        · rw [if_pos (show (2 : Int32) ≤ nI 11 by decide), if_pos (show (4 : Int32) ≤ nI 11 by decide), if_pos (show (9 : Int32) ≤ nI 11 by decide), if_neg (show ¬ nI 11 = 9 by decide), if_neg (show ¬ nI 11 = 10 by decide)]
    · exact no (fun j hj e => by
        have := (nI_eq ha (by omega)).mp e
        omega) (in_no (hi := 11) (b := 11) ha (by decide) rfl (by omega))
end QD
