/-! The grid's change, and the beginning: on both sides. -/
theorem m10_n {pl : Nat} (h : pl ≤ 150) : ¬ (0 : Int32) ≤ -10 - nI pl := by
  have e : (-10 : Int32) - nI pl = nI 0 - nI (10 + pl) := by
    rw [← nI_add, show (-10 : Int32) = nI 0 - nI 10 from by decide]
    generalize nI pl = y
    generalize nI 0 = u
    generalize nI 10 = w
    grind
  rw [e, Int32.le_iff_toInt_le, pk_sub_toInt (by decide) (by omega)]
  intro q
  have : (0 : Int32).toInt = 0 := by decide
  omega
theorem KI_0 (free : Int64) (id mk : Nat → Int64) {ik mik : Nat → Int32} (h0 : ik 0 = 0) (h1 : ik 1 = 0) (m0 : mik 0 = 0) (m1 : mik 1 = 0) : KI free id ik mk mik := by
  intro j hj
  rcases (show j = 0 ∨ j = 1 by omega) with rfl | rfl
  · exact ⟨Or.inl m0, by rw [h0, m0], fun e => absurd (m0.symm.trans e) (by decide)⟩
  · exact ⟨Or.inl m1, by rw [h1, m1], fun e => absurd (m1.symm.trans e) (by decide)⟩
theorem PI_0 (free : Int64) (known past : Nat → Int64) : PI free 0 known past := ⟨Nat.zero_le _, fun i hi => absurd hi (Nat.not_lt_zero _)⟩
theorem SI_0 (ln ct ml mc : Nat → Int32) : SI 0 ln ct ml mc := ⟨Nat.zero_le _, fun i hi => absurd hi (Nat.not_lt_zero _)⟩
theorem Lt_0 (tl mt : Nat → Int32) : Lt 0 tl mt := ⟨Nat.zero_le _, fun i hi => absurd hi (Nat.not_lt_zero _)⟩
theorem p_grid {g : Geo} {shut free dots : Int64} {cols lins dist wts sums told : Nat → Int32} {mb : Int64} {th fi : Int32} {order places : Nat → Int32} {n U k : Nat} {tl mt ln ct ml mc ik mik : Nat → Int32} {known past id mk : Nat → Int64}
    (h : GI g shut free dots cols lins dist wts sums told) (hL : Lt n tl mt) (hP : PI free U known past) (hK : KI free id ik mk mik) (hSe : SI k ln ct ml mc) (hR : RI g free mb th fi order places) (tp tn tt tv : Int32) (pd : Int64) (q1 q2 q3 q4 q5 q6 q7 : Int32) (q8 q9 : Int64) (b sx sy t : Int32) (ds dd : Int64) (mn mg mz : Int32) (dr : Nat → Int32) :
    ∃ v g' shut' free' dots' pd' cols' lins' dist' wts' sums' told' n' U' k' mb' b' sx' sy' ik' mik' a1 a2 a3 a4 w1 w2 w3 w4 w5 w6 w7 w8 w9 s1 s2 c1 c2 c3 dr', GI g' shut' free' dots' cols' lins' dist' wts' sums' told' ∧ Lt n' tl mt ∧ PI free' U' known past ∧ KI free' id ik' mk mik' ∧ SI k' ln ct ml mc ∧ RI g' free' mb' th fi order places ∧
      f_X9_grid (nI n) tp tn tt tv tl (nI g.W) (nI g.H) (nI g.ke) (nI g.po) (nI g.fa) (nI g.ax) (nI g.ay) shut pd q1 q2 q3 q4 q5 q6 q7 q8 q9 (nI g.N) free (nI (pc free)) cols lins dist wts dots sums mb b sx sy (nI k) (nI U) ik = some (v, nI n', a1, a2, a3, a4, nI (Geo.W g'), nI (Geo.H g'), nI (Geo.ke g'), nI (Geo.po g'), nI (Geo.fa g'), nI (Geo.ax g'), nI (Geo.ay g'), shut', pd', w1, w2, w3, w4, w5, w6, w7, w8, w9, nI (Geo.N g'), free', nI (pc free'), cols', lins', dist', wts', dots', sums', mb', b', sx', sy', nI k', nI U', ik') ∧
      f_X10_grid t shut dots ds dd (nI U) b sx sy (nI k) (nI n) mn mg mz told dr mik mt = some (v, 0, shut', dots', s1, s2, nI U', b', sx', sy', nI k', nI n', c1, c2, c3, told', dr', mik') := by
  unfold f_X9_grid
  rcases read_both hL tp tn tt tv q1 q2 q3 q4 q5 q6 q7 q8 q9 t shut dots ds dd (nI U) b sx sy (nI k) mn mg mz told dr mik with ⟨pl, zc, s1, s2, c, d, e, dr', y1, y2, y3, y4⟩ | ⟨it, g', l, m, a1, a2, a3, a4, c1, c2, c3, dr', told', kept', y1, y2, y3, y4, y5, y6, y7, y8, y9, y10⟩
  · have hpl : pl ≤ 150 := Nat.le_trans y1 hL.1
    rw [y2, Option.bind_some, y3, if_neg (m10_n hpl)]
    exact ⟨_, g, shut, free, dots, pd, cols, lins, dist, wts, sums, told, n, U, k, mb, b, sx, sy, ik, mik, _, _, _, _, _, _, _, _, _, _, _, _, _, s1, s2, c, d, e, dr', h, hL, hP, hK, hSe, hR, rfl, y4⟩
  · rw [y9, Option.bind_some]
    dsimp only
    rw [if_pos (z_le it (by omega))]
    obtain ⟨free', cols', lins', dist', wts', f1, f2, f3⟩ := lay0 y2 l free (nI g.N) (nI (pc free)) cols lins dist wts
    obtain ⟨sums', u1, u2⟩ := begin1 y2 f2 y7 dots sums
    obtain ⟨ik', k1, k2, k3⟩ := drop2 ik
    unfold f_X5_become f_X6_drop f_X4_become
    rw [Option.bind_some]
    dsimp only
    rw [f3, Option.bind_some]
    dsimp only
    rw [u2, Option.bind_some, Option.bind_some, Option.bind_some, k3, Option.bind_some]
    have hD : Sub m free' := fun j hj => by
      refine f1.t y2 (y7 j hj) ?_
      cases hb : bit l j with
      | false => rfl
      | true =>
        rw [y8 j hb] at hj
        cases hj
    exact ⟨_, g', l, free', m, m, cols', lins', dist', wts', sums', told', 0, 0, 0, 0, 0, 0, 0, ik', kept', _, _, _, _, _, _, _, _, _, _, _, _, _, l, m, c1, c2, c3, dr', ⟨y2, y6, f1, f2, u1, hD, y3⟩, Lt_0 _ _, PI_0 _ _ _, KI_0 _ _ _ k1 k2 y4 y5, SI_0 _ _ _ _, Or.inl rfl, rfl, y10⟩
theorem p_init : ∃ (free : Int64) (cols lins dist wts told dr mik : Nat → Int32), GI g0 0 free 0 cols lins dist wts (fun _ => 0) told ∧ mik 0 = 0 ∧ mik 1 = 0 ∧
    f_X9_init = some (nI 0, 0, 0, 0, 0, (fun _ => 0), 4, 4, 0, 100, 1, 1, 1, 0, 0, nI (Geo.N g0), free, nI (pc free), nI (Geo.W g0), nI (Geo.H g0), nI (Geo.ke g0), nI (Geo.po g0), nI (Geo.fa g0), nI (Geo.ax g0), nI (Geo.ay g0), 0, 0, cols, lins, dist, wts, 0, (fun _ => 0), 0, 0, 0, (fun _ => 0), (fun _ => 0), 0, (fun _ => 0), 0, 0, 0, nI 0, (fun _ => 0), (fun _ => 0), nI 0, (fun _ => 0), (fun _ => 0), (fun _ => 0)) ∧
    f_X10_init = some (0, 0, 0, 0, 0, nI 0, 0, 0, 0, nI 0, nI 0, 0, 0, 0, 0, 0, 0, told, dr, (fun _ => 0), (fun _ => 0), mik, (fun _ => 0), (fun _ => 0), (fun _ => 0), (fun _ => 0), (fun _ => 0)) := by
  obtain ⟨free, cols, lins, dist, wts, f1, f2, f3⟩ := lay0 g0_ok 0 0 0 0 (fun _ => 0) (fun _ => 0) (fun _ => 0) (fun _ => 0)
  obtain ⟨dr, hT, e1⟩ := begins10 0 0 (fun _ => 0)
  obtain ⟨told, mik, t1, t2, t3, t4⟩ := becomes10 0 0 hT 0 0 0 0 0 0 0 (fun _ => 0) (fun _ => 0)
  have z1 : HOk g0 0 (fun _ => 0) := fun c hc => by
    rw [hs_zero]
    rfl
  have z2 : Sub 0 free := fun j hj => by
    rw [bit_zero] at hj
    cases hj
  refine ⟨free, cols, lins, dist, wts, told, dr, mik, ⟨g0_ok, Inn_zero _, f1, f2, z1, z2, t1⟩, t2, t3, ?_, ?_⟩
  · have e5 : f_X5_init = some (4, 4, 0, 100, 1, 1, 1, 0, 0) := rfl
    have e0 : f_X0_init 4 4 0 100 1 1 1 0 0 = some (nI (Geo.N g0), free, nI (pc free), cols, lins, dist, wts) := by
      unfold f_X0_init
      rw [show f_X0_lay 4 4 0 100 1 1 1 0 0 0 0 (fun _ => 0) (fun _ => 0) (fun _ => 0) (fun _ => 0) = some (nI (Geo.N g0), free, nI (pc free), cols, lins, dist, wts) from f3, Option.bind_some]
    unfold f_X9_init
    rw [e5, show f_X8_init = some (0, 0, 0, 0, 0, (fun _ => 0)) from rfl, Option.bind_some, Option.bind_some, Option.bind_some]
    dsimp only
    rw [e0, Option.bind_some]
    rfl
  · unfold f_X10_init
    rw [e1, Option.bind_some]
    dsimp only
    rw [t4, Option.bind_some]
    rfl
