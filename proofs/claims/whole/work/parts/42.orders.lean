/-! The ranks, the shades, the picture, the sights: on both sides. -/
section QR
variable {g : Geo} {shut free dots : Int64} {cols lins dist wts sums told : Nat → Int32} {mb : Int64} {th fi : Int32} {order places : Nat → Int32}
theorem rk_both (h : GI g shut free dots cols lins dist wts sums told) (hR : RI g free mb th fi order places) (hz : dots ≠ 0) (hh : Int64) (hsu rank stage : Nat → Int32) : ∃ th' fi' order' places' hh' hsu' rank' stage', RC g free dots th' fi' order' places' ∧ MR g free dots rank' stage' ∧ f_X9_ranksNow (nI g.N) free (nI (pc free)) cols lins wts dots mb th fi order places hh hsu = some (dots, th', fi', order', places', hh', hsu') ∧ f_X9_pictureNow (nI g.N) free (nI (pc free)) cols lins wts dots mb th fi order places hh hsu = some (dots, th', fi', order', places', hh', hsu') ∧ f_X10_ranks shut dots told rank stage = some (rank', stage') := by
  obtain ⟨hg, hs, hF, hTb, hS, hD, hT⟩ := h
  have hf := Fr_inn hF
  obtain ⟨th', fi', order', places', hh', hsu', r1, r2⟩ := stand6 hg hTb hf hD (pc_of_ne hz) hR hh hsu
  obtain ⟨rank', stage', m1, m2⟩ := ranks10 hg hT hF hs hf hD rank stage
  refine ⟨th', fi', order', places', hh', hsu', rank', stage', r1, m1, ?_, ?_, m2⟩
  · unfold f_X9_ranksNow
    rw [r2, Option.bind_some]
  · unfold f_X9_pictureNow
    rw [r2, Option.bind_some]
theorem nwr (h : GI g shut free dots cols lins dist wts sums told) (x y : Int32) :
    (f_X9_numberWithRanks (nI g.W) (nI g.H) dots x y = some (-1) ∧ f_X10_isPlace told x y = some 0) ∨ (f_X9_numberWithRanks (nI g.W) (nI g.H) dots x y = some (-2) ∧ f_X10_isPlace told x y = some 1 ∧ dots = 0) ∨
    (∃ c, c < g.N ∧ f_X9_numberWithRanks (nI g.W) (nI g.H) dots x y = some (nI c) ∧ f_X10_isPlace told x y = some 1 ∧ f_X10_at told x y = some (nI c) ∧ dots ≠ 0) := by
  obtain ⟨hg, hs, hF, hTb, hS, hD, hT⟩ := h
  have hN := Geo.N_le hg
  unfold f_X9_numberWithRanks
  rcases place_both hg hT x y with ⟨e1, e2⟩ | ⟨c, hc, e1, e2, e3⟩
  · rw [e1, e2, Option.bind_some, if_pos rfl]
    exact Or.inl ⟨rfl, rfl⟩
  · rw [e1, e2, Option.bind_some, if_neg (fun e => m1_ne c (by omega) e.symm)]
    by_cases hz : dots = 0
    · rw [noDots_1 hz, Option.bind_some]
      exact Or.inr (Or.inl ⟨rfl, rfl, hz⟩)
    · rw [noDots_0 hz, Option.bind_some]
      exact Or.inr (Or.inr ⟨c, hc, rfl, rfl, e3, hz⟩)
theorem m1_n : ¬ (0 : Int32) ≤ -1 := by decide
theorem m2_n : ¬ (0 : Int32) ≤ -2 := by decide
theorem p_rank (h : GI g shut free dots cols lins dist wts sums told) (hR : RI g free mb th fi order places) (hh : Int64) (hsu rank stage : Nat → Int32) (t x y : Int32) : ∃ v mb' th' fi' order' places' hh' hsu' rank' stage', RI g free mb' th' fi' order' places' ∧ f_X9_rank (nI g.W) (nI g.H) shut (nI g.N) free (nI (pc free)) cols lins wts dots mb th fi order places hh hsu x y = some (v, mb', th', fi', order', places', hh', hsu') ∧ f_X10_rank t shut dots told rank stage x y = some (v, 0, rank', stage') := by
  unfold f_X9_rank f_X10_rank
  rcases nwr h x y with ⟨e1, e2⟩ | ⟨e1, e2, hz⟩ | ⟨c, hc, e1, e2, e3, hz⟩
  · rw [e1, e2, Option.bind_some, Option.bind_some, if_neg m1_n, if_pos rfl]
    exact ⟨-1, mb, th, fi, order, places, hh, hsu, rank, stage, hR, rfl, rfl⟩
  · rw [e1, e2, Option.bind_some, Option.bind_some, if_neg m2_n, if_neg one_n0, if_pos (cmp_1 hz)]
    exact ⟨-2, mb, th, fi, order, places, hh, hsu, rank, stage, hR, rfl, rfl⟩
  · obtain ⟨th', fi', order', places', hh', hsu', rank', stage', r1, r2, r3, r4, r5⟩ := rk_both h hR hz hh hsu rank stage
    obtain ⟨hg, hs, hF, hTb, hS, hD, hT⟩ := h
    have hN := Geo.N_le hg
    have hf := Fr_inn hF
    rw [e1, e2, Option.bind_some, Option.bind_some, if_pos (z_le c (by omega)), if_neg one_n0, if_neg (cmp_0 hz), r5, Option.bind_some, e3, Option.bind_some, if_pos (inb_t (show c < 64 by omega) (by decide)), nI_clamp (by omega)]
    cases h1 : bit shut c with
    | true =>
      rw [h9t (by omega) h1, Option.bind_some, if_neg one_n0]
      refine ⟨-9, mb, th, fi, order, places, hh, hsu, rank', stage', hR, rfl, ?_⟩
      dsimp only
      rw [(r2.2 c (by omega) (hF.f hg hc h1)).1]
    | false =>
      rw [h9f (by omega) h1, Option.bind_some, if_pos rfl, r3, Option.bind_some]
      obtain ⟨r, hr, rfl⟩ := od_onto hf hD (hF.t hg hc h1)
      dsimp only
      rw [rankOf6 hg hf hD r1.2.2 hr, Option.bind_some, (r2.1 r (Nat.zero_le _) hr).1]
      exact ⟨nI r, dots, th', fi', order', places', hh', hsu', rank', stage', RI_of hD r1, rfl, rfl⟩
theorem p_stage (h : GI g shut free dots cols lins dist wts sums told) (hR : RI g free mb th fi order places) (hh : Int64) (hsu rank stage : Nat → Int32) (t x y : Int32) : ∃ v mb' th' fi' order' places' hh' hsu' rank' stage', RI g free mb' th' fi' order' places' ∧ f_X9_stage (nI g.W) (nI g.H) shut (nI g.N) free (nI (pc free)) cols lins wts dots mb th fi order places hh hsu x y = some (v, mb', th', fi', order', places', hh', hsu') ∧ f_X10_stage t shut dots told rank stage x y = some (v, 0, rank', stage') := by
  unfold f_X9_stage f_X10_stage
  rcases nwr h x y with ⟨e1, e2⟩ | ⟨e1, e2, hz⟩ | ⟨c, hc, e1, e2, e3, hz⟩
  · rw [e1, e2, Option.bind_some, Option.bind_some, if_neg m1_n, if_pos rfl]
    exact ⟨-1, mb, th, fi, order, places, hh, hsu, rank, stage, hR, rfl, rfl⟩
  · rw [e1, e2, Option.bind_some, Option.bind_some, if_neg m2_n, if_neg one_n0, if_pos (cmp_1 hz)]
    exact ⟨-2, mb, th, fi, order, places, hh, hsu, rank, stage, hR, rfl, rfl⟩
  · obtain ⟨th', fi', order', places', hh', hsu', rank', stage', r1, r2, r3, r4, r5⟩ := rk_both h hR hz hh hsu rank stage
    obtain ⟨hg, hs, hF, hTb, hS, hD, hT⟩ := h
    have hN := Geo.N_le hg
    have hf := Fr_inn hF
    rw [e1, e2, Option.bind_some, Option.bind_some, if_pos (z_le c (by omega)), if_neg one_n0, if_neg (cmp_0 hz), r5, Option.bind_some, e3, Option.bind_some, if_pos (inb_t (show c < 64 by omega) (by decide)), nI_clamp (by omega)]
    cases h1 : bit shut c with
    | true =>
      rw [h9t (by omega) h1, Option.bind_some, if_neg one_n0]
      refine ⟨-9, mb, th, fi, order, places, hh, hsu, rank', stage', hR, rfl, ?_⟩
      dsimp only
      rw [(r2.2 c (by omega) (hF.f hg hc h1)).2]
    | false =>
      rw [h9f (by omega) h1, Option.bind_some, if_pos rfl, r3, Option.bind_some]
      obtain ⟨r, hr, rfl⟩ := od_onto hf hD (hF.t hg hc h1)
      dsimp only
      rw [stageOf6 hg hf hD (pc_of_ne hz) r1 hr, Option.bind_some, (r2.1 r (Nat.zero_le _) hr).2]
      exact ⟨_, dots, th', fi', order', places', hh', hsu', rank', stage', RI_of hD r1, rfl, rfl⟩
theorem ranked_lp (hg : g.ok) {D : Int64} (hf : Inn g free) (hD : Sub D free) {rank stage : Nat → Int32} (h : MR g free D rank stage) {k : Nat} (hk : k < pc free) (t : Int32) : ∀ (d i fu : Nat), i + d = od g free D k → d < fu → lp_X10_ranked_39 (nI k) fu (nI i) t rank stage = some (nI (od g free D k), t, rank, stage) := by
  have hN := Geo.N_le hg
  have hle := pc_le free
  have ho := od_lt hf hD hk
  intro d
  induction d with
  | zero =>
    intro i fu hi hfu
    obtain ⟨j, rfl⟩ : ∃ j, fu = j + 1 := ⟨fu - 1, by omega⟩
    have hi : i = od g free D k := by omega
    subst hi
    rw [lp_X10_ranked_39_s, if_pos (inb_t (show od g free D k < 64 by omega) (by decide)), nI_clamp (by omega), if_pos (h.1 k (Nat.zero_le _) hk).1]
  | succ d ih =>
    intro i fu hi hfu
    obtain ⟨j, rfl⟩ : ∃ j, fu = j + 1 := ⟨fu - 1, by omega⟩
    have hne : ¬ rank i = nI k := by
      cases hb : bit free i with
      | true =>
        obtain ⟨r, hr, e⟩ := od_onto hf hD hb
        intro q
        rw [← e, (h.1 r (Nat.zero_le _) hr).1] at q
        have := (nI_eq (by omega) (by omega)).mp q
        subst this
        omega
      | false =>
        rw [(h.2 i (by omega) hb).1]
        intro q
        have := congrArg Int32.toInt q
        rw [nI_toInt (by omega), show (-9 : Int32).toInt = -9 from by decide] at this
        omega
    rw [lp_X10_ranked_39_s, if_pos (inb_t (show i < 64 by omega) (by decide)), nI_clamp (by omega), if_neg hne, nI_1]
    exact ih (i + 1) j (by omega) (by omega)
theorem p_ranked (h : GI g shut free dots cols lins dist wts sums told) (hR : RI g free mb th fi order places) (hh : Int64) (hsu rank stage : Nat → Int32) (t x : Int32) : ∃ v mb' th' fi' order' places' hh' hsu' rank' stage', RI g free mb' th' fi' order' places' ∧ f_X9_ranked (nI g.N) free (nI (pc free)) cols lins wts dots mb th fi order places hh hsu x = some (v, mb', th', fi', order', places', hh', hsu') ∧ f_X10_ranked t shut dots told rank stage x = some (v, 0, rank', stage') := by
  have h0 := h
  obtain ⟨hg, hs, hF, hTb, hS, hD, hT⟩ := h
  have hN := Geo.N_le hg
  have hf := Fr_inn hF
  have hle := pc_le free
  unfold f_X9_ranked f_X10_ranked
  rw [free10 hg hT hF hs, Option.bind_some]
  rcases range0 x with hx | ⟨k, hk, rfl⟩
  · rw [if_pos hx, in_neg hx, Option.bind_some, if_pos rfl]
    exact ⟨-1, mb, th, fi, order, places, hh, hsu, rank, stage, hR, rfl, rfl⟩
  · rw [if_neg (nI_n0 k hk), ite_lt hk (by omega)]
    by_cases q : k < pc free
    · rw [if_pos q, in_yes (b := pc free - 1) hk (by omega) (by rw [L1, pk_sub (by omega)]) (by omega), Option.bind_some, if_neg one_n0]
      by_cases hz : dots = 0
      · rw [noDots_1 hz, if_pos (cmp_1 hz), Option.bind_some]
        exact ⟨-2, mb, th, fi, order, places, hh, hsu, rank, stage, hR, rfl, rfl⟩
      · obtain ⟨th', fi', order', places', hh', hsu', rank', stage', r1, r2, r3, r4, r5⟩ := rk_both h0 hR hz hh hsu rank stage
        rw [noDots_0 hz, if_neg (cmp_0 hz), Option.bind_some, if_pos rfl, r3, Option.bind_some, r5, Option.bind_some]
        dsimp only
        have ho := od_lt hf hD q
        rw [cellOf6 r1.2.2 q, Option.bind_some]
        refine ⟨_, dots, th', fi', order', places', hh', hsu', rank', stage', RI_of hD r1, rfl, ?_⟩
        exact ranked_lp hg hf hD r2 q 0 (od g free dots k) 0 FU (by omega) (by unfold FU; omega)
    · have e : f_X10_in (nI k) 0 (nI (pc free) - 1) = some 0 := by
        by_cases q0 : pc free = 0
        · rw [q0]
          unfold f_X10_in
          rw [if_neg (nI_n0 k hk), if_pos (show nI 0 - 1 < nI k from m1_lt k hk)]
        · exact in_no (b := pc free - 1) hk (by omega) (by rw [L1, pk_sub (by omega)]) (by omega)
      rw [if_neg q, e, Option.bind_some, if_pos rfl]
      exact ⟨-1, mb, th, fi, order, places, hh, hsu, rank, stage, hR, rfl, rfl⟩
theorem p_shade (h : GI g shut free dots cols lins dist wts sums told) (hR : RI g free mb th fi order places) (hh : Int64) (hsu rank stage : Nat → Int32) (t x y : Int32) : ∃ v mb' th' fi' order' places' hh' hsu' rank' stage', RI g free mb' th' fi' order' places' ∧ f_X9_shade (nI g.N) free (nI (pc free)) cols lins dist wts dots mb th fi order places hh hsu x y = some (v, mb', th', fi', order', places', hh', hsu') ∧ f_X10_shade t shut dots told rank stage x y = some (v, 0, rank', stage') := by
  have h0 := h
  obtain ⟨hg, hs, hF, hTb, hS, hD, hT⟩ := h
  have hN := Geo.N_le hg
  have hf := Fr_inn hF
  have hle := pc_le free
  unfold f_X9_shade f_X10_shade
  rw [free10 hg hT hF hs, Option.bind_some]
  rcases range0 x with hx | ⟨k, hk, rfl⟩
  · rw [if_pos hx, in_neg hx, Option.bind_some, if_pos rfl]
    exact ⟨-1, mb, th, fi, order, places, hh, hsu, rank, stage, hR, rfl, rfl⟩
  · rw [if_neg (nI_n0 k hk), ite_lt (by omega) hk]
    by_cases q : pc free < k
    · rw [if_pos q, in_no (b := pc free) hk (by omega) rfl q, Option.bind_some, if_pos rfl]
      exact ⟨-1, mb, th, fi, order, places, hh, hsu, rank, stage, hR, rfl, rfl⟩
    · rw [if_neg q, in_yes (b := pc free) hk (by omega) rfl (by omega), Option.bind_some, if_neg one_n0]
      rcases range0 y with hy | ⟨j, hj, rfl⟩
      · rw [if_pos hy, in_neg hy, Option.bind_some, if_pos rfl]
        exact ⟨-1, mb, th, fi, order, places, hh, hsu, rank, stage, hR, rfl, rfl⟩
      · rw [if_neg (nI_n0 j hj)]
        by_cases q1 : j ≤ 1
        · rw [if_pos (show nI j ≤ 1 from nI_le q1 (by decide)), in_yes (hi := 1) (b := 1) hj (by decide) rfl q1, Option.bind_some, if_neg one_n0]
          by_cases hz : dots = 0
          · rw [noDots_1 hz, if_pos (cmp_1 hz), Option.bind_some]
            exact ⟨-2, mb, th, fi, order, places, hh, hsu, rank, stage, hR, rfl, rfl⟩
          · obtain ⟨th', fi', order', places', hh', hsu', rank', stage', r1, r2, r3, r4, r5⟩ := rk_both h0 hR hz hh hsu rank stage
            rw [noDots_0 hz, if_neg (cmp_0 hz), Option.bind_some, if_pos rfl, r3, Option.bind_some, r5, Option.bind_some, Option.bind_some]
            dsimp only
            by_cases q0 : nI j = 0
            · rw [if_pos q0, if_pos q0]
              obtain ⟨o, o1, o2⟩ := gap6 hg hTb hf hD r1.2.2 (show k ≤ pc free by omega)
              rw [o2, Option.bind_some, gap10 hg hT hf hD r2 (show k ≤ pc free by omega) o1, Option.bind_some]
              exact ⟨_, dots, th', fi', order', places', hh', hsu', rank', stage', RI_of hD r1, rfl, rfl⟩
            · rw [if_neg q0, if_neg q0]
              rcases Nat.eq_zero_or_pos k with rfl | hp
              · rw [hole6_0, hole10_0 hg hT, Option.bind_some, Option.bind_some]
                exact ⟨_, dots, th', fi', order', places', hh', hsu', rank', stage', RI_of hD r1, rfl, rfl⟩
              · obtain ⟨i, rfl⟩ : ∃ i, k = i + 1 := ⟨k - 1, by omega⟩
                rw [hole6 hg hTb hf hD r1.2.2 (show i < pc free by omega), hole10 hg hT hF hf hD r2 (show i < pc free by omega), Option.bind_some, Option.bind_some]
                exact ⟨_, dots, th', fi', order', places', hh', hsu', rank', stage', RI_of hD r1, rfl, rfl⟩
        · rw [if_neg (show ¬ nI j ≤ 1 from fun e => q1 ((nI_leI (b := 1) hj (by decide)).mp e)), in_no (hi := 1) (b := 1) hj (by decide) rfl (by omega), Option.bind_some, if_pos rfl]
          exact ⟨-1, mb, th, fi, order, places, hh, hsu, rank, stage, hR, rfl, rfl⟩
theorem p_finest (h : GI g shut free dots cols lins dist wts sums told) (hR : RI g free mb th fi order places) (hh : Int64) (hsu rank stage : Nat → Int32) (t x : Int32) : ∃ v mb' th' fi' order' places' hh' hsu' rank' stage', RI g free mb' th' fi' order' places' ∧ f_X9_finest (nI g.N) free (nI (pc free)) cols lins dist wts dots mb th fi order places hh hsu x = some (v, mb', th', fi', order', places', hh', hsu') ∧ f_X10_finest t shut dots told rank stage x = some (v, 0, rank', stage') := by
  have h0 := h
  obtain ⟨hg, hs, hF, hTb, hS, hD, hT⟩ := h
  have hN := Geo.N_le hg
  have hf := Fr_inn hF
  have hle := pc_le free
  unfold f_X9_finest f_X10_finest
  rcases range0 x with hx | ⟨k, hk, rfl⟩
  · rw [if_pos hx, in_neg hx, Option.bind_some, if_pos rfl]
    exact ⟨-1, mb, th, fi, order, places, hh, hsu, rank, stage, hR, rfl, rfl⟩
  · rw [if_neg (nI_n0 k hk)]
    by_cases q : k ≤ 999
    · rw [if_pos (show nI k ≤ 999 from nI_le q (by decide)), in_yes (hi := 999) (b := 999) hk (by decide) rfl q, Option.bind_some, if_neg one_n0]
      by_cases hz : dots = 0
      · rw [noDots_1 hz, if_pos (cmp_1 hz), Option.bind_some]
        exact ⟨-2, mb, th, fi, order, places, hh, hsu, rank, stage, hR, rfl, rfl⟩
      · obtain ⟨th', fi', order', places', hh', hsu', rank', stage', r1, r2, r3, r4, r5⟩ := rk_both h0 hR hz hh hsu rank stage
        have hp : 0 < pc free := Nat.lt_of_lt_of_le (pc_of_ne hz) (pc_sub hD)
        obtain ⟨w, w1, w2⟩ := finest6 hg hTb hf hD r1.2.2 q hp
        have w3 := w1.2.1
        rw [noDots_0 hz, if_neg (cmp_0 hz), Option.bind_some, if_pos rfl, r3, Option.bind_some, r5, Option.bind_some, free10 hg hT hF hs, Option.bind_some]
        dsimp only
        rw [w2, Option.bind_some]
        refine ⟨_, dots, th', fi', order', places', hh', hsu', rank', stage', RI_of hD r1, rfl, ?_⟩
        exact finest10 hg hT hf hD r2 (fun s hs' => (gap6 hg hTb hf hD r1.2.2 hs').imp (fun _ y => y.1)) q w1 0 (pc free - w) (pc free) FU (by omega) (Nat.le_refl _) (by unfold FU; omega)
    · rw [if_neg (show ¬ nI k ≤ 999 from fun e => q ((nI_leI (b := 999) hk (by decide)).mp e)), in_no (hi := 999) (b := 999) hk (by decide) rfl (by omega), Option.bind_some, if_pos rfl]
      exact ⟨-1, mb, th, fi, order, places, hh, hsu, rank, stage, hR, rfl, rfl⟩
theorem slope_both (x : Int32) : f_X10_in x (-9) 9 = f_X9_isSlope x := rfl
theorem p_paints (h : GI g shut free dots cols lins dist wts sums told) (hR : RI g free mb th fi order places) (hh : Int64) (hsu rank stage : Nat → Int32) (b sx sy t x y z : Int32) : ∃ v mb' th' fi' order' places' hh' hsu' rank' stage' b' sx' sy', RI g free mb' th' fi' order' places' ∧ f_X9_paints (nI g.N) free (nI (pc free)) cols lins wts dots mb th fi order places hh hsu b sx sy x y z = some (v, mb', th', fi', order', places', hh', hsu', b', sx', sy') ∧ f_X10_paints t shut dots b sx sy told rank stage x y z = some (v, 0, b', sx', sy', rank', stage') := by
  have h0 := h
  obtain ⟨hg, hs, hF, hTb, hS, hD, hT⟩ := h
  have hf := Fr_inn hF
  unfold f_X9_paints f_X10_paints
  rcases range0 x with hx | ⟨k, hk, rfl⟩
  · rw [if_pos hx, in_neg hx, Option.bind_some, if_pos rfl]
    exact ⟨-1, mb, th, fi, order, places, hh, hsu, rank, stage, b, sx, sy, hR, rfl, rfl⟩
  · rw [if_neg (nI_n0 k hk), show (64 : Int32) = nI 64 from rfl, ite_lt (by decide) hk]
    by_cases q : 64 < k
    · rw [if_pos q, in_no (b := 64) hk (by decide) rfl q, Option.bind_some, if_pos rfl]
      exact ⟨-1, mb, th, fi, order, places, hh, hsu, rank, stage, b, sx, sy, hR, rfl, rfl⟩
    · rw [if_neg q, in_yes (b := 64) hk (by decide) rfl (by omega), Option.bind_some, if_neg one_n0, slope_both, slope_both]
      have sl : ∀ w, f_X9_isSlope w = some 0 ∨ f_X9_isSlope w = some 1 := by
        intro w
        unfold f_X9_isSlope
        split
        · exact Or.inl rfl
        · split
          · exact Or.inl rfl
          · exact Or.inr rfl
      rcases sl y with s1 | s1
      · rw [s1, Option.bind_some, Option.bind_some, if_pos rfl, if_pos rfl]
        exact ⟨-1, mb, th, fi, order, places, hh, hsu, rank, stage, b, sx, sy, hR, rfl, rfl⟩
      · rw [s1, Option.bind_some, Option.bind_some, if_neg one_n0, if_neg one_n0]
        rcases sl z with s2 | s2
        · rw [s2, Option.bind_some, Option.bind_some, if_pos rfl, if_pos rfl]
          exact ⟨-1, mb, th, fi, order, places, hh, hsu, rank, stage, b, sx, sy, hR, rfl, rfl⟩
        · rw [s2, Option.bind_some, Option.bind_some, if_neg one_n0, if_neg one_n0]
          by_cases hz : dots = 0
          · rw [noDots_1 hz, if_pos (cmp_1 hz), Option.bind_some]
            exact ⟨-2, mb, th, fi, order, places, hh, hsu, rank, stage, b, sx, sy, hR, rfl, rfl⟩
          · obtain ⟨th', fi', order', places', hh', hsu', rank', stage', r1, r2, r3, r4, r5⟩ := rk_both h0 hR hz hh hsu rank stage
            obtain ⟨v, v1, v2⟩ := printed_both hg hT hTb hF hs hf hD r1.2.2 r2 (nI k) y z
            rw [noDots_0 hz, if_neg (cmp_0 hz), Option.bind_some, if_pos rfl, r5, Option.bind_some, v2, Option.bind_some]
            unfold f_X4_become
            rw [Option.bind_some, r4, Option.bind_some]
            dsimp only
            rw [v1, Option.bind_some]
            exact ⟨v, dots, th', fi', order', places', hh', hsu', rank', stage', nI k, y, z, RI_of hD r1, rfl, rfl⟩
theorem p_ink (h : GI g shut free dots cols lins dist wts sums told) (hR : RI g free mb th fi order places) (hh : Int64) (hsu rank stage : Nat → Int32) (b sx sy t x y : Int32) : ∃ v mb' th' fi' order' places' hh' hsu' rank' stage', RI g free mb' th' fi' order' places' ∧ f_X9_ink (nI g.W) (nI g.H) (nI g.N) free (nI (pc free)) cols lins wts dots mb th fi order places hh hsu b sx sy x y = some (v, mb', th', fi', order', places', hh', hsu') ∧ f_X10_ink t shut dots b sx sy told rank stage x y = some (v, 0, rank', stage') := by
  unfold f_X9_ink f_X10_ink
  rcases nwr h x y with ⟨e1, e2⟩ | ⟨e1, e2, hz⟩ | ⟨c, hc, e1, e2, e3, hz⟩
  · rw [e1, e2, Option.bind_some, Option.bind_some, if_neg m1_n, if_pos rfl]
    exact ⟨-1, mb, th, fi, order, places, hh, hsu, rank, stage, hR, rfl, rfl⟩
  · rw [e1, e2, Option.bind_some, Option.bind_some, if_neg m2_n, if_neg one_n0, if_pos (cmp_1 hz)]
    exact ⟨-2, mb, th, fi, order, places, hh, hsu, rank, stage, hR, rfl, rfl⟩
  · obtain ⟨th', fi', order', places', hh', hsu', rank', stage', r1, r2, r3, r4, r5⟩ := rk_both h hR hz hh hsu rank stage
    obtain ⟨hg, hs, hF, hTb, hS, hD, hT⟩ := h
    have hN := Geo.N_le hg
    have hf := Fr_inn hF
    obtain ⟨v, v0, v1, v2⟩ := ink_both hg hT hTb hF hs hf hD r1.2.2 r2 b sx sy hc
    rw [e1, e2, Option.bind_some, Option.bind_some, if_pos (z_le c (by omega)), if_neg one_n0, if_neg (cmp_0 hz), r5, Option.bind_some, e3, Option.bind_some, r4, Option.bind_some]
    dsimp only
    rw [v1, v2, Option.bind_some, Option.bind_some]
    rcases v0 with rfl | rfl
    · exact ⟨0, dots, th', fi', order', places', hh', hsu', rank', stage', RI_of hD r1, rfl, rfl⟩
    · exact ⟨1, dots, th', fi', order', places', hh', hsu', rank', stage', RI_of hD r1, rfl, rfl⟩
theorem p_off (h : GI g shut free dots cols lins dist wts sums told) (hR : RI g free mb th fi order places) (hh : Int64) (hsu rank stage : Nat → Int32) (b sx sy t : Int32) : ∃ v mb' th' fi' order' places' hh' hsu' rank' stage', RI g free mb' th' fi' order' places' ∧ f_X9_off (nI g.N) free (nI (pc free)) cols lins wts dots mb th fi order places hh hsu b sx sy = some (v, mb', th', fi', order', places', hh', hsu') ∧ f_X10_off t shut dots b sx sy told rank stage = some (v, 0, rank', stage') := by
  unfold f_X9_off f_X10_off
  by_cases hz : dots = 0
  · rw [noDots_1 hz, if_pos (cmp_1 hz), Option.bind_some]
    exact ⟨-2, mb, th, fi, order, places, hh, hsu, rank, stage, hR, rfl, rfl⟩
  · obtain ⟨th', fi', order', places', hh', hsu', rank', stage', r1, r2, r3, r4, r5⟩ := rk_both h hR hz hh hsu rank stage
    obtain ⟨hg, hs, hF, hTb, hS, hD, hT⟩ := h
    have hf := Fr_inn hF
    obtain ⟨v, v1, v2⟩ := printed_both hg hT hTb hF hs hf hD r1.2.2 r2 b sx sy
    obtain ⟨w, w1, w2⟩ := off_both hg hT hTb hF hs hf hD r1.2.2 r2 b sx sy 0 v1
    rw [noDots_0 hz, if_neg (cmp_0 hz), Option.bind_some, if_pos rfl, r5, Option.bind_some, free10 hg hT hF hs, Option.bind_some, v2, Option.bind_some, r4, Option.bind_some]
    dsimp only
    rw [w1, Option.bind_some]
    exact ⟨w, dots, th', fi', order', places', hh', hsu', rank', stage', RI_of hD r1, rfl, w2⟩
theorem p_unseen (h : GI g shut free dots cols lins dist wts sums told) (hR : RI g free mb th fi order places) {k : Nat} {ln ct ml mc : Nat → Int32} (hSe : SI k ln ct ml mc) (hh : Int64) (hsu rank stage : Nat → Int32) (t x : Int32) : ∃ v mb' th' fi' order' places' hh' hsu' rank' stage', RI g free mb' th' fi' order' places' ∧ f_X9_unseen (nI g.N) free (nI (pc free)) cols lins wts dots mb th fi order places hh hsu (nI k) ln ct x = some (v, mb', th', fi', order', places', hh', hsu') ∧ f_X10_unseen t shut dots (nI k) told ml mc rank stage x = some (v, 0, rank', stage') := by
  have h0 := h
  obtain ⟨hg, hs, hF, hTb, hS, hD, hT⟩ := h
  have hf := Fr_inn hF
  have hle := pc_le free
  unfold f_X9_unseen f_X10_unseen
  rcases range0 x with hx | ⟨j, hj, rfl⟩
  · rw [if_pos hx, in_neg hx, Option.bind_some, if_pos rfl]
    exact ⟨-1, mb, th, fi, order, places, hh, hsu, rank, stage, hR, rfl, rfl⟩
  · rw [if_neg (nI_n0 j hj)]
    by_cases q : j ≤ 2
    · rw [if_pos (show nI j ≤ 2 from nI_le q (by decide)), in_yes (hi := 2) (b := 2) hj (by decide) rfl q, Option.bind_some, if_neg one_n0]
      by_cases hz : dots = 0
      · rw [noDots_1 hz, if_pos (cmp_1 hz), Option.bind_some]
        exact ⟨-2, mb, th, fi, order, places, hh, hsu, rank, stage, hR, rfl, rfl⟩
      · obtain ⟨th', fi', order', places', hh', hsu', rank', stage', r1, r2, r3, r4, r5⟩ := rk_both h0 hR hz hh hsu rank stage
        have hcg : (fun s => allF (fitc g (od g free dots) ln ct s) 0 k) = (fun s => allF (fitc g (od g free dots) ml mc s) 0 k) := funext (fun s => fitc_cong k 0 k (by omega) hSe.2)
        have u := unseen_lp hg hT hF hs hf hD r2 hSe.1 (ln := ml) (ct := mc) (nI j) 0 (pc free + 1) 0 FU (by omega) (by unfold FU; omega)
        rw [← hcg] at u
        rw [noDots_0 hz, if_neg (cmp_0 hz), Option.bind_some, if_pos rfl, r3, Option.bind_some, r5, Option.bind_some]
        dsimp only
        rw [shades7 hg hTb hf hD r1.2.2 hSe.1, least7 hg hTb hf hD r1.2.2 hSe.1, greatest7 hg hTb hf hD r1.2.2 hSe.1, Option.bind_some, Option.bind_some, Option.bind_some]
        by_cases q0 : nI j = 0
        · rw [if_pos q0] at u ⊢
          exact ⟨_, dots, th', fi', order', places', hh', hsu', rank', stage', RI_of hD r1, rfl, u⟩
        · rw [if_neg q0] at u ⊢
          by_cases q1 : nI j = 1
          · rw [if_pos q1] at u ⊢
            exact ⟨_, dots, th', fi', order', places', hh', hsu', rank', stage', RI_of hD r1, rfl, u⟩
          · rw [if_neg q1] at u ⊢
            exact ⟨_, dots, th', fi', order', places', hh', hsu', rank', stage', RI_of hD r1, rfl, u⟩
    · rw [if_neg (show ¬ nI j ≤ 2 from fun e => q ((nI_leI (b := 2) hj (by decide)).mp e)), in_no (hi := 2) (b := 2) hj (by decide) rfl (by omega), Option.bind_some, if_pos rfl]
      exact ⟨-1, mb, th, fi, order, places, hh, hsu, rank, stage, hR, rfl, rfl⟩
end QR
