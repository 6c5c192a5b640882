/-! The grid's text read, on both sides. -/
def GO (n : Nat) (th : Int32) (ms md : Int64) (u b sx sy sn : Int32) (told kept : Nat → Int32) (C : Option (Int32 × Int32 × Int32 × Int32 × Int32 × Int32 × Int32 × Int32 × Int32 × Int32 × Int32 × Int32 × Int64 × Int64)) (M : Option (Int32 × Int32 × Int64 × Int64 × Int64 × Int64 × Int32 × Int32 × Int32 × Int32 × Int32 × Int32 × Int32 × Int32 × Int32 × (Nat → Int32) × (Nat → Int32) × (Nat → Int32))) : Prop :=
  (∃ pl zc s1 s2 c d e dr, pl ≤ n ∧ C = some zc ∧ zc.1 = -10 - nI pl ∧ M = some (-10 - nI pl, th, ms, md, s1, s2, u, b, sx, sy, sn, nI n, c, d, e, told, dr, kept)) ∨
  (∃ (it : Nat) (g : Geo) (l m : Int64) (dr : Nat → Int32) (a1 a2 a3 a4 c1 c2 c3 : Int32), it ≤ 150 ∧ g.ok ∧ RepT g dr ∧ Inn g l ∧ Inn g m ∧ (∀ k, bit l k = true → bit m k = false) ∧ C = some (nI it, a1, a2, a3, a4, nI g.W, nI g.H, nI g.ke, nI g.po, nI g.fa, nI g.ax, nI g.ay, l, m) ∧
    M = (f_X10_becomes ms md l m u b sx sy sn told dr kept).bind (fun z74 => some (nI it, th, (z74.1), (z74.2.1), l, m, (z74.2.2.1), (z74.2.2.2.1), (z74.2.2.2.2.1), (z74.2.2.2.2.2.1), (z74.2.2.2.2.2.2.1), (0 : Int32), c1, c2, c3, (z74.2.2.2.2.2.2.2.1), dr, (z74.2.2.2.2.2.2.2.2))))
theorem grid_lp {n : Nat} {tl mt : Nat → Int32} (hL : Lt n tl mt) (th : Int32) (ms md : Int64) (u b sx sy sn : Int32) (told kept : Nat → Int32) : ∀ (d it pl p fu fu' : Nat) (ct cv mk : Int32) (g : Geo) (shut dots : Int64) (dr : Nat → Int32), p + d = n → d < fu → d < fu' → it ≤ pl → pl ≤ n → (ct ≠ nI 258 → pl < p) → TKR ct cv mk → g.ok → RepT g dr → Inn g shut → Inn g dots → (∀ k, bit shut k = true → bit dots k = false) → (it = 0 → shut = 0 ∧ dots = 0) →
    GO n th ms md u b sx sy sn told kept (lp_X8_readInto_15 (nI n) tl fu (nI it) (nI pl) (nI p) ct cv (nI g.W) (nI g.H) (nI g.ke) (nI g.po) (nI g.fa) (nI g.ax) (nI g.ay) shut dots) (lp_X10_grid_20 mt fu' (nI it) th ms md shut dots u b sx sy sn (nI n) (nI p) (nI pl) mk told dr kept) := by
  intro d
  induction d using Nat.strongRecOn with
  | ind d ih =>
    intro it pl p fu fu' ct cv mk g shut dots dr hi hfu hfu' hit hpl hnx hk hg hT h1 h2 h3 h0
    obtain ⟨k, rfl⟩ : ∃ k, fu = k + 1 := ⟨fu - 1, by omega⟩
    obtain ⟨k', rfl⟩ : ∃ k', fu' = k' + 1 := ⟨fu' - 1, by omega⟩
    have hn := hL.1
    by_cases hend : ct = nI 258
    · have hend' := (tok_end hk).mp hend
      refine Or.inr ⟨it, g, shut, dots, dr, nI pl, nI p, ct, cv, nI p, nI pl, mk, by omega, hg, hT, h1, h2, h3, ?_, ?_⟩
      · rw [lp_X8_readInto_15_s, if_pos (show ct = 258 from hend)]
      · rw [lp_X10_grid_20_s, if_pos hend']
    · have hend' := fun e => hend ((tok_end hk).mpr e)
      have hpp := hnx hend
      have A : lp_X8_readInto_15 (nI n) tl (k + 1) (nI it) (nI pl) (nI p) ct cv (nI g.W) (nI g.H) (nI g.ke) (nI g.po) (nI g.fa) (nI g.ax) (nI g.ay) shut dots = j_X8_readInto_43 (nI n) tl (lp_X8_readInto_15 (nI n) tl k) (nI it) (if it = 0 then 1 else 0) (nI pl) (nI p) ct cv (nI g.W) (nI g.H) (nI g.ke) (nI g.po) (nI g.fa) (nI g.ax) (nI g.ay) shut dots := by
        rw [lp_X8_readInto_15_s, if_neg (show ¬ ct = 258 from hend), if_neg (show ¬ (150 : Int32) ≤ nI it from fun e => absurd ((nI_leI (a := 150) (by decide) (by omega)).mp e) (by omega))]
        by_cases hz : it = 0
        · subst hz
          rfl
        · rw [if_neg (show ¬ nI it = 0 from fun e => hz ((nI_eq (by omega) (by decide)).mp e)), if_neg hz]
      rw [A, lp_X10_grid_20_s, if_neg hend']
      unfold j_X8_readInto_43
      rcases ib_any hL (show p ≤ n by omega) hpl hk hg hT h1 h2 h3 (show it < 2 ^ 31 by omega) h0 with ⟨pl', a, b', c, d', e, f, g', h, i, j, k1, l, s1, s2, x1, x2, dr', w1, w2, w3⟩ | ⟨pl', nx', b', c', g', l, m, x2, dr', v1, v2, v3, v4, v5, v6, v7, v8, v9, v10⟩
      · unfold ItIn at w2
        rw [w2, w3, j117_0, Option.bind_some, Option.bind_some]
        dsimp only
        rw [if_pos rfl, if_pos rfl]
        unfold j_X10_grid_42 j_X10_grid_55
        rw [if_pos rfl]
        exact Or.inl ⟨pl', _, _, _, _, _, _, _, w1, rfl, rfl, rfl⟩
      · unfold ItIn at v9
        rw [v9, v10, Option.bind_some]
        dsimp only
        rw [if_neg one_n0]
        unfold j_X8_readItem_117
        rw [if_neg one_n0]
        obtain ⟨pl2, nx2, ct2, cv2, mk2, b1, b2, b3, b4, b5, b6, b7⟩ := step_both hL v3 (nI pl') b' c' (nI pl') x2
        rw [b6, b7, Option.bind_some, Option.bind_some]
        dsimp only
        unfold j_X10_grid_42
        rw [if_neg one_n0]
        by_cases h59 : ct2 = nI 59
        · have h59' := (tok_eq b4 (by decide)).mp h59
          have hne : ct2 ≠ nI 258 := by rw [h59]; decide
          have b5' := b5 hne
          rw [if_pos (show ct2 = 59 from h59), if_pos (show mk2 = 59 from h59'), Option.bind_some]
          dsimp only
          rw [if_neg one_n0]
          obtain ⟨pl3, nx3, ct3, cv3, mk3, c1, c2, c3, c4, c5, c6, c7⟩ := step_both hL b3 (nI pl2) ct2 cv2 (nI pl2) mk2
          rw [c6, c7, Option.bind_some, Option.bind_some]
          dsimp only
          rw [nI_1]
          exact ih (n - nx3) (by omega) (it + 1) pl3 nx3 k k' ct3 cv3 mk3 g' l m dr' (by omega) (by omega) (by omega) (by omega) (by omega) c5 c4 v4 v5 v6 v7 v8 (fun e => absurd e (by omega))
        · have h59' := fun e => h59 ((tok_eq b4 (by decide)).mpr e)
          rw [if_neg (show ¬ ct2 = 59 from h59), if_neg (show ¬ mk2 = 59 from h59'), Option.bind_some]
          dsimp only
          rw [if_pos rfl]
          unfold j_X10_grid_55
          exact Or.inl ⟨pl2, _, _, _, _, _, _, _, by omega, rfl, rfl, rfl⟩
def g0 : Geo := (4, 4, 0, 100, 1, 1, 1)
theorem g0_ok : g0.ok := by unfold Geo.ok g0; decide
theorem begins10 (a b : Int64) (dr : Nat → Int32) : ∃ dr', RepT g0 dr' ∧ f_X10_begins a b dr = some (0, 0, dr') := by
  unfold f_X10_begins
  rw [if_pos B0, if_pos B1, if_pos B2, if_pos B3, if_pos B4, if_pos B5, if_pos B6, T0, T1, T2, T3, T4, T5, T6]
  exact ⟨_, ⟨rfl, rfl, rfl, rfl, rfl, rfl, rfl⟩, rfl⟩
theorem becomes_lp {g : Geo} (l m : Int64) {dr : Nat → Int32} (hT : RepT g dr) (kept : Nat → Int32) : ∀ (d i fu : Nat) (ms md : Int64) (u b sx sy sn : Int32) (told : Nat → Int32), i + d = 7 → d < fu → (∀ k, k < i → told k = dr k) → ∃ told' kept', RepT g told' ∧ kept' 0 = 0 ∧ kept' 1 = 0 ∧ lp_X10_becomes_2 l m dr fu (nI i) ms md u b sx sy sn told kept = some (l, m, 0, 0, 0, 0, 0, told', kept') := by
  intro d
  induction d with
  | zero =>
    intro i fu ms md u b sx sy sn told hi hfu hd
    obtain ⟨k, rfl⟩ : ∃ k, fu = k + 1 := ⟨fu - 1, by omega⟩
    have hi : i = 7 := by omega
    subst hi
    obtain ⟨t0, t1, t2, t3, t4, t5, t6⟩ := hT
    refine ⟨told, upd (upd kept 0 0) 1 0, ⟨by rw [hd 0 (by decide), t0], by rw [hd 1 (by decide), t1], by rw [hd 2 (by decide), t2], by rw [hd 3 (by decide), t3], by rw [hd 4 (by decide), t4], by rw [hd 5 (by decide), t5], by rw [hd 6 (by decide), t6]⟩, rfl, rfl, ?_⟩
    rw [lp_X10_becomes_2_s, if_pos (by decide), if_pos (by decide), if_pos (by decide), T0, T1]
  | succ d ih =>
    intro i fu ms md u b sx sy sn told hi hfu hd
    obtain ⟨k, rfl⟩ : ∃ k, fu = k + 1 := ⟨fu - 1, by omega⟩
    obtain ⟨told', kept', a1, a2, a3, a4⟩ := ih (i + 1) k ms md u b sx sy sn (upd told i (dr i)) (by omega) (by omega) (fun j hj => by
      unfold upd
      by_cases hji : j = i
      · rw [if_pos hji, hji]
      · rw [if_neg hji]
        exact hd j (by omega))
    refine ⟨told', kept', a1, a2, a3, ?_⟩
    rw [lp_X10_becomes_2_s, if_neg (show ¬ (7 : Int32) ≤ nI i from fun e => absurd ((nI_leI (a := 7) (by decide) (by omega)).mp e) (by omega)), if_pos (inb_t (show i < 7 by omega) (by decide)), if_pos (inb_t (show i < 7 by omega) (by decide)), nI_clamp (by omega), nI_1]
    exact a4
theorem becomes10 {g : Geo} (l m : Int64) {dr : Nat → Int32} (hT : RepT g dr) (ms md : Int64) (u b sx sy sn : Int32) (told kept : Nat → Int32) : ∃ told' kept', RepT g told' ∧ kept' 0 = 0 ∧ kept' 1 = 0 ∧ f_X10_becomes ms md l m u b sx sy sn told dr kept = some (l, m, 0, 0, 0, 0, 0, told', kept') := by
  unfold f_X10_becomes
  rw [L0]
  exact becomes_lp l m hT kept 7 0 FU ms md u b sx sy sn told rfl (by decide) (fun k hk => absurd hk (Nat.not_lt_zero _))
/-- the whole reading: a refusal at the same place, or the same grid -/
theorem read_both {n : Nat} {tl mt : Nat → Int32} (hL : Lt n tl mt) (tp tn tt tv q1 q2 q3 q4 q5 q6 q7 : Int32) (q8 q9 : Int64) (th : Int32) (ms md ds dd : Int64) (u b sx sy sn mn mb mk : Int32) (told dr kept : Nat → Int32) :
    (∃ pl zc s1 s2 c d e dr', pl ≤ n ∧ f_X8_readInto (nI n) tp tn tt tv tl q1 q2 q3 q4 q5 q6 q7 q8 q9 = some zc ∧ zc.1 = -10 - nI pl ∧ f_X10_grid th ms md ds dd u b sx sy sn (nI n) mn mb mk told dr kept mt = some (-10 - nI pl, 0, ms, md, s1, s2, u, b, sx, sy, sn, nI n, c, d, e, told, dr', kept)) ∨
    (∃ (it : Nat) (g : Geo) (l m : Int64) (a1 a2 a3 a4 c1 c2 c3 : Int32) (dr' told' kept' : Nat → Int32), it ≤ 150 ∧ g.ok ∧ RepT g told' ∧ kept' 0 = 0 ∧ kept' 1 = 0 ∧ Inn g l ∧ Inn g m ∧ (∀ k, bit l k = true → bit m k = false) ∧ f_X8_readInto (nI n) tp tn tt tv tl q1 q2 q3 q4 q5 q6 q7 q8 q9 = some (nI it, a1, a2, a3, a4, nI g.W, nI g.H, nI g.ke, nI g.po, nI g.fa, nI g.ax, nI g.ay, l, m) ∧
      f_X10_grid th ms md ds dd u b sx sy sn (nI n) mn mb mk told dr kept mt = some (nI it, 0, l, m, l, m, 0, 0, 0, 0, 0, 0, c1, c2, c3, told', dr', kept')) := by
  unfold f_X8_readInto f_X10_grid f_X5_reset
  obtain ⟨dr', hT, e1⟩ := begins10 ds dd dr
  obtain ⟨pl, nx, ct, cv, mk', b1, b2, b3, b4, b5, b6, b7⟩ := step_both hL (Nat.zero_le n) tp tt tv mb mk
  rw [e1, Option.bind_some, Option.bind_some]
  dsimp only
  rw [show f_X8_step (nI n) tp 0 tt tv tl = some (nI pl, nI nx, ct, cv) from b6, show f_X10_takes (nI n) 0 mb mk mt = some (nI nx, nI pl, mk') from b7, Option.bind_some, Option.bind_some]
  dsimp only
  have hn := hL.1
  rcases grid_lp hL 0 ms md u b sx sy sn told kept (n - nx) 0 pl nx FU FU ct cv mk' g0 0 0 dr' (by omega) (by unfold FU; omega) (by unfold FU; omega) (by omega) (by omega) b5 b4 g0_ok hT (Inn_zero _) (Inn_zero _) (fun k _ => bit_zero k) (fun _ => ⟨rfl, rfl⟩) with ⟨pl', zc, s1, s2, c, d, e, dr2, w1, w2, w3, w4⟩ | ⟨it, g, l, m, dr2, a1, a2, a3, a4, c1, c2, c3, v1, v2, v3, v4, v5, v6, v7, v8⟩
  · exact Or.inl ⟨pl', zc, s1, s2, c, d, e, dr2, w1, w2, w3, w4⟩
  · obtain ⟨told', kept', y1, y2, y3, y4⟩ := becomes10 l m v3 ms md u b sx sy sn told kept
    rw [y4, Option.bind_some] at v8
    exact Or.inr ⟨it, g, l, m, a1, a2, a3, a4, c1, c2, c3, dr2, told', kept', v1, v2, y1, y2, y3, v4, v5, v6, v7, v8⟩
