/-! Pictures. -/
def lvl (F L : Int32) : Int32 := if 0 ≤ L then (if L ≤ F then L else F) else 0
theorem lvl_class {n : Nat} (hn : n < 2 ^ 31) (L : Int32) : (if (0 : Int32) < (if nI n < L then nI n else L) then (if nI n < L then nI n else L) else 0) = lvl (nI n) L := by
  have hF : (0 : Int32) ≤ nI n := nI_pos' hn
  unfold lvl
  have z : (0 : Int32).toInt = 0 := by decide
  simp only [Int32.lt_iff_toInt_lt, Int32.le_iff_toInt_le, z] at hF ⊢
  by_cases h1 : (nI n).toInt < L.toInt
  · rw [if_pos h1]
    by_cases h2 : 0 < (nI n).toInt
    · rw [if_pos h2, if_pos (by omega), if_neg (by omega)]
    · rw [if_neg h2, if_pos (by omega), if_neg (by omega)]
      exact Int32.toInt_inj.mp (by rw [z]; omega)
  · rw [if_neg h1]
    by_cases h2 : 0 < L.toInt
    · rw [if_pos h2, if_pos (by omega), if_pos (by omega)]
    · rw [if_neg h2]
      by_cases h3 : 0 ≤ L.toInt
      · rw [if_pos h3, if_pos (by omega)]
        exact Int32.toInt_inj.mp (by rw [z]; omega)
      · rw [if_neg h3]
def LV (g : Geo) (b sx sy : Int32) (c : Nat) : Int32 := (b + nI (c % g.W) * sx) + nI (c / g.W) * sy
theorem level4 {g : Geo} (hg : g.ok) {cols lins dist wts : Nat → Int32} (hT : Tab g cols lins dist wts) {fc : Nat} (hfc : fc ≤ 64) (b sx sy : Int32) {c : Nat} (hc : c < g.N) : f_X4_levelOf (nI g.N) (nI fc) cols lins b sx sy (nI c) = some (lvl (nI fc) (LV g b sx sy c)) := by
  unfold f_X4_levelOf
  rw [columnOf0 hg hT hc, Option.bind_some, lineOf0 hg hT hc, Option.bind_some]
  exact congrArg some (lvl_class (by omega) _)
theorem level10 {g : Geo} {told : Nat → Int32} (hg : g.ok) (hT : RepT g told) {shut free : Int64} (hF : Fr g shut free) (hs : Inn g shut) (b sx sy : Int32) {c : Nat} (hc : c < g.N) : f_X10_level shut b sx sy told (nI c) = some (lvl (nI (pc free)) (LV g b sx sy c)) := by
  have hN := Geo.N_le hg
  have w1 := hg.1.1
  have w2 := hg.1.2
  have hw0 : ¬ nI g.W = 0 := nI_ne0 w1 (by omega)
  unfold f_X10_level lvl LV
  simp only [B0, T0, ↓reduceIte, hT.1, hw0]
  rw [pk_rem (by omega) w1 (by omega), pk_div (by omega) w1 (by omega), free10 hg hT hF hs]
  simp only [Option.bind_some]
  split
  · split <;> rfl
  · rfl
theorem ink_both {g : Geo} {told : Nat → Int32} (hg : g.ok) (hT : RepT g told) {cols lins dist wts : Nat → Int32} (hTb : Tab g cols lins dist wts) {shut free D : Int64} (hF : Fr g shut free) (hs : Inn g shut) (hf : Inn g free) (hD : Sub D free) {order places rank stage : Nat → Int32} (hA : AR g free D 0 (pc free) order places) (h : MR g free D rank stage) (b sx sy : Int32) {c : Nat} (hc : c < g.N) :
    ∃ v : Int32, (v = 0 ∨ v = 1) ∧ f_X4_prints (nI g.N) free (nI (pc free)) cols lins places b sx sy (nI c) = some v ∧ f_X10_isInk shut b sx sy told rank (nI c) = some v := by
  have hN := Geo.N_le hg
  have hle := pc_le free
  unfold f_X4_prints f_X10_isInk
  rw [has9 free (by omega), Option.bind_some, if_pos (inb_t (show c < 64 by omega) (by decide)), if_pos (inb_t (show c < 64 by omega) (by decide)), nI_clamp (by omega)]
  cases hb : bit free c with
  | false =>
    refine ⟨0, Or.inl rfl, ?_, ?_⟩
    · rw [if_pos (by decide)]
    · rw [(h.2 c (by omega) hb).1, if_pos (by decide)]
  | true =>
    obtain ⟨k, hk, rfl⟩ := od_onto hf hD hb
    rw [if_neg (by decide), rankOf6 hg hf hD hA hk, Option.bind_some, level4 hg hTb hle b sx sy hc, Option.bind_some, (h.1 k (by omega) hk).1, if_neg (nI_pos (by omega)), level10 hg hT hF hs b sx sy hc, Option.bind_some]
    by_cases hv : lvl (nI (pc free)) (LV g b sx sy (od g free D k)) ≤ nI k
    · exact ⟨0, Or.inl rfl, by rw [if_pos hv], by rw [if_pos hv]⟩
    · exact ⟨1, Or.inr rfl, by rw [if_neg hv], by rw [if_neg hv]⟩
theorem printed_both {g : Geo} {told : Nat → Int32} (hg : g.ok) (hT : RepT g told) {cols lins dist wts : Nat → Int32} (hTb : Tab g cols lins dist wts) {shut free D : Int64} (hF : Fr g shut free) (hs : Inn g shut) (hf : Inn g free) (hD : Sub D free) {order places rank stage : Nat → Int32} (hA : AR g free D 0 (pc free) order places) (h : MR g free D rank stage) (b sx sy : Int32) :
    ∃ v : Int32, f_X4_printed (nI g.N) free (nI (pc free)) cols lins places b sx sy = some v ∧ f_X10_printed shut b sx sy told rank = some v := by
  have hN := Geo.N_le hg
  have key : ∀ (d i fu : Nat) (x : Int32), i + d = g.N → d < fu → ∃ v : Int32, lp_X4_printed_4 (nI g.N) free (nI (pc free)) cols lins places b sx sy fu x (nI i) = some v ∧ lp_X10_printed_4 shut b sx sy told rank fu x (nI i) = some v := by
    intro d
    induction d with
    | zero =>
      intro i fu x hi hfu
      obtain ⟨n, rfl⟩ : ∃ n, fu = n + 1 := ⟨fu - 1, by omega⟩
      have hi : i = g.N := by omega
      subst hi
      exact ⟨x, by rw [lp_X4_printed_4_s, if_pos (nI_le (Nat.le_refl _) (by omega))], by rw [lp_X10_printed_4_s, cells10 hT, Option.bind_some, if_pos (nI_le (Nat.le_refl _) (by omega))]⟩
    | succ d ih =>
      intro i fu x hi hfu
      obtain ⟨n, rfl⟩ : ∃ n, fu = n + 1 := ⟨fu - 1, by omega⟩
      obtain ⟨v, hv, e1, e2⟩ := ink_both hg hT hTb hF hs hf hD hA h b sx sy (show i < g.N by omega)
      rcases hv with rfl | rfl
      · have A : lp_X4_printed_4 (nI g.N) free (nI (pc free)) cols lins places b sx sy (n + 1) x (nI i) = lp_X4_printed_4 (nI g.N) free (nI (pc free)) cols lins places b sx sy n x (nI (i + 1)) := by
          rw [lp_X4_printed_4_s, ite_le (by omega) (by omega), if_neg (by omega), e1, Option.bind_some, if_pos rfl, nI_1]
        have B : lp_X10_printed_4 shut b sx sy told rank (n + 1) x (nI i) = lp_X10_printed_4 shut b sx sy told rank n x (nI (i + 1)) := by
          rw [lp_X10_printed_4_s, cells10 hT, Option.bind_some, ite_le (by omega) (by omega), if_neg (by omega), e2, Option.bind_some, if_pos rfl]
          unfold j_X10_printed_26
          rw [nI_1, show x + 0 = x by grind]
        rw [A, B]
        exact ih (i + 1) n x (by omega) (by omega)
      · have A : lp_X4_printed_4 (nI g.N) free (nI (pc free)) cols lins places b sx sy (n + 1) x (nI i) = lp_X4_printed_4 (nI g.N) free (nI (pc free)) cols lins places b sx sy n (x + 1) (nI (i + 1)) := by
          rw [lp_X4_printed_4_s, ite_le (by omega) (by omega), if_neg (by omega), e1, Option.bind_some, if_neg (by decide), nI_1]
        have B : lp_X10_printed_4 shut b sx sy told rank (n + 1) x (nI i) = lp_X10_printed_4 shut b sx sy told rank n (x + 1) (nI (i + 1)) := by
          rw [lp_X10_printed_4_s, cells10 hT, Option.bind_some, ite_le (by omega) (by omega), if_neg (by omega), e2, Option.bind_some, if_neg (by decide)]
          unfold j_X10_printed_26
          rw [nI_1]
        rw [A, B]
        exact ih (i + 1) n (x + 1) (by omega) (by omega)
  unfold f_X4_printed f_X10_printed
  exact key g.N 0 FU 0 (by omega) (by unfold FU; omega)
theorem off_both {g : Geo} {told : Nat → Int32} (hg : g.ok) (hT : RepT g told) {cols lins dist wts : Nat → Int32} (hTb : Tab g cols lins dist wts) {shut free D : Int64} (hF : Fr g shut free) (hs : Inn g shut) (hf : Inn g free) (hD : Sub D free) {order places rank stage : Nat → Int32} (hA : AR g free D 0 (pc free) order places) (h : MR g free D rank stage) (b sx sy th : Int32) {v : Int32} (e1 : f_X4_printed (nI g.N) free (nI (pc free)) cols lins places b sx sy = some v) :
    ∃ w : Int32, f_X4_farOff (nI g.N) free (nI (pc free)) cols lins places b sx sy = some w ∧ lp_X10_off_33 shut b sx sy told FU (nI (pc free) * v) (nI 0) th rank stage = some (w, th, rank, stage) := by
  have hN := Geo.N_le hg
  have hle := pc_le free
  have key : ∀ (d i fu : Nat) (x : Int32), i + d = g.N → d < fu → ∃ w : Int32, lp_X4_farOff_4 (nI g.N) free (nI (pc free)) cols lins places b sx sy fu x (nI i) = some w ∧ lp_X10_off_33 shut b sx sy told fu (nI (pc free) * v - x) (nI i) th rank stage = some (w, th, rank, stage) := by
    intro d
    induction d with
    | zero =>
      intro i fu x hi hfu
      obtain ⟨n, rfl⟩ : ∃ n, fu = n + 1 := ⟨fu - 1, by omega⟩
      have hi : i = g.N := by omega
      subst hi
      exact ⟨nI (pc free) * v - x, by rw [lp_X4_farOff_4_s, if_pos (nI_le (Nat.le_refl _) (by omega)), e1, Option.bind_some], by rw [lp_X10_off_33_s, cells10 hT, Option.bind_some, if_pos (nI_le (Nat.le_refl _) (by omega))]⟩
    | succ d ih =>
      intro i fu x hi hfu
      obtain ⟨n, rfl⟩ : ∃ n, fu = n + 1 := ⟨fu - 1, by omega⟩
      have hb := hF i (by omega)
      simp only [show i < g.N by omega, decide_true, Bool.true_and] at hb
      by_cases hsh : bit shut i = true
      · have hb2 : ¬ bit free i = true := by rw [hb, hsh]; decide
        have A : lp_X4_farOff_4 (nI g.N) free (nI (pc free)) cols lins places b sx sy (n + 1) x (nI i) = lp_X4_farOff_4 (nI g.N) free (nI (pc free)) cols lins places b sx sy n x (nI (i + 1)) := by
          rw [lp_X4_farOff_4_s, ite_le (by omega) (by omega), if_neg (by omega), has9 free (by omega), Option.bind_some, if_pos (by rw [if_neg hb2]), nI_1]
        have B : lp_X10_off_33 shut b sx sy told (n + 1) (nI (pc free) * v - x) (nI i) th rank stage = lp_X10_off_33 shut b sx sy told n (nI (pc free) * v - x) (nI (i + 1)) th rank stage := by
          rw [lp_X10_off_33_s, cells10 hT, Option.bind_some, ite_le (by omega) (by omega), if_neg (by omega), isFree10 shut (by omega), Option.bind_some, if_pos (by rw [if_pos hsh])]
          unfold j_X10_off_59
          rw [nI_1, show nI (pc free) * v - x - 0 = nI (pc free) * v - x by grind]
        rw [A, B]
        exact ih (i + 1) n x (by omega) (by omega)
      · have hb2 : bit free i = true := by rw [hb]; simpa using hsh
        have A : lp_X4_farOff_4 (nI g.N) free (nI (pc free)) cols lins places b sx sy (n + 1) x (nI i) = lp_X4_farOff_4 (nI g.N) free (nI (pc free)) cols lins places b sx sy n (x + lvl (nI (pc free)) (LV g b sx sy i)) (nI (i + 1)) := by
          rw [lp_X4_farOff_4_s, ite_le (by omega) (by omega), if_neg (by omega), has9 free (by omega), Option.bind_some, if_neg (by rw [if_pos hb2]; decide), level4 hg hTb hle b sx sy (by omega), Option.bind_some, nI_1]
        have B : lp_X10_off_33 shut b sx sy told (n + 1) (nI (pc free) * v - x) (nI i) th rank stage = lp_X10_off_33 shut b sx sy told n (nI (pc free) * v - (x + lvl (nI (pc free)) (LV g b sx sy i))) (nI (i + 1)) th rank stage := by
          rw [lp_X10_off_33_s, cells10 hT, Option.bind_some, ite_le (by omega) (by omega), if_neg (by omega), isFree10 shut (by omega), Option.bind_some, if_neg (by rw [if_neg hsh]; decide), level10 hg hT hF hs b sx sy (by omega), Option.bind_some]
          unfold j_X10_off_59
          rw [nI_1, show nI (pc free) * v - x - lvl (nI (pc free)) (LV g b sx sy i) = nI (pc free) * v - (x + lvl (nI (pc free)) (LV g b sx sy i)) by grind]
        rw [A, B]
        exact ih (i + 1) n (x + lvl (nI (pc free)) (LV g b sx sy i)) (by omega) (by omega)
  unfold f_X4_farOff
  have := key g.N 0 FU 0 (by omega) (by unfold FU; omega)
  rw [show nI (pc free) * v - 0 = nI (pc free) * v by grind] at this
  exact this
theorem stageOf6 {g : Geo} (hg : g.ok) {free D : Int64} (hf : Inn g free) (hD : Sub D free) (h0 : 0 < pc D) {th fi : Int32} {order places : Nat → Int32} (h : RC g free D th fi order places) {k : Nat} (hk : k < pc free) : f_X6_stageOf (nI g.N) th fi places (nI (od g free D k)) = some (nI (stg free D k)) := by
  have hle := pc_le free
  have hsub := pc_sub hD
  obtain ⟨f1, f2, f3⟩ := fld_le hsub h0
  obtain ⟨e1, e2, hA⟩ := h
  unfold f_X6_stageOf stg
  rw [rankOf6 hg hf hD hA hk, Option.bind_some, e1, e2, ite_le (by omega) (by omega), ite_le (by omega) (by omega)]
  by_cases q : k < pc D
  · rw [if_neg (by omega), if_pos q]; rfl
  · rw [if_pos (by omega), if_neg q]
    have hiff : k < hlf free ↔ k < fld free D := by
      unfold fld
      split <;> omega
    by_cases q2 : k < hlf free
    · rw [if_neg (by have := hiff.mp q2; omega), if_pos q2]; rfl
    · rw [if_pos (by have : ¬ k < fld free D := fun z => q2 (hiff.mpr z); omega), if_neg q2]; rfl
