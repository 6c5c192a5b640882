/-! The ground's tables. -/
/-- the tables as far as the cells ahead of y, x are laid -/
def TabP (g : Geo) (y x : Nat) (cols lins dist wts : Nat → Int32) : Prop :=
  (∀ c, c < y * g.W + x → cols c = nI (c % g.W) ∧ lins c = nI (c / g.W)) ∧ ∀ x' y', x' < g.W → (y' < y ∨ (y' = y ∧ x' < x)) → dist (8 * y' + x') = nI (g.dxy x' y') ∧ wts (8 * y' + x') = nI (g.wgt (g.dxy x' y'))
def Tab (g : Geo) (cols lins dist wts : Nat → Int32) : Prop :=
  (∀ c, c < g.N → cols c = nI (c % g.W) ∧ lins c = nI (c / g.W)) ∧ ∀ x y, x < g.W → y < g.H → dist (8 * y + x) = nI (g.dxy x y) ∧ wts (8 * y + x) = nI (g.wgt (g.dxy x y))
theorem upd_nI (f : Nat → Int32) (k : Nat) (v : Int32) (h : k < 2 ^ 31) : upd f (nI k).toNatClampNeg v = upd f k v := by rw [nI_clamp h]
theorem tabP_step {g : Geo} (hg : g.ok) {y x : Nat} {cols lins dist wts : Nat → Int32} (hx : x < g.W) (h : TabP g y x cols lins dist wts) :
    TabP g y (x + 1) (upd cols (y * g.W + x) (nI x)) (upd lins (y * g.W + x) (nI y)) (upd dist (8 * y + x) (nI (g.dxy x y))) (upd wts (8 * y + x) (nI (g.wgt (g.dxy x y)))) := by
  have w2 := hg.1.2
  refine ⟨fun c hc => ?_, fun x' y' hx' hy' => ?_⟩
  · by_cases he : c = y * g.W + x
    · subst he
      rw [pk_us, pk_us]
      have h1 : (y * g.W + x) % g.W = x := by rw [Nat.mul_comm, Nat.mul_add_mod, Nat.mod_eq_of_lt hx]
      have h2 : (y * g.W + x) / g.W = y := by rw [Nat.mul_comm, Nat.mul_add_div (by omega), Nat.div_eq_of_lt hx]; omega
      rw [h1, h2]
      exact ⟨rfl, rfl⟩
    · rw [pk_un he, pk_un he]
      exact h.1 c (by omega)
  · by_cases he : 8 * y' + x' = 8 * y + x
    · have h1 : y' = y ∧ x' = x := by omega
      obtain ⟨rfl, rfl⟩ := h1
      rw [pk_us, pk_us]
      exact ⟨rfl, rfl⟩
    · rw [pk_un he, pk_un he]
      refine h.2 x' y' hx' ?_
      rcases hy' with q | ⟨q, q2⟩
      · exact Or.inl q
      · subst q
        exact Or.inr ⟨rfl, by omega⟩
theorem tabP_line {g : Geo} {y : Nat} {cols lins dist wts : Nat → Int32} (h : TabP g y g.W cols lins dist wts) : TabP g (y + 1) 0 cols lins dist wts := by
  refine ⟨fun c hc => h.1 c (by rw [Nat.succ_mul] at hc; omega), fun x' y' hx' hy' => h.2 x' y' hx' ?_⟩
  rcases hy' with q | ⟨q, q2⟩
  · by_cases h1 : y' < y
    · exact Or.inl h1
    · exact Or.inr ⟨by omega, hx'⟩
  · omega
theorem tabP_end {g : Geo} {cols lins dist wts : Nat → Int32} (h : TabP g g.H 0 cols lins dist wts) : Tab g cols lins dist wts :=
  ⟨fun c hc => h.1 c (by rw [Nat.mul_comm]; exact hc), fun x y hx hy => h.2 x y hx (Or.inl hy)⟩
theorem lay_in {g : Geo} (hg : g.ok) {y : Nat} (hy : y < g.H) (free : Int64) (fc : Int32) (k7 : Int32 → Int32 → Int64 → Int32 → (Nat → Int32) → (Nat → Int32) → (Nat → Int32) → (Nat → Int32) → Option (Int32 × Int64 × Int32 × (Nat → Int32) × (Nat → Int32) × (Nat → Int32) × (Nat → Int32))) :
    ∀ (d x fu : Nat) (cols lins dist wts : Nat → Int32), x + d = g.W → d < fu → TabP g y x cols lins dist wts →
      ∃ cols' lins' dist' wts', TabP g y g.W cols' lins' dist' wts' ∧ lp_X0_lay_26 (nI g.W) (nI g.H) (nI g.ke) (nI g.po) (nI g.fa) (nI g.ax) (nI g.ay) k7 fu (nI y) (nI x) (nI (y * g.W + x)) free fc cols lins dist wts = k7 (nI (y + 1)) (nI ((y + 1) * g.W)) free fc cols' lins' dist' wts' := by
  have w1 := hg.1.1
  have w2 := hg.1.2
  have y2 := hg.2.1.2
  intro d
  induction d with
  | zero =>
    intro x fu cols lins dist wts hx hf h
    obtain ⟨n, rfl⟩ : ∃ n, fu = n + 1 := ⟨fu - 1, by omega⟩
    have hx : x = g.W := by omega
    subst hx
    refine ⟨cols, lins, dist, wts, h, ?_⟩
    rw [lp_X0_lay_26_s, if_pos (nI_le (Nat.le_refl _) (by omega)), nI_1, Nat.succ_mul]
  | succ d ih =>
    intro x fu cols lins dist wts hx hf h
    obtain ⟨n, rfl⟩ : ∃ n, fu = n + 1 := ⟨fu - 1, by omega⟩
    have hm : y * g.W + x < 64 := by
      have : (y + 1) * g.W ≤ 8 * 8 := Nat.mul_le_mul (by omega) w2
      rw [Nat.succ_mul] at this
      omega
    rw [lp_X0_lay_26_s, ite_le (by omega) (by omega), if_neg (by omega), show (8 : Int32) = nI 8 from rfl, ite_le (by omega) (by omega), if_neg (by omega), pk_mul, nI_add]
    rw [if_pos (inb_t hm (by decide)), if_pos (inb_t hm (by decide)), distanceOf5 hg (by omega) hy, Option.bind_some, if_pos (inb_t (show 8 * y + x < 64 by omega) (by decide)), weightOf5 hg (Geo.dxy_le hg _ _), Option.bind_some, if_pos (inb_t (show 8 * y + x < 64 by omega) (by decide))]
    rw [upd_nI _ _ _ (by omega), upd_nI _ _ _ (by omega), upd_nI _ _ _ (by omega), upd_nI _ _ _ (by omega), nI_1, nI_1]
    exact ih (x + 1) n _ _ _ _ (by omega) (by omega) (tabP_step hg (by omega) h)
theorem lus_m1_bit {n : Nat} (h1 : 1 ≤ n) (h : n ≤ 64) {k : Nat} (hk : k < 64) : bit (lus (-1) (nI 64 - nI n)) k = decide (k < n) := by
  rw [pk_sub h, show (-1 : Int64) = lN (2 ^ 64 - 1) from by decide +kernel]
  have e : lus (lN (2 ^ 64 - 1)) (nI (64 - n)) = lN ((2 ^ 64 - 1) / 2 ^ (64 - n)) := wb_shr (by decide) (by omega)
  have e2 : (2 ^ 64 - 1) / 2 ^ (64 - n) = 2 ^ n - 1 := by
    have : 2 ^ 64 = 2 ^ (64 - n) * 2 ^ n := by rw [← Nat.pow_add]; congr 1; omega
    rw [this]
    have hp : 0 < 2 ^ (64 - n) := Nat.pow_pos (by decide)
    have hq : 0 < 2 ^ n := Nat.pow_pos (by decide)
    rw [Nat.div_eq_iff hp]
    generalize 2 ^ (64 - n) = a at *
    obtain ⟨b, hb⟩ : ∃ b, 2 ^ n = b + 1 := ⟨2 ^ n - 1, by omega⟩
    rw [hb, Nat.add_sub_cancel, Nat.mul_succ, Nat.mul_comm a b]
    omega
  rw [e, e2]
  unfold bit
  rw [wb_tb, BitVec.getLsbD_ofNat, Nat.testBit_two_pow_sub_one]
  simp [hk]
/-- the free cells -/
def Fr (g : Geo) (shut free : Int64) : Prop := ∀ k, k < 64 → bit free k = (decide (k < g.N) && !bit shut k)
theorem lay0 {g : Geo} (hg : g.ok) (shut free0 : Int64) (cells0 fc0 : Int32) (cols lins dist wts : Nat → Int32) :
    ∃ (free : Int64) (cols' lins' dist' wts' : Nat → Int32), Fr g shut free ∧ Tab g cols' lins' dist' wts' ∧ f_X0_lay (nI g.W) (nI g.H) (nI g.ke) (nI g.po) (nI g.fa) (nI g.ax) (nI g.ay) shut cells0 free0 fc0 cols lins dist wts = some (nI g.N, free, nI (pc free), cols', lins', dist', wts') := by
  have w1 := hg.1.1
  have w2 := hg.1.2
  have y2 := hg.2.1.2
  have hN := Geo.N_le hg
  have hN1 := Geo.N_pos hg
  have key : ∀ (d y fu : Nat) (cols lins dist wts : Nat → Int32), y + d = g.H → d < fu → TabP g y 0 cols lins dist wts →
      ∃ cols' lins' dist' wts', Tab g cols' lins' dist' wts' ∧ lp_X0_lay_7 (nI g.W) (nI g.H) (nI g.ke) (nI g.po) (nI g.fa) (nI g.ax) (nI g.ay) shut fu (nI y) (nI (y * g.W)) free0 fc0 cols lins dist wts = j_X0_lay_126 shut (nI g.N) free0 fc0 cols' lins' dist' wts' := by
    intro d
    induction d with
    | zero =>
      intro y fu cols lins dist wts hy hf h
      obtain ⟨n, rfl⟩ : ∃ n, fu = n + 1 := ⟨fu - 1, by omega⟩
      have hy : y = g.H := by omega
      subst hy
      refine ⟨cols, lins, dist, wts, tabP_end h, ?_⟩
      rw [lp_X0_lay_7_s, if_pos (nI_le (Nat.le_refl _) (by omega)), Nat.mul_comm]
      rfl
    | succ d ih =>
      intro y fu cols lins dist wts hy hf h
      obtain ⟨n, rfl⟩ : ∃ n, fu = n + 1 := ⟨fu - 1, by omega⟩
      rw [lp_X0_lay_7_s, ite_le (by omega) (by omega), if_neg (by omega), show (8 : Int32) = nI 8 from rfl, ite_le (by omega) (by omega), if_neg (by omega)]
      obtain ⟨c1, l1, d1, w1, h1, e1⟩ := lay_in hg (show y < g.H by omega) free0 fc0 (lp_X0_lay_7 (nI g.W) (nI g.H) (nI g.ke) (nI g.po) (nI g.fa) (nI g.ax) (nI g.ay) shut n) g.W 0 FU cols lins dist wts (by omega) (by unfold FU; omega) h
      rw [Nat.add_zero] at e1
      rw [show (0 : Int32) = nI 0 from rfl, e1]
      exact ih (y + 1) n _ _ _ _ (by omega) (by omega) (tabP_line h1)
  obtain ⟨c1, l1, d1, w1', h1, e1⟩ := key g.H 0 FU cols lins dist wts (by omega) (by unfold FU; omega) ⟨fun c hc => by omega, fun x' y' _ hy' => by omega⟩
  rw [Nat.zero_mul] at e1
  refine ⟨lus (-1) (nI 64 - nI g.N) &&& (shut ^^^ (-1)), c1, l1, d1, w1', fun k hk => ?_, h1, ?_⟩
  · rw [bit_and, lus_m1_bit hN1 hN hk, bit_not _ hk]
  · unfold f_X0_lay
    rw [show (0 : Int32) = nI 0 from rfl, e1]
    unfold j_X0_lay_126
    rw [show (64 : Int32) = nI 64 from rfl, bitCount13, Option.bind_some]
theorem isCell0 {n : Nat} (hn : n ≤ 64) {a : Nat} (ha : a < n) : f_X0_isCell (nI n) (nI a) = some 1 := by
  unfold f_X0_isCell
  rw [if_neg (nI_pos (by omega)), ite_le (by omega) (by omega), if_neg (by omega)]
theorem jabs {a b : Nat} (ha : a < 2 ^ 30) (hb : b < 2 ^ 30) : (if (0 : Int32) ≤ nI a - nI b then nI a - nI b else 0 - (nI a - nI b)) = nI (adif a b) := by
  have hz : ((0 : Int32) ≤ nI a - nI b) ↔ b ≤ a := by
    rw [Int32.le_iff_toInt_le, pk_sub_toInt ha hb]
    show (0 : Int) ≤ _ ↔ _
    omega
  unfold adif
  by_cases h : b ≤ a
  · rw [if_pos (hz.mpr h), pk_sub h]
    split
    · have : a = b := by omega
      subst this
      rfl
    · rfl
  · rw [if_neg (fun q => h (hz.mp q)), if_pos (by omega)]
    have : nI a + nI (b - a) = nI b := by rw [nI_add]; congr 1; omega
    rw [← this]
    generalize nI a = x
    generalize nI (b - a) = y
    grind
theorem distance0 {g : Geo} (hg : g.ok) {cols lins dist wts : Nat → Int32} (hT : Tab g cols lins dist wts) {a b : Nat} (ha : a < g.N) (hb : b < g.N) : f_X0_distance (nI g.N) cols lins dist (nI a) (nI b) = some (nI (g.dst a b)) := by
  have hN := Geo.N_le hg
  have w1 := hg.1.1
  have w2 := hg.1.2
  have y2 := hg.2.1.2
  have ma := Geo.mod_lt hg a
  have mb := Geo.mod_lt hg b
  have da := Geo.div_lt ha
  have db := Geo.div_lt hb
  have hx := adif_lt ma mb
  have hy := adif_lt da db
  unfold f_X0_distance
  rw [isCell0 hN ha, isCell0 hN hb, Option.bind_some, Option.bind_some, if_neg (by decide), if_neg (by decide), if_pos (inb_t (show a < 64 by omega) (by decide)), if_pos (inb_t (show b < 64 by omega) (by decide)), if_pos (inb_t (show a < 64 by omega) (by decide)), if_pos (inb_t (show b < 64 by omega) (by decide))]
  rw [nI_clamp (show a < 2 ^ 31 by omega), nI_clamp (show b < 2 ^ 31 by omega), (hT.1 a ha).1, (hT.1 a ha).2, (hT.1 b hb).1, (hT.1 b hb).2, jabs (by omega) (by omega), jabs (by omega) (by omega), show (8 : Int32) = nI 8 from rfl, pk_mul, nI_add]
  rw [if_pos (inb_t (by omega) (by decide)), nI_clamp (by omega), (hT.2 _ _ hx hy).1]
  rfl
theorem weight0 {g : Geo} (hg : g.ok) {cols lins dist wts : Nat → Int32} (hT : Tab g cols lins dist wts) {a b : Nat} (ha : a < g.N) (hb : b < g.N) : f_X0_weight (nI g.N) cols lins wts (nI a) (nI b) = some (nI (g.wt a b)) := by
  have hN := Geo.N_le hg
  have w1 := hg.1.1
  have w2 := hg.1.2
  have y2 := hg.2.1.2
  have ma := Geo.mod_lt hg a
  have mb := Geo.mod_lt hg b
  have da := Geo.div_lt ha
  have db := Geo.div_lt hb
  have hx := adif_lt ma mb
  have hy := adif_lt da db
  unfold f_X0_weight
  rw [isCell0 hN ha, isCell0 hN hb, Option.bind_some, Option.bind_some, if_neg (by decide), if_neg (by decide), if_pos (inb_t (show a < 64 by omega) (by decide)), if_pos (inb_t (show b < 64 by omega) (by decide)), if_pos (inb_t (show a < 64 by omega) (by decide)), if_pos (inb_t (show b < 64 by omega) (by decide))]
  rw [nI_clamp (show a < 2 ^ 31 by omega), nI_clamp (show b < 2 ^ 31 by omega), (hT.1 a ha).1, (hT.1 a ha).2, (hT.1 b hb).1, (hT.1 b hb).2, jabs (by omega) (by omega), jabs (by omega) (by omega), show (8 : Int32) = nI 8 from rfl, pk_mul, nI_add]
  rw [if_pos (inb_t (by omega) (by decide)), nI_clamp (by omega), (hT.2 _ _ hx hy).2]
  rfl
theorem columnOf0 {g : Geo} (hg : g.ok) {cols lins dist wts : Nat → Int32} (hT : Tab g cols lins dist wts) {a : Nat} (ha : a < g.N) : f_X0_columnOf (nI g.N) cols (nI a) = some (nI (a % g.W)) := by
  have hN := Geo.N_le hg
  unfold f_X0_columnOf
  rw [isCell0 hN ha, Option.bind_some, if_neg (by decide), if_pos (inb_t (show a < 64 by omega) (by decide)), nI_clamp (by omega), (hT.1 a ha).1]
theorem lineOf0 {g : Geo} (hg : g.ok) {cols lins dist wts : Nat → Int32} (hT : Tab g cols lins dist wts) {a : Nat} (ha : a < g.N) : f_X0_lineOf (nI g.N) lins (nI a) = some (nI (a / g.W)) := by
  have hN := Geo.N_le hg
  unfold f_X0_lineOf
  rw [isCell0 hN ha, Option.bind_some, if_neg (by decide), if_pos (inb_t (show a < 64 by omega) (by decide)), nI_clamp (by omega), (hT.1 a ha).2]
