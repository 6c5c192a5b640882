/-! Shifts. -/
def sg (g : Geo) (dx dy c : Nat) : Nat := ((c / g.W + dy) % g.H) * g.W + (c % g.W + dx) % g.W
theorem modw {a d n : Nat} (ha : a < n) (hd : d < n) : (a + d) % n = if a + d < n then a + d else a + d - n := by
  by_cases h : a + d < n
  · rw [if_pos h, Nat.mod_eq_of_lt h]
  · rw [if_neg h, Nat.mod_eq_sub_mod (by omega), Nat.mod_eq_of_lt (by omega)]
theorem modw_inj {a b d n : Nat} (ha : a < n) (hb : b < n) (hd : d < n) (h : (a + d) % n = (b + d) % n) : a = b := by
  rw [modw ha hd, modw hb hd] at h
  split at h <;> split at h <;> omega
theorem yx_lt {W H x y : Nat} (hx : x < W) (hy : y < H) : y * W + x < W * H := by
  have : (y + 1) * W ≤ H * W := Nat.mul_le_mul_right _ hy
  rw [Nat.succ_mul, Nat.mul_comm H W] at this
  omega
theorem yx_inj {W x y x' y' : Nat} (hx : x < W) (hx' : x' < W) (h : y * W + x = y' * W + x') : y = y' ∧ x = x' := by
  have h1 : (y * W + x) / W = y := by rw [Nat.mul_comm, Nat.mul_add_div (by omega), Nat.div_eq_of_lt hx]; omega
  have h2 : (y' * W + x') / W = y' := by rw [Nat.mul_comm, Nat.mul_add_div (by omega), Nat.div_eq_of_lt hx']; omega
  have e : y = y' := by rw [← h1, h, h2]
  subst e
  exact ⟨rfl, by omega⟩
theorem sg_lt {g : Geo} (hg : g.ok) (dx dy c : Nat) : sg g dx dy c < g.N := yx_lt (Nat.mod_lt _ hg.1.1) (Nat.mod_lt _ hg.2.1.1)
theorem sg_inj {g : Geo} (hg : g.ok) {dx dy c c' : Nat} (hx : dx < g.W) (hy : dy < g.H) (hc : c < g.N) (hc' : c' < g.N) (h : sg g dx dy c = sg g dx dy c') : c = c' := by
  unfold sg at h
  obtain ⟨h1, h2⟩ := yx_inj (Nat.mod_lt _ hg.1.1) (Nat.mod_lt _ hg.1.1) h
  have m1 := Geo.mod_lt hg c
  have m2 := Geo.mod_lt hg c'
  have d1 := Geo.div_lt hc
  have d2 := Geo.div_lt hc'
  have e1 : c / g.W = c' / g.W := modw_inj d1 d2 hy h1
  have e2 : c % g.W = c' % g.W := modw_inj m1 m2 hx h2
  have k1 := Nat.div_add_mod c g.W
  have k2 := Nat.div_add_mod c' g.W
  rw [e1, e2] at k1
  omega
def lies (g : Geo) (S : Int64) (dx dy : Nat) : Bool := decide (∀ c, c < g.N → bit S c = bit S (sg g dx dy c))
theorem numberOf5 {g : Geo} (hg : g.ok) {x y : Nat} (hx : x < g.W) (hy : y < g.H) : f_X5_numberOf (nI g.W) (nI g.H) (nI x) (nI y) = some (nI (y * g.W + x)) := by
  have w2 := hg.1.2
  have y2 := hg.2.1.2
  unfold f_X5_numberOf
  rw [if_neg (nI_pos (by omega)), ite_le (by omega) (by omega), if_neg (by omega), if_neg (nI_pos (by omega)), ite_lt (by omega) (by omega), if_pos hy, pk_mul, nI_add]
theorem wrapped0 {a d n : Nat} (hn : n ≤ 8) (ha : a < n) (hd : d < n) : f_X0_wrapped (nI a + nI d) (nI n) = some (nI ((a + d) % n)) := by
  unfold f_X0_wrapped
  rw [nI_add, ite_le (by omega) (by omega), modw ha hd]
  by_cases h : a + d < n
  · rw [if_neg (by omega), if_pos h]
  · rw [if_pos (by omega), if_neg h, pk_sub (by omega)]
theorem lie_lp {g : Geo} (hg : g.ok) {cols lins dist wts : Nat → Int32} (hT : Tab g cols lins dist wts) (S : Int64) {dx dy : Nat} (hx : dx < g.W) (hy : dy < g.H) :
    ∀ (d i fu : Nat), i + d = g.N → d < fu → (∀ c, c < i → bit S c = bit S (sg g dx dy c)) → lp_X0_lieOnThemselves_3 (nI g.W) (nI g.H) (nI g.N) cols lins S (nI dx) (nI dy) fu (nI i) = some (if lies g S dx dy = true then 1 else 0) := by
  have hN := Geo.N_le hg
  intro d
  induction d with
  | zero =>
    intro i fu hi hf h
    obtain ⟨n, rfl⟩ : ∃ n, fu = n + 1 := ⟨fu - 1, by omega⟩
    have hi : i = g.N := by omega
    subst hi
    rw [lp_X0_lieOnThemselves_3_s, if_pos (nI_le (Nat.le_refl _) (by omega)), if_pos (by unfold lies; exact decide_eq_true h)]
  | succ d ih =>
    intro i fu hi hf h
    obtain ⟨n, rfl⟩ : ∃ n, fu = n + 1 := ⟨fu - 1, by omega⟩
    have hl := sg_lt hg dx dy i
    rw [lp_X0_lieOnThemselves_3_s, ite_le (by omega) (by omega), if_neg (by omega), if_pos (inb_t (show i < 64 by omega) (by decide)), nI_clamp (by omega), (hT.1 i (by omega)).1, wrapped0 hg.1.2 (Geo.mod_lt hg i) hx, Option.bind_some, if_pos (inb_t (show i < 64 by omega) (by decide)), (hT.1 i (by omega)).2, wrapped0 hg.2.1.2 (Geo.div_lt (by omega)) hy, Option.bind_some, has9 S (by omega), Option.bind_some, numberOf5 hg (Nat.mod_lt _ hg.1.1) (Nat.mod_lt _ hg.2.1.1), Option.bind_some]
    change (f_X9_has S (nI (sg g dx dy i))).bind _ = _
    rw [has9 S (by omega), Option.bind_some]
    by_cases hb : bit S i = bit S (sg g dx dy i)
    · rw [hb, if_pos rfl, nI_1]
      refine ih (i + 1) n (by omega) (by omega) (fun c hc => ?_)
      by_cases hci : c = i
      · subst hci; exact hb
      · exact h c (by omega)
    · rw [if_neg (by
        revert hb
        cases bit S i <;> cases bit S (sg g dx dy i) <;> decide), if_neg (by
        unfold lies
        intro hh
        exact hb (of_decide_eq_true hh i (by omega)))]
theorem lie0 {g : Geo} (hg : g.ok) {cols lins dist wts : Nat → Int32} (hT : Tab g cols lins dist wts) (S : Int64) {dx dy : Nat} (hx : dx < g.W) (hy : dy < g.H) : f_X0_lieOnThemselves (nI g.W) (nI g.H) (nI g.N) cols lins S (nI dx) (nI dy) = some (if lies g S dx dy = true then 1 else 0) := by
  have hN := Geo.N_le hg
  unfold f_X0_lieOnThemselves
  exact lie_lp hg hT S hx hy g.N 0 FU (by omega) (by unfold FU; omega) (fun c hc => by omega)
theorem shf_in {g : Geo} (hg : g.ok) {cols lins dist wts : Nat → Int32} (hT : Tab g cols lins dist wts) (S shut : Int64) (k4 : Int32 → Int32 → Option Int32) {y : Nat} (hy : y < g.H) (base : Nat) :
    ∀ (d i fu : Nat), i + d = g.W → d < fu → lp_X9_shifts_17 (nI g.W) (nI g.H) shut (nI g.N) cols lins S k4 fu (nI (base + fb_ct (fun x => lies g S x y && lies g shut x y) i)) (nI y) (nI i) = k4 (nI (base + fb_ct (fun x => lies g S x y && lies g shut x y) g.W)) (nI (y + 1)) := by
  have w2 := hg.1.2
  have y2 := hg.2.1.2
  intro d
  induction d with
  | zero =>
    intro i fu hi hf
    obtain ⟨n, rfl⟩ : ∃ n, fu = n + 1 := ⟨fu - 1, by omega⟩
    have hi : i = g.W := by omega
    subst hi
    rw [lp_X9_shifts_17_s, if_pos (nI_le (Nat.le_refl _) (by omega)), nI_1]
  | succ d ih =>
    intro i fu hi hf
    obtain ⟨n, rfl⟩ : ∃ n, fu = n + 1 := ⟨fu - 1, by omega⟩
    have h1 := ih (i + 1) n (by omega) (by omega)
    rw [fb_ct_succ, ← Nat.add_assoc] at h1
    rw [lp_X9_shifts_17_s, ite_le (by omega) (by omega), if_neg (by omega), lie0 hg hT S (by omega) hy, Option.bind_some]
    by_cases hb : lies g S i y = true
    · rw [if_neg (by rw [if_pos hb]; decide), lie0 hg hT shut (by omega) hy, Option.bind_some]
      by_cases hb2 : lies g shut i y = true
      · rw [if_neg (by rw [if_pos hb2]; decide), nI_1, nI_1]
        rw [hb, hb2] at h1
        exact h1
      · rw [if_pos (by rw [if_neg hb2]), nI_1]
        rw [hb, show lies g shut i y = false by simpa using hb2] at h1
        exact h1
    · rw [if_pos (by rw [if_neg hb]), nI_1]
      rw [show lies g S i y = false by simpa using hb] at h1
      exact h1
def shc (g : Geo) (S shut : Int64) (n : Nat) : Nat := fb_sm (fun y => fb_ct (fun x => lies g S x y && lies g shut x y) g.W) n
theorem shifts9 {g : Geo} (hg : g.ok) {cols lins dist wts : Nat → Int32} (hT : Tab g cols lins dist wts) (S shut : Int64) : f_X9_shifts (nI g.W) (nI g.H) shut (nI g.N) cols lins S = some (nI (shc g S shut g.H)) := by
  have w2 := hg.1.2
  have y2 := hg.2.1.2
  have key : ∀ (d i fu : Nat), i + d = g.H → d < fu → lp_X9_shifts_4 (nI g.W) (nI g.H) shut (nI g.N) cols lins S fu (nI (shc g S shut i)) (nI i) = some (nI (shc g S shut g.H)) := by
    intro d
    induction d with
    | zero =>
      intro i fu hi hf
      obtain ⟨n, rfl⟩ : ∃ n, fu = n + 1 := ⟨fu - 1, by omega⟩
      have hi : i = g.H := by omega
      subst hi
      rw [lp_X9_shifts_4_s, if_pos (nI_le (Nat.le_refl _) (by omega))]
    | succ d ih =>
      intro i fu hi hf
      obtain ⟨n, rfl⟩ : ∃ n, fu = n + 1 := ⟨fu - 1, by omega⟩
      have h1 := ih (i + 1) n (by omega) (by omega)
      unfold shc at h1
      rw [fb_sm_succ] at h1
      have h2 := shf_in hg hT S shut (lp_X9_shifts_4 (nI g.W) (nI g.H) shut (nI g.N) cols lins S n) (show i < g.H by omega) (shc g S shut i) g.W 0 FU (by omega) (by unfold FU; omega)
      rw [show ∀ p, fb_ct p 0 = 0 from fun _ => rfl, Nat.add_zero] at h2
      rw [lp_X9_shifts_4_s, ite_le (by omega) (by omega), if_neg (by omega), L0, h2]
      exact h1
  unfold f_X9_shifts
  exact key g.H 0 FU (by omega) (by unfold FU; omega)
/-! the model's -/
theorem at10 {g : Geo} {told : Nat → Int32} (hT : RepT g told) (x y : Nat) : f_X10_at told (nI x) (nI y) = some (nI (y * g.W + x)) := by
  unfold f_X10_at
  simp only [B0, T0, ↓reduceIte, hT.1, pk_mul, nI_add]
  rw [Nat.mul_comm]
def Img (g : Geo) (S : Int64) (dx dy i : Nat) (S' : Int64) : Prop := ∀ t, t < 64 → (bit S' t = true ↔ ∃ k, k < i ∧ bit S k = true ∧ sg g dx dy k = t)
theorem shd_lp {g : Geo} {told : Nat → Int32} (hg : g.ok) (hT : RepT g told) (S : Int64) {dx dy : Nat} (hx : dx < g.W) (hy : dy < g.H) :
    ∀ (d i fu : Nat) (acc : Int64), i + d = g.N → d < fu → Img g S dx dy i acc → ∃ S', Img g S dx dy g.N S' ∧ lp_X10_shifted_6 told S (nI dx) (nI dy) fu acc (nI i) = some S' := by
  have hN := Geo.N_le hg
  have w1 := hg.1.1
  have w2 := hg.1.2
  have y1 := hg.2.1.1
  have y2 := hg.2.1.2
  have hw0 : ¬ nI g.W = 0 := nI_ne0 w1 (by omega)
  have hh0 : ¬ nI g.H = 0 := nI_ne0 y1 (by omega)
  intro d
  induction d with
  | zero =>
    intro i fu acc hi hf h
    obtain ⟨n, rfl⟩ : ∃ n, fu = n + 1 := ⟨fu - 1, by omega⟩
    have hi : i = g.N := by omega
    subst hi
    exact ⟨acc, h, by rw [lp_X10_shifted_6_s, cells10 hT, Option.bind_some, if_pos (nI_le (Nat.le_refl _) (by omega))]⟩
  | succ d ih =>
    intro i fu acc hi hf h
    obtain ⟨n, rfl⟩ : ∃ n, fu = n + 1 := ⟨fu - 1, by omega⟩
    have hl := sg_lt hg dx dy i
    have hm := Geo.mod_lt hg i
    have hdv := Geo.div_lt (g := g) (a := i) (by omega)
    rw [lp_X10_shifted_6_s, cells10 hT, Option.bind_some, ite_le (by omega) (by omega), if_neg (by omega)]
    simp only [B0, B1, T0, T1, ↓reduceIte, hT.1, hT.2.1, hw0, hh0]
    rw [pk_rem (show i < 2 ^ 31 by omega) w1 (by omega), pk_div (show i < 2 ^ 31 by omega) w1 (by omega), nI_add, nI_add, pk_rem (by omega) w1 (by omega), pk_rem (by omega) y1 (by omega), at10 hT, has10 S (by omega), Option.bind_some]
    unfold j_X10_shifted_81
    rw [nI_1]
    by_cases hb : bit S i = true
    · rw [if_neg (by rw [if_pos hb]; decide), Option.bind_some]
      refine ih (i + 1) n _ (by omega) (by omega) (fun t ht => ?_)
      change bit (acc ||| lsh 1 (nI (sg g dx dy i))) t = true ↔ _
      rw [bit_set acc (by omega), Bool.or_eq_true, decide_eq_true_eq, h t ht]
      constructor
      · rintro (⟨k, a1, a2, a3⟩ | a)
        · exact ⟨k, by omega, a2, a3⟩
        · exact ⟨i, by omega, hb, a.symm⟩
      · rintro ⟨k, a1, a2, a3⟩
        by_cases hki : k = i
        · subst hki; exact Or.inr a3.symm
        · exact Or.inl ⟨k, by omega, a2, a3⟩
    · rw [if_pos (by rw [if_neg hb])]
      refine ih (i + 1) n _ (by omega) (by omega) (fun t ht => ?_)
      rw [bit_or, bit_zero, Bool.or_false, h t ht]
      constructor
      · rintro ⟨k, a1, a2, a3⟩
        exact ⟨k, by omega, a2, a3⟩
      · rintro ⟨k, a1, a2, a3⟩
        by_cases hki : k = i
        · subst hki; exact absurd a2 hb
        · exact ⟨k, by omega, a2, a3⟩
theorem img_lies {g : Geo} (hg : g.ok) {S S' : Int64} (hS : Inn g S) {dx dy : Nat} (hx : dx < g.W) (hy : dy < g.H) (h : Img g S dx dy g.N S') : S' = S ↔ lies g S dx dy = true := by
  have hN := Geo.N_le hg
  unfold lies
  rw [decide_eq_true_eq]
  constructor
  · rintro rfl c hc
    have hl := sg_lt hg dx dy c
    have h1 := h (sg g dx dy c) (by omega)
    cases hb : bit S' c with
    | true => exact (h1.mpr ⟨c, hc, hb, rfl⟩).symm
    | false =>
      cases hb2 : bit S' (sg g dx dy c) with
      | false => rfl
      | true =>
        obtain ⟨k, a1, a2, a3⟩ := h1.mp hb2
        have := sg_inj hg hx hy a1 hc a3
        subst this
        rw [hb] at a2
        cases a2
  · intro hl
    refine bit_ext (fun t ht => ?_)
    have key : bit S' t = true ↔ bit S t = true := by
      rw [h t ht]
      constructor
      · rintro ⟨k, a1, a2, rfl⟩
        rw [← hl k a1]; exact a2
      · intro hb
        have htn := hS t hb
        obtain ⟨k, a1, a2⟩ := fb_onto (f := sg g dx dy) (n := g.N) (fun i _ => sg_lt hg dx dy i) (fun i j hij hj he => by
          have := sg_inj hg hx hy (by omega) hj he
          omega) htn
        refine ⟨k, a1, ?_, a2⟩
        rw [hl k a1, a2]; exact hb
    cases h1 : bit S' t <;> cases h2 : bit S t <;> simp_all
theorem shifted10 {g : Geo} {told : Nat → Int32} (hg : g.ok) (hT : RepT g told) {S : Int64} (hS : Inn g S) {dx dy : Nat} (hx : dx < g.W) (hy : dy < g.H) : ∃ S', f_X10_shifted told S (nI dx) (nI dy) = some S' ∧ (lg_cmp S' S = 0 ↔ lies g S dx dy = true) := by
  have hN := Geo.N_le hg
  obtain ⟨S', h1, h2⟩ := shd_lp hg hT S hx hy g.N 0 FU 0 (by omega) (by unfold FU; omega) (fun t _ => by
    rw [bit_zero]
    constructor
    · intro h; cases h
    · rintro ⟨k, a, -⟩; omega)
  refine ⟨S', ?_, ?_⟩
  · unfold f_X10_shifted; exact h2
  · rw [lg_cmp_0]; exact img_lies hg hS hx hy h1
theorem shm_in {g : Geo} {told : Nat → Int32} (hg : g.ok) (hT : RepT g told) {S shut : Int64} (hS : Inn g S) (hsh : Inn g shut) (k9 : Int32 → Int32 → Int32 → Option (Int32 × Int32)) (th : Int32) {y : Nat} (hy : y < g.H) (base : Nat) :
    ∀ (d i fu : Nat), i + d = g.W → d < fu → lp_X10_shifts_21 shut S told k9 fu (nI (base + fb_ct (fun x => lies g S x y && lies g shut x y) i)) (nI y) (nI i) th = k9 (nI (base + fb_ct (fun x => lies g S x y && lies g shut x y) g.W)) (nI (y + 1)) th := by
  have w2 := hg.1.2
  have y2 := hg.2.1.2
  intro d
  induction d with
  | zero =>
    intro i fu hi hf
    obtain ⟨n, rfl⟩ : ∃ n, fu = n + 1 := ⟨fu - 1, by omega⟩
    have hi : i = g.W := by omega
    subst hi
    rw [lp_X10_shifts_21_s]
    simp only [B0, T0, ↓reduceIte, hT.1]
    rw [if_pos (nI_le (Nat.le_refl _) (by omega)), nI_1]
  | succ d ih =>
    intro i fu hi hf
    obtain ⟨n, rfl⟩ : ∃ n, fu = n + 1 := ⟨fu - 1, by omega⟩
    have h1 := ih (i + 1) n (by omega) (by omega)
    rw [fb_ct_succ, ← Nat.add_assoc] at h1
    obtain ⟨A, a1, a2⟩ := shifted10 hg hT hS (show i < g.W by omega) hy
    obtain ⟨B, b1, b2⟩ := shifted10 hg hT hsh (show i < g.W by omega) hy
    have t : ∀ (k21 : Int32 → Int32 → Int32 → Int32 → Option (Int32 × Int32)) (u v : Nat), j_X10_shifts_73 k21 (nI y) (nI i) (nI u) (nI v) th = k21 (nI (u + v)) (nI y) (nI (i + 1)) th := by
      intro k21 u v
      unfold j_X10_shifts_73
      rw [nI_add, nI_1]
    rw [lp_X10_shifts_21_s]
    simp only [B0, T0, ↓reduceIte, hT.1]
    rw [ite_le (by omega) (by omega), if_neg (by omega), a1, Option.bind_some]
    by_cases hb : lies g S i y = true
    · rw [if_pos (a2.mpr hb), b1, Option.bind_some]
      by_cases hb2 : lies g shut i y = true
      · rw [if_pos (b2.mpr hb2), L1, t]
        rw [hb, hb2] at h1
        exact h1
      · rw [if_neg (fun q => hb2 (b2.mp q)), L0, t]
        rw [hb, show lies g shut i y = false by simpa using hb2] at h1
        exact h1
    · rw [if_neg (fun q => hb (a2.mp q)), L0, t]
      rw [show lies g S i y = false by simpa using hb] at h1
      exact h1
theorem shifts10 {g : Geo} {told : Nat → Int32} (hg : g.ok) (hT : RepT g told) {S shut : Int64} (hS : Inn g S) (hsh : Inn g shut) (th : Int32) : f_X10_shifts th shut S told = some (nI (shc g S shut g.H), 0) := by
  have w2 := hg.1.2
  have y2 := hg.2.1.2
  have key : ∀ (d i fu : Nat), i + d = g.H → d < fu → lp_X10_shifts_9 shut S told fu (nI (shc g S shut i)) (nI i) 0 = some (nI (shc g S shut g.H), 0) := by
    intro d
    induction d with
    | zero =>
      intro i fu hi hf
      obtain ⟨n, rfl⟩ : ∃ n, fu = n + 1 := ⟨fu - 1, by omega⟩
      have hi : i = g.H := by omega
      subst hi
      rw [lp_X10_shifts_9_s]
      simp only [B1, T1, ↓reduceIte, hT.2.1]
      rw [if_pos (nI_le (Nat.le_refl _) (by omega))]
    | succ d ih =>
      intro i fu hi hf
      obtain ⟨n, rfl⟩ : ∃ n, fu = n + 1 := ⟨fu - 1, by omega⟩
      have h1 := ih (i + 1) n (by omega) (by omega)
      unfold shc at h1
      rw [fb_sm_succ] at h1
      have h2 := shm_in hg hT hS hsh (lp_X10_shifts_9 shut S told n) 0 (show i < g.H by omega) (shc g S shut i) g.W 0 FU (by omega) (by unfold FU; omega)
      rw [show ∀ p, fb_ct p 0 = 0 from fun _ => rfl, Nat.add_zero] at h2
      rw [lp_X10_shifts_9_s]
      simp only [B1, T1, ↓reduceIte, hT.2.1]
      rw [ite_le (by omega) (by omega), if_neg (by omega), show lp_X10_shifts_21 shut S told (lp_X10_shifts_9 shut S told n) FU (nI (shc g S shut i)) (nI i) 0 0 = lp_X10_shifts_21 shut S told (lp_X10_shifts_9 shut S told n) FU (nI (shc g S shut i)) (nI i) (nI 0) 0 from rfl, h2]
      exact h1
  unfold f_X10_shifts
  exact key g.H 0 FU (by omega) (by unfold FU; omega)
