/-! flip, become, begin: sums are kept up to date. -/
theorem flip_lp {g : Geo} (hg : g.ok) {cols lins dist wts : Nat → Int32} (hT : Tab g cols lins dist wts) {S S' : Int64} {c : Nat} (hc : c < g.N) (h : ∀ e, e < g.N → bit S' e = (bit S e ^^ decide (e = c))) (Sx : Int64) :
    ∀ (d i fu : Nat) (sums : Nat → Int32), i + d = g.N → d < fu → (∀ k, k < i → sums k = nI (hs g S' k)) → (∀ k, i ≤ k → k < g.N → sums k = nI (hs g S k)) →
      ∃ sums', HOk g S' sums' ∧ lp_X1_flip_43 (nI g.N) cols lins wts (nI c) fu (if bit S c = true then -1 else 1) (nI i) Sx sums = some (Sx, sums') := by
  have hN := Geo.N_le hg
  intro d
  induction d with
  | zero =>
    intro i fu sums hi hf h1 h2
    obtain ⟨n, rfl⟩ : ∃ n, fu = n + 1 := ⟨fu - 1, by omega⟩
    have hi : i = g.N := by omega
    subst hi
    exact ⟨sums, h1, by rw [lp_X1_flip_43_s, if_pos (nI_le (Nat.le_refl _) (by omega))]⟩
  | succ d ih =>
    intro i fu sums hi hf h1 h2
    obtain ⟨n, rfl⟩ : ∃ n, fu = n + 1 := ⟨fu - 1, by omega⟩
    rw [lp_X1_flip_43_s, ite_le (by omega) (by omega), if_neg (by omega), if_pos (inb_t (show i < 64 by omega) (by decide)), weight0 hg hT hc (by omega), Option.bind_some, if_pos (inb_t (show i < 64 by omega) (by decide)), nI_clamp (by omega), nI_1, h2 i (by omega) (by omega)]
    have hk := hs_flp hc h i
    have e : nI (hs g S i) + (if bit S c = true then -1 else 1) * nI (g.wt c i) = nI (hs g S' i) := by
      by_cases hb : bit S c = true
      · rw [if_pos hb]
        rw [if_pos hb, if_pos hb, Nat.add_zero] at hk
        rw [← hk, ← nI_add]
        grind
      · rw [if_neg hb]
        rw [if_neg hb, if_neg hb, Nat.add_zero] at hk
        rw [hk, ← nI_add]
        grind
    rw [e]
    refine ih (i + 1) n _ (by omega) (by omega) (fun k hk => ?_) (fun k hk1 hk2 => ?_)
    · by_cases hki : k = i
      · subst hki; rw [pk_us]
      · rw [pk_un hki]; exact h1 k (by omega)
    · rw [pk_un (by omega)]; exact h2 k (by omega) hk2
theorem flip1 {g : Geo} (hg : g.ok) {cols lins dist wts : Nat → Int32} (hT : Tab g cols lins dist wts) {S : Int64} {sums : Nat → Int32} (hS : HOk g S sums) {c : Nat} (hc : c < g.N) :
    ∃ sums', HOk g (S ^^^ lsh 1 (nI c)) sums' ∧ f_X1_flip (nI g.N) cols lins wts S sums (nI c) = some (S ^^^ lsh 1 (nI c), sums') := by
  have hN := Geo.N_le hg
  obtain ⟨sums', h1, h2⟩ := flip_lp hg hT (S := S) (S' := S ^^^ lsh 1 (nI c)) hc (fun e _ => bit_flp S (by omega) e) (S ^^^ lsh 1 (nI c)) g.N 0 FU sums (by omega) (by unfold FU; omega) (fun k hk => by omega) (fun k _ hk => hS k hk)
  refine ⟨sums', h1, ?_⟩
  unfold f_X1_flip
  rw [isCell0 hN hc, Option.bind_some, if_neg (by decide), has9 S (by omega), Option.bind_some]
  unfold j_X1_flip_28
  by_cases hb : bit S c = true
  · rw [if_neg (by rw [if_pos hb]; decide)]
    rw [if_pos hb] at h2
    exact h2
  · rw [if_pos (by rw [if_neg hb])]
    rw [if_neg hb] at h2
    exact h2
/-- a set of cells of the grid -/
def Inn (g : Geo) (S : Int64) : Prop := ∀ k, bit S k = true → k < g.N
theorem Inn.big {g : Geo} {S : Int64} (h : Inn g S) {k : Nat} (hk : g.N ≤ k) : bit S k = false := by
  cases hb : bit S k with
  | false => rfl
  | true => have := h k hb; omega
theorem become_lp {g : Geo} (hg : g.ok) {cols lins dist wts : Nat → Int32} (hT : Tab g cols lins dist wts) {S0 S1 : Int64} :
    ∀ (d i fu : Nat) (S : Int64) (sums : Nat → Int32), i + d = g.N → d < fu → HOk g S sums → (∀ k, k < i → bit S k = bit S1 k) → (∀ k, i ≤ k → bit S k = bit S0 k) →
      ∃ S' sums', HOk g S' sums' ∧ (∀ k, k < g.N → bit S' k = bit S1 k) ∧ (∀ k, g.N ≤ k → bit S' k = bit S0 k) ∧ lp_X1_become_10 (nI g.N) cols lins wts fu (S0 ^^^ S1) (nI i) S sums = some (S', sums') := by
  have hN := Geo.N_le hg
  intro d
  induction d with
  | zero =>
    intro i fu S sums hi hf hS h1 h2
    obtain ⟨n, rfl⟩ : ∃ n, fu = n + 1 := ⟨fu - 1, by omega⟩
    have hi : i = g.N := by omega
    subst hi
    exact ⟨S, sums, hS, h1, h2, by rw [lp_X1_become_10_s, if_pos (nI_le (Nat.le_refl _) (by omega))]⟩
  | succ d ih =>
    intro i fu S sums hi hf hS h1 h2
    obtain ⟨n, rfl⟩ : ∃ n, fu = n + 1 := ⟨fu - 1, by omega⟩
    rw [lp_X1_become_10_s, ite_le (by omega) (by omega), if_neg (by omega), has9 _ (by omega), Option.bind_some, bit_xor]
    by_cases hb : (bit S0 i ^^ bit S1 i) = true
    · rw [if_neg (by rw [if_pos hb]; decide)]
      obtain ⟨sums', h3, h4⟩ := flip1 hg hT hS (show i < g.N by omega)
      rw [h4, Option.bind_some, nI_1]
      refine ih (i + 1) n _ _ (by omega) (by omega) h3 (fun k hk => ?_) (fun k hk => ?_)
      · rw [bit_flp S (by omega)]
        by_cases hki : k = i
        · subst hki
          rw [h2 k (Nat.le_refl _)]
          revert hb
          cases bit S0 k <;> cases bit S1 k <;> simp
        · rw [h1 k (by omega)]; simp [hki]
      · rw [bit_flp S (by omega), h2 k (by omega)]
        simp [show ¬ k = i by omega]
    · rw [if_pos (by rw [if_neg hb]), nI_1]
      refine ih (i + 1) n _ _ (by omega) (by omega) hS (fun k hk => ?_) (fun k hk => h2 k (by omega))
      by_cases hki : k = i
      · subst hki
        rw [h2 k (Nat.le_refl _)]
        revert hb
        cases bit S0 k <;> cases bit S1 k <;> simp
      · exact h1 k (by omega)
theorem become1 {g : Geo} (hg : g.ok) {cols lins dist wts : Nat → Int32} (hT : Tab g cols lins dist wts) {S0 S1 : Int64} {sums : Nat → Int32} (hS : HOk g S0 sums) (h0 : Inn g S0) (h1 : Inn g S1) :
    ∃ sums', HOk g S1 sums' ∧ f_X1_become (nI g.N) cols lins wts S0 sums S1 = some (S1, sums') := by
  have hN := Geo.N_le hg
  obtain ⟨S', sums', h2, h3, h4, h5⟩ := become_lp hg hT (S0 := S0) (S1 := S1) g.N 0 FU S0 sums (by omega) (by unfold FU; omega) hS (fun k hk => by omega) (fun k _ => rfl)
  have e : S' = S1 := bit_ext (fun k _ => by
    rcases Nat.lt_or_ge k g.N with q | q
    · exact h3 k q
    · rw [h4 k q, h0.big q, h1.big q])
  subst e
  exact ⟨sums', h2, h5⟩
theorem fill_lp (v : Int32) : ∀ (d i fu : Nat) (ar : Nat → Int32), i + d = 64 → d < fu → (∀ k, k < i → ar k = v) → ∃ ar', (∀ k, k < 64 → ar' k = v) ∧ lp_J7_fill_53178_5 v fu (nI i) (nI 64) ar = some ar' := by
  intro d
  induction d with
  | zero =>
    intro i fu ar hi hf h
    obtain ⟨n, rfl⟩ : ∃ n, fu = n + 1 := ⟨fu - 1, by omega⟩
    have hi : i = 64 := by omega
    subst hi
    exact ⟨ar, h, by rw [lp_J7_fill_53178_5_s, if_pos (nI_le (Nat.le_refl _) (by omega))]⟩
  | succ d ih =>
    intro i fu ar hi hf h
    obtain ⟨n, rfl⟩ : ∃ n, fu = n + 1 := ⟨fu - 1, by omega⟩
    rw [lp_J7_fill_53178_5_s, ite_le (by omega) (by omega), if_neg (by omega), if_pos (inb_t (show i < 64 by omega) (by decide)), nI_clamp (by omega), nI_1]
    refine ih (i + 1) n _ (by omega) (by omega) (fun k hk => ?_)
    by_cases hki : k = i
    · subst hki; rw [pk_us]
    · rw [pk_un hki]; exact h k (by omega)
theorem fill7 (ar : Nat → Int32) (v : Int32) : ∃ ar', (∀ k, k < 64 → ar' k = v) ∧ f_J7_fill_53178 ar v = some ar' := by
  unfold f_J7_fill_53178
  exact fill_lp v 64 0 FU ar (by omega) (by unfold FU; omega) (fun k hk => by omega)
theorem Inn_zero (g : Geo) : Inn g 0 := fun k h => by rw [bit_zero] at h; cases h
theorem begin1 {g : Geo} (hg : g.ok) {cols lins dist wts : Nat → Int32} (hT : Tab g cols lins dist wts) {S1 : Int64} (h1 : Inn g S1) (h0 : Int64) (sums : Nat → Int32) :
    ∃ sums', HOk g S1 sums' ∧ f_X1_begin (nI g.N) cols lins wts h0 sums S1 = some (S1, sums') := by
  have hN := Geo.N_le hg
  obtain ⟨z, hz, e⟩ := fill7 sums 0
  have hS : HOk g 0 z := fun c hc => by rw [hz c (by omega), hs_zero]; rfl
  obtain ⟨sums', h2, h3⟩ := become1 hg hT hS (Inn_zero g) h1
  refine ⟨sums', h2, ?_⟩
  unfold f_X1_begin
  rw [e, Option.bind_some, h3, Option.bind_some]
theorem size1 (S : Int64) : f_X1_size S = some (nI (pc S)) := by
  unfold f_X1_size
  rw [bitCount13, Option.bind_some]
theorem sumAt1 {g : Geo} (hg : g.ok) {S : Int64} {sums : Nat → Int32} (hS : HOk g S sums) {c : Nat} (hc : c < g.N) : f_X1_sumAt (nI g.N) sums (nI c) = some (nI (hs g S c)) := by
  have hN := Geo.N_le hg
  unfold f_X1_sumAt
  rw [isCell0 hN hc, Option.bind_some, if_neg (by decide), if_pos (inb_t (show c < 64 by omega) (by decide)), nI_clamp (by omega), hS c hc]
/-! free cells, the model's -/
theorem isFree10 (shut : Int64) {k : Nat} (hk : k < 64) : f_X10_isFree shut (nI k) = some (if bit shut k = true then 0 else 1) := by
  unfold f_X10_isFree
  rw [has10 shut hk, Option.bind_some]
  by_cases hb : bit shut k = true
  · rw [if_neg (by rw [if_pos hb]; decide), if_pos hb]
  · rw [if_pos (by rw [if_neg hb]), if_neg hb]
theorem freeCells_lp {g : Geo} {told : Nat → Int32} (hg : g.ok) (hT : RepT g told) (shut : Int64) :
    ∀ (d i fu : Nat) (S : Int64), i + d = g.N → d < fu → (∀ k, k < 64 → bit S k = (decide (k < i) && !bit shut k)) → ∃ S', Fr g shut S' ∧ lp_X10_freeCells_4 shut told fu S (nI i) = some S' := by
  have hN := Geo.N_le hg
  intro d
  induction d with
  | zero =>
    intro i fu S hi hf h
    obtain ⟨n, rfl⟩ : ∃ n, fu = n + 1 := ⟨fu - 1, by omega⟩
    have hi : i = g.N := by omega
    subst hi
    exact ⟨S, h, by rw [lp_X10_freeCells_4_s, cells10 hT, Option.bind_some, if_pos (nI_le (Nat.le_refl _) (by omega))]⟩
  | succ d ih =>
    intro i fu S hi hf h
    obtain ⟨n, rfl⟩ : ∃ n, fu = n + 1 := ⟨fu - 1, by omega⟩
    rw [lp_X10_freeCells_4_s, cells10 hT, Option.bind_some, ite_le (by omega) (by omega), if_neg (by omega), isFree10 shut (by omega), Option.bind_some]
    unfold j_X10_freeCells_28
    rw [nI_1]
    by_cases hb : bit shut i = true
    · rw [if_pos (by rw [if_pos hb])]
      refine ih (i + 1) n _ (by omega) (by omega) (fun k hk => ?_)
      rw [bit_or, bit_zero, h k hk]
      by_cases hki : k = i
      · subst hki; rw [hb]; simp
      · rw [show decide (k < i + 1) = decide (k < i) by congr 1; simp; omega]; simp
    · rw [if_neg (by rw [if_neg hb]; decide)]
      refine ih (i + 1) n _ (by omega) (by omega) (fun k hk => ?_)
      rw [bit_or, bit_lsh1 (by omega), h k hk]
      by_cases hki : k = i
      · subst hki
        have : bit shut k = false := by simpa using hb
        rw [this]; simp
      · rw [show decide (k < i + 1) = decide (k < i) by congr 1; simp; omega]; simp [hki]
theorem Fr_one {g : Geo} {shut a b : Int64} (ha : Fr g shut a) (hb : Fr g shut b) : a = b := bit_ext (fun k hk => by rw [ha k hk, hb k hk])
theorem freeCells10 {g : Geo} {told : Nat → Int32} (hg : g.ok) (hT : RepT g told) {shut free : Int64} (hF : Fr g shut free) : f_X10_freeCells shut told = some free := by
  have hN := Geo.N_le hg
  obtain ⟨S', h1, h2⟩ := freeCells_lp hg hT shut g.N 0 FU 0 (by omega) (by unfold FU; omega) (fun k hk => by rw [bit_zero]; simp)
  rw [Fr_one hF h1]
  exact h2
theorem emptiest10 {g : Geo} {told : Nat → Int32} (hg : g.ok) (hT : RepT g told) {shut free : Int64} (hF : Fr g shut free) (S : Int64) : f_X10_emptiest shut told S = some (enc (-9) (lo g (free &&& (S ^^^ (-1))) S)) := by
  unfold f_X10_emptiest
  rw [freeCells10 hg hT hF, Option.bind_some, extreme_least hg hT, Option.bind_some]
theorem pc_free {g : Geo} {shut free : Int64} (hg : g.ok) (hF : Fr g shut free) (hs : Inn g shut) : pc free + pc shut = g.N := by
  have hN := Geo.N_le hg
  have e1 : pc free = fb_ct (fun k => decide (k < g.N) && !bit shut k) 64 := fb_ct_cong hF
  have key : ∀ n, n ≤ 64 → fb_ct (fun k => decide (k < g.N) && !bit shut k) n + fb_ct (bit shut) n = min n g.N := by
    intro n
    induction n with
    | zero => intro _; simp [fb_ct]
    | succ n ih =>
      intro hn
      have h1 := ih (by omega)
      rw [fb_ct_succ, fb_ct_succ]
      rcases Nat.lt_or_ge n g.N with q | q
      · cases hb : bit shut n with
        | false => simp only [q, decide_true, Bool.not_false, Bool.and_self, ↓reduceIte, Bool.false_eq_true]; omega
        | true => simp only [q, decide_true, Bool.not_true, Bool.and_false, Bool.false_eq_true, ↓reduceIte]; omega
      · rw [hs.big q]
        simp only [show ¬ n < g.N by omega, decide_false, Bool.not_false, Bool.and_true, Bool.false_eq_true, ↓reduceIte]
        omega
  have := key 64 (Nat.le_refl _)
  rw [e1]
  unfold pc
  omega
theorem free10 {g : Geo} {told : Nat → Int32} (hg : g.ok) (hT : RepT g told) {shut free : Int64} (hF : Fr g shut free) (hs : Inn g shut) : f_X10_free shut told = some (nI (pc free)) := by
  have h := pc_free hg hF hs
  unfold f_X10_free
  rw [cells10 hT, Option.bind_some, ones10, Option.bind_some, pk_sub (by omega)]
  congr 2
  omega
