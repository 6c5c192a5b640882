/-! Which shade: lines that were counted. -/
def lc (g : Geo) (x : Int32) (c : Nat) : Bool := if (8 : Int32) ≤ x then decide ((8 : Int32) + nI (c % g.W) = x) else decide (nI (c / g.W) = x)
def cnl (g : Geo) (O : Nat → Nat) (x : Int32) (t : Nat) : Nat := fb_ct (fun r => lc g x (O r)) t
theorem cellsOn7 {g : Geo} (hg : g.ok) {cols lins dist wts : Nat → Int32} (hT : Tab g cols lins dist wts) {free D : Int64} (hf : Inn g free) (hD : Sub D free) {order places : Nat → Int32} (h : AR g free D 0 (pc free) order places) (x : Int32) {t : Nat} (ht : t ≤ pc free) :
    f_X7_cellsOn (nI g.N) (nI (pc free)) cols lins order x (nI t) = some (nI (cnl g (od g free D) x t)) := by
  have hle := pc_le free
  have key : ∀ (d i fu : Nat), i + d = t → d < fu → lp_X7_cellsOn_5 (nI g.N) (nI (pc free)) cols lins order x (nI t) fu (nI (cnl g (od g free D) x i)) (nI i) = some (nI (cnl g (od g free D) x t)) := by
    intro d
    induction d with
    | zero =>
      intro i fu hi hfu
      obtain ⟨n, rfl⟩ : ∃ n, fu = n + 1 := ⟨fu - 1, by omega⟩
      have hi : i = t := by omega
      subst hi
      rw [lp_X7_cellsOn_5_s, if_pos (nI_le (Nat.le_refl _) (by omega))]
    | succ d ih =>
      intro i fu hi hfu
      obtain ⟨n, rfl⟩ : ∃ n, fu = n + 1 := ⟨fu - 1, by omega⟩
      have h1 := ih (i + 1) n (by omega) (by omega)
      unfold cnl at h1
      rw [fb_ct_succ] at h1
      have hl := od_lt hf hD (show i < pc free by omega)
      rw [lp_X7_cellsOn_5_s, ite_le (by omega) (by omega), if_neg (by omega), cellOf6 h (by omega), Option.bind_some]
      unfold j_X7_cellsOn_52
      by_cases h8 : (8 : Int32) ≤ x
      · rw [if_pos h8, columnOf0 hg hT hl, Option.bind_some, nI_1, nI_1]
        by_cases he : (8 : Int32) + nI (od g free D i % g.W) = x
        · rw [if_pos he]
          rw [show lc g x (od g free D i) = true by unfold lc; rw [if_pos h8]; exact decide_eq_true he, if_pos rfl] at h1
          exact h1
        · rw [if_neg he]
          rw [show lc g x (od g free D i) = false by unfold lc; rw [if_pos h8]; exact decide_eq_false he, if_neg (by decide)] at h1
          exact h1
      · rw [if_neg h8, lineOf0 hg hT hl, Option.bind_some, nI_1, nI_1]
        by_cases he : nI (od g free D i / g.W) = x
        · rw [if_pos he]
          rw [show lc g x (od g free D i) = true by unfold lc; rw [if_neg h8]; exact decide_eq_true he, if_pos rfl] at h1
          exact h1
        · rw [if_neg he]
          rw [show lc g x (od g free D i) = false by unfold lc; rw [if_neg h8]; exact decide_eq_false he, if_neg (by decide)] at h1
          exact h1
  unfold f_X7_cellsOn
  exact key t 0 FU (by omega) (by unfold FU; omega)
def inTb (g : Geo) (free D : Int64) (t c : Nat) : Bool := decide (0 < fb_ct (fun r => decide (od g free D r = c)) t)
theorem inTb_iff {g : Geo} {free D : Int64} {t c : Nat} (ht : t ≤ pc free) : inTb g free D t c = true ↔ inT g free D t c := by
  unfold inTb inT
  rw [decide_eq_true_eq, fb_ct_pos]
  constructor
  · rintro ⟨k, h1, h2⟩
    exact ⟨k, h1, by omega, of_decide_eq_true h2⟩
  · rintro ⟨k, h1, -, h2⟩
    exact ⟨k, h1, decide_eq_true h2⟩
theorem line_count {g : Geo} {free D : Int64} (hf : Inn g free) (hD : Sub D free) (P : Nat → Bool) : ∀ t, t ≤ pc free → fb_ct (fun k => P k && inTb g free D t k) g.N = fb_ct (fun r => P (od g free D r)) t
  | 0, _ => by
    have : fb_ct (fun k => P k && inTb g free D 0 k) g.N = 0 := fb_ct_zero.mpr (fun k _ => by
      show (P k && inTb g free D 0 k) = false
      rw [show inTb g free D 0 k = false from rfl]
      cases P k <;> rfl)
    rw [this]
    rfl
  | t + 1, h => by
    have ih := line_count hf hD P t (by omega)
    have hl := od_lt hf hD (show t < pc free by omega)
    have hnot : inTb g free D t (od g free D t) = false := by
      cases hb : inTb g free D t (od g free D t) with
      | false => rfl
      | true =>
        obtain ⟨r, r1, r2, r3⟩ := (inTb_iff (by omega)).mp hb
        exact absurd r3 (od_ne hf hD r2 (by omega) (by omega))
    have hu := fb_ct_upd (fun k => P k && inTb g free D t k) (P (od g free D t)) hl
    rw [hnot] at hu
    simp only [Bool.and_false, Bool.false_eq_true, ↓reduceIte, Nat.add_zero] at hu
    rw [fb_ct_succ, ← ih, ← hu]
    refine fb_ct_cong (fun k hk => ?_)
    by_cases hko : k = od g free D t
    · subst hko
      rw [if_pos rfl, show inTb g free D (t + 1) (od g free D t) = true from (inTb_iff h).mpr ⟨t, by omega, by omega, rfl⟩, Bool.and_true]
    · rw [if_neg hko]
      have e : inTb g free D (t + 1) k = inTb g free D t k := by
        unfold inTb
        rw [fb_ct_succ, show decide (od g free D t = k) = false from decide_eq_false (fun q => hko q.symm)]
        simp
      rw [e]
theorem inLine10 {g : Geo} {told : Nat → Int32} (hg : g.ok) (hT : RepT g told) {free D : Int64} (hf : Inn g free) (hD : Sub D free) {rank stage : Nat → Int32} (h : MR g free D rank stage) (x : Int32) {t : Nat} (ht : t ≤ pc free) :
    f_X10_inLine told rank x (nI t) = some (nI (cnl g (od g free D) x t)) := by
  have hN := Geo.N_le hg
  have hle := pc_le free
  have w1 := hg.1.1
  have w2 := hg.1.2
  have hw0 : ¬ nI g.W = 0 := nI_ne0 w1 (by omega)
  have key : ∀ (d i fu : Nat), i + d = g.N → d < fu → lp_X10_inLine_5 told rank x (nI t) fu (nI (fb_ct (fun k => lc g x k && inTb g free D t k) i)) (nI i) = some (nI (fb_ct (fun k => lc g x k && inTb g free D t k) g.N)) := by
    intro d
    induction d with
    | zero =>
      intro i fu hi hfu
      obtain ⟨n, rfl⟩ : ∃ n, fu = n + 1 := ⟨fu - 1, by omega⟩
      have hi : i = g.N := by omega
      subst hi
      rw [lp_X10_inLine_5_s, cells10 hT, Option.bind_some, if_pos (nI_le (Nat.le_refl _) (by omega))]
    | succ d ih =>
      intro i fu hi hfu
      obtain ⟨n, rfl⟩ : ∃ n, fu = n + 1 := ⟨fu - 1, by omega⟩
      have h1 := ih (i + 1) n (by omega) (by omega)
      rw [fb_ct_succ] at h1
      have hin := isIn10 hf hD h (t := t) (c := i) (by omega) (by omega)
      have j0 : ∀ (k5 : Int32 → Int32 → Option Int32) (a : Nat), j_X10_inLine_62 rank (nI t) k5 (nI a) (nI i) 0 = k5 (nI a) (nI (i + 1)) := by
        intro k5 a
        unfold j_X10_inLine_62 j_X10_inLine_85
        rw [if_pos rfl, L0, nI_add, nI_1, Nat.add_zero]
      have j1 : ∀ (k5 : Int32 → Int32 → Option Int32) (a : Nat), j_X10_inLine_62 rank (nI t) k5 (nI a) (nI i) 1 = k5 (nI (a + (if inTb g free D t i = true then 1 else 0))) (nI (i + 1)) := by
        intro k5 a
        unfold j_X10_inLine_62 j_X10_inLine_85
        rw [if_neg (by decide)]
        by_cases hb : inTb g free D t i = true
        · rw [hin.1 ((inTb_iff ht).mp hb), Option.bind_some, if_neg (by decide), nI_1, nI_1, if_pos hb]
        · rw [hin.2 (fun q => hb ((inTb_iff ht).mpr q)), Option.bind_some, if_pos rfl, L0, nI_add, nI_1, if_neg hb]
      rw [lp_X10_inLine_5_s, cells10 hT, Option.bind_some, ite_le (by omega) (by omega), if_neg (by omega)]
      simp only [B0, T0, ↓reduceIte, hT.1, hw0]
      rw [pk_rem (by omega) w1 (by omega), pk_div (by omega) w1 (by omega)]
      by_cases h8 : (8 : Int32) ≤ x
      · rw [if_pos h8]
        by_cases he : nI (i % g.W) = x - 8
        · rw [if_pos he, j1]
          rw [show lc g x i = true by unfold lc; rw [if_pos h8]; exact decide_eq_true (by rw [he]; grind), Bool.true_and] at h1
          exact h1
        · rw [if_neg he, j0]
          rw [show lc g x i = false by unfold lc; rw [if_pos h8]; exact decide_eq_false (fun q => he (by rw [← q]; grind)), Bool.false_and, if_neg (by decide), Nat.add_zero] at h1
          exact h1
      · rw [if_neg h8]
        by_cases he : nI (i / g.W) = x
        · rw [if_pos he, j1]
          rw [show lc g x i = true by unfold lc; rw [if_neg h8]; exact decide_eq_true he, Bool.true_and] at h1
          exact h1
        · rw [if_neg he, j0]
          rw [show lc g x i = false by unfold lc; rw [if_neg h8]; exact decide_eq_false he, Bool.false_and, if_neg (by decide), Nat.add_zero] at h1
          exact h1
  have e := line_count hf hD (lc g x) t ht
  unfold f_X10_inLine cnl
  rw [← e]
  exact key g.N 0 FU (by omega) (by unfold FU; omega)
/-- all of c i .. c (i + d - 1) -/
def allF (c : Nat → Bool) : Nat → Nat → Bool
  | _, 0 => true
  | i, d + 1 => c i && allF c (i + 1) d
def b2i (b : Bool) : Int32 := if b = true then 1 else 0
def fitc (g : Geo) (O : Nat → Nat) (ln ct : Nat → Int32) (t i : Nat) : Bool := decide (nI (cnl g O (ln i) t) = ct i)
theorem fits7 {g : Geo} (hg : g.ok) {cols lins dist wts : Nat → Int32} (hT : Tab g cols lins dist wts) {free D : Int64} (hf : Inn g free) (hD : Sub D free) {order places : Nat → Int32} (h : AR g free D 0 (pc free) order places) (ln ct : Nat → Int32) {m : Nat} (hm : m ≤ 6) {t : Nat} (ht : t ≤ pc free) :
    f_X7_fits (nI g.N) (nI (pc free)) cols lins order (nI m) ln ct (nI t) = some (b2i (allF (fitc g (od g free D) ln ct t) 0 m)) := by
  have key : ∀ (d i fu : Nat), i + d = m → d < fu → lp_X7_fits_2 (nI g.N) (nI (pc free)) cols lins order (nI m) ln ct (nI t) fu (nI i) = some (b2i (allF (fitc g (od g free D) ln ct t) i d)) := by
    intro d
    induction d with
    | zero =>
      intro i fu hi hfu
      obtain ⟨n, rfl⟩ : ∃ n, fu = n + 1 := ⟨fu - 1, by omega⟩
      have hi : i = m := by omega
      subst hi
      rw [lp_X7_fits_2_s, if_pos (nI_le (Nat.le_refl _) (by omega))]
      rfl
    | succ d ih =>
      intro i fu hi hfu
      obtain ⟨n, rfl⟩ : ∃ n, fu = n + 1 := ⟨fu - 1, by omega⟩
      have h1 := ih (i + 1) n (by omega) (by omega)
      rw [lp_X7_fits_2_s, ite_le (by omega) (by omega), if_neg (by omega), if_pos (inb_t (show i < 6 by omega) (by decide)), nI_clamp (by omega), cellsOn7 hg hT hf hD h _ ht, Option.bind_some, if_pos (inb_t (show i < 6 by omega) (by decide)), nI_1, allF]
      by_cases he : nI (cnl g (od g free D) (ln i) t) = ct i
      · rw [if_pos he, h1, show fitc g (od g free D) ln ct t i = true from decide_eq_true he, Bool.true_and]
      · rw [if_neg he, show fitc g (od g free D) ln ct t i = false from decide_eq_false he, Bool.false_and]
        rfl
  unfold f_X7_fits
  exact key m 0 FU (by omega) (by unfold FU; omega)
theorem fits10 {g : Geo} {told : Nat → Int32} (hg : g.ok) (hT : RepT g told) {free D : Int64} (hf : Inn g free) (hD : Sub D free) {rank stage : Nat → Int32} (h : MR g free D rank stage) (ln ct : Nat → Int32) {m : Nat} (hm : m ≤ 6) {t : Nat} (ht : t ≤ pc free) :
    f_X10_fits (nI m) told ln ct rank (nI t) = some (b2i (allF (fitc g (od g free D) ln ct t) 0 m)) := by
  have key : ∀ (d i fu : Nat) (b : Bool), i + d = m → d < fu → lp_X10_fits_4 (nI m) told ln ct rank (nI t) fu (b2i b) (nI i) = some (b2i (b && allF (fitc g (od g free D) ln ct t) i d)) := by
    intro d
    induction d with
    | zero =>
      intro i fu b hi hfu
      obtain ⟨n, rfl⟩ : ∃ n, fu = n + 1 := ⟨fu - 1, by omega⟩
      have hi : i = m := by omega
      subst hi
      rw [lp_X10_fits_4_s, if_pos (nI_le (Nat.le_refl _) (by omega)), if_pos (by cases b <;> decide), allF, Bool.and_true]
    | succ d ih =>
      intro i fu b hi hfu
      obtain ⟨n, rfl⟩ : ∃ n, fu = n + 1 := ⟨fu - 1, by omega⟩
      rw [lp_X10_fits_4_s, ite_le (by omega) (by omega), if_neg (by omega)]
      unfold j_X10_fits_41
      rw [nI_1, allF]
      cases b with
      | false =>
        rw [if_pos (by decide)]
        have h1 := ih (i + 1) n false (by omega) (by omega)
        rw [Bool.false_and] at h1 ⊢
        exact h1
      | true =>
        rw [if_neg (by decide), if_pos (inb_t (show i < 6 by omega) (by decide)), nI_clamp (by omega), inLine10 hg hT hf hD h _ ht, Option.bind_some, if_pos (inb_t (show i < 6 by omega) (by decide)), Bool.true_and]
        by_cases he : nI (cnl g (od g free D) (ln i) t) = ct i
        · rw [if_pos he, show fitc g (od g free D) ln ct t i = true from decide_eq_true he]
          exact ih (i + 1) n true (by omega) (by omega)
        · rw [if_neg he, show fitc g (od g free D) ln ct t i = false from decide_eq_false he]
          exact ih (i + 1) n false (by omega) (by omega)
  unfold f_X10_fits
  have := key m 0 FU true (by omega) (by unfold FU; omega)
  rw [Bool.true_and] at this
  exact this
theorem fitc_cong {g : Geo} {O : Nat → Nat} {ln ct ln' ct' : Nat → Int32} {t : Nat} : ∀ (d i m : Nat), i + d = m → (∀ k, k < m → ln k = ln' k ∧ ct k = ct' k) → allF (fitc g O ln ct t) i d = allF (fitc g O ln' ct' t) i d := by
  intro d
  induction d with
  | zero => intro i m h hk; rw [allF, allF]
  | succ d ih =>
    intro i m h hk
    have e : fitc g O ln ct t i = fitc g O ln' ct' t i := by
      show decide (nI (cnl g O (ln i) t) = ct i) = decide (nI (cnl g O (ln' i) t) = ct' i)
      rw [(hk i (by omega)).1, (hk i (by omega)).2]
    rw [allF, allF, ih (i + 1) m (by omega) hk, e]
/-! how many, the least, the greatest -/
def fst1 (F : Nat → Bool) : Nat → Option Nat
  | 0 => none
  | n + 1 => match fst1 F n with | some b => some b | none => if F n = true then some n else none
def lst1 (F : Nat → Bool) : Nat → Option Nat
  | 0 => none
  | n + 1 => if F n = true then some n else lst1 F n
theorem fst1_lt {F : Nat → Bool} : ∀ {n b : Nat}, fst1 F n = some b → b < n
  | 0, b, h => by cases h
  | n + 1, b, h => by
    unfold fst1 at h
    cases hb : fst1 F n with
    | some z =>
      rw [hb] at h
      obtain rfl : z = b := by simpa using h
      have := fst1_lt hb
      omega
    | none =>
      rw [hb] at h
      by_cases hf : F n = true
      · simp only [hf, ↓reduceIte, Option.some.injEq] at h; omega
      · simp [hf] at h
theorem fst1_stay {F : Nat → Bool} {n b : Nat} (h : fst1 F n = some b) : ∀ d, fst1 F (n + d) = some b
  | 0 => h
  | d + 1 => by
    rw [← Nat.add_assoc]
    unfold fst1
    rw [fst1_stay h d]
theorem b2i_0 {b : Bool} : b2i b = 0 ↔ b = false := by cases b <;> decide
section UNS
variable {g : Geo} {told : Nat → Int32} {cols lins dist wts : Nat → Int32} {shut free D : Int64} {order places rank stage ln ct : Nat → Int32} {m : Nat}
theorem shades7 (hg : g.ok) (hT : Tab g cols lins dist wts) (hf : Inn g free) (hD : Sub D free) (h : AR g free D 0 (pc free) order places) (hm : m ≤ 6) :
    f_X7_shadesThatFit (nI g.N) (nI (pc free)) cols lins order (nI m) ln ct = some (nI (fb_ct (fun t => allF (fitc g (od g free D) ln ct t) 0 m) (pc free + 1))) := by
  have hle := pc_le free
  have key : ∀ (d i fu : Nat), i + d = pc free + 1 → d < fu → lp_X7_shadesThatFit_4 (nI g.N) (nI (pc free)) cols lins order (nI m) ln ct fu (nI (fb_ct (fun t => allF (fitc g (od g free D) ln ct t) 0 m) i)) (nI i) = some (nI (fb_ct (fun t => allF (fitc g (od g free D) ln ct t) 0 m) (pc free + 1))) := by
    intro d
    induction d with
    | zero =>
      intro i fu hi hfu
      obtain ⟨n, rfl⟩ : ∃ n, fu = n + 1 := ⟨fu - 1, by omega⟩
      have hi : i = pc free + 1 := by omega
      subst hi
      rw [lp_X7_shadesThatFit_4_s, if_pos (nI_lt (by omega) (by omega))]
    | succ d ih =>
      intro i fu hi hfu
      obtain ⟨n, rfl⟩ : ∃ n, fu = n + 1 := ⟨fu - 1, by omega⟩
      have h1 := ih (i + 1) n (by omega) (by omega)
      rw [fb_ct_succ] at h1
      rw [lp_X7_shadesThatFit_4_s, ite_lt (by omega) (by omega), if_neg (by omega), fits7 hg hT hf hD h ln ct hm (by omega), Option.bind_some, nI_1, nI_1]
      cases hb : allF (fitc g (od g free D) ln ct i) 0 m with
      | false =>
        rw [if_pos (by decide)]
        rw [hb, if_neg (by decide)] at h1
        exact h1
      | true =>
        rw [if_neg (by decide)]
        rw [hb, if_pos rfl] at h1
        exact h1
  unfold f_X7_shadesThatFit
  exact key (pc free + 1) 0 FU (by omega) (by unfold FU; omega)
theorem least7 (hg : g.ok) (hT : Tab g cols lins dist wts) (hf : Inn g free) (hD : Sub D free) (h : AR g free D 0 (pc free) order places) (hm : m ≤ 6) :
    f_X7_leastThatFits (nI g.N) (nI (pc free)) cols lins order (nI m) ln ct = some (enc (-9) (fst1 (fun t => allF (fitc g (od g free D) ln ct t) 0 m) (pc free + 1))) := by
  have hle := pc_le free
  have key : ∀ (d i fu : Nat), i + d = pc free + 1 → d < fu → fst1 (fun t => allF (fitc g (od g free D) ln ct t) 0 m) i = none → lp_X7_leastThatFits_2 (nI g.N) (nI (pc free)) cols lins order (nI m) ln ct fu (nI i) = some (enc (-9) (fst1 (fun t => allF (fitc g (od g free D) ln ct t) 0 m) (pc free + 1))) := by
    intro d
    induction d with
    | zero =>
      intro i fu hi hfu hn
      obtain ⟨n, rfl⟩ : ∃ n, fu = n + 1 := ⟨fu - 1, by omega⟩
      have hi : i = pc free + 1 := by omega
      subst hi
      rw [lp_X7_leastThatFits_2_s, if_pos (nI_lt (by omega) (by omega)), hn]
      rfl
    | succ d ih =>
      intro i fu hi hfu hn
      obtain ⟨n, rfl⟩ : ∃ n, fu = n + 1 := ⟨fu - 1, by omega⟩
      rw [lp_X7_leastThatFits_2_s, ite_lt (by omega) (by omega), if_neg (by omega), fits7 hg hT hf hD h ln ct hm (by omega), Option.bind_some, nI_1]
      cases hb : allF (fitc g (od g free D) ln ct i) 0 m with
      | false =>
        rw [if_pos (by decide)]
        refine ih (i + 1) n (by omega) (by omega) ?_
        unfold fst1
        rw [hn]
        simp only [hb, Bool.false_eq_true, ↓reduceIte]
      | true =>
        rw [if_neg (by decide)]
        have h1 : fst1 (fun t => allF (fitc g (od g free D) ln ct t) 0 m) (i + 1) = some i := by
          unfold fst1
          rw [hn]
          simp only [hb, ↓reduceIte]
        have h2 := fst1_stay h1 (pc free + 1 - (i + 1))
        rw [show i + 1 + (pc free + 1 - (i + 1)) = pc free + 1 by omega] at h2
        rw [h2]
        rfl
  unfold f_X7_leastThatFits
  exact key (pc free + 1) 0 FU (by omega) (by unfold FU; omega) rfl
theorem greatest7 (hg : g.ok) (hT : Tab g cols lins dist wts) (hf : Inn g free) (hD : Sub D free) (h : AR g free D 0 (pc free) order places) (hm : m ≤ 6) :
    f_X7_greatestThatFits (nI g.N) (nI (pc free)) cols lins order (nI m) ln ct = some (enc (-9) (lst1 (fun t => allF (fitc g (od g free D) ln ct t) 0 m) (pc free + 1))) := by
  have hle := pc_le free
  have key : ∀ (i fu : Nat), i ≤ pc free + 1 → i < fu → lp_X7_greatestThatFits_8 (nI g.N) (nI (pc free)) cols lins order (nI m) ln ct fu (nI i - 1) = some (enc (-9) (lst1 (fun t => allF (fitc g (od g free D) ln ct t) 0 m) i)) := by
    intro i
    induction i with
    | zero =>
      intro fu hi hfu
      obtain ⟨n, rfl⟩ : ∃ n, fu = n + 1 := ⟨fu - 1, by omega⟩
      rw [lp_X7_greatestThatFits_8_s, if_pos (by decide)]
      rfl
    | succ i ih =>
      intro fu hi hfu
      obtain ⟨n, rfl⟩ : ∃ n, fu = n + 1 := ⟨fu - 1, by omega⟩
      rw [nI_pred, lp_X7_greatestThatFits_8_s, if_neg (nI_pos (by omega)), fits7 hg hT hf hD h ln ct hm (by omega), Option.bind_some, lst1]
      cases hb : allF (fitc g (od g free D) ln ct i) 0 m with
      | false =>
        rw [if_pos (by decide), if_neg (by decide), show nI i + (-1) = nI i - 1 by grind]
        exact ih n (by omega) (by omega)
      | true =>
        rw [if_neg (by decide), if_pos rfl]
        rfl
  unfold f_X7_greatestThatFits
  have := key (pc free + 1) FU (Nat.le_refl _) (by unfold FU; omega)
  rw [nI_pred] at this
  exact this
theorem unseen_lp (hg : g.ok) (hT : RepT g told) (hF : Fr g shut free) (hs : Inn g shut) (hf : Inn g free) (hD : Sub D free) (h : MR g free D rank stage) (hm : m ≤ 6) (x th : Int32) :
    ∀ (d i fu : Nat), i + d = pc free + 1 → d < fu → lp_X10_unseen_44 shut (nI m) told ln ct x fu (nI (fb_ct (fun t => allF (fitc g (od g free D) ln ct t) 0 m) i)) (enc (-9) (fst1 (fun t => allF (fitc g (od g free D) ln ct t) 0 m) i)) (enc (-9) (lst1 (fun t => allF (fitc g (od g free D) ln ct t) 0 m) i)) (nI i) th rank stage =
      some (if x = 0 then nI (fb_ct (fun t => allF (fitc g (od g free D) ln ct t) 0 m) (pc free + 1)) else if x = 1 then enc (-9) (fst1 (fun t => allF (fitc g (od g free D) ln ct t) 0 m) (pc free + 1)) else enc (-9) (lst1 (fun t => allF (fitc g (od g free D) ln ct t) 0 m) (pc free + 1)), th, rank, stage) := by
  have hle := pc_le free
  intro d
  induction d with
  | zero =>
    intro i fu hi hfu
    obtain ⟨n, rfl⟩ : ∃ n, fu = n + 1 := ⟨fu - 1, by omega⟩
    have hi : i = pc free + 1 := by omega
    subst hi
    rw [lp_X10_unseen_44_s, free10 hg hT hF hs, Option.bind_some, if_pos (nI_lt (by omega) (by omega))]
    by_cases h0 : x = 0
    · rw [if_pos h0, if_pos h0]
    · rw [if_neg h0, if_neg h0]
      by_cases h1 : x = 1
      · rw [if_pos h1, if_pos h1]
      · rw [if_neg h1, if_neg h1]
  | succ d ih =>
    intro i fu hi hfu
    obtain ⟨n, rfl⟩ : ∃ n, fu = n + 1 := ⟨fu - 1, by omega⟩
    have h1 := ih (i + 1) n (by omega) (by omega)
    rw [fb_ct_succ, lst1, fst1] at h1
    rw [lp_X10_unseen_44_s, free10 hg hT hF hs, Option.bind_some, ite_lt (by omega) (by omega), if_neg (by omega), fits10 hg hT hf hD h ln ct hm (by omega), Option.bind_some]
    unfold j_X10_unseen_77
    rw [nI_1, nI_1]
    cases hb : allF (fitc g (od g free D) ln ct i) 0 m with
    | false =>
      rw [if_pos (by decide)]
      rw [hb] at h1
      simp only [Bool.false_eq_true, ↓reduceIte, Nat.add_zero] at h1
      cases hc : fst1 (fun t => allF (fitc g (od g free D) ln ct t) 0 m) i with
      | none => rw [hc] at h1; exact h1
      | some z => rw [hc] at h1; exact h1
    | true =>
      rw [if_neg (by decide)]
      rw [hb] at h1
      simp only [↓reduceIte] at h1
      cases hc : fst1 (fun t => allF (fitc g (od g free D) ln ct t) 0 m) i with
      | none =>
        rw [hc] at h1
        rw [if_pos (show enc (-9) none = -9 from rfl)]
        exact h1
      | some z =>
        rw [hc] at h1
        have hz := fst1_lt hc
        rw [if_neg (show ¬ enc (-9) (some z) = -9 from nI_ne_neg (by omega) (by decide))]
        exact h1
end UNS
