/-! Energy. -/
def em (g : Geo) (S : Int64) (a b : Nat) : Nat := if bit S a = true then (if bit S b = true then g.wt a b else 0) else 0
theorem em_symm (g : Geo) (S : Int64) (a b : Nat) : em g S a b = em g S b a := by
  unfold em
  rw [Geo.wt_symm g a b]
  cases bit S a <;> cases bit S b <;> simp
def en (g : Geo) (S : Int64) : Nat := fb_sm (fun a => fb_sm (em g S a) a) g.N
theorem dbl (m : Nat → Nat → Nat) (hm : ∀ a b, m a b = m b a) : ∀ n, fb_sm (fun c => fb_sm (fun e => if e = c then 0 else m e c) n) n = 2 * fb_sm (fun a => fb_sm (m a) a) n
  | 0 => rfl
  | n + 1 => by
    have ih := dbl m hm n
    have e1 : fb_sm (fun c => fb_sm (fun e => if e = c then 0 else m e c) (n + 1)) n = fb_sm (fun c => fb_sm (fun e => if e = c then 0 else m e c) n) n + fb_sm (m n) n := by
      rw [← fb_sm_add]
      refine fb_sm_cong (fun c hc => ?_)
      rw [fb_sm_succ, if_neg (by omega)]
    have e2 : fb_sm (fun e => if e = n then 0 else m e n) (n + 1) = fb_sm (m n) n := by
      rw [fb_sm_succ, if_pos rfl, Nat.add_zero]
      refine fb_sm_cong (fun e he => ?_)
      rw [if_neg (by omega), hm]
    rw [fb_sm_succ, e1, e2, ih, fb_sm_succ]
    omega
theorem hs_less {g : Geo} {S : Int64} {c : Nat} (hc : c < g.N) (hb : bit S c = true) : hs g S c = fb_sm (fun e => if e = c then 0 else em g S e c) g.N + g.wt c c := by
  have h := fb_sm_upd (fun e => if bit S e = true then g.wt e c else 0) 0 hc
  simp only [hb, ↓reduceIte] at h
  have e : fb_sm (fun e => if e = c then 0 else em g S e c) g.N = fb_sm (fun k => if k = c then 0 else if bit S k = true then g.wt k c else 0) g.N := fb_sm_cong (fun k _ => by
    unfold em
    rw [hb]
    simp)
  unfold hs
  omega
def tw (g : Geo) (S : Int64) (c : Nat) : Nat := if bit S c = true then hs g S c - g.wt c c else 0
theorem tw_en {g : Geo} (S : Int64) : fb_sm (tw g S) g.N = 2 * en g S := by
  unfold en
  rw [← dbl (em g S) (em_symm g S)]
  refine fb_sm_cong (fun c hc => ?_)
  unfold tw
  by_cases hb : bit S c = true
  · rw [if_pos hb, hs_less hc hb]; omega
  · rw [if_neg hb]
    have : fb_sm (fun e => if e = c then 0 else em g S e c) g.N ≤ g.N * 0 := fb_sm_bound (fun e _ => by
      unfold em
      rw [if_neg hb]
      split <;> simp)
    omega
theorem tw_le {g : Geo} (hg : g.ok) (S : Int64) : fb_sm (tw g S) g.N ≤ 4091904 := by
  have h1 : fb_sm (tw g S) g.N ≤ g.N * 63936 := fb_sm_bound (fun c _ => by
    have := hs_le hg S c
    unfold tw
    split <;> omega)
  have h2 : g.N * 63936 ≤ 64 * 63936 := Nat.mul_le_mul_right _ (Geo.N_le hg)
  omega
theorem pairs_lp {g : Geo} (hg : g.ok) {cols lins dist wts : Nat → Int32} (hT : Tab g cols lins dist wts) {S : Int64} {sums : Nat → Int32} (hS : HOk g S sums) :
    ∀ (d i fu : Nat), i + d = g.N → d < fu → lp_X1_pairs_4 (nI g.N) cols lins wts S sums fu (nI (fb_sm (tw g S) i)) (nI i) = some (nI (en g S)) := by
  have hN := Geo.N_le hg
  intro d
  induction d with
  | zero =>
    intro i fu hi hf
    obtain ⟨n, rfl⟩ : ∃ n, fu = n + 1 := ⟨fu - 1, by omega⟩
    have hi : i = g.N := by omega
    subst hi
    have h1 := tw_en (g := g) S
    have h2 := tw_le hg S
    rw [lp_X1_pairs_4_s, if_pos (nI_le (Nat.le_refl _) (by omega)), show (2 : Int32) = nI 2 from rfl, pk_div (by omega) (by decide) (by decide)]
    congr 2
    omega
  | succ d ih =>
    intro i fu hi hf
    obtain ⟨n, rfl⟩ : ∃ n, fu = n + 1 := ⟨fu - 1, by omega⟩
    have h1 := ih (i + 1) n (by omega) (by omega)
    rw [fb_sm_succ] at h1
    rw [lp_X1_pairs_4_s, ite_le (by omega) (by omega), if_neg (by omega), has9 S (by omega), Option.bind_some]
    by_cases hb : bit S i = true
    · have hl := hs_less (show i < g.N by omega) hb
      rw [if_neg (by rw [if_pos hb]; decide), if_pos (inb_t (show i < 64 by omega) (by decide)), weight0 hg hT (by omega) (by omega), Option.bind_some, nI_clamp (by omega), hS i (by omega), pk_sub (by omega), nI_add, nI_1]
      unfold tw at h1
      rw [if_pos hb] at h1
      exact h1
    · rw [if_pos (by rw [if_neg hb]), nI_1]
      unfold tw at h1
      rw [if_neg hb] at h1
      exact h1
theorem pairs1 {g : Geo} (hg : g.ok) {cols lins dist wts : Nat → Int32} (hT : Tab g cols lins dist wts) {S : Int64} {sums : Nat → Int32} (hS : HOk g S sums) : f_X1_pairs (nI g.N) cols lins wts S sums = some (nI (en g S)) := by
  have hN := Geo.N_le hg
  unfold f_X1_pairs
  exact pairs_lp hg hT hS g.N 0 FU (by omega) (by unfold FU; omega)
theorem en_in {g : Geo} {told : Nat → Int32} (hg : g.ok) (hT : RepT g told) (S : Int64) (k5 : Int32 → Int32 → Option Int32) {a : Nat} (ha : a < g.N) (base : Nat) :
    ∀ (d i fu : Nat), i + d = a → d < fu → lp_X10_energyOf_17 told S k5 fu (nI (base + fb_sm (em g S a) i)) (nI a) (nI i) = k5 (nI (base + fb_sm (em g S a) a)) (nI (a + 1)) := by
  have hN := Geo.N_le hg
  intro d
  induction d with
  | zero =>
    intro i fu hi hf
    obtain ⟨n, rfl⟩ : ∃ n, fu = n + 1 := ⟨fu - 1, by omega⟩
    have hi : i = a := by omega
    subst hi
    rw [lp_X10_energyOf_17_s, if_pos (nI_le (Nat.le_refl _) (by omega)), nI_1]
  | succ d ih =>
    intro i fu hi hf
    obtain ⟨n, rfl⟩ : ∃ n, fu = n + 1 := ⟨fu - 1, by omega⟩
    have h1 := ih (i + 1) n (by omega) (by omega)
    rw [fb_sm_succ, ← Nat.add_assoc] at h1
    have t : ∀ (k17 : Int32 → Int32 → Int32 → Option Int32) (v : Nat), j_X10_energyOf_59 k17 (nI a) (nI i) (nI (base + fb_sm (em g S a) i)) (nI v) = k17 (nI (base + fb_sm (em g S a) i + v)) (nI a) (nI (i + 1)) := by
      intro k17 v
      unfold j_X10_energyOf_59
      rw [nI_add, nI_1]
    rw [lp_X10_energyOf_17_s, ite_le (by omega) (by omega), if_neg (by omega), has10 S (by omega), Option.bind_some]
    by_cases hb : bit S a = true
    · rw [if_neg (by rw [if_pos hb]; decide), has10 S (by omega), Option.bind_some]
      by_cases hb2 : bit S i = true
      · rw [if_neg (by rw [if_pos hb2]; decide), distance10 hg hT ha (by omega), Option.bind_some, weight10 hg hT (Geo.dst_le hg _ _), Option.bind_some, t]
        unfold em at h1 ⊢
        simp only [hb, hb2, ↓reduceIte] at h1 ⊢
        exact h1
      · rw [if_pos (by rw [if_neg hb2]), L0, t]
        rw [show em g S a i = 0 by unfold em; rw [if_pos hb, if_neg hb2]] at h1
        exact h1
    · rw [if_pos (by rw [if_neg hb]), L0, t]
      rw [show em g S a i = 0 by unfold em; rw [if_neg hb]] at h1
      exact h1
theorem en_lp {g : Geo} {told : Nat → Int32} (hg : g.ok) (hT : RepT g told) (S : Int64) : ∀ (d i fu : Nat), i + d = g.N → d < fu → lp_X10_energyOf_5 told S fu (nI (fb_sm (fun a => fb_sm (em g S a) a) i)) (nI i) = some (nI (en g S)) := by
  have hN := Geo.N_le hg
  intro d
  induction d with
  | zero =>
    intro i fu hi hf
    obtain ⟨n, rfl⟩ : ∃ n, fu = n + 1 := ⟨fu - 1, by omega⟩
    have hi : i = g.N := by omega
    subst hi
    rw [lp_X10_energyOf_5_s, cells10 hT, Option.bind_some, if_pos (nI_le (Nat.le_refl _) (by omega))]
    rfl
  | succ d ih =>
    intro i fu hi hf
    obtain ⟨n, rfl⟩ : ∃ n, fu = n + 1 := ⟨fu - 1, by omega⟩
    have h1 := ih (i + 1) n (by omega) (by omega)
    rw [fb_sm_succ] at h1
    have h2 := en_in hg hT S (lp_X10_energyOf_5 told S n) (show i < g.N by omega) (fb_sm (fun a => fb_sm (em g S a) a) i) i 0 FU (by omega) (by unfold FU; omega)
    rw [show fb_sm (em g S i) 0 = 0 from rfl, Nat.add_zero] at h2
    rw [lp_X10_energyOf_5_s, cells10 hT, Option.bind_some, ite_le (by omega) (by omega), if_neg (by omega), L0, h2]
    exact h1
theorem energy10 {g : Geo} {told : Nat → Int32} (hg : g.ok) (hT : RepT g told) (S : Int64) : f_X10_energyOf told S = some (nI (en g S)) := by
  have hN := Geo.N_le hg
  unfold f_X10_energyOf
  exact en_lp hg hT S g.N 0 FU (by omega) (by unfold FU; omega)
