/-! Shades: gaps, holes, the finest. -/
theorem cellOf6 {g : Geo} {free D : Int64} {order places : Nat → Int32} (h : AR g free D 0 (pc free) order places) {r : Nat} (hr : r < pc free) : f_X6_cellOf (nI (pc free)) order (nI r) = some (nI (od g free D r)) := by
  have := pc_le free
  unfold f_X6_cellOf
  rw [if_neg (nI_pos (by omega)), ite_le (by omega) (by omega), if_neg (by omega), if_pos (inb_t (show r < 64 by omega) (by decide)), nI_clamp (by omega), (h r (by omega) hr).1]
theorem rankOf6 {g : Geo} (hg : g.ok) {free D : Int64} (hf : Inn g free) (hD : Sub D free) {order places : Nat → Int32} (h : AR g free D 0 (pc free) order places) {r : Nat} (hr : r < pc free) : f_X6_rankOf (nI g.N) places (nI (od g free D r)) = some (nI r) := by
  have hN := Geo.N_le hg
  have hl := od_lt hf hD hr
  unfold f_X6_rankOf
  rw [isCell0 hN hl, Option.bind_some, if_neg (by decide), if_pos (inb_t (show od g free D r < 64 by omega) (by decide)), nI_clamp (by omega), (h r (by omega) hr).2]
/-- the least distance of c from the cells O 0 .. O t -/
def nrf (g : Geo) (O : Nat → Nat) (c : Nat) : Nat → Nat
  | 0 => g.dst c (O 0)
  | t + 1 => if g.dst c (O (t + 1)) < nrf g O c t then g.dst c (O (t + 1)) else nrf g O c t
theorem nrf_ex (g : Geo) (O : Nat → Nat) (c : Nat) : ∀ t, ∃ i, i ≤ t ∧ nrf g O c t = g.dst c (O i)
  | 0 => ⟨0, Nat.le_refl _, rfl⟩
  | t + 1 => by
    obtain ⟨i, h1, h2⟩ := nrf_ex g O c t
    unfold nrf
    split
    · exact ⟨t + 1, Nat.le_refl _, rfl⟩
    · exact ⟨i, by omega, h2⟩
theorem nrf_le (g : Geo) (O : Nat → Nat) (c : Nat) : ∀ t i, i ≤ t → nrf g O c t ≤ g.dst c (O i)
  | 0, i, h => by
    have : i = 0 := by omega
    subst this
    exact Nat.le_refl _
  | t + 1, i, h => by
    unfold nrf
    by_cases hi : i = t + 1
    · subst hi; split <;> omega
    · have := nrf_le g O c t i (by omega)
      split <;> omega
theorem nrf_128 {g : Geo} (hg : g.ok) (O : Nat → Nat) (c t : Nat) : nrf g O c t ≤ 128 := Nat.le_trans (nrf_le g O c t 0 (Nat.zero_le _)) (Geo.dst_le hg _ _)
theorem nearestOf6 {g : Geo} (hg : g.ok) {cols lins dist wts : Nat → Int32} (hT : Tab g cols lins dist wts) {free D : Int64} (hf : Inn g free) (hD : Sub D free) {order places : Nat → Int32} (h : AR g free D 0 (pc free) order places) {c t : Nat} (hc : c < g.N) (ht : t < pc free) :
    f_X6_nearestOf (nI g.N) (nI (pc free)) cols lins dist order (nI c) (nI (t + 1)) = some (nI (nrf g (od g free D) c t)) := by
  have hN := Geo.N_le hg
  have hle := pc_le free
  have key : ∀ (d i fu : Nat), i + d = t → d < fu → lp_X6_nearestOf_17 (nI g.N) (nI (pc free)) cols lins dist order (nI c) (nI (t + 1)) fu (nI (nrf g (od g free D) c i)) (nI (i + 1)) = some (nI (nrf g (od g free D) c t)) := by
    intro d
    induction d with
    | zero =>
      intro i fu hi hfu
      obtain ⟨n, rfl⟩ : ∃ n, fu = n + 1 := ⟨fu - 1, by omega⟩
      have hi : i = t := by omega
      subst hi
      rw [lp_X6_nearestOf_17_s, if_pos (nI_le (Nat.le_refl _) (by omega))]
    | succ d ih =>
      intro i fu hi hfu
      obtain ⟨n, rfl⟩ : ∃ n, fu = n + 1 := ⟨fu - 1, by omega⟩
      have h1 := nrf_128 hg (od g free D) c i
      have h2 := Geo.dst_le hg c (od g free D (i + 1))
      rw [lp_X6_nearestOf_17_s, ite_le (by omega) (by omega), if_neg (by omega), cellOf6 h (by omega), Option.bind_some, distance0 hg hT hc (od_lt hf hD (by omega)), Option.bind_some, ite_lt (by omega) (by omega), nI_1]
      have h3 := ih (i + 1) n (by omega) (by omega)
      have e : (if g.dst c (od g free D (i + 1)) < nrf g (od g free D) c i then nI (g.dst c (od g free D (i + 1))) else nI (nrf g (od g free D) c i)) = nI (if g.dst c (od g free D (i + 1)) < nrf g (od g free D) c i then g.dst c (od g free D (i + 1)) else nrf g (od g free D) c i) := by split <;> rfl
      rw [e]
      exact h3
  unfold f_X6_nearestOf
  rw [L0, cellOf6 h (by omega), Option.bind_some, distance0 hg hT hc (od_lt hf hD (by omega)), Option.bind_some]
  exact key t 0 FU (by omega) (by unfold FU; omega)
/-- o is the least number with P, or none, if there is none -/
def Mn (P : Nat → Prop) (o : Option Nat) : Prop := match o with | none => ∀ v, ¬ P v | some v => P v ∧ ∀ w, P w → v ≤ w
theorem Mn_one {P : Nat → Prop} {o o' : Option Nat} (h : Mn P o) (h' : Mn P o') : o = o' := by
  cases o with
  | none =>
    cases o' with
    | none => rfl
    | some v => exact absurd h'.1 (h v)
  | some v =>
    cases o' with
    | none => exact absurd h.1 (h' v)
    | some w =>
      have h1 := h.2 w h'.1
      have h2 := h'.2 v h.1
      exact congrArg some (by omega)
theorem Mn_iff {P P' : Nat → Prop} {o : Option Nat} (h : Mn P o) (e : ∀ v, P v ↔ P' v) : Mn P' o := by
  cases o with
  | none => exact fun v hv => h v ((e v).mpr hv)
  | some v => exact ⟨(e v).mp h.1, fun w hw => h.2 w ((e w).mpr hw)⟩
/-- one more number u -/
theorem Mn_add {P P' : Nat → Prop} {o : Option Nat} {u : Nat} (h : Mn P o) (e : ∀ v, P' v ↔ (P v ∨ v = u)) : Mn P' (match o with | none => some u | some v => if v ≤ u then some v else some u) := by
  cases o with
  | none => exact ⟨(e u).mpr (Or.inr rfl), fun w hw => ((e w).mp hw).elim (fun q => absurd q (h w)) (fun q => by omega)⟩
  | some v =>
    by_cases hv : v ≤ u
    · simp only [hv, ↓reduceIte]
      exact ⟨(e v).mpr (Or.inl h.1), fun w hw => ((e w).mp hw).elim (h.2 w) (fun q => by omega)⟩
    · simp only [hv, ↓reduceIte]
      exact ⟨(e u).mpr (Or.inr rfl), fun w hw => ((e w).mp hw).elim (fun q => by have := h.2 w q; omega) (fun q => by omega)⟩
/-- many numbers more, of which u is the least -/
theorem Mn_more {P P' : Nat → Prop} {o : Option Nat} {u : Nat} (h : Mn P o) (h1 : ∀ v, P v → P' v) (h2 : P' u) (h3 : ∀ v, P' v → P v ∨ u ≤ v) : Mn P' (match o with | none => some u | some v => if v ≤ u then some v else some u) := by
  cases o with
  | none => exact ⟨h2, fun w hw => (h3 w hw).elim (fun q => absurd q (h w)) id⟩
  | some v =>
    by_cases hv : v ≤ u
    · simp only [hv, ↓reduceIte]
      exact ⟨h1 v h.1, fun w hw => (h3 w hw).elim (h.2 w) (fun q => by omega)⟩
    · simp only [hv, ↓reduceIte]
      exact ⟨h2, fun w hw => (h3 w hw).elim (fun q => by have := h.2 w q; omega) id⟩
/-- distances of two unlike cells of the shade t -/
def PG (g : Geo) (O : Nat → Nat) (t v : Nat) : Prop := ∃ i j, i < j ∧ j < t ∧ v = g.dst (O j) (O i)
theorem PG_le {g : Geo} (hg : g.ok) {O : Nat → Nat} {t v : Nat} (h : PG g O t v) : v ≤ 128 := by
  obtain ⟨i, j, -, -, rfl⟩ := h
  exact Geo.dst_le hg _ _
theorem gap6 {g : Geo} (hg : g.ok) {cols lins dist wts : Nat → Int32} (hT : Tab g cols lins dist wts) {free D : Int64} (hf : Inn g free) (hD : Sub D free) {order places : Nat → Int32} (h : AR g free D 0 (pc free) order places) {t : Nat} (ht : t ≤ pc free) :
    ∃ o, Mn (PG g (od g free D) t) o ∧ f_X6_gapOf (nI g.N) (nI (pc free)) cols lins dist order (nI t) = some (enc (-9) o) := by
  have hN := Geo.N_le hg
  have hle := pc_le free
  have key : ∀ (d i fu : Nat) (o : Option Nat), i + 1 + d = t → d < fu → Mn (PG g (od g free D) (i + 1)) o → ∃ o', Mn (PG g (od g free D) t) o' ∧ lp_X6_gapOf_5 (nI g.N) (nI (pc free)) cols lins dist order (nI t) fu (enc (-9) o) (nI (i + 1)) = some (enc (-9) o') := by
    intro d
    induction d with
    | zero =>
      intro i fu o hi hfu ho
      obtain ⟨n, rfl⟩ : ∃ n, fu = n + 1 := ⟨fu - 1, by omega⟩
      have hi : i + 1 = t := by omega
      subst hi
      exact ⟨o, ho, by rw [lp_X6_gapOf_5_s, if_pos (nI_le (Nat.le_refl _) (by omega))]⟩
    | succ d ih =>
      intro i fu o hi hfu ho
      obtain ⟨n, rfl⟩ : ∃ n, fu = n + 1 := ⟨fu - 1, by omega⟩
      have hu := nrf_128 hg (od g free D) (od g free D (i + 1)) i
      rw [lp_X6_gapOf_5_s, ite_le (by omega) (by omega), if_neg (by omega), cellOf6 h (by omega), Option.bind_some, nearestOf6 hg hT hf hD h (od_lt hf hD (by omega)) (by omega), Option.bind_some]
      have hm := Mn_more (u := nrf g (od g free D) (od g free D (i + 1)) i) (P' := PG g (od g free D) (i + 1 + 1)) ho (fun v ⟨a, b, q1, q2, q3⟩ => ⟨a, b, q1, by omega, q3⟩) (by
        obtain ⟨a, q1, q2⟩ := nrf_ex g (od g free D) (od g free D (i + 1)) i
        exact ⟨a, i + 1, by omega, by omega, q2⟩) (fun v ⟨a, b, q1, q2, q3⟩ => by
        by_cases hb : b = i + 1
        · subst hb
          exact Or.inr (by rw [q3]; exact nrf_le _ _ _ _ a (by omega))
        · exact Or.inl ⟨a, b, q1, by omega, q3⟩)
      obtain ⟨o', h1, h2⟩ := ih (i + 1) n _ (by omega) (by omega) hm
      refine ⟨o', h1, ?_⟩
      rw [← h2]
      cases o with
      | none => rw [if_pos (show enc (-9) none = -9 from rfl), nI_1]; rfl
      | some v =>
        have hv := PG_le hg ho.1
        rw [if_neg (show ¬ enc (-9) (some v) = -9 from nI_ne_neg (by omega) (by decide)), enc_some, ite_le (by omega) (by omega), nI_1]
        by_cases hvu : v ≤ nrf g (od g free D) (od g free D (i + 1)) i
        · simp only [hvu, ↓reduceIte]; rfl
        · simp only [hvu, ↓reduceIte]; rfl
  unfold f_X6_gapOf
  rcases Nat.eq_zero_or_pos t with q | q
  · subst q
    refine ⟨none, fun v ⟨a, b, q1, q2, q3⟩ => by omega, ?_⟩
    rw [show FU = 255 + 1 from rfl, lp_X6_gapOf_5_s, if_pos (by decide)]
    rfl
  · exact key (t - 1) 0 FU none (by omega) (by unfold FU; omega) (fun v ⟨a, b, q1, q2, q3⟩ => by omega)
/-- a cell of the shade t -/
def inT (g : Geo) (free D : Int64) (t c : Nat) : Prop := ∃ r, r < t ∧ r < pc free ∧ od g free D r = c
theorem isIn10 {g : Geo} {free D : Int64} (hf : Inn g free) (hD : Sub D free) {rank stage : Nat → Int32} (h : MR g free D rank stage) {t c : Nat} (hc : c < 64) (ht : t ≤ 64) : (inT g free D t c → f_X10_isIn rank (nI c) (nI t) = some 1) ∧ (¬ inT g free D t c → f_X10_isIn rank (nI c) (nI t) = some 0) := by
  have hle := pc_le free
  unfold f_X10_isIn
  rw [if_pos (inb_t hc (by decide)), if_pos (inb_t hc (by decide)), nI_clamp (by omega)]
  cases hb : bit free c with
  | false =>
    rw [(h.2 c hc hb).1, if_pos (by decide)]
    refine ⟨fun ⟨r, q1, q2, q3⟩ => ?_, fun _ => rfl⟩
    have := od_free hf hD q2
    rw [q3, hb] at this
    cases this
  | true =>
    obtain ⟨k, hk, rfl⟩ := od_onto hf hD hb
    rw [(h.1 k (by omega) hk).1, if_neg (nI_pos (by omega)), ite_le (by omega) (by omega)]
    constructor
    · rintro ⟨r, q1, q2, q3⟩
      have : r = k := Classical.byContradiction fun hne => od_ne hf hD q2 hk hne q3
      subst this
      rw [if_neg (by omega)]
    · intro hn
      rw [if_pos]
      refine Nat.le_of_not_lt fun hlt => hn ⟨k, hlt, hk, rfl⟩
def PM (g : Geo) (free D : Int64) (t a b v : Nat) : Prop := ∃ a' b', b' < a' ∧ (a' < a ∨ (a' = a ∧ b' < b)) ∧ inT g free D t a' ∧ inT g free D t b' ∧ v = g.dst a' b'
theorem gapM_in {g : Geo} {told : Nat → Int32} (hg : g.ok) (hT : RepT g told) {free D : Int64} (hf : Inn g free) (hD : Sub D free) {rank stage : Nat → Int32} (h : MR g free D rank stage) {t : Nat} (ht : t ≤ 64) (k5 : Int32 → Int32 → Option Int32) {a : Nat} (ha : a < g.N) :
    ∀ (d b fu : Nat) (o : Option Nat), b + d = a → d < fu → Mn (PM g free D t a b) o → ∃ o', Mn (PM g free D t (a + 1) 0) o' ∧ lp_X10_gapOf_16 told rank (nI t) k5 fu (enc (-9) o) (nI a) (nI b) = k5 (enc (-9) o') (nI (a + 1)) := by
  have hN := Geo.N_le hg
  intro d
  induction d with
  | zero =>
    intro b fu o hi hfu ho
    obtain ⟨n, rfl⟩ : ∃ n, fu = n + 1 := ⟨fu - 1, by omega⟩
    have hi : b = a := by omega
    subst hi
    refine ⟨o, Mn_iff ho (fun v => ⟨fun ⟨a', b', q1, q2, q3⟩ => ⟨a', b', q1, by omega, q3⟩, fun ⟨a', b', q1, q2, q3⟩ => ⟨a', b', q1, by omega, q3⟩⟩), ?_⟩
    rw [lp_X10_gapOf_16_s, if_pos (nI_le (Nat.le_refl _) (by omega)), nI_1]
  | succ d ih =>
    intro b fu o hi hfu ho
    obtain ⟨n, rfl⟩ : ∃ n, fu = n + 1 := ⟨fu - 1, by omega⟩
    rw [lp_X10_gapOf_16_s, ite_le (by omega) (by omega), if_neg (by omega)]
    have hia := isIn10 hf hD h (t := t) (c := a) (by omega) ht
    have hib := isIn10 hf hD h (t := t) (c := b) (by omega) ht
    by_cases ca : inT g free D t a
    · rw [hia.1 ca, Option.bind_some, if_neg (by decide)]
      by_cases cb : inT g free D t b
      · rw [hib.1 cb, Option.bind_some, if_neg (by decide)]
        have hu := Geo.dst_le hg a b
        have hm := Mn_add (u := g.dst a b) (P' := PM g free D t a (b + 1)) ho (fun v => by
          constructor
          · rintro ⟨a', b', q1, q2, q3, q4, q5⟩
            by_cases hc : a' = a ∧ b' = b
            · obtain ⟨rfl, rfl⟩ := hc
              exact Or.inr q5
            · exact Or.inl ⟨a', b', q1, by omega, q3, q4, q5⟩
          · rintro (⟨a', b', q1, q2, q3⟩ | q)
            · exact ⟨a', b', q1, by omega, q3⟩
            · exact ⟨a, b, by omega, by omega, ca, cb, q⟩)
        obtain ⟨o', h1, h2⟩ := ih (b + 1) n _ (by omega) (by omega) hm
        refine ⟨o', h1, ?_⟩
        rw [← h2]
        have t1 : ∀ (k16 : Int32 → Int32 → Int32 → Option Int32) (x2 : Int32), j_X10_gapOf_63 told k16 x2 (nI a) (nI b) 1 = k16 (nI (g.dst a b)) (nI a) (nI (b + 1)) := by
          intro k16 x2
          unfold j_X10_gapOf_63 j_X10_gapOf_81
          rw [if_neg (by decide), distance10 hg hT ha (by omega), Option.bind_some, nI_1]
        have t0 : ∀ (k16 : Int32 → Int32 → Int32 → Option Int32) (x2 : Int32), j_X10_gapOf_63 told k16 x2 (nI a) (nI b) 0 = k16 x2 (nI a) (nI (b + 1)) := by
          intro k16 x2
          unfold j_X10_gapOf_63 j_X10_gapOf_81
          rw [if_pos rfl, nI_1]
        simp only [t1, t0]
        rw [distance10 hg hT ha (by omega), Option.bind_some]
        cases o with
        | none => rw [if_pos (show enc (-9) none = -9 from rfl)]; rfl
        | some v =>
          obtain ⟨a', b', -, -, -, -, q5⟩ := ho.1
          have hv : v ≤ 128 := by rw [q5]; exact Geo.dst_le hg _ _
          rw [if_neg (show ¬ enc (-9) (some v) = -9 from nI_ne_neg (by omega) (by decide)), enc_some, ite_le (by omega) (by omega)]
          by_cases hvu : v ≤ g.dst a b
          · simp only [hvu, ↓reduceIte]; rfl
          · simp only [hvu, ↓reduceIte]; rfl
      · rw [hib.2 cb, Option.bind_some, if_pos rfl]
        unfold j_X10_gapOf_63 j_X10_gapOf_81
        rw [if_pos rfl, nI_1]
        refine ih (b + 1) n o (by omega) (by omega) (Mn_iff ho (fun v => ⟨fun ⟨a', b', q1, q2, q3⟩ => ⟨a', b', q1, by omega, q3⟩, fun ⟨a', b', q1, q2, q3, q4, q5⟩ => ⟨a', b', q1, ?_, q3, q4, q5⟩⟩))
        by_cases hc : a' = a ∧ b' = b
        · obtain ⟨rfl, rfl⟩ := hc
          exact absurd q4 cb
        · omega
    · rw [hia.2 ca, Option.bind_some, if_pos rfl, nI_1]
      refine ⟨o, Mn_iff ho (fun v => ⟨fun ⟨a', b', q1, q2, q3⟩ => ⟨a', b', q1, by omega, q3⟩, fun ⟨a', b', q1, q2, q3, q4, q5⟩ => ⟨a', b', q1, ?_, q3, q4, q5⟩⟩), rfl⟩
      by_cases hc : a' = a
      · subst hc; exact absurd q3 ca
      · omega
theorem PM_PG {g : Geo} {free D : Int64} (hf : Inn g free) (hD : Sub D free) {t : Nat} (ht : t ≤ pc free) (v : Nat) : PM g free D t g.N 0 v ↔ PG g (od g free D) t v := by
  constructor
  · rintro ⟨a', b', q1, q2, ⟨j, j1, j2, rfl⟩, ⟨i, i1, i2, rfl⟩, rfl⟩
    have hij : i ≠ j := by
      intro he
      subst he
      omega
    rcases Nat.lt_or_ge i j with q | q
    · exact ⟨i, j, q, j1, rfl⟩
    · exact ⟨j, i, by omega, i1, Geo.dst_symm _ _ _⟩
  · rintro ⟨i, j, h1, h2, rfl⟩
    have hne := od_inj hf hD h1 (show j < pc free by omega)
    have li := od_lt hf hD (show i < pc free by omega)
    have lj := od_lt hf hD (show j < pc free by omega)
    rcases Nat.lt_or_ge (od g free D i) (od g free D j) with q | q
    · exact ⟨_, _, q, Or.inl lj, ⟨j, h2, by omega, rfl⟩, ⟨i, by omega, by omega, rfl⟩, rfl⟩
    · exact ⟨_, _, by omega, Or.inl li, ⟨i, by omega, by omega, rfl⟩, ⟨j, h2, by omega, rfl⟩, Geo.dst_symm _ _ _⟩
theorem gap10 {g : Geo} {told : Nat → Int32} (hg : g.ok) (hT : RepT g told) {free D : Int64} (hf : Inn g free) (hD : Sub D free) {rank stage : Nat → Int32} (h : MR g free D rank stage) {t : Nat} (ht : t ≤ pc free) {o : Option Nat} (ho : Mn (PG g (od g free D) t) o) : f_X10_gapOf told rank (nI t) = some (enc (-9) o) := by
  have hN := Geo.N_le hg
  have hle := pc_le free
  have key : ∀ (d a fu : Nat) (o : Option Nat), a + d = g.N → d < fu → Mn (PM g free D t a 0) o → ∃ o', Mn (PM g free D t g.N 0) o' ∧ lp_X10_gapOf_5 told rank (nI t) fu (enc (-9) o) (nI a) = some (enc (-9) o') := by
    intro d
    induction d with
    | zero =>
      intro a fu o hi hfu ho
      obtain ⟨n, rfl⟩ : ∃ n, fu = n + 1 := ⟨fu - 1, by omega⟩
      have hi : a = g.N := by omega
      subst hi
      exact ⟨o, ho, by rw [lp_X10_gapOf_5_s, cells10 hT, Option.bind_some, if_pos (nI_le (Nat.le_refl _) (by omega))]⟩
    | succ d ih =>
      intro a fu o hi hfu ho
      obtain ⟨n, rfl⟩ : ∃ n, fu = n + 1 := ⟨fu - 1, by omega⟩
      obtain ⟨o1, h1, h2⟩ := gapM_in hg hT hf hD h (t := t) (by omega) (lp_X10_gapOf_5 told rank (nI t) n) (show a < g.N by omega) a 0 FU o (by omega) (by unfold FU; omega) ho
      obtain ⟨o2, h3, h4⟩ := ih (a + 1) n o1 (by omega) (by omega) h1
      refine ⟨o2, h3, ?_⟩
      rw [lp_X10_gapOf_5_s, cells10 hT, Option.bind_some, ite_le (by omega) (by omega), if_neg (by omega), L0, h2, h4]
  obtain ⟨o', h1, h2⟩ := key g.N 0 FU none (by omega) (by unfold FU; omega) (fun v ⟨a', b', q1, q2, q3⟩ => by omega)
  rw [Mn_one ho (Mn_iff h1 (PM_PG hf hD ht))]
  unfold f_X10_gapOf
  exact h2
