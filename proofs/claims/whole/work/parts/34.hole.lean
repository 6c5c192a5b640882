/-! Holes; the finest shade. -/
def hm (g : Geo) (free : Int64) (O : Nat → Nat) (t : Nat) : Nat → Nat
  | 0 => 0
  | i + 1 => if bit free i = true then (if hm g free O t i < nrf g O i t then nrf g O i t else hm g free O t i) else hm g free O t i
theorem hm_le {g : Geo} (hg : g.ok) (free : Int64) (O : Nat → Nat) (t : Nat) : ∀ i, hm g free O t i ≤ 128
  | 0 => by simp [hm]
  | i + 1 => by
    have := hm_le hg free O t i
    have := nrf_128 hg O i t
    unfold hm
    split
    · split <;> omega
    · omega
theorem hm_none {g : Geo} {free : Int64} {O : Nat → Nat} {t : Nat} : ∀ i, fb_ct (bit free) i = 0 → hm g free O t i = 0
  | 0, _ => rfl
  | i + 1, h => by
    rw [fb_ct_succ] at h
    have hb : ¬ bit free i = true := by
      intro hb
      rw [if_pos hb] at h
      omega
    unfold hm
    rw [if_neg hb]
    exact hm_none i (by omega)
theorem hole6 {g : Geo} (hg : g.ok) {cols lins dist wts : Nat → Int32} (hT : Tab g cols lins dist wts) {free D : Int64} (hf : Inn g free) (hD : Sub D free) {order places : Nat → Int32} (h : AR g free D 0 (pc free) order places) {t : Nat} (ht : t < pc free) :
    f_X6_holeOf (nI g.N) free (nI (pc free)) cols lins dist order (nI (t + 1)) = some (nI (hm g free (od g free D) t g.N)) := by
  have hN := Geo.N_le hg
  have hle := pc_le free
  have key : ∀ (d i fu : Nat), i + d = g.N → d < fu → lp_X6_holeOf_12 (nI g.N) free (nI (pc free)) cols lins dist order (nI (t + 1)) fu (nI (hm g free (od g free D) t i)) (nI i) = some (nI (hm g free (od g free D) t g.N)) := by
    intro d
    induction d with
    | zero =>
      intro i fu hi hfu
      obtain ⟨n, rfl⟩ : ∃ n, fu = n + 1 := ⟨fu - 1, by omega⟩
      have hi : i = g.N := by omega
      subst hi
      rw [lp_X6_holeOf_12_s, if_pos (nI_le (Nat.le_refl _) (by omega))]
    | succ d ih =>
      intro i fu hi hfu
      obtain ⟨n, rfl⟩ : ∃ n, fu = n + 1 := ⟨fu - 1, by omega⟩
      have h1 := ih (i + 1) n (by omega) (by omega)
      rw [hm] at h1
      have a1 := hm_le hg free (od g free D) t i
      have a2 := nrf_128 hg (od g free D) i t
      rw [lp_X6_holeOf_12_s, ite_le (by omega) (by omega), if_neg (by omega), has9 free (by omega), Option.bind_some]
      by_cases hb : bit free i = true
      · rw [if_neg (by rw [if_pos hb]; decide), nearestOf6 hg hT hf hD h (by omega) ht, Option.bind_some, ite_lt (by omega) (by omega), nI_1]
        rw [if_pos hb] at h1
        rw [← h1]
        congr 1
        split <;> rfl
      · rw [if_pos (by rw [if_neg hb]), nI_1]
        rw [if_neg hb] at h1
        exact h1
  unfold f_X6_holeOf
  rw [L1, ite_le (by omega) (by omega), if_pos (by omega)]
  exact key g.N 0 FU (by omega) (by unfold FU; omega)
def QM (g : Geo) (free D : Int64) (t a b v : Nat) : Prop := ∃ b', b' < b ∧ inT g free D t b' ∧ v = g.dst a b'
def e1000 (o : Option Nat) : Int32 := match o with | none => 1000 | some v => nI v
def hmO (g : Geo) (free : Int64) (O : Nat → Nat) (t a : Nat) : Int32 := if fb_ct (bit free) a = 0 then -9 else nI (hm g free O t a)
theorem QM_nrf {g : Geo} {free D : Int64} (hf : Inn g free) (hD : Sub D free) {t a : Nat} (ht : t < pc free) : Mn (QM g free D (t + 1) a g.N) (some (nrf g (od g free D) a t)) := by
  refine ⟨?_, ?_⟩
  · obtain ⟨i, q1, q2⟩ := nrf_ex g (od g free D) a t
    exact ⟨od g free D i, od_lt hf hD (by omega), ⟨i, by omega, by omega, rfl⟩, q2⟩
  · rintro w ⟨b', -, ⟨r, r1, r2, rfl⟩, rfl⟩
    exact nrf_le _ _ _ _ r (by omega)
theorem holeM_in {g : Geo} {told : Nat → Int32} (hg : g.ok) (hT : RepT g told) {shut free D : Int64} (hF : Fr g shut free) (hf : Inn g free) (hD : Sub D free) {rank stage : Nat → Int32} (h : MR g free D rank stage) {t : Nat} (ht : t < pc free) (k5 : Int32 → Int32 → Option Int32) {a : Nat} (ha : a < g.N) :
    ∀ (d b fu : Nat) (o : Option Nat), b + d = g.N → d < fu → Mn (QM g free D (t + 1) a b) o → lp_X10_holeOf_25 shut told rank (nI (t + 1)) k5 fu (hmO g free (od g free D) t a) (nI a) (e1000 o) (nI b) = k5 (hmO g free (od g free D) t (a + 1)) (nI (a + 1)) := by
  have hN := Geo.N_le hg
  have hle := pc_le free
  intro d
  induction d with
  | zero =>
    intro b fu o hi hfu ho
    obtain ⟨n, rfl⟩ : ∃ n, fu = n + 1 := ⟨fu - 1, by omega⟩
    have hi : b = g.N := by omega
    subst hi
    have e := Mn_one ho (QM_nrf hf hD ht)
    subst e
    have a1 := hm_le hg free (od g free D) t a
    have a2 := nrf_128 hg (od g free D) a t
    have hb := hF a (by omega)
    simp only [ha, decide_true, Bool.true_and] at hb
    rw [lp_X10_holeOf_25_s, cells10 hT, Option.bind_some, if_pos (nI_le (Nat.le_refl _) (by omega)), isFree10 shut (by omega), Option.bind_some]
    unfold j_X10_holeOf_96
    rw [nI_1]
    by_cases hs : bit shut a = true
    · rw [if_pos (by rw [if_pos hs])]
      have hb2 : ¬ bit free a = true := by rw [hb, hs]; decide
      congr 1
      unfold hmO
      rw [fb_ct_succ, if_neg hb2, hm, if_neg hb2]
      rfl
    · rw [if_neg (by rw [if_neg hs]; decide)]
      have hb2 : bit free a = true := by rw [hb]; simpa using hs
      have e2 : hmO g free (od g free D) t (a + 1) = nI (if hm g free (od g free D) t a < nrf g (od g free D) a t then nrf g (od g free D) a t else hm g free (od g free D) t a) := by
        unfold hmO
        rw [fb_ct_succ, if_pos hb2, if_neg (by omega), hm, if_pos hb2]
      rw [e2]
      show (if nI (nrf g (od g free D) a t) ≤ hmO g free (od g free D) t a then _ else _) = _
      unfold hmO
      by_cases h0 : fb_ct (bit free) a = 0
      · rw [if_pos h0, if_neg (by
          intro hh
          have := (Int32.le_iff_toInt_le).mp hh
          rw [nI_toInt (by omega), show (-9 : Int32).toInt = -9 from by decide] at this
          omega), hm_none a h0, show (if 0 < nrf g (od g free D) a t then nrf g (od g free D) a t else 0) = nrf g (od g free D) a t from by split <;> omega]
        rfl
      · rw [if_neg h0, ite_le (by omega) (by omega)]
        by_cases hc : nrf g (od g free D) a t ≤ hm g free (od g free D) t a
        · rw [if_pos hc, if_neg (by omega)]
        · rw [if_neg hc, if_pos (by omega)]
          rfl
  | succ d ih =>
    intro b fu o hi hfu ho
    obtain ⟨n, rfl⟩ : ∃ n, fu = n + 1 := ⟨fu - 1, by omega⟩
    have hib := isIn10 hf hD h (t := t + 1) (c := b) (by omega) (by omega)
    rw [lp_X10_holeOf_25_s, cells10 hT, Option.bind_some, ite_le (by omega) (by omega), if_neg (by omega)]
    by_cases cb : inT g free D (t + 1) b
    · rw [hib.1 cb, Option.bind_some, if_neg (by decide), distance10 hg hT ha (by omega), Option.bind_some, Option.bind_some]
      have hu := Geo.dst_le hg a b
      have hm' := Mn_add (u := g.dst a b) (P' := QM g free D (t + 1) a (b + 1)) ho (fun v => by
        constructor
        · rintro ⟨b', q1, q2, q3⟩
          by_cases hc : b' = b
          · subst hc; exact Or.inr q3
          · exact Or.inl ⟨b', by omega, q2, q3⟩
        · rintro (⟨b', q1, q2⟩ | q)
          · exact ⟨b', by omega, q2⟩
          · exact ⟨b, by omega, cb, q⟩)
      have h2 := ih (b + 1) n _ (by omega) (by omega) hm'
      rw [← h2]
      unfold j_X10_holeOf_68
      rw [nI_1]
      cases o with
      | none =>
        rw [if_neg (by show ¬ (1000 : Int32) ≤ nI (g.dst a b); rw [show (1000 : Int32) = nI 1000 from rfl, nI_leI (by omega) (by omega)]; omega)]
        rfl
      | some v =>
        obtain ⟨b', -, -, q3⟩ := ho.1
        have hv : v ≤ 128 := by rw [q3]; exact Geo.dst_le hg _ _
        show (if nI v ≤ nI (g.dst a b) then _ else _) = _
        rw [ite_le (by omega) (by omega)]
        by_cases hvu : v ≤ g.dst a b
        · simp only [hvu, ↓reduceIte]
          try rfl
        · simp only [hvu, ↓reduceIte]
          try rfl
    · rw [hib.2 cb, Option.bind_some, if_pos rfl]
      unfold j_X10_holeOf_68
      rw [nI_1]
      refine ih (b + 1) n o (by omega) (by omega) (Mn_iff ho (fun v => ⟨fun ⟨b', q1, q2⟩ => ⟨b', by omega, q2⟩, fun ⟨b', q1, q2, q3⟩ => ⟨b', ?_, q2, q3⟩⟩))
      by_cases hc : b' = b
      · subst hc; exact absurd q2 cb
      · omega
theorem hole10 {g : Geo} {told : Nat → Int32} (hg : g.ok) (hT : RepT g told) {shut free D : Int64} (hF : Fr g shut free) (hf : Inn g free) (hD : Sub D free) {rank stage : Nat → Int32} (h : MR g free D rank stage) {t : Nat} (ht : t < pc free) : f_X10_holeOf shut told rank (nI (t + 1)) = some (nI (hm g free (od g free D) t g.N)) := by
  have hN := Geo.N_le hg
  have hle := pc_le free
  have hpos : fb_ct (bit free) g.N ≠ 0 := by
    intro h0
    obtain ⟨k, hk, hb⟩ := pc_pos (show 0 < pc free by omega)
    have := fb_ct_zero.mp h0 k (hf k hb)
    rw [hb] at this
    cases this
  have key : ∀ (d a fu : Nat), a + d = g.N → d < fu → lp_X10_holeOf_5 shut told rank (nI (t + 1)) fu (hmO g free (od g free D) t a) (nI a) = some (nI (hm g free (od g free D) t g.N)) := by
    intro d
    induction d with
    | zero =>
      intro a fu hi hfu
      obtain ⟨n, rfl⟩ : ∃ n, fu = n + 1 := ⟨fu - 1, by omega⟩
      have hi : a = g.N := by omega
      subst hi
      rw [lp_X10_holeOf_5_s, cells10 hT, Option.bind_some, if_pos (nI_le (Nat.le_refl _) (by omega))]
      unfold hmO
      rw [if_neg hpos]
    | succ d ih =>
      intro a fu hi hfu
      obtain ⟨n, rfl⟩ : ∃ n, fu = n + 1 := ⟨fu - 1, by omega⟩
      have h1 := ih (a + 1) n (by omega) (by omega)
      have h2 := holeM_in hg hT hF hf hD h ht (lp_X10_holeOf_5 shut told rank (nI (t + 1)) n) (show a < g.N by omega) g.N 0 FU none (by omega) (by unfold FU; omega) (fun v ⟨b', q1, q2⟩ => by omega)
      rw [lp_X10_holeOf_5_s, cells10 hT, Option.bind_some, ite_le (by omega) (by omega), if_neg (by omega), if_neg (nI_nle (by omega) (by omega))]
      change lp_X10_holeOf_25 shut told rank (nI (t + 1)) (lp_X10_holeOf_5 shut told rank (nI (t + 1)) n) FU (hmO g free (od g free D) t a) (nI a) (e1000 none) (nI 0) = _
      rw [h2, h1]
  unfold f_X10_holeOf
  exact key g.N 0 FU (by omega) (by unfold FU; omega)
theorem hole10_0 {g : Geo} {told : Nat → Int32} (hg : g.ok) (hT : RepT g told) (shut : Int64) (rank : Nat → Int32) : f_X10_holeOf shut told rank (nI 0) = some (-9) := by
  have hN := Geo.N_le hg
  have hN1 := Geo.N_pos hg
  unfold f_X10_holeOf
  rw [show FU = 255 + 1 from rfl, lp_X10_holeOf_5_s, cells10 hT, Option.bind_some, if_neg (by rw [L0, nI_leI (by omega) (by omega)]; omega), if_pos (by decide)]
theorem hole6_0 (N fc : Int32) (free : Int64) (cols lins dist order : Nat → Int32) : f_X6_holeOf N free fc cols lins dist order (nI 0) = some (-9) := by
  unfold f_X6_holeOf
  rw [if_neg (by decide)]
/-! the finest -/
/-- the least rank from 1 on whose cell is nearer than G to one of those ahead of it, or how many there are -/
def IsF (g : Geo) (O : Nat → Nat) (n G q : Nat) : Prop := 1 ≤ q ∧ q ≤ n ∧ (∀ r, 1 ≤ r → r < q → G ≤ nrf g O (O r) (r - 1)) ∧ (q < n → nrf g O (O q) (q - 1) < G)
theorem finest6 {g : Geo} (hg : g.ok) {cols lins dist wts : Nat → Int32} (hT : Tab g cols lins dist wts) {free D : Int64} (hf : Inn g free) (hD : Sub D free) {order places : Nat → Int32} (h : AR g free D 0 (pc free) order places) {G : Nat} (hG : G ≤ 999) (h0 : 0 < pc free) :
    ∃ q, IsF g (od g free D) (pc free) G q ∧ f_X6_finestOf (nI g.N) (nI (pc free)) cols lins dist order (nI G) = some (nI q) := by
  have hN := Geo.N_le hg
  have hle := pc_le free
  have key : ∀ (d i fu : Nat), i + 1 + d = pc free → d < fu → (∀ r, 1 ≤ r → r < i + 1 → G ≤ nrf g (od g free D) (od g free D r) (r - 1)) → ∃ q, IsF g (od g free D) (pc free) G q ∧ lp_X6_finestOf_2 (nI g.N) (nI (pc free)) cols lins dist order (nI G) fu (nI (i + 1)) = some (nI q) := by
    intro d
    induction d with
    | zero =>
      intro i fu hi hfu hr
      obtain ⟨n, rfl⟩ : ∃ n, fu = n + 1 := ⟨fu - 1, by omega⟩
      have hi : i + 1 = pc free := by omega
      refine ⟨pc free, ⟨by omega, Nat.le_refl _, fun r r1 r2 => hr r r1 (by omega), fun q => by omega⟩, ?_⟩
      rw [lp_X6_finestOf_2_s, if_pos (nI_le (by omega) (by omega))]
    | succ d ih =>
      intro i fu hi hfu hr
      obtain ⟨n, rfl⟩ : ∃ n, fu = n + 1 := ⟨fu - 1, by omega⟩
      have a2 := nrf_128 hg (od g free D) (od g free D (i + 1)) i
      rw [lp_X6_finestOf_2_s, ite_le (by omega) (by omega), if_neg (by omega), cellOf6 h (by omega), Option.bind_some, nearestOf6 hg hT hf hD h (od_lt hf hD (by omega)) (by omega), Option.bind_some, ite_le (by omega) (by omega)]
      by_cases hc : G ≤ nrf g (od g free D) (od g free D (i + 1)) i
      · rw [if_pos hc, nI_1]
        refine ih (i + 1) n (by omega) (by omega) (fun r r1 r2 => ?_)
        by_cases hri : r = i + 1
        · subst hri; exact hc
        · exact hr r r1 (by omega)
      · rw [if_neg hc]
        exact ⟨i + 1, ⟨by omega, by omega, hr, fun _ => by show nrf g (od g free D) (od g free D (i + 1)) i < G; omega⟩, rfl⟩
  unfold f_X6_finestOf
  exact key (pc free - 1) 0 FU (by omega) (by unfold FU; omega) (fun r r1 r2 => by omega)
theorem finest10 {g : Geo} {told : Nat → Int32} (hg : g.ok) (hT : RepT g told) {free D : Int64} (hf : Inn g free) (hD : Sub D free) {rank stage : Nat → Int32} (h : MR g free D rank stage) (hgap : ∀ t, t ≤ pc free → ∃ o, Mn (PG g (od g free D) t) o) {G q : Nat} (hG : G ≤ 999) (hq : IsF g (od g free D) (pc free) G q) (th : Int32) :
    ∀ (d t fu : Nat), q + d = t → t ≤ pc free → d < fu → lp_X10_finest_39 told (nI G) fu (nI t) th rank stage = some (nI q, th, rank, stage) := by
  have hN := Geo.N_le hg
  have hle := pc_le free
  obtain ⟨q1, q2, q3, q4⟩ := hq
  intro d
  induction d with
  | zero =>
    intro t fu hi ht hfu
    obtain ⟨n, rfl⟩ : ∃ n, fu = n + 1 := ⟨fu - 1, by omega⟩
    have hi : t = q := by omega
    subst hi
    rw [lp_X10_finest_39_s, L1, ite_le (by omega) (by omega)]
    by_cases h1 : t ≤ 1
    · rw [if_pos h1]
    · obtain ⟨o, ho⟩ := hgap t ht
      rw [if_neg h1, gap10 hg hT hf hD h ht ho, Option.bind_some]
      cases o with
      | none => exact absurd ⟨0, 1, by omega, by omega, rfl⟩ (ho (g.dst (od g free D 1) (od g free D 0)))
      | some v =>
        have hv := PG_le hg ho.1
        obtain ⟨i, j, a1, a2, a3⟩ := ho.1
        have hn := nrf_le g (od g free D) (od g free D j) (j - 1) i (by omega)
        have := q3 j (by omega) a2
        rw [enc_some, ite_le (by omega) (by omega), if_pos (by omega)]
  | succ d ih =>
    intro t fu hi ht hfu
    obtain ⟨n, rfl⟩ : ∃ n, fu = n + 1 := ⟨fu - 1, by omega⟩
    rw [lp_X10_finest_39_s, L1, ite_le (by omega) (by omega), if_neg (by omega)]
    obtain ⟨o, ho⟩ := hgap t ht
    rw [gap10 hg hT hf hD h ht ho, Option.bind_some]
    cases o with
    | none => exact absurd ⟨0, 1, by omega, by omega, rfl⟩ (ho (g.dst (od g free D 1) (od g free D 0)))
    | some v =>
      have hv := PG_le hg ho.1
      obtain ⟨i, a1, a2⟩ := nrf_ex g (od g free D) (od g free D q) (q - 1)
      have hlt := q4 (by omega)
      have hle2 := ho.2 (g.dst (od g free D q) (od g free D i)) ⟨i, q, by omega, by omega, rfl⟩
      rw [enc_some, ite_le (by omega) (by omega), if_neg (by omega), show nI t + -nI 1 = nI (t - 1) from by rw [show -nI 1 = (-1 : Int32) from rfl, show t = (t - 1) + 1 by omega, pk_m1, Nat.add_sub_cancel]]
      exact ih (t - 1) n (by omega) (by omega) (by omega)
