/-! Ranks: the model's rows. -/
def stg (free D : Int64) (k : Nat) : Nat := if k < pc D then 0 else if k < hlf free then 1 else 2
def MP (g : Geo) (free D : Int64) (a b : Nat) (rank stage : Nat → Int32) : Prop := (∀ k, a ≤ k → k < b → rank (od g free D k) = nI k ∧ stage (od g free D k) = nI (stg free D k)) ∧ ∀ c, c < 64 → bit free c = false → rank c = -9 ∧ stage c = -9
theorem MP_step {g : Geo} {free D : Int64} (hf : Inn g free) (hD : Sub D free) {a b k : Nat} {rank stage : Nat → Int32} (hb : b ≤ pc free) (hk : k < pc free) (h : MP g free D a b rank stage) :
    (∀ j, (a ≤ j ∧ j < b) ∨ j = k → upd rank (od g free D k) (nI k) (od g free D j) = nI j ∧ upd stage (od g free D k) (nI (stg free D k)) (od g free D j) = nI (stg free D j)) ∧ ∀ c, c < 64 → bit free c = false → upd rank (od g free D k) (nI k) c = -9 ∧ upd stage (od g free D k) (nI (stg free D k)) c = -9 := by
  refine ⟨fun j hj => ?_, fun c hc hb => ?_⟩
  · by_cases hjk : j = k
    · subst hjk
      rw [pk_us, pk_us]
      exact ⟨rfl, rfl⟩
    · have hj2 : a ≤ j ∧ j < b := by
        rcases hj with q | q
        · exact q
        · exact absurd q hjk
      rw [pk_un (od_ne hf hD (by omega) hk hjk), pk_un (od_ne hf hD (by omega) hk hjk)]
      exact h.1 j hj2.1 hj2.2
  · have hne : c ≠ od g free D k := by
      intro he
      have := od_free hf hD hk
      rw [← he, hb] at this
      cases this
    rw [pk_un hne, pk_un hne]
    exact h.2 c hc hb
theorem rk111 {g : Geo} {told : Nat → Int32} (hg : g.ok) (hT : RepT g told) {shut free D : Int64} (hF : Fr g shut free) (hf : Inn g free) (hD : Sub D free) :
    ∀ (d i fu : Nat) (rank stage : Nat → Int32), pc D + i + d = pc free → d < fu → MP g free D 0 (pc D + i) rank stage →
      ∃ rank' stage', MP g free D 0 (pc free) rank' stage' ∧ lp_X10_ranks_111 shut told fu (Fn g free D i) (nI (pc D + i)) (nI (pc free)) rank stage = some (rank', stage') := by
  have hN := Geo.N_le hg
  have hle := pc_le free
  intro d
  induction d with
  | zero =>
    intro i fu rank stage hi hfu h
    obtain ⟨n, rfl⟩ : ∃ n, fu = n + 1 := ⟨fu - 1, by omega⟩
    have hi : pc D + i = pc free := by omega
    refine ⟨rank, stage, ?_, ?_⟩
    · rw [hi] at h; exact h
    · rw [lp_X10_ranks_111_s, hi, if_pos (nI_le (Nat.le_refl _) (by omega))]
  | succ d ih =>
    intro i fu rank stage hi hfu h
    obtain ⟨n, rfl⟩ : ∃ n, fu = n + 1 := ⟨fu - 1, by omega⟩
    obtain ⟨t1, t2, t3, t4, t5⟩ := Fn_pk hf hD (i := i) (by omega)
    obtain ⟨m1, m2⟩ := MP_step hf hD (b := pc D + i) (by omega) (show pc D + i < pc free by omega) h
    have fin : ∀ (s : Nat), s = stg free D (pc D + i) → ∃ rank' stage', MP g free D 0 (pc free) rank' stage' ∧ lp_X10_ranks_111 shut told n (Fn g free D i ||| lsh 1 (nI (pk g free (pc D + i) (Fn g free D i)))) (nI (pc D + i + 1)) (nI (pc free)) (upd rank (pk g free (pc D + i) (Fn g free D i)) (nI (pc D + i))) (upd stage (pk g free (pc D + i) (Fn g free D i)) (nI s)) = some (rank', stage') := by
      intro s hs
      subst hs
      rw [od_hi] at m1 m2
      exact ih (i + 1) n _ _ (by omega) (by omega) ⟨fun j _ hj2 => m1 j (by omega), m2⟩
    have t : ∀ (k111 : Int64 → Int32 → Int32 → (Nat → Int32) → (Nat → Int32) → Option ((Nat → Int32) × (Nat → Int32))) (x6 : Int32), j_X10_ranks_170 k111 (Fn g free D i) (nI (pc D + i)) (nI (pc free)) x6 (nI (pk g free (pc D + i) (Fn g free D i))) rank stage = k111 (Fn g free D i ||| lsh 1 (nI (pk g free (pc D + i) (Fn g free D i)))) (nI (pc D + i + 1)) (nI (pc free)) (upd rank (pk g free (pc D + i) (Fn g free D i)) (nI (pc D + i))) (upd stage (pk g free (pc D + i) (Fn g free D i)) (if x6 = 0 then 2 else 1)) := by
      intro k111 x6
      unfold j_X10_ranks_170 j_X10_ranks_197
      rw [if_pos (inb_t (show pk g free (pc D + i) (Fn g free D i) < 64 by omega) (by decide)), if_pos (inb_t (show pk g free (pc D + i) (Fn g free D i) < 64 by omega) (by decide)), nI_clamp (by omega), nI_1]
      by_cases hx : x6 = 0
      · rw [if_pos hx, if_pos hx]
      · rw [if_neg hx, if_neg hx, if_pos (inb_t (show pk g free (pc D + i) (Fn g free D i) < 64 by omega) (by decide))]
    rw [lp_X10_ranks_111_s, ite_le (by omega) (by omega), if_neg (by omega), L1, nI_add, show (2 : Int32) = nI 2 from rfl, pk_div (by omega) (by decide) (by decide), ite_le (by omega) (by omega)]
    by_cases hh : (pc free + 1) / 2 ≤ pc D + i
    · rw [if_pos hh]
      unfold j_X10_ranks_134
      rw [freeCells10 hg hT hF, Option.bind_some, if_pos rfl, extreme_most hg hT, t2 (by omega), Option.bind_some, enc_some, t, if_pos rfl]
      exact fin 2 (by unfold stg hlf; rw [if_neg (by omega), if_neg (by omega)])
    · rw [if_neg hh]
      unfold j_X10_ranks_134
      rw [freeCells10 hg hT hF, Option.bind_some, if_neg (by decide), emptiest10 hg hT hF, t1 (by omega), Option.bind_some, enc_some, t, if_neg (by decide)]
      exact fin 1 (by unfold stg hlf; rw [if_neg (by omega), if_pos (by omega)])
theorem rk47 {g : Geo} {told : Nat → Int32} (hg : g.ok) (hT : RepT g told) {shut free D : Int64} (hF : Fr g shut free) (hs : Inn g shut) (hf : Inn g free) (hD : Sub D free) :
    ∀ (d i fu : Nat) (rank stage : Nat → Int32), i + d = pc D → d < fu → MP g free D (pc D - i) (pc D) rank stage →
      ∃ rank' stage', MP g free D 0 (pc free) rank' stage' ∧ lp_X10_ranks_47 shut D told fu (Tn g D i) (nI (pc D - i)) rank stage = some (rank', stage') := by
  have hN := Geo.N_le hg
  have hle := pc_le free
  have hsub := pc_sub hD
  intro d
  induction d with
  | zero =>
    intro i fu rank stage hi hfu h
    obtain ⟨n, rfl⟩ : ∃ n, fu = n + 1 := ⟨fu - 1, by omega⟩
    have hi : i = pc D := by omega
    subst hi
    rw [Nat.sub_self] at h
    obtain ⟨r, st, h1, h2⟩ := rk111 hg hT hF hf hD (pc free - pc D) 0 FU rank stage (by omega) (by unfold FU; omega) h
    refine ⟨r, st, h1, ?_⟩
    rw [lp_X10_ranks_47_s, Nat.sub_self, if_pos (by decide), ones10, Option.bind_some, free10 hg hT hF hs, Option.bind_some]
    exact h2
  | succ d ih =>
    intro i fu rank stage hi hfu h
    obtain ⟨n, rfl⟩ : ∃ n, fu = n + 1 := ⟨fu - 1, by omega⟩
    obtain ⟨t1, t2, t3⟩ := Tn_tg (hD.inn hf) (show i < pc D by omega)
    obtain ⟨m1, m2⟩ := MP_step hf hD hsub (show pc D - 1 - i < pc free by omega) h
    have e1 : nI (pc D - i) + (-1) = nI (pc D - (i + 1)) := by
      rw [show pc D - i = (pc D - (i + 1)) + 1 by omega, pk_m1]
    rw [lp_X10_ranks_47_s, if_neg (nI_nle (by omega) (by omega)), tightest10 hg hT, t1, Option.bind_some, enc_some, if_pos (inb_t (show tg g (Tn g D i) < 64 by omega) (by decide)), if_pos (inb_t (show tg g (Tn g D i) < 64 by omega) (by decide)), e1, nI_clamp (by omega)]
    rw [od_lo (show i < pc D by omega), show pc D - 1 - i = pc D - (i + 1) by omega] at m1 m2
    rw [show stg free D (pc D - (i + 1)) = 0 by unfold stg; rw [if_pos (by omega)]] at m1 m2
    exact ih (i + 1) n _ _ (by omega) (by omega) ⟨fun j hj1 hj2 => m1 j (by omega), m2⟩
theorem rk16 {g : Geo} {told : Nat → Int32} (shut D : Int64) (n0 : Int32) (P : Option ((Nat → Int32) × (Nat → Int32)) → Prop) :
    ∀ (d i fu : Nat) (rank stage : Nat → Int32), i + d = 64 → d < fu → (∀ c, c < i → rank c = -9 ∧ stage c = -9) →
      (∀ rank' stage', (∀ c, c < 64 → rank' c = -9 ∧ stage' c = -9) → P (lp_X10_ranks_47 shut D told FU D n0 rank' stage')) → P (lp_X10_ranks_16 shut D told fu D n0 (nI i) rank stage) := by
  intro d
  induction d with
  | zero =>
    intro i fu rank stage hi hfu h hP
    obtain ⟨n, rfl⟩ : ∃ n, fu = n + 1 := ⟨fu - 1, by omega⟩
    have hi : i = 64 := by omega
    subst hi
    rw [lp_X10_ranks_16_s, if_pos (by decide)]
    exact hP rank stage h
  | succ d ih =>
    intro i fu rank stage hi hfu h hP
    obtain ⟨n, rfl⟩ : ∃ n, fu = n + 1 := ⟨fu - 1, by omega⟩
    rw [lp_X10_ranks_16_s, show (64 : Int32) = nI 64 from rfl, ite_le (by omega) (by omega), if_neg (by omega), if_pos (inb_t (show i < 64 by omega) (by decide)), if_pos (inb_t (show i < 64 by omega) (by decide)), nI_clamp (by omega), nI_1]
    refine ih (i + 1) n _ _ (by omega) (by omega) (fun c hc => ?_) hP
    by_cases hci : c = i
    · subst hci; rw [pk_us, pk_us]; exact ⟨rfl, rfl⟩
    · rw [pk_un hci, pk_un hci]; exact h c (by omega)
/-- the model's ranks of the dots D -/
def MR (g : Geo) (free D : Int64) (rank stage : Nat → Int32) : Prop := MP g free D 0 (pc free) rank stage
theorem ranks10 {g : Geo} {told : Nat → Int32} (hg : g.ok) (hT : RepT g told) {shut free D : Int64} (hF : Fr g shut free) (hs : Inn g shut) (hf : Inn g free) (hD : Sub D free) (rank stage : Nat → Int32) :
    ∃ rank' stage', MR g free D rank' stage' ∧ f_X10_ranks shut D told rank stage = some (rank', stage') := by
  have hle := pc_le D
  unfold f_X10_ranks
  rw [ones10, Option.bind_some, L0]
  refine rk16 (g := g) shut D (nI (pc D)) (fun z => ∃ rank' stage', MR g free D rank' stage' ∧ z = some (rank', stage')) 64 0 FU rank stage (by omega) (by unfold FU; omega) (fun c hc => by omega) (fun r st h => ?_)
  have h2 := rk47 hg hT hF hs hf hD (pc D) 0 FU r st (by omega) (by unfold FU; omega) ⟨fun k a b => by omega, fun c hc _ => h c hc⟩
  exact h2
theorem Fr_inn {g : Geo} {shut free : Int64} (hF : Fr g shut free) : Inn g free := fun k h => by
  rw [hF k (bit_lt h), Bool.and_eq_true, decide_eq_true_eq] at h
  exact h.1
