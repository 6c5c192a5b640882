/-! The text: tokens, on both sides. -/
/-- a token as the class has it (its kind, its value) and as the model has it -/
def TKR (ct cv mk : Int32) : Prop := (∃ c, c ≤ 255 ∧ ct = nI c ∧ mk = nI c) ∨ (∃ v, v ≤ 999 ∧ ct = nI 256 ∧ cv = nI v ∧ mk = nI (1000 + v)) ∨ (ct = nI 257 ∧ mk = nI 3000) ∨ (ct = nI 258 ∧ mk = -1)
/-- the same letters -/
def Lt (n : Nat) (tl mt : Nat → Int32) : Prop := n ≤ 150 ∧ ∀ i, i < n → ∃ c, c ≤ 255 ∧ tl i = nI c ∧ mt i = nI c
def dig (c : Nat) : Bool := decide (48 ≤ c ∧ c ≤ 57)
theorem isDigit8 {c : Nat} (hc : c ≤ 255) : f_X8_isDigit (nI c) = some (if dig c = true then 1 else 0) := by
  unfold f_X8_isDigit dig
  rw [show (48 : Int32) = nI 48 from rfl, show (57 : Int32) = nI 57 from rfl, ite_lt (by omega) (by omega), ite_lt (by omega) (by omega)]
  by_cases h1 : c < 48
  · rw [if_pos h1, if_neg (by rw [decide_eq_true_eq]; omega)]
  · rw [if_neg h1]
    by_cases h2 : 57 < c
    · rw [if_pos h2, if_neg (by rw [decide_eq_true_eq]; omega)]
    · rw [if_neg h2, if_pos (by rw [decide_eq_true_eq]; omega)]
theorem in10 {a lo hi : Nat} (ha : a < 2 ^ 31) (hlo : lo < 2 ^ 31) (hhi : hi < 2 ^ 31) : f_X10_in (nI a) (nI lo) (nI hi) = some (if lo ≤ a ∧ a ≤ hi then 1 else 0) := by
  unfold f_X10_in
  rw [ite_lt (by omega) (by omega), ite_lt (by omega) (by omega)]
  by_cases h1 : a < lo
  · rw [if_pos h1, if_neg (by omega)]
  · rw [if_neg h1]
    by_cases h2 : hi < a
    · rw [if_pos h2, if_neg (by omega)]
    · rw [if_neg h2, if_pos (by omega)]
theorem isFigure_end {n p : Nat} (hn : n ≤ 150) (mt : Nat → Int32) (h : n ≤ p) (hp : p ≤ 150) : f_X10_isFigure (nI n) mt (nI p) = some 0 := by
  unfold f_X10_isFigure
  rw [if_pos (nI_le h (by omega))]
theorem isFigure_in {n p c : Nat} (hn : n ≤ 150) {mt : Nat → Int32} (h : p < n) (hc : c ≤ 255) (e : mt p = nI c) : f_X10_isFigure (nI n) mt (nI p) = some (if dig c = true then 1 else 0) := by
  unfold f_X10_isFigure dig
  rw [ite_le (by omega) (by omega), if_neg (by omega), if_pos (inb_t (show p < 150 by omega) (by decide)), nI_clamp (by omega), e, show (48 : Int32) = nI 48 from rfl, show (57 : Int32) = nI 57 from rfl, in10 (by omega) (by decide) (by decide), Option.bind_some]
  by_cases hd : 48 ≤ c ∧ c ≤ 57
  · rw [if_neg (by rw [if_pos hd]; decide), if_pos (decide_eq_true hd)]
  · rw [if_pos (by rw [if_neg hd]), if_neg (by rw [decide_eq_true_eq]; exact hd)]
theorem skip_both {n : Nat} {tl mt : Nat → Int32} (hL : Lt n tl mt) (pl ct cv b t : Int32) : ∀ (d p fu fu' : Nat), p + d = n → d < fu → d < fu' → ∃ p', p ≤ p' ∧ p' ≤ n ∧ lp_X8_step_0 (nI n) tl fu pl (nI p) ct cv = j_X8_step_38 (nI n) tl pl (nI p') ct cv ∧ lp_X10_takes_0 (nI n) mt fu' (nI p) b t = j_X10_takes_38 (nI n) mt (nI p') b t := by
  obtain ⟨hn, hL⟩ := hL
  intro d
  induction d with
  | zero =>
    intro p fu fu' hi hfu hfu'
    obtain ⟨k, rfl⟩ : ∃ k, fu = k + 1 := ⟨fu - 1, by omega⟩
    obtain ⟨k', rfl⟩ : ∃ k', fu' = k' + 1 := ⟨fu' - 1, by omega⟩
    have hi : p = n := by omega
    subst hi
    exact ⟨p, Nat.le_refl _, Nat.le_refl _, by rw [lp_X8_step_0_s, if_pos (nI_le (Nat.le_refl _) (by omega))], by rw [lp_X10_takes_0_s, if_pos (nI_le (Nat.le_refl _) (by omega))]⟩
  | succ d ih =>
    intro p fu fu' hi hfu hfu'
    obtain ⟨k, rfl⟩ : ∃ k, fu = k + 1 := ⟨fu - 1, by omega⟩
    obtain ⟨k', rfl⟩ : ∃ k', fu' = k' + 1 := ⟨fu' - 1, by omega⟩
    obtain ⟨c, hc, e1, e2⟩ := hL p (by omega)
    by_cases h32 : nI c = (32 : Int32)
    · obtain ⟨p', a1, a2, a3, a4⟩ := ih (p + 1) k k' (by omega) (by omega) (by omega)
      refine ⟨p', by omega, a2, ?_, ?_⟩
      · rw [← a3, lp_X8_step_0_s, ite_le (by omega) (by omega), if_neg (by omega), if_pos (inb_t (show p < 150 by omega) (by decide)), nI_clamp (by omega), e1, if_pos h32, nI_1]
      · rw [← a4, lp_X10_takes_0_s, ite_le (by omega) (by omega), if_neg (by omega), if_pos (inb_t (show p < 150 by omega) (by decide)), nI_clamp (by omega), e2, if_pos h32, nI_1]
    · refine ⟨p, Nat.le_refl _, by omega, ?_, ?_⟩
      · rw [lp_X8_step_0_s, ite_le (by omega) (by omega), if_neg (by omega), if_pos (inb_t (show p < 150 by omega) (by decide)), nI_clamp (by omega), e1, if_neg h32]
      · rw [lp_X10_takes_0_s, ite_le (by omega) (by omega), if_neg (by omega), if_pos (inb_t (show p < 150 by omega) (by decide)), nI_clamp (by omega), e2, if_neg h32]
def mn1000 (v : Nat) : Nat := if 1000 < v then 1000 else v
/-- the end of a number: what the class and the model make of it -/
theorem num_end {n pl nx v c : Nat} (hn : n ≤ 150) {mt : Nat → Int32} (hpl : pl < n) (hnx : nx ≤ n) (hv : v ≤ 9999) (hc : c ≤ 255) (hd : dig c = true) (e : mt pl = nI c) (tok mk : Int32) :
    ∃ ct cv mk', TKR ct cv mk' ∧ j_X8_readDigits_74 (nI pl) (nI c - 48) (nI nx) tok (nI (mn1000 v)) = some (nI nx, ct, cv) ∧ (if (999 : Int32) < nI v then j_X10_takes_212 3000 (nI nx) (nI pl) mk else if inb (nI pl) 150 = true then (if mt (nI pl).toNatClampNeg = 48 then (if nI nx ≤ nI pl + 1 then j_X10_takes_207 (nI v) (nI nx) (nI pl) mk else j_X10_takes_212 3000 (nI nx) (nI pl) mk) else j_X10_takes_207 (nI v) (nI nx) (nI pl) mk) else none) = some (nI nx, nI pl, mk') := by
  have hd' : 48 ≤ c ∧ c ≤ 57 := of_decide_eq_true hd
  have hm : mn1000 v ≤ 1000 := by unfold mn1000; split <;> omega
  unfold j_X8_readDigits_74 j_X8_readDigits_96 j_X8_readDigits_121 j_X10_takes_212 j_X10_takes_207 j_X10_takes_212
  rw [show (999 : Int32) = nI 999 from rfl, show (48 : Int32) = nI 48 from rfl, pk_sub hd'.1, L1, nI_add, L0, show (1000 : Int32) = nI 1000 from rfl, nI_add, if_pos (inb_t (show pl < 150 by omega) (by decide)), nI_clamp (by omega), e]
  rw [if_pos rfl, if_neg (show ¬ nI 1 = nI 0 by decide)]
  rw [ite_eq (a := c - 48) (by omega) (by omega), ite_le (by omega) (by omega), ite_le (a := mn1000 v) (by omega) (by omega), ite_lt (by omega) (by omega), ite_eq (a := c) (by omega) (by omega), ite_le (by omega) (by omega)]
  by_cases h1 : 999 < v
  · have hmv : mn1000 v = 1000 := by unfold mn1000; split <;> omega
    refine ⟨nI 257, nI (mn1000 v), nI 3000, Or.inr (Or.inr (Or.inl ⟨rfl, rfl⟩)), ?_, by rw [if_pos h1]; rfl⟩
    rw [if_neg (show ¬ mn1000 v ≤ 999 by omega)]
    by_cases h2 : c - 48 = 0
    · rw [if_pos h2]
      split <;> rfl
    · rw [if_neg h2]
      rfl
  · have hmv : mn1000 v = v := by unfold mn1000; split <;> omega
    rw [if_neg h1, if_pos (show mn1000 v ≤ 999 by omega)]
    by_cases h2 : c = 48
    · rw [if_pos (show c - 48 = 0 by omega), if_pos h2]
      by_cases h3 : nx ≤ pl + 1
      · rw [if_pos h3, if_pos h3]
        exact ⟨nI 256, nI (mn1000 v), nI (1000 + v), Or.inr (Or.inl ⟨v, by omega, rfl, by rw [hmv], rfl⟩), rfl, rfl⟩
      · rw [if_neg h3, if_neg h3]
        exact ⟨nI 257, nI (mn1000 v), nI 3000, Or.inr (Or.inr (Or.inl ⟨rfl, rfl⟩)), rfl, rfl⟩
    · rw [if_neg (show ¬ c - 48 = 0 by omega), if_neg h2]
      exact ⟨nI 256, nI (mn1000 v), nI (1000 + v), Or.inr (Or.inl ⟨v, by omega, rfl, by rw [hmv], rfl⟩), rfl, rfl⟩
theorem digs_both {n : Nat} {tl mt : Nat → Int32} (hL : Lt n tl mt) {pl c : Nat} (hpl : pl < n) (hc : c ≤ 255) (hd : dig c = true) (e : mt pl = nI c) (tok mk : Int32) :
    ∀ (d q fu fu' v : Nat), q + d = n → pl < q → d < fu → d < fu' → v ≤ 9999 → ∃ nx ct cv mk', q ≤ nx ∧ nx ≤ n ∧ TKR ct cv mk' ∧ lp_X8_readDigits_5 (nI n) (nI pl) tl (nI c - 48) fu (nI q) tok (nI (mn1000 v)) = some (nI nx, ct, cv) ∧ lp_X10_takes_113 (nI n) mt fu' (nI v) (nI q) (nI pl) mk = some (nI nx, nI pl, mk') := by
  obtain ⟨hn, hL⟩ := hL
  intro d
  induction d with
  | zero =>
    intro q fu fu' v hi hq hfu hfu' hv
    obtain ⟨k, rfl⟩ : ∃ k, fu = k + 1 := ⟨fu - 1, by omega⟩
    obtain ⟨k', rfl⟩ : ∃ k', fu' = k' + 1 := ⟨fu' - 1, by omega⟩
    have hi : q = n := by omega
    subst hi
    obtain ⟨ct, cv, mk', h1, h2, h3⟩ := num_end hn hpl (Nat.le_refl _) hv hc hd e tok mk
    refine ⟨q, ct, cv, mk', Nat.le_refl _, Nat.le_refl _, h1, ?_, ?_⟩
    · rw [lp_X8_readDigits_5_s, if_pos (nI_le (Nat.le_refl _) (by omega)), h2]
    · rw [lp_X10_takes_113_s, isFigure_end hn mt (Nat.le_refl _) hn, Option.bind_some, if_pos rfl, h3]
  | succ d ih =>
    intro q fu fu' v hi hq hfu hfu' hv
    obtain ⟨k, rfl⟩ : ∃ k, fu = k + 1 := ⟨fu - 1, by omega⟩
    obtain ⟨k', rfl⟩ : ∃ k', fu' = k' + 1 := ⟨fu' - 1, by omega⟩
    obtain ⟨a, ha, e1, e2⟩ := hL q (by omega)
    by_cases hda : dig a = true
    · have hda' : 48 ≤ a ∧ a ≤ 57 := of_decide_eq_true hda
      have cls : ∀ w, w ≤ 1000 → (if (1000 : Int32) < (10 * nI w + nI a - 48) then (1000 : Int32) else 10 * nI w + nI a - 48) = nI (mn1000 (10 * w + a - 48)) := by
        intro w hw
        rw [show (10 : Int32) = nI 10 from rfl, show (1000 : Int32) = nI 1000 from rfl, show (48 : Int32) = nI 48 from rfl, pk_mul, nI_add, pk_sub (by omega), ite_lt (by omega) (by omega)]
        unfold mn1000
        split <;> rfl
      have hm : mn1000 v ≤ 1000 := by unfold mn1000; split <;> omega
      have A : lp_X8_readDigits_5 (nI n) (nI pl) tl (nI c - 48) (k + 1) (nI q) tok (nI (mn1000 v)) = lp_X8_readDigits_5 (nI n) (nI pl) tl (nI c - 48) k (nI (q + 1)) tok (nI (mn1000 (10 * mn1000 v + a - 48))) := by
        rw [lp_X8_readDigits_5_s, ite_le (by omega) (by omega), if_neg (by omega), if_pos (inb_t (show q < 150 by omega) (by decide)), nI_clamp (by omega), e1, isDigit8 ha, Option.bind_some, if_neg (by rw [if_pos hda]; decide), if_pos (inb_t (show q < 150 by omega) (by decide)), nI_1, cls _ hm]
      have B : ∃ v', v' ≤ 9999 ∧ mn1000 v' = mn1000 (10 * mn1000 v + a - 48) ∧ lp_X10_takes_113 (nI n) mt (k' + 1) (nI v) (nI q) (nI pl) mk = lp_X10_takes_113 (nI n) mt k' (nI v') (nI (q + 1)) (nI pl) mk := by
        by_cases h9 : v ≤ 999
        · refine ⟨10 * v + a - 48, by omega, by rw [show mn1000 v = v from by unfold mn1000; split <;> omega], ?_⟩
          rw [lp_X10_takes_113_s, isFigure_in hn (by omega) ha e2, Option.bind_some, if_neg (by rw [if_pos hda]; decide), show (999 : Int32) = nI 999 from rfl, ite_le (by omega) (by omega), if_pos h9, if_pos (inb_t (show q < 150 by omega) (by decide)), nI_clamp (by omega), e2]
          unfold j_X10_takes_152
          rw [nI_1, show (10 : Int32) = nI 10 from rfl, show (48 : Int32) = nI 48 from rfl, pk_mul, nI_add, pk_sub (by omega)]
        · refine ⟨v, hv, by unfold mn1000; split <;> split <;> omega, ?_⟩
          rw [lp_X10_takes_113_s, isFigure_in hn (by omega) ha e2, Option.bind_some, if_neg (by rw [if_pos hda]; decide), show (999 : Int32) = nI 999 from rfl, ite_le (by omega) (by omega), if_neg h9]
          unfold j_X10_takes_152
          rw [nI_1]
      obtain ⟨v', b1, b2, b3⟩ := B
      obtain ⟨nx, ct, cv, mk', a1, a2, a3, a4, a5⟩ := ih (q + 1) k k' v' (by omega) (by omega) (by omega) (by omega) b1
      exact ⟨nx, ct, cv, mk', by omega, a2, a3, by rw [A, ← b2]; exact a4, by rw [b3]; exact a5⟩
    · obtain ⟨ct, cv, mk', h1, h2, h3⟩ := num_end hn hpl (show q ≤ n by omega) hv hc hd e tok mk
      refine ⟨q, ct, cv, mk', Nat.le_refl _, by omega, h1, ?_, ?_⟩
      · rw [lp_X8_readDigits_5_s, ite_le (by omega) (by omega), if_neg (by omega), if_pos (inb_t (show q < 150 by omega) (by decide)), nI_clamp (by omega), e1, isDigit8 ha, Option.bind_some, if_pos (by rw [if_neg hda]), h2]
      · rw [lp_X10_takes_113_s, isFigure_in hn (by omega) ha e2, Option.bind_some, if_pos (by rw [if_neg hda]), h3]
/-- one token further, on both sides -/
theorem step_both {n : Nat} {tl mt : Nat → Int32} (hL : Lt n tl mt) {p : Nat} (hp : p ≤ n) (pl0 ct0 cv0 b0 t0 : Int32) :
    ∃ pl nx ct cv mk, p ≤ pl ∧ pl ≤ nx ∧ nx ≤ n ∧ TKR ct cv mk ∧ (ct ≠ nI 258 → pl < nx) ∧ f_X8_step (nI n) pl0 (nI p) ct0 cv0 tl = some (nI pl, nI nx, ct, cv) ∧ f_X10_takes (nI n) (nI p) b0 t0 mt = some (nI nx, nI pl, mk) := by
  obtain ⟨p', a1, a2, a3, a4⟩ := skip_both hL pl0 ct0 cv0 b0 t0 (n - p) p FU FU (by omega) (by have := hL.1; unfold FU; omega) (by have := hL.1; unfold FU; omega)
  have hL0 := hL
  obtain ⟨hn, hL⟩ := hL
  unfold f_X8_step f_X10_takes
  rw [a3, a4]
  rcases Nat.lt_or_ge p' n with q | q
  · obtain ⟨c, hc, e1, e2⟩ := hL p' q
    unfold j_X8_step_38 j_X10_takes_38 j_X10_takes_71
    rw [ite_lt (by omega) (by omega), if_pos q, if_pos (inb_t (show p' < 150 by omega) (by decide)), nI_clamp (by omega), e1, isDigit8 hc, Option.bind_some, ite_le (by omega) (by omega), if_neg (show ¬ n ≤ p' by omega), if_pos (inb_t (show p' < 150 by omega) (by decide)), e2, isFigure_in hn q hc e2, Option.bind_some, nI_1]
    by_cases hd : dig c = true
    · rw [if_neg (by rw [if_pos hd]; decide), if_neg (by rw [if_pos hd]; decide)]
      have hd' : 48 ≤ c ∧ c ≤ 57 := of_decide_eq_true hd
      obtain ⟨nx, ct, cv, mk', b1, b2, b3, b4, b5⟩ := digs_both hL0 q hc hd e2 (nI c) (nI c) (n - (p' + 1)) (p' + 1) FU 255 (c - 48) (by omega) (by omega) (by unfold FU; omega) (by omega) (by omega)
      refine ⟨p', nx, ct, cv, mk', a1, by omega, b2, b3, fun _ => by omega, ?_, ?_⟩
      · unfold f_X8_readDigits
        have : mn1000 (c - 48) = c - 48 := by unfold mn1000; split <;> omega
        rw [this] at b4
        rw [show nI c - (48 : Int32) = nI (c - 48) from pk_sub hd'.1] at b4 ⊢
        rw [b4, Option.bind_some]
      · rw [show FU = 255 + 1 from rfl, lp_X10_takes_113_s, isFigure_in hn q hc e2, Option.bind_some, if_neg (by rw [if_pos hd]; decide), if_pos (by decide), if_pos (inb_t (show p' < 150 by omega) (by decide)), nI_clamp (by omega), e2]
        unfold j_X10_takes_152
        rw [nI_1, show ((10 : Int32) * 0 + nI c - 48) = nI (c - 48) from by
          rw [show (10 : Int32) * 0 = nI 0 from rfl, nI_add, show (48 : Int32) = nI 48 from rfl, pk_sub (by omega), Nat.zero_add]]
        exact b5
    · rw [if_pos (by rw [if_neg hd]), if_pos (by rw [if_neg hd])]
      unfold j_X10_takes_106
      rw [nI_1]
      try rw [ite_le (by omega) (by omega), if_neg (show ¬ n ≤ p' by omega)]
      exact ⟨p', p' + 1, nI c, cv0, nI c, a1, by omega, by omega, Or.inl ⟨c, hc, rfl, rfl⟩, fun _ => by omega, rfl, rfl⟩
  · have hp' : p' = n := by omega
    subst hp'
    unfold j_X8_step_38 j_X10_takes_38 j_X10_takes_71 j_X10_takes_106
    rw [if_neg (nI_nlt (Nat.le_refl _) (by omega)), if_pos (nI_le (Nat.le_refl _) (by omega)), isFigure_end hn mt (Nat.le_refl _) hn, Option.bind_some, if_pos rfl, L0, nI_add]
    try rw [if_pos (nI_le (Nat.le_refl _) (by omega))]
    exact ⟨p', p', nI 258, cv0, -1, a1, Nat.le_refl _, Nat.le_refl _, Or.inr (Or.inr (Or.inr ⟨rfl, rfl⟩)), fun h => absurd rfl h, rfl, rfl⟩
