/-! Any arguments, and the small parts of the state, on both sides. -/
theorem range0 (x : Int32) : x < 0 ∨ ∃ k, k < 2 ^ 31 ∧ x = nI k := by
  have hr := fb_rng x
  by_cases h : x.toInt < 0
  · exact Or.inl (Int32.lt_iff_toInt_lt.mpr h)
  · refine Or.inr ⟨x.toInt.toNat, by omega, ?_⟩
    apply Int32.toInt_inj.mp
    rw [nI_toInt (by omega)]
    omega
theorem nI_n0 (k : Nat) (h : k < 2 ^ 31) : ¬ nI k < 0 := by
  intro e
  have := (nI_ltI h (by decide : 0 < 2 ^ 31)).mp e
  omega
theorem z_le (k : Nat) (h : k < 2 ^ 31) : (0 : Int32) ≤ nI k := nI_le (Nat.zero_le k) h
theorem in_neg {x hi : Int32} (h : x < 0) : f_X10_in x 0 hi = some 0 := if_pos h
theorem in_no {k b : Nat} {hi : Int32} (hk : k < 2 ^ 31) (hb : b < 2 ^ 31) (e : hi = nI b) (h : b < k) : f_X10_in (nI k) 0 hi = some 0 := by
  rw [e]
  exact in10_0 (lo := 0) hk (by decide) hb (by omega)
theorem in_yes {k b : Nat} {hi : Int32} (hk : k < 2 ^ 31) (hb : b < 2 ^ 31) (e : hi = nI b) (h : k ≤ b) : f_X10_in (nI k) 0 hi = some 1 := by
  rw [e]
  exact in10_1 (lo := 0) hk (by decide) hb (by omega)
/-- a column and a line, any two numbers -/
theorem place_both {g : Geo} {told : Nat → Int32} (hg : g.ok) (hT : RepT g told) (x y : Int32) :
    (f_X5_numberOf (nI g.W) (nI g.H) x y = some (-1) ∧ f_X10_isPlace told x y = some 0) ∨
    (∃ c, c < g.N ∧ f_X5_numberOf (nI g.W) (nI g.H) x y = some (nI c) ∧ f_X10_isPlace told x y = some 1 ∧ f_X10_at told x y = some (nI c)) := by
  have hW := hg.1
  have hH := hg.2.1
  have eW : told 0 - 1 = nI (g.W - 1) := by rw [hT.1, L1, pk_sub hW.1]
  have eH : told 1 - 1 = nI (g.H - 1) := by rw [hT.2.1, L1, pk_sub hH.1]
  rcases range0 x with hx | ⟨a, ha, rfl⟩
  · refine Or.inl ⟨if_pos hx, ?_⟩
    unfold f_X10_isPlace
    rw [if_pos B0, T0, in_neg hx, Option.bind_some, if_pos rfl]
  · by_cases qx : a < g.W
    · have i1 : f_X10_in (nI a) 0 (told 0 - 1) = some 1 := in_yes ha (by omega) eW (by omega)
      rcases range0 y with hy | ⟨b, hb, rfl⟩
      · refine Or.inl ⟨?_, ?_⟩
        · unfold f_X5_numberOf
          rw [if_neg (nI_n0 a ha), ite_le (by omega) (by omega), if_neg (by omega), if_pos hy]
        · unfold f_X10_isPlace
          rw [if_pos B0, T0, i1, Option.bind_some, if_neg one_n0, if_pos B1, T1, in_neg hy, Option.bind_some, if_pos rfl]
      · by_cases qy : b < g.H
        · refine Or.inr ⟨b * g.W + a, yx_lt qx qy, numberOf5 hg qx qy, ?_, at10 hT a b⟩
          unfold f_X10_isPlace
          rw [if_pos B0, T0, i1, Option.bind_some, if_neg one_n0, if_pos B1, T1, in_yes hb (by omega) eH (by omega), Option.bind_some, if_neg one_n0]
        · refine Or.inl ⟨?_, ?_⟩
          · unfold f_X5_numberOf
            rw [if_neg (nI_n0 a ha), ite_le (by omega) (by omega), if_neg (by omega), if_neg (nI_n0 b hb), ite_lt (by omega) (by omega), if_neg qy]
          · unfold f_X10_isPlace
            rw [if_pos B0, T0, i1, Option.bind_some, if_neg one_n0, if_pos B1, T1, in_no hb (by omega) eH (by omega), Option.bind_some, if_pos rfl]
    · refine Or.inl ⟨?_, ?_⟩
      · unfold f_X5_numberOf
        rw [if_neg (nI_n0 a ha), ite_le (by omega) (by omega), if_pos (by omega)]
      · unfold f_X10_isPlace
        rw [if_pos B0, T0, in_no ha (by omega) eW (by omega), Option.bind_some, if_pos rfl]
/-- a cell's number, any number -/
theorem cell_both {g : Geo} {told : Nat → Int32} (hg : g.ok) (hT : RepT g told) (x : Int32) :
    (f_X0_isCell (nI g.N) x = some 0 ∧ f_X10_isCell told x = some 0) ∨ (∃ c, c < g.N ∧ x = nI c ∧ f_X0_isCell (nI g.N) x = some 1 ∧ f_X10_isCell told x = some 1) := by
  have hN := Geo.N_le hg
  have h1 := Geo.N_pos hg
  have e : nI g.N - 1 = nI (g.N - 1) := by rw [L1, pk_sub h1]
  unfold f_X0_isCell f_X10_isCell
  rw [cells10 hT, Option.bind_some]
  rcases range0 x with hx | ⟨a, ha, rfl⟩
  · refine Or.inl ⟨if_pos hx, ?_⟩
    rw [in_neg hx, Option.bind_some, if_pos isb0]
  · by_cases q : a < g.N
    · refine Or.inr ⟨a, q, rfl, ?_, ?_⟩
      · rw [if_neg (nI_n0 a ha), ite_le (by omega) (by omega), if_neg (by omega)]
      · rw [in_yes ha (by omega) e (by omega), Option.bind_some, if_pos isb1]
    · refine Or.inl ⟨?_, ?_⟩
      · rw [if_neg (nI_n0 a ha), ite_le (by omega) (by omega), if_pos (by omega)]
      · rw [in_no ha (by omega) e (by omega), Option.bind_some, if_pos isb0]
theorem noDots_1 {S : Int64} (h : S = 0) : f_X9_noDots S = some 1 := by
  unfold f_X9_noDots
  rw [if_pos ((lg_cmp_0 _ _).mpr h)]
theorem noDots_0 {S : Int64} (h : S ≠ 0) : f_X9_noDots S = some 0 := by
  unfold f_X9_noDots
  rw [if_neg (fun e => h ((lg_cmp_0 _ _).mp e))]
theorem cmp_1 {S : Int64} (h : S = 0) : lg_cmp S 0 = 0 := (lg_cmp_0 _ _).mpr h
theorem cmp_0 {S : Int64} (h : S ≠ 0) : ¬ lg_cmp S 0 = 0 := fun e => h ((lg_cmp_0 _ _).mp e)
/-- the past -/
def PI (free : Int64) (U : Nat) (known past : Nat → Int64) : Prop := U ≤ 10 ∧ ∀ i, i < U → known i = past i ∧ Sub (past i) free
theorem PI_put {free dots : Int64} {U : Nat} {known past : Nat → Int64} (h : PI free U known past) (hU : U < 10) (hD : Sub dots free) : PI free (U + 1) (vp_updL known U dots) (vp_updL past U dots) := by
  refine ⟨by omega, fun i hi => ?_⟩
  by_cases q : i = U
  · subst q
    rw [pk_uLs, pk_uLs]
    exact ⟨rfl, hD⟩
  · rw [pk_uLn q, pk_uLn q]
    exact h.2 i (by omega)
theorem notes_lp (dots : Int64) (past0 : Nat → Int64) : ∀ (d i fu : Nat) (u : Int32) (past : Nat → Int64), i + d = 9 → d < fu → (∀ k, k < i → past k = past0 (k + 1)) → (∀ k, i ≤ k → past k = past0 k) → ∃ past', (∀ k, k < 9 → past' k = past0 (k + 1)) ∧ lp_X10_notes_11 dots fu (nI i) u past = some (nI 10, vp_updL past' 9 dots) := by
  intro d
  induction d with
  | zero =>
    intro i fu u past hi hfu h1 h2
    obtain ⟨k, rfl⟩ : ∃ k, fu = k + 1 := ⟨fu - 1, by omega⟩
    have hi : i = 9 := by omega
    subst hi
    refine ⟨past, h1, ?_⟩
    rw [lp_X10_notes_11_s, if_pos (by decide)]
    unfold j_X10_notes_43
    rw [if_pos (by decide)]
    rfl
  | succ d ih =>
    intro i fu u past hi hfu h1 h2
    obtain ⟨k, rfl⟩ : ∃ k, fu = k + 1 := ⟨fu - 1, by omega⟩
    obtain ⟨past', a1, a2⟩ := ih (i + 1) k u (vp_updL past i (past (i + 1))) (by omega) (by omega) (fun j hj => by
      by_cases q : j = i
      · subst q
        rw [pk_uLs, h2 _ (by omega)]
      · rw [pk_uLn q]
        exact h1 j (by omega)) (fun j hj => by
      rw [pk_uLn (by omega)]
      exact h2 j (by omega))
    refine ⟨past', a1, ?_⟩
    rw [lp_X10_notes_11_s, if_neg (show ¬ (9 : Int32) ≤ nI i from fun e => absurd ((nI_leI (a := 9) (by decide) (by omega)).mp e) (by omega)), L1, nI_add, if_pos (inb_t (show i + 1 < 10 by omega) (by decide)), if_pos (inb_t (show i < 10 by omega) (by decide)), nI_clamp (by omega), nI_clamp (by omega)]
    exact a2
theorem remember_both {free dots : Int64} {U : Nat} {known past : Nat → Int64} (h : PI free U known past) (hD : Sub dots free) : ∃ U' known' past', PI free U' known' past' ∧ f_X3_remember (nI U) known dots = some (nI U', known') ∧ f_X10_notes dots (nI U) past = some (nI U', past') := by
  have hU := h.1
  unfold f_X3_remember f_X10_notes
  by_cases q : U < 10
  · refine ⟨U + 1, _, _, PI_put h q hD, ?_, ?_⟩
    · rw [show (10 : Int32) = nI 10 from rfl, ite_lt (by omega) (by decide), if_pos q]
      unfold j_X3_remember_30
      rw [if_pos (inb_t q (by decide)), L1, nI_add, nI_clamp (by omega)]
    · rw [show (10 : Int32) = nI 10 from rfl, ite_eq (by omega) (by decide), if_neg (by omega)]
      unfold j_X10_notes_43
      rw [if_pos (inb_t q (by decide)), L1, nI_add, nI_clamp (by omega)]
  · have e : U = 10 := by omega
    subst e
    obtain ⟨past', a1, a2⟩ := notes_lp dots past 9 0 FU (nI 10) past rfl (by decide) (fun k hk => absurd hk (Nat.not_lt_zero _)) (fun _ _ => rfl)
    have hp : PI free 9 (va_cpy known known 1 0 9) past' := by
      refine ⟨by decide, fun i hi => ?_⟩
      rw [pk_cpy_in (Nat.zero_le _) (by omega), a1 i hi, Nat.sub_zero, Nat.add_comm]
      exact h.2 (i + 1) (by omega)
    refine ⟨10, _, _, PI_put hp (by decide) hD, ?_, ?_⟩
    · rw [if_neg (by decide)]
      unfold j_X3_remember_30
      rw [if_pos (by decide)]
      rfl
    · rw [if_pos (show nI 10 = 10 from rfl)]
      exact a2
/-- the kept images -/
def KI (free : Int64) (id : Nat → Int64) (ik : Nat → Int32) (mk : Nat → Int64) (mik : Nat → Int32) : Prop := ∀ j, j < 2 → (mik j = 0 ∨ mik j = 1) ∧ ik j = mik j ∧ (mik j = 1 → id j = mk j ∧ Sub (mk j) free)
theorem isImage2 (x : Int32) : (f_X2_isImage x = some 0 ∧ f_X10_in x 0 1 = some 0) ∨ (∃ k, k < 2 ∧ x = nI k ∧ f_X2_isImage x = some 1 ∧ f_X10_in x 0 1 = some 1) := by
  unfold f_X2_isImage
  rcases range0 x with hx | ⟨a, ha, rfl⟩
  · exact Or.inl ⟨if_pos hx, in_neg hx⟩
  · by_cases q : a < 2
    · refine Or.inr ⟨a, q, rfl, ?_, in_yes (b := 1) ha (by decide) rfl (by omega)⟩
      rw [if_neg (nI_n0 a ha), show (2 : Int32) = nI 2 from rfl, ite_le (by decide) (by omega), if_neg (by omega)]
    · refine Or.inl ⟨?_, in_no (b := 1) ha (by decide) rfl (by omega)⟩
      rw [if_neg (nI_n0 a ha), show (2 : Int32) = nI 2 from rfl, ite_le (by decide) (by omega), if_pos (by omega)]
theorem keep_both {free dots : Int64} {id mk : Nat → Int64} {ik mik : Nat → Int32} (h : KI free id ik mk mik) (hD : Sub dots free) (x th : Int32) : ∃ v id' ik' mk' mik', KI free id' ik' mk' mik' ∧ f_X9_keep dots id ik x = some (v, id', ik') ∧ f_X10_keep th dots mk mik x = some (v, 0, mk', mik') := by
  unfold f_X9_keep f_X10_keep
  rcases isImage2 x with ⟨e1, e2⟩ | ⟨k, hk, rfl, e1, e2⟩
  · rw [e1, e2, Option.bind_some, Option.bind_some]
    exact ⟨-1, id, ik, mk, mik, h, rfl, rfl⟩
  · rw [e1, e2, Option.bind_some, Option.bind_some, if_neg one_n0, if_neg one_n0, if_pos (inb_t hk (by decide)), if_pos (inb_t hk (by decide)), ones10, Option.bind_some, size1]
    unfold f_X2_put
    rw [e1, Option.bind_some, if_neg one_n0, if_pos (inb_t hk (by decide)), if_pos (inb_t hk (by decide)), Option.bind_some, Option.bind_some, nI_clamp (by omega)]
    refine ⟨_, _, _, _, _, ?_, rfl, rfl⟩
    intro j hj
    by_cases q : j = k
    · subst q
      dsimp only
      rw [pk_uLs, pk_uLs]
      unfold upd
      rw [if_pos rfl, if_pos rfl]
      exact ⟨Or.inr rfl, rfl, fun _ => ⟨rfl, hD⟩⟩
    · dsimp only
      rw [pk_uLn q, pk_uLn q]
      unfold upd
      rw [if_neg q, if_neg q]
      exact h j hj
theorem drop2 (ik : Nat → Int32) : ∃ ik', ik' 0 = 0 ∧ ik' 1 = 0 ∧ f_X2_drop ik = some ik' := by
  unfold f_X2_drop
  rw [show FU = 253 + 1 + 1 + 1 from rfl, lp_X2_drop_2_s, if_neg (by decide), if_pos (by decide), lp_X2_drop_2_s, if_neg (by decide), if_pos (by decide), lp_X2_drop_2_s, if_pos (by decide)]
  exact ⟨_, rfl, rfl, rfl⟩
/-- the text -/
theorem type_both {n : Nat} {tl mt : Nat → Int32} (hL : Lt n tl mt) (x th : Int32) : ∃ v n' tl' mt', Lt n' tl' mt' ∧ f_X9_type (nI n) tl x = some (v, nI n', tl') ∧ f_X10_type th (nI n) mt x = some (v, 0, nI n', mt') := by
  have hn := hL.1
  unfold f_X9_type f_X10_type
  rcases range0 x with hx | ⟨a, ha, rfl⟩
  · rw [if_pos hx, in_neg hx, Option.bind_some, if_pos rfl]
    exact ⟨-1, n, tl, mt, hL, rfl, rfl⟩
  · rw [if_neg (nI_n0 a ha)]
    by_cases q : a ≤ 255
    · rw [if_pos (show nI a ≤ 255 from nI_le q (by decide)), in_yes (hi := 255) (b := 255) ha (by decide) rfl q, Option.bind_some, if_neg one_n0]
      unfold f_X8_append
      rw [if_neg (nI_n0 n (by omega)), show (150 : Int32) = nI 150 from rfl, ite_lt (by omega) (by decide), ite_eq (by omega) (by decide)]
      by_cases q2 : n < 150
      · rw [if_pos q2, if_neg (show ¬ n = 150 by omega), if_pos (inb_t q2 (by decide)), if_pos (inb_t q2 (by decide)), Option.bind_some, L1, nI_add, nI_clamp (by omega)]
        dsimp only
        rw [if_neg (by decide)]
        refine ⟨_, n + 1, _, _, ⟨by omega, fun i hi => ?_⟩, rfl, rfl⟩
        unfold upd
        by_cases q3 : i = n
        · rw [if_pos q3, if_pos q3]
          exact ⟨a, q, rfl, rfl⟩
        · rw [if_neg q3, if_neg q3]
          exact hL.2 i (by omega)
      · rw [if_neg q2, if_pos (show n = 150 by omega), Option.bind_some]
        exact ⟨-3, n, tl, mt, hL, rfl, rfl⟩
    · rw [if_neg (show ¬ nI a ≤ 255 from fun e => q ((nI_leI (b := 255) ha (by decide)).mp e)), in_no (hi := 255) (b := 255) ha (by decide) rfl (by omega), Option.bind_some, if_pos rfl]
      exact ⟨-1, n, tl, mt, hL, rfl, rfl⟩
/-- what has been seen -/
def SI (k : Nat) (ln ct ml mc : Nat → Int32) : Prop := k ≤ 6 ∧ ∀ i, i < k → ln i = ml i ∧ ct i = mc i
theorem line_both {g : Geo} (hg : g.ok) (x : Int32) : (f_X9_isLine (nI g.W) (nI g.H) x = some 0 ∧ f_X10_in x 0 (nI (g.H - 1)) = some 0 ∧ f_X10_in x 8 (nI (7 + g.W)) = some 0) ∨ (f_X9_isLine (nI g.W) (nI g.H) x = some 1 ∧ (f_X10_in x 0 (nI (g.H - 1)) = some 1 ∨ (f_X10_in x 0 (nI (g.H - 1)) = some 0 ∧ f_X10_in x 8 (nI (7 + g.W)) = some 1))) := by
  have hW := hg.1
  have hH := hg.2.1
  unfold f_X9_isLine
  rcases range0 x with hx | ⟨a, ha, rfl⟩
  · refine Or.inl ⟨?_, in_neg hx, ?_⟩
    · rw [if_neg (show ¬ (8 : Int32) ≤ x from fun e => absurd (Int32.lt_of_lt_of_le hx (show (0 : Int32) ≤ x from Int32.le_trans (by decide) e)) Int32.lt_irrefl), if_pos hx]
    · unfold f_X10_in
      rw [if_pos (Int32.lt_of_lt_of_le hx (by decide))]
  · rw [show (8 : Int32) = nI 8 from rfl, ite_le (by decide) (by omega)]
    by_cases q : 8 ≤ a
    · rw [if_pos q, pk_sub q, ite_le (by omega) (by omega)]
      have i1 : f_X10_in (nI a) 0 (nI (g.H - 1)) = some 0 := in_no ha (by omega) rfl (by omega)
      by_cases q2 : g.W ≤ a - 8
      · exact Or.inl ⟨if_pos q2, i1, in10_0 ha (by decide) (by omega) (by omega)⟩
      · exact Or.inr ⟨if_neg q2, Or.inr ⟨i1, in10_1 ha (by decide) (by omega) (by omega)⟩⟩
    · rw [if_neg q, if_neg (nI_n0 a ha), ite_le (by omega) (by omega)]
      by_cases q2 : g.H ≤ a
      · exact Or.inl ⟨if_pos q2, in_no ha (by omega) rfl (by omega), in10_0 ha (by decide) (by omega) (by omega)⟩
      · exact Or.inr ⟨if_neg q2, Or.inl (in_yes ha (by omega) rfl (by omega))⟩
theorem sees_both {g : Geo} {told : Nat → Int32} (hg : g.ok) (hT : RepT g told) {k : Nat} {ln ct ml mc : Nat → Int32} (h : SI k ln ct ml mc) (x y th : Int32) : ∃ v k' ln' ct' ml' mc', SI k' ln' ct' ml' mc' ∧ f_X9_sees (nI g.W) (nI g.H) (nI k) ln ct x y = some (v, nI k', ln', ct') ∧ f_X10_sees th (nI k) told ml mc x y = some (v, 0, nI k', ml', mc') := by
  have hk := h.1
  have hW := hg.1
  have hH := hg.2.1
  have eH : told 1 - 1 = nI (g.H - 1) := by rw [hT.2.1, L1, pk_sub hH.1]
  have eW : (7 : Int32) + told 0 = nI (7 + g.W) := by rw [hT.1, show (7 : Int32) = nI 7 from rfl, nI_add]
  have key : ∃ v k' ln' ct' ml' mc', SI k' ln' ct' ml' mc' ∧ (if y < 0 then (some ((-1 : Int32), nI k, ln, ct)) else (if y ≤ (8 : Int32) then ((f_X7_append (nI k) ln ct x y).bind (fun z26 => if (z26.1) = 0 then (some ((-3 : Int32), (z26.2.1), (z26.2.2.1), (z26.2.2.2))) else (some ((z26.2.1), (z26.2.1), (z26.2.2.1), (z26.2.2.2))))) else (some ((-1 : Int32), nI k, ln, ct)))) = some (v, nI k', ln', ct') ∧ j_X10_sees_39 x y 0 (nI k) ml mc = some (v, 0, nI k', ml', mc') := by
    unfold j_X10_sees_39
    rcases range0 y with hy | ⟨b, hb, rfl⟩
    · rw [if_pos hy, in_neg hy, Option.bind_some, if_pos rfl]
      exact ⟨-1, k, ln, ct, ml, mc, h, rfl, rfl⟩
    · rw [if_neg (nI_n0 b hb)]
      by_cases q : b ≤ 8
      · rw [if_pos (show nI b ≤ 8 from nI_le q (by decide)), in_yes (hi := 8) (b := 8) hb (by decide) rfl q, Option.bind_some, if_neg one_n0]
        unfold f_X7_append
        rw [if_neg (nI_n0 k (by omega)), show (6 : Int32) = nI 6 from rfl, ite_lt (by omega) (by decide), ite_eq (by omega) (by decide)]
        by_cases q2 : k < 6
        · rw [if_pos q2, if_neg (show ¬ k = 6 by omega), if_pos (inb_t q2 (by decide)), if_pos (inb_t q2 (by decide)), if_pos (inb_t q2 (by decide)), if_pos (inb_t q2 (by decide)), Option.bind_some, L1, nI_add, nI_clamp (by omega)]
          dsimp only
          rw [if_neg (by decide)]
          refine ⟨_, k + 1, _, _, _, _, ⟨by omega, fun i hi => ?_⟩, rfl, rfl⟩
          unfold upd
          by_cases q3 : i = k
          · rw [if_pos q3, if_pos q3, if_pos q3, if_pos q3]
            exact ⟨rfl, rfl⟩
          · rw [if_neg q3, if_neg q3, if_neg q3, if_neg q3]
            exact h.2 i (by omega)
        · rw [if_neg q2, if_pos (show k = 6 by omega), Option.bind_some]
          exact ⟨-3, k, ln, ct, ml, mc, h, rfl, rfl⟩
      · rw [if_neg (show ¬ nI b ≤ 8 from fun e => q ((nI_leI (b := 8) hb (by decide)).mp e)), in_no (hi := 8) (b := 8) hb (by decide) rfl (by omega), Option.bind_some, if_pos rfl]
        exact ⟨-1, k, ln, ct, ml, mc, h, rfl, rfl⟩
  unfold f_X9_sees f_X10_sees
  rw [if_pos B1, T1, eH, if_pos B0, T0, eW]
  rcases line_both hg x with ⟨e1, e2, e3⟩ | ⟨e1, e2 | ⟨e2, e3⟩⟩
  · rw [e1, e2, Option.bind_some, Option.bind_some, if_pos rfl, if_pos rfl, e3, Option.bind_some, if_pos rfl]
    exact ⟨-1, k, ln, ct, ml, mc, h, rfl, rfl⟩
  · rw [e1, e2, Option.bind_some, Option.bind_some, if_neg one_n0, if_neg one_n0]
    exact key
  · rw [e1, e2, Option.bind_some, Option.bind_some, if_neg one_n0, if_pos rfl, e3, Option.bind_some, if_neg one_n0]
    exact key
