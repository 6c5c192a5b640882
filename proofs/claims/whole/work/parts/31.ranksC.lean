/-! Ranks: the class's rows. -/
theorem enc_some (z : Int32) (b : Nat) : enc z (some b) = nI b := rfl
def AR (g : Geo) (free D : Int64) (a b : Nat) (order places : Nat → Int32) : Prop := ∀ k, a ≤ k → k < b → order k = nI (od g free D k) ∧ places (od g free D k) = nI k
theorem AR_step {g : Geo} {free D : Int64} (hf : Inn g free) (hD : Sub D free) {a b k : Nat} {order places : Nat → Int32} (hb : b ≤ pc free) (hk : k < pc free) (h : AR g free D a b order places) (j : Nat) (hj : (a ≤ j ∧ j < b) ∨ j = k) :
    upd order k (nI (od g free D k)) j = nI (od g free D j) ∧ upd places (od g free D k) (nI k) (od g free D j) = nI j := by
  by_cases hjk : j = k
  · subst hjk
    rw [pk_us, pk_us]
    exact ⟨rfl, rfl⟩
  · have hj2 : a ≤ j ∧ j < b := by
      rcases hj with q | q
      · exact q
      · exact absurd q hjk
    rw [pk_un hjk, pk_un (od_ne hf hD (by omega) hk hjk)]
    exact h j hj2.1 hj2.2
theorem give6 {g : Geo} (hg : g.ok) {cols lins dist wts : Nat → Int32} (hT : Tab g cols lins dist wts) {S : Int64} {sums : Nat → Int32} (hS : HOk g S sums) (order places : Nat → Int32) {c k : Nat} (hc : c < g.N) (hk : k < 64) :
    ∃ sums', HOk g (S ^^^ lsh 1 (nI c)) sums' ∧ f_X6_give (nI g.N) cols lins wts order places S sums (nI c) (nI k) = some (upd order k (nI c), upd places c (nI k), S ^^^ lsh 1 (nI c), sums') := by
  have hN := Geo.N_le hg
  obtain ⟨sums', h1, h2⟩ := flip1 hg hT hS hc
  refine ⟨sums', h1, ?_⟩
  unfold f_X6_give
  rw [isCell0 hN hc, Option.bind_some, if_neg (by decide), if_neg (nI_pos (by omega)), show (64 : Int32) = nI 64 from rfl, ite_lt (by omega) (by omega), if_pos hk, if_pos (inb_t hk (by decide)), if_pos (inb_t (show c < 64 by omega) (by decide)), h2, Option.bind_some, nI_clamp (by omega), nI_clamp (by omega)]
theorem thin_lp {g : Geo} (hg : g.ok) {cols lins dist wts : Nat → Int32} (hT : Tab g cols lins dist wts) {free D : Int64} (hf : Inn g free) (hD : Sub D free) (th : Int32) :
    ∀ (d i fu : Nat) (order places sums : Nat → Int32), i + d = pc D → d < fu → HOk g (Tn g D i) sums → AR g free D (pc D - i) (pc D) order places →
      ∃ order' places' S' sums', AR g free D 0 (pc D) order' places' ∧ lp_X6_thin_18 (nI g.N) cols lins wts fu (nI (pc D - i) - 1) th order places (Tn g D i) sums = some (th, order', places', S', sums') := by
  have hN := Geo.N_le hg
  have hle := pc_le D
  have hsub := pc_sub hD
  intro d
  induction d with
  | zero =>
    intro i fu order places sums hi hfu hS hA
    obtain ⟨n, rfl⟩ : ∃ n, fu = n + 1 := ⟨fu - 1, by omega⟩
    have hi : i = pc D := by omega
    subst hi
    refine ⟨order, places, Tn g D (pc D), sums, ?_, ?_⟩
    · rw [Nat.sub_self] at hA; exact hA
    · rw [lp_X6_thin_18_s, Nat.sub_self, if_pos (by decide)]
  | succ d ih =>
    intro i fu order places sums hi hfu hS hA
    obtain ⟨n, rfl⟩ : ∃ n, fu = n + 1 := ⟨fu - 1, by omega⟩
    obtain ⟨t1, t2, t3⟩ := Tn_tg (hD.inn hf) (show i < pc D by omega)
    have e0 : nI (pc D - i) - 1 = nI (pc D - 1 - i) := by
      rw [L1, pk_sub (by omega)]
      congr 1
      omega
    obtain ⟨sums', h1, h2⟩ := give6 hg hT hS order places (c := tg g (Tn g D i)) (k := pc D - 1 - i) t2 (by omega)
    rw [lp_X6_thin_18_s, e0, if_neg (nI_pos (by omega)), most1 hg hS, t1, Option.bind_some]
    rw [enc_some, h2, Option.bind_some]
    have e1 : nI (pc D - 1 - i) + (-1) = nI (pc D - (i + 1)) - 1 := by
      rw [show pc D - 1 - i = pc D - (i + 1) by omega]
      grind
    rw [xor_clr (bit_lt t3) t3] at h1 ⊢
    rw [e1]
    refine ih (i + 1) n _ _ _ (by omega) (by omega) h1 (fun j hj1 hj2 => ?_)
    have := AR_step hf hD hsub (show pc D - 1 - i < pc free by omega) hA j (by omega)
    rw [od_lo (show i < pc D by omega)] at this
    exact this
theorem thin6 {g : Geo} (hg : g.ok) {cols lins dist wts : Nat → Int32} (hT : Tab g cols lins dist wts) {free D : Int64} (hf : Inn g free) (hD : Sub D free) (th : Int32) (order places : Nat → Int32) {sums : Nat → Int32} (hS : HOk g D sums) :
    ∃ order' places' S' sums', AR g free D 0 (pc D) order' places' ∧ f_X6_thin (nI g.N) cols lins wts th order places D sums = some (nI (pc D), order', places', S', sums') := by
  have hle := pc_le D
  obtain ⟨o, p, S', s', h1, h2⟩ := thin_lp hg hT hf hD (nI (pc D)) (pc D) 0 FU order places sums (by omega) (by unfold FU; omega) hS (fun k a b => by omega)
  refine ⟨o, p, S', s', h1, ?_⟩
  unfold f_X6_thin
  rw [size1, Option.bind_some]
  exact h2
def hlf (free : Int64) : Nat := (pc free + 1) / 2
def fld (free D : Int64) : Nat := if pc D < hlf free then hlf free else pc D
theorem fld_le {free D : Int64} (h : pc D ≤ pc free) (h0 : 0 < pc D) : pc D ≤ fld free D ∧ hlf free ≤ fld free D ∧ fld free D ≤ pc free := by
  unfold fld hlf
  split <;> omega
theorem fill_lp6 {g : Geo} (hg : g.ok) {cols lins dist wts : Nat → Int32} (hT : Tab g cols lins dist wts) {free D : Int64} (hf : Inn g free) (hD : Sub D free) (h0 : 0 < pc D) :
    ∀ (d i fu : Nat) (order places sums : Nat → Int32), pc D + i + d = fld free D → d < fu → HOk g (Fn g free D i) sums → AR g free D 0 (pc D + i) order places →
      ∃ order' places' sums', AR g free D 0 (fld free D) order' places' ∧ lp_X6_fill_27 (nI g.N) free cols lins wts fu (nI (pc D + i)) (nI (fld free D)) order places (Fn g free D i) sums = some (nI (fld free D), order', places', Fn g free D (fld free D - pc D), sums') := by
  have hN := Geo.N_le hg
  have hle := pc_le free
  have hsub := pc_sub hD
  obtain ⟨f1, f2, f3⟩ := fld_le hsub h0
  intro d
  induction d with
  | zero =>
    intro i fu order places sums hi hfu hS hA
    obtain ⟨n, rfl⟩ : ∃ n, fu = n + 1 := ⟨fu - 1, by omega⟩
    have hi : pc D + i = fld free D := by omega
    refine ⟨order, places, sums, ?_, ?_⟩
    · rw [hi] at hA; exact hA
    · rw [lp_X6_fill_27_s, hi, if_pos (nI_le (Nat.le_refl _) (by omega)), show fld free D - pc D = i by omega]
  | succ d ih =>
    intro i fu order places sums hi hfu hS hA
    obtain ⟨n, rfl⟩ : ∃ n, fu = n + 1 := ⟨fu - 1, by omega⟩
    have hlt : pc D + i < (pc free + 1) / 2 := by
      unfold fld hlf at hi
      split at hi <;> omega
    obtain ⟨t1, -, t3, t4, t5⟩ := Fn_pk hf hD (i := i) (by omega)
    obtain ⟨sums', h1, h2⟩ := give6 hg hT hS order places (c := pk g free (pc D + i) (Fn g free D i)) (k := pc D + i) t3 (by omega)
    rw [lp_X6_fill_27_s, ite_le (by omega) (by omega), if_neg (by omega), least1 hg hS, t1 hlt, Option.bind_some]
    rw [enc_some, h2, Option.bind_some, nI_1]
    rw [xor_ins (bit_lt t4) t5] at h1 ⊢
    refine ih (i + 1) n _ _ _ (by omega) (by omega) h1 (fun j hj1 hj2 => ?_)
    have := AR_step hf hD (b := pc D + i) (by omega) (show pc D + i < pc free by omega) hA j (by omega)
    rw [od_hi] at this
    exact this
theorem emp_step {free F : Int64} {k : Nat} (hk : k < 64) (hf : bit free k = true) (hb : bit F k = false) : (free &&& (F ^^^ (-1))) ^^^ lsh 1 (nI k) = free &&& (ins F k ^^^ (-1)) := bit_ext (fun j hj => by
  unfold ins
  rw [bit_flp _ hk, bit_emp hj, bit_emp hj, bit_set _ hk]
  by_cases h : j = k
  · subst h; rw [hf, hb]; simp
  · simp [h])
theorem turn_lp {g : Geo} (hg : g.ok) {cols lins dist wts : Nat → Int32} (hT : Tab g cols lins dist wts) {free D : Int64} (hf : Inn g free) (hD : Sub D free) :
    ∀ (d i fu : Nat) (order places sums : Nat → Int32), pc D + i + d = pc free → hlf free ≤ pc D + i → d < fu → HOk g (free &&& (Fn g free D i ^^^ (-1))) sums → AR g free D 0 (pc D + i) order places →
      ∃ order' places' S' sums', AR g free D 0 (pc free) order' places' ∧ lp_X6_turn_5 (nI g.N) (nI (pc free)) cols lins wts fu (nI (pc D + i)) order places (free &&& (Fn g free D i ^^^ (-1))) sums = some (order', places', S', sums') := by
  have hN := Geo.N_le hg
  have hle := pc_le free
  have hsub := pc_sub hD
  intro d
  induction d with
  | zero =>
    intro i fu order places sums hi hh hfu hS hA
    obtain ⟨n, rfl⟩ : ∃ n, fu = n + 1 := ⟨fu - 1, by omega⟩
    have hi : pc D + i = pc free := by omega
    refine ⟨order, places, free &&& (Fn g free D i ^^^ (-1)), sums, ?_, ?_⟩
    · rw [hi] at hA; exact hA
    · rw [lp_X6_turn_5_s, hi, if_pos (nI_le (Nat.le_refl _) (by omega))]
  | succ d ih =>
    intro i fu order places sums hi hh hfu hS hA
    obtain ⟨n, rfl⟩ : ∃ n, fu = n + 1 := ⟨fu - 1, by omega⟩
    obtain ⟨-, t2, t3, t4, t5⟩ := Fn_pk hf hD (i := i) (by omega)
    obtain ⟨sums', h1, h2⟩ := give6 hg hT hS order places (c := pk g free (pc D + i) (Fn g free D i)) (k := pc D + i) t3 (by omega)
    rw [lp_X6_turn_5_s, ite_le (by omega) (by omega), if_neg (by omega), most1 hg hS, t2 (by unfold hlf at hh; omega), Option.bind_some]
    rw [enc_some, h2, Option.bind_some, nI_1]
    rw [emp_step (bit_lt t4) t4 t5] at h1 ⊢
    refine ih (i + 1) n _ _ _ (by omega) (by omega) (by omega) h1 (fun j hj1 hj2 => ?_)
    have := AR_step hf hD (b := pc D + i) (by omega) (show pc D + i < pc free by omega) hA j (by omega)
    rw [od_hi] at this
    exact this
/-- the ranks that stand for the dots D -/
def RC (g : Geo) (free D : Int64) (th fi : Int32) (order places : Nat → Int32) : Prop := th = nI (pc D) ∧ fi = nI (fld free D) ∧ AR g free D 0 (pc free) order places
theorem make6 {g : Geo} (hg : g.ok) {cols lins dist wts : Nat → Int32} (hT : Tab g cols lins dist wts) {free D : Int64} (hf : Inn g free) (hD : Sub D free) (h0 : 0 < pc D) (mb : Int64) (hne : mb ≠ D) (th fi : Int32) (order places : Nat → Int32) (hh : Int64) (hsu : Nat → Int32) :
    ∃ th' fi' order' places' S' sums', RC g free D th' fi' order' places' ∧ f_X6_standFor (nI g.N) free (nI (pc free)) cols lins wts mb th fi order places hh hsu D = some (D, th', fi', order', places', S', sums') := by
  have hle := pc_le free
  have hsub := pc_sub hD
  obtain ⟨f1, f2, f3⟩ := fld_le hsub h0
  obtain ⟨s1, a1, a2⟩ := begin1 hg hT (hD.inn hf) hh hsu
  obtain ⟨o1, p1, S1, s2, b1, b2⟩ := thin6 hg hT hf hD th order places a1
  obtain ⟨s3, c1, c2⟩ := begin1 hg hT (hD.inn hf) S1 s2
  obtain ⟨o2, p2, s4, d1, d2⟩ := fill_lp6 hg hT hf hD h0 (fld free D - pc D) 0 FU o1 p1 s3 (by omega) (by unfold FU; omega) c1 b1
  obtain ⟨s5, e1, e2⟩ := begin1 hg hT (emp_inn hf (Fn g free D (fld free D - pc D))) (Fn g free D (fld free D - pc D)) s4
  obtain ⟨o3, p3, S2, s6, g1, g2⟩ := turn_lp hg hT hf hD (pc free - fld free D) (fld free D - pc D) FU o2 p2 s5 (by omega) (by omega) (by unfold FU; omega) e1 (by rw [show pc D + (fld free D - pc D) = fld free D by omega]; exact d1)
  refine ⟨nI (pc D), nI (fld free D), o3, p3, S2, s6, ⟨rfl, rfl, g1⟩, ?_⟩
  unfold f_X6_standFor
  rw [if_neg (by rw [lg_cmp_0]; exact hne), a2, Option.bind_some, b2, Option.bind_some, c2, Option.bind_some]
  have e : f_X6_fill (nI g.N) free (nI (pc free)) cols lins wts (nI (pc D)) fi o1 p1 D s3 = some (nI (fld free D), o2, p2, Fn g free D (fld free D - pc D), s4) := by
    unfold f_X6_fill
    rw [L1, nI_add, show (2 : Int32) = nI 2 from rfl, pk_div (by omega) (by decide) (by decide)]
    have : (if nI (pc D) < nI ((pc free + 1) / 2) then nI ((pc free + 1) / 2) else nI (pc D)) = nI (fld free D) := by
      rw [ite_lt (by omega) (by omega)]
      unfold fld hlf
      split <;> rfl
    rw [this]
    exact d2
  rw [e, Option.bind_some, e2, Option.bind_some]
  have e' : f_X6_turn (nI g.N) (nI (pc free)) cols lins wts (nI (fld free D)) o2 p2 (free &&& (Fn g free D (fld free D - pc D) ^^^ (-1))) s5 = some (o3, p3, S2, s6) := by
    unfold f_X6_turn
    rw [show pc D + (fld free D - pc D) = fld free D by omega] at g2
    exact g2
  rw [e', Option.bind_some]
/-- what the ranks' object holds: nothing, or what stands for some dots -/
def RI (g : Geo) (free mb : Int64) (th fi : Int32) (order places : Nat → Int32) : Prop := mb = 0 ∨ (Sub mb free ∧ RC g free mb th fi order places)
theorem stand6 {g : Geo} (hg : g.ok) {cols lins dist wts : Nat → Int32} (hT : Tab g cols lins dist wts) {free D : Int64} (hf : Inn g free) (hD : Sub D free) (h0 : 0 < pc D) {mb : Int64} {th fi : Int32} {order places : Nat → Int32} (hI : RI g free mb th fi order places) (hh : Int64) (hsu : Nat → Int32) :
    ∃ th' fi' order' places' S' sums', RC g free D th' fi' order' places' ∧ f_X6_standFor (nI g.N) free (nI (pc free)) cols lins wts mb th fi order places hh hsu D = some (D, th', fi', order', places', S', sums') := by
  by_cases hm : mb = D
  · subst hm
    have hr : RC g free mb th fi order places := by
      rcases hI with q | q
      · subst q
        have : pc 0 = 0 := by decide +kernel
        omega
      · exact q.2
    refine ⟨th, fi, order, places, hh, hsu, hr, ?_⟩
    unfold f_X6_standFor
    rw [if_pos (by rw [lg_cmp_0])]
  · exact make6 hg hT hf hD h0 mb hm th fi order places hh hsu
theorem RI_of {g : Geo} {free D : Int64} {th fi : Int32} {order places : Nat → Int32} (hD : Sub D free) (h : RC g free D th fi order places) : RI g free D th fi order places := Or.inr ⟨hD, h⟩
