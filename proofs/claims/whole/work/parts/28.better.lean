/-! The best single move. -/
def gn (g : Geo) (S : Int64) (a b : Nat) : Int32 := (nI (hs g S a) - nI (g.wt a a)) - (nI (hs g S b) - nI (g.wt a b))
def okm (free S : Int64) (a b : Nat) : Bool := bit S a && bit (free &&& (S ^^^ (-1))) b
def stp2 (ok : Nat → Nat → Bool) (v : Nat → Nat → Int32) (a b : Nat) (o : Option (Nat × Nat)) : Option (Nat × Nat) := if ok a b = true then (match o with | none => some (a, b) | some q => if v a b ≤ v q.1 q.2 then some q else some (a, b)) else o
def scn (ok : Nat → Nat → Bool) (v : Nat → Nat → Int32) (a : Nat) (o : Option (Nat × Nat)) : Nat → Option (Nat × Nat)
  | 0 => o
  | b + 1 => stp2 ok v a b (scn ok v a o b)
def sct (ok : Nat → Nat → Bool) (v : Nat → Nat → Int32) (N : Nat) : Nat → Option (Nat × Nat)
  | 0 => none
  | a + 1 => scn ok v a (sct ok v N a) N
theorem scn_no {ok : Nat → Nat → Bool} {v : Nat → Nat → Int32} {a : Nat} (h : ∀ b, ok a b = false) (o : Option (Nat × Nat)) : ∀ n, scn ok v a o n = o
  | 0 => rfl
  | n + 1 => by
    rw [scn, scn_no h o n]
    unfold stp2
    rw [if_neg (by rw [h]; decide)]
def okP (ok : Nat → Nat → Bool) (N : Nat) (o : Option (Nat × Nat)) : Prop := ∀ q, o = some q → q.1 < N ∧ q.2 < N ∧ ok q.1 q.2 = true
theorem scn_ok {ok : Nat → Nat → Bool} {v : Nat → Nat → Int32} {a N : Nat} (ha : a < N) {o : Option (Nat × Nat)} (ho : okP ok N o) : ∀ n, n ≤ N → okP ok N (scn ok v a o n)
  | 0, _ => ho
  | n + 1, hn => by
    have ih := scn_ok (v := v) ha ho n (by omega)
    rw [scn]
    unfold stp2
    by_cases hk : ok a n = true
    · rw [if_pos hk]
      cases hs : scn ok v a o n with
      | none =>
        intro q hq
        obtain rfl : (a, n) = q := by simpa using hq
        exact ⟨ha, by show n < N; omega, hk⟩
      | some z =>
        intro q hq
        by_cases hv : v a n ≤ v z.1 z.2
        · simp only [hv, ↓reduceIte, Option.some.injEq] at hq
          subst hq
          exact ih z hs
        · simp only [hv, ↓reduceIte, Option.some.injEq] at hq
          subst hq
          exact ⟨ha, by show n < N; omega, hk⟩
    · rw [if_neg hk]; exact ih
theorem sct_ok {ok : Nat → Nat → Bool} {v : Nat → Nat → Int32} {N : Nat} : ∀ n, n ≤ N → okP ok N (sct ok v N n)
  | 0, _ => fun q hq => by cases hq
  | n + 1, hn => scn_ok (by omega) (sct_ok n (by omega)) N (Nat.le_refl _)
def encM (o : Option (Nat × Nat)) : Int32 := match o with | none => -1 | some q => nI (q.1 * 64 + q.2)
def valM (v : Nat → Nat → Int32) (o : Option (Nat × Nat)) : Int32 := match o with | none => 0 | some q => v q.1 q.2
theorem gain9 {g : Geo} (hg : g.ok) {cols lins dist wts : Nat → Int32} (hT : Tab g cols lins dist wts) {S : Int64} {sums : Nat → Int32} (hS : HOk g S sums) {a b : Nat} (ha : a < g.N) (hb : b < g.N) : f_X9_gain (nI g.N) cols lins wts sums (nI a) (nI b) = some (gn g S a b) := by
  unfold f_X9_gain
  rw [sumAt1 hg hS ha, Option.bind_some, weight0 hg hT ha ha, Option.bind_some, sumAt1 hg hS hb, Option.bind_some, weight0 hg hT ha hb, Option.bind_some]
  rfl
theorem bm_in {g : Geo} (hg : g.ok) {cols lins dist wts : Nat → Int32} (hT : Tab g cols lins dist wts) {S free : Int64} {sums : Nat → Int32} (hS : HOk g S sums) (k13 : Int64 → Int32 → Int32 → Int32 → Option Int32) {a : Nat} (ha : a < g.N) (hba : bit S a = true) {o : Option (Nat × Nat)} (ho : okP (okm free S) g.N o) :
    ∀ (d i fu : Nat), i + d = g.N → d < fu → lp_X9_bestMove_46 (nI g.N) cols lins wts sums k13 fu (free &&& (S ^^^ (-1))) (encM (scn (okm free S) (gn g S) a o i)) (valM (gn g S) (scn (okm free S) (gn g S) a o i)) (nI a) (nI i) = k13 (free &&& (S ^^^ (-1))) (encM (scn (okm free S) (gn g S) a o g.N)) (valM (gn g S) (scn (okm free S) (gn g S) a o g.N)) (nI (a + 1)) := by
  have hN := Geo.N_le hg
  intro d
  induction d with
  | zero =>
    intro i fu hi hf
    obtain ⟨n, rfl⟩ : ∃ n, fu = n + 1 := ⟨fu - 1, by omega⟩
    have hi : i = g.N := by omega
    subst hi
    rw [lp_X9_bestMove_46_s, if_pos (nI_le (Nat.le_refl _) (by omega)), nI_1]
  | succ d ih =>
    intro i fu hi hf
    obtain ⟨n, rfl⟩ : ∃ n, fu = n + 1 := ⟨fu - 1, by omega⟩
    have h1 := ih (i + 1) n (by omega) (by omega)
    have hok := scn_ok (v := gn g S) ha ho i (by omega)
    rw [scn] at h1
    unfold stp2 at h1
    rw [lp_X9_bestMove_46_s, ite_le (by omega) (by omega), if_neg (by omega), has9 _ (by omega), Option.bind_some]
    by_cases hb : bit (free &&& (S ^^^ (-1))) i = true
    · rw [if_pos (show okm free S a i = true by unfold okm; rw [hba, hb]; rfl)] at h1
      rw [if_neg (by rw [if_pos hb]; decide), gain9 hg hT hS ha (by omega), Option.bind_some]
      unfold j_X9_bestMove_92
      rw [show (64 : Int32) = nI 64 from rfl, pk_mul, nI_add, nI_1]
      cases hs : scn (okm free S) (gn g S) a o i with
      | none =>
        rw [hs] at h1
        rw [if_pos (show encM none = -1 from rfl)]
        exact h1
      | some q =>
        rw [hs] at h1
        obtain ⟨q1, q2, -⟩ := hok q hs
        rw [if_neg (show ¬ encM (some q) = -1 from nI_ne_neg (by omega) (by decide))]
        show (if gn g S a i ≤ gn g S q.1 q.2 then _ else _) = _
        by_cases hv : gn g S a i ≤ gn g S q.1 q.2
        · rw [if_pos hv]
          simp only [hv, ↓reduceIte] at h1
          exact h1
        · rw [if_neg hv]
          simp only [hv, ↓reduceIte] at h1
          exact h1
    · rw [if_neg (show ¬ okm free S a i = true by unfold okm; rw [hba]; simpa using hb)] at h1
      rw [if_pos (by rw [if_neg hb]), nI_1]
      exact h1
theorem bm_lp {g : Geo} (hg : g.ok) {cols lins dist wts : Nat → Int32} (hT : Tab g cols lins dist wts) {S free : Int64} {sums : Nat → Int32} (hS : HOk g S sums) :
    ∀ (d i fu : Nat), i + d = g.N → d < fu → lp_X9_bestMove_13 (nI g.N) cols lins wts S sums fu (free &&& (S ^^^ (-1))) (encM (sct (okm free S) (gn g S) g.N i)) (valM (gn g S) (sct (okm free S) (gn g S) g.N i)) (nI i) = some (encM (sct (okm free S) (gn g S) g.N g.N)) := by
  have hN := Geo.N_le hg
  intro d
  induction d with
  | zero =>
    intro i fu hi hf
    obtain ⟨n, rfl⟩ : ∃ n, fu = n + 1 := ⟨fu - 1, by omega⟩
    have hi : i = g.N := by omega
    subst hi
    rw [lp_X9_bestMove_13_s, if_pos (nI_le (Nat.le_refl _) (by omega))]
  | succ d ih =>
    intro i fu hi hf
    obtain ⟨n, rfl⟩ : ∃ n, fu = n + 1 := ⟨fu - 1, by omega⟩
    have h1 := ih (i + 1) n (by omega) (by omega)
    rw [sct] at h1
    rw [lp_X9_bestMove_13_s, ite_le (by omega) (by omega), if_neg (by omega), has9 S (by omega), Option.bind_some]
    by_cases hb : bit S i = true
    · have h2 := bm_in hg hT (free := free) hS (lp_X9_bestMove_13 (nI g.N) cols lins wts S sums n) (show i < g.N by omega) hb (sct_ok (ok := okm free S) (v := gn g S) i (by omega)) g.N 0 FU (by omega) (by unfold FU; omega)
      rw [if_neg (by rw [if_pos hb]; decide), L0]
      rw [scn] at h2
      rw [h2]
      exact h1
    · rw [scn_no (fun b => by unfold okm; rw [show bit S i = false by simpa using hb]; rfl)] at h1
      rw [if_pos (by rw [if_neg hb]), nI_1]
      exact h1
theorem bestMove9 {g : Geo} (hg : g.ok) {cols lins dist wts : Nat → Int32} (hT : Tab g cols lins dist wts) {S free : Int64} {sums : Nat → Int32} (hS : HOk g S sums) : f_X9_bestMove (nI g.N) free cols lins wts S sums = some (encM (sct (okm free S) (gn g S) g.N g.N)) := by
  have hN := Geo.N_le hg
  unfold f_X9_bestMove f_X9_emptyCells
  rw [Option.bind_some]
  exact bm_lp hg hT hS g.N 0 FU (by omega) (by unfold FU; omega)
/-! the model's -/
def encD (o : Option (Nat × Nat)) : Int32 := match o with | none => -9 | some q => nI q.1
def encC (o : Option (Nat × Nat)) : Int32 := match o with | none => -9 | some q => nI q.2
theorem gn_model {g : Geo} (hg : g.ok) {S : Int64} {a b : Nat} (ha : a < g.N) (hba : bit S a = true) : nI (hs g (S &&& (lsh 1 (nI a) ^^^ (-1))) a) - nI (hs g (S &&& (lsh 1 (nI a) ^^^ (-1))) b) = gn g S a b := by
  have hN := Geo.N_le hg
  have key : ∀ k, hs g S k = hs g (S &&& (lsh 1 (nI a) ^^^ (-1))) k + g.wt a k := by
    intro k
    have h := hs_flp (S := S) (S' := S &&& (lsh 1 (nI a) ^^^ (-1))) ha (fun e _ => by
      rw [bit_clr S (by omega)]
      by_cases hea : e = a
      · subst hea; rw [hba]; simp
      · simp [hea]) k
    rw [if_pos hba, if_pos hba, Nat.add_zero] at h
    exact h.symm
  unfold gn
  rw [key a, key b, ← nI_add, ← nI_add]
  grind
theorem okm_iff {g : Geo} {shut free S : Int64} (hF : Fr g shut free) {a b : Nat} (hb : b < g.N) (h64 : b < 64) : okm free S a b = (bit S a && !bit (S ||| shut) b) := by
  unfold okm
  rw [bit_and, bit_not _ h64, hF b h64, bit_or]
  simp only [hb, decide_true, Bool.true_and]
  cases bit S a <;> cases bit S b <;> cases bit shut b <;> rfl
theorem tr_in {g : Geo} {told : Nat → Int32} (hg : g.ok) (hT : RepT g told) {S shut free : Int64} (hF : Fr g shut free) (k19 : Int32 → Int32 → Int32 → Int32 → Option (Int32 × Int32 × Int32)) {a : Nat} (ha : a < g.N) {o : Option (Nat × Nat)} (ho : okP (okm free S) g.N o) :
    ∀ (d i fu : Nat), i + d = g.N → d < fu → lp_X10_tries_43 shut S told k19 fu (nI a) (S &&& (lsh 1 (nI a) ^^^ (-1))) (nI i) (valM (gn g S) (scn (okm free S) (gn g S) a o i)) (encD (scn (okm free S) (gn g S) a o i)) (encC (scn (okm free S) (gn g S) a o i)) = k19 (nI (a + 1)) (valM (gn g S) (scn (okm free S) (gn g S) a o g.N)) (encD (scn (okm free S) (gn g S) a o g.N)) (encC (scn (okm free S) (gn g S) a o g.N)) := by
  have hN := Geo.N_le hg
  intro d
  induction d with
  | zero =>
    intro i fu hi hf
    obtain ⟨n, rfl⟩ : ∃ n, fu = n + 1 := ⟨fu - 1, by omega⟩
    have hi : i = g.N := by omega
    subst hi
    rw [lp_X10_tries_43_s, cells10 hT, Option.bind_some, if_pos (nI_le (Nat.le_refl _) (by omega)), nI_1]
  | succ d ih =>
    intro i fu hi hf
    obtain ⟨n, rfl⟩ : ∃ n, fu = n + 1 := ⟨fu - 1, by omega⟩
    have h1 := ih (i + 1) n (by omega) (by omega)
    have hok := scn_ok (v := gn g S) ha ho i (by omega)
    rw [scn] at h1
    unfold stp2 at h1
    rw [okm_iff hF (show i < g.N by omega) (by omega)] at h1
    rw [lp_X10_tries_43_s, cells10 hT, Option.bind_some, ite_le (by omega) (by omega), if_neg (by omega), has10 S (by omega), Option.bind_some]
    by_cases hba : bit S a = true
    · rw [if_neg (by rw [if_pos hba]; decide), has10 _ (by omega), Option.bind_some]
      by_cases hb : bit (S ||| shut) i = true
      · rw [if_neg (by rw [if_pos hb]; decide), nI_1]
        rw [if_neg (by rw [hb]; simp)] at h1
        exact h1
      · rw [if_pos (by rw [if_neg hb]), heldBy10 hg hT _ ha, Option.bind_some, heldBy10 hg hT _ (by omega), Option.bind_some, gn_model hg ha hba]
        rw [if_pos (by rw [hba]; simpa using hb)] at h1
        have t1 : ∀ (k43 : Int32 → Int64 → Int32 → Int32 → Int32 → Int32 → Option (Int32 × Int32 × Int32)) (x2 : Int64) (v p q r : Int32), j_X10_tries_119 k43 (nI a) x2 (nI i) v 1 p q r = k43 (nI a) x2 (nI (i + 1)) v (nI a) (nI i) := by
          intro k43 x2 v p q r
          unfold j_X10_tries_119 j_X10_tries_136 j_X10_tries_153 j_X10_tries_171
          rw [if_neg (by decide), if_neg (by decide), if_neg (by decide), nI_1]
        have t0 : ∀ (k43 : Int32 → Int64 → Int32 → Int32 → Int32 → Int32 → Option (Int32 × Int32 × Int32)) (x2 : Int64) (v p q r : Int32), j_X10_tries_119 k43 (nI a) x2 (nI i) v 0 p q r = k43 (nI a) x2 (nI (i + 1)) p q r := by
          intro k43 x2 v p q r
          unfold j_X10_tries_119 j_X10_tries_136 j_X10_tries_153 j_X10_tries_171
          rw [if_pos rfl, if_pos rfl, if_pos rfl, nI_1]
        simp only [t1, t0]
        cases hs : scn (okm free S) (gn g S) a o i with
        | none =>
          rw [hs] at h1
          rw [if_pos (show encD none = -9 from rfl)]
          exact h1
        | some q =>
          rw [hs] at h1
          obtain ⟨q1, q2, -⟩ := hok q hs
          rw [if_neg (show ¬ encD (some q) = -9 from nI_ne_neg (by omega) (by decide))]
          show (if gn g S a i ≤ gn g S q.1 q.2 then _ else _) = _
          by_cases hv : gn g S a i ≤ gn g S q.1 q.2
          · rw [if_pos hv]
            simp only [hv, ↓reduceIte] at h1
            exact h1
          · rw [if_neg hv]
            simp only [hv, ↓reduceIte] at h1
            exact h1
    · rw [if_pos (by rw [if_neg hba]), nI_1]
      rw [if_neg (by rw [show bit S a = false by simpa using hba]; simp)] at h1
      exact h1
theorem tr_lp {g : Geo} {told : Nat → Int32} (hg : g.ok) (hT : RepT g told) {S shut free : Int64} (hF : Fr g shut free) :
    ∀ (d i fu : Nat), i + d = g.N → d < fu → lp_X10_tries_19 shut S told fu (nI i) (valM (gn g S) (sct (okm free S) (gn g S) g.N i)) (encD (sct (okm free S) (gn g S) g.N i)) (encC (sct (okm free S) (gn g S) g.N i)) = some (valM (gn g S) (sct (okm free S) (gn g S) g.N g.N), encD (sct (okm free S) (gn g S) g.N g.N), encC (sct (okm free S) (gn g S) g.N g.N)) := by
  have hN := Geo.N_le hg
  intro d
  induction d with
  | zero =>
    intro i fu hi hf
    obtain ⟨n, rfl⟩ : ∃ n, fu = n + 1 := ⟨fu - 1, by omega⟩
    have hi : i = g.N := by omega
    subst hi
    rw [lp_X10_tries_19_s, cells10 hT, Option.bind_some, if_pos (nI_le (Nat.le_refl _) (by omega))]
  | succ d ih =>
    intro i fu hi hf
    obtain ⟨n, rfl⟩ : ∃ n, fu = n + 1 := ⟨fu - 1, by omega⟩
    have h1 := ih (i + 1) n (by omega) (by omega)
    rw [sct] at h1
    have h2 := tr_in hg hT hF (lp_X10_tries_19 shut S told n) (show i < g.N by omega) (sct_ok (ok := okm free S) (v := gn g S) i (by omega)) g.N 0 FU (by omega) (by unfold FU; omega)
    rw [scn] at h2
    rw [lp_X10_tries_19_s, cells10 hT, Option.bind_some, ite_le (by omega) (by omega), if_neg (by omega), L0, h2]
    exact h1
theorem tries10 {g : Geo} {told : Nat → Int32} (hg : g.ok) (hT : RepT g told) {S shut free : Int64} (hF : Fr g shut free) (a b c : Int32) : f_X10_tries shut S a b c told = some (valM (gn g S) (sct (okm free S) (gn g S) g.N g.N), encD (sct (okm free S) (gn g S) g.N g.N), encC (sct (okm free S) (gn g S) g.N g.N)) := by
  have hN := Geo.N_le hg
  unfold f_X10_tries
  exact tr_lp hg hT hF g.N 0 FU (by omega) (by unfold FU; omega)
