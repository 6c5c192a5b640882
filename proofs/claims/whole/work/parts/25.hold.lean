/-! How much a set of cells holds of a cell; the cell that is held most, or least. -/
def hs (g : Geo) (S : Int64) (k : Nat) : Nat := fb_sm (fun e => if bit S e = true then g.wt e k else 0) g.N
theorem hs_le {g : Geo} (hg : g.ok) (S : Int64) (k : Nat) : hs g S k ≤ 63936 := by
  have h1 : hs g S k ≤ g.N * 999 := fb_sm_bound (fun e _ => by
    have := Geo.wt_le hg e k
    split <;> omega)
  have h2 : g.N * 999 ≤ 64 * 999 := Nat.mul_le_mul_right _ (Geo.N_le hg)
  omega
theorem hs_zero (g : Geo) (k : Nat) : hs g 0 k = 0 := by
  have : hs g 0 k ≤ g.N * 0 := fb_sm_bound (fun e _ => by rw [bit_zero]; simp)
  omega
theorem hs_cong {g : Geo} {S S' : Int64} (h : ∀ e, e < g.N → bit S e = bit S' e) (k : Nat) : hs g S k = hs g S' k := fb_sm_cong (fun e he => by rw [h e he])
theorem hs_flp {g : Geo} {S S' : Int64} {c : Nat} (hc : c < g.N) (h : ∀ e, e < g.N → bit S' e = (bit S e ^^ decide (e = c))) (k : Nat) : hs g S' k + (if bit S c = true then g.wt c k else 0) = hs g S k + (if bit S c = true then 0 else g.wt c k) := by
  have e1 : hs g S' k = fb_sm (fun e => if e = c then (if bit S c = true then 0 else g.wt c k) else (if bit S e = true then g.wt e k else 0)) g.N := fb_sm_cong (fun e he => by
    rw [h e he]
    by_cases hec : e = c
    · subst hec
      rw [if_pos rfl]
      cases bit S e <;> simp
    · rw [if_neg hec]
      simp [hec])
  rw [e1]
  exact fb_sm_upd (fun e => if bit S e = true then g.wt e k else 0) _ hc
theorem held_lp {g : Geo} {told : Nat → Int32} (hg : g.ok) (hT : RepT g told) (S : Int64) {k : Nat} (hk : k < g.N) : ∀ (d i fu : Nat), i + d = g.N → d < fu → lp_X10_heldBy_6 told S (nI k) fu (nI (fb_sm (fun e => if bit S e = true then g.wt e k else 0) i)) (nI i) = some (nI (hs g S k)) := by
  have hN := Geo.N_le hg
  intro d
  induction d with
  | zero =>
    intro i fu hi hf
    obtain ⟨n, rfl⟩ : ∃ n, fu = n + 1 := ⟨fu - 1, by omega⟩
    have hi : i = g.N := by omega
    subst hi
    rw [lp_X10_heldBy_6_s, cells10 hT, Option.bind_some, if_pos (nI_le (Nat.le_refl _) (by omega))]
    rfl
  | succ d ih =>
    intro i fu hi hf
    obtain ⟨n, rfl⟩ : ∃ n, fu = n + 1 := ⟨fu - 1, by omega⟩
    have h1 := ih (i + 1) n (by omega) (by omega)
    rw [fb_sm_succ] at h1
    rw [lp_X10_heldBy_6_s, cells10 hT, Option.bind_some, ite_le (by omega) (by omega), if_neg (by omega), has10 S (by omega), Option.bind_some]
    by_cases hb : bit S i = true
    · rw [if_neg (by rw [if_pos hb]; decide), distance10 hg hT (by omega) hk, Option.bind_some, weight10 hg hT (Geo.dst_le hg _ _), Option.bind_some]
      unfold j_X10_heldBy_41
      rw [nI_add, nI_1]
      rw [if_pos hb] at h1
      exact h1
    · rw [if_pos (by rw [if_neg hb])]
      unfold j_X10_heldBy_41
      rw [L0, nI_add, nI_1]
      rw [if_neg hb] at h1
      exact h1
theorem heldBy10 {g : Geo} {told : Nat → Int32} (hg : g.ok) (hT : RepT g told) (S : Int64) {k : Nat} (hk : k < g.N) : f_X10_heldBy told S (nI k) = some (nI (hs g S k)) := by
  unfold f_X10_heldBy
  have := Geo.N_le hg
  exact held_lp hg hT S hk g.N 0 FU (by omega) (by unfold FU; omega)
/-- of the cells below n with P the one whose v is greatest, of several the lowest -/
def bst (P : Nat → Bool) (v : Nat → Int) : Nat → Option Nat
  | 0 => none
  | n + 1 => if P n = true then (match bst P v n with | none => some n | some b => if v b < v n then some n else some b) else bst P v n
theorem bst_some {P : Nat → Bool} {v : Nat → Int} : ∀ {n b : Nat}, bst P v n = some b → b < n ∧ P b = true
  | 0, b, h => by cases h
  | n + 1, b, h => by
    unfold bst at h
    by_cases hp : P n = true
    · rw [if_pos hp] at h
      cases hb : bst P v n with
      | none =>
        rw [hb] at h
        obtain rfl : n = b := by simpa using h
        exact ⟨by omega, hp⟩
      | some z =>
        rw [hb] at h
        have ih := bst_some hb
        by_cases hv : v z < v n
        · simp only [hv, ↓reduceIte, Option.some.injEq] at h
          subst h
          exact ⟨by omega, hp⟩
        · simp only [hv, ↓reduceIte, Option.some.injEq] at h
          subst h
          exact ⟨by omega, ih.2⟩
    · rw [if_neg hp] at h
      have ih := bst_some h
      exact ⟨by omega, ih.2⟩
theorem bst_none {P : Nat → Bool} {v : Nat → Int} : ∀ {n : Nat}, bst P v n = none → ∀ k, k < n → P k = false
  | 0, _, k, hk => absurd hk (Nat.not_lt_zero k)
  | n + 1, h, k, hk => by
    unfold bst at h
    by_cases hp : P n = true
    · rw [if_pos hp] at h
      cases hb : bst P v n with
      | none => rw [hb] at h; cases h
      | some z =>
        rw [hb] at h
        by_cases hv : v z < v n
        · simp [hv] at h
        · simp [hv] at h
    · rw [if_neg hp] at h
      rcases Nat.lt_or_ge k n with q | q
      · exact bst_none h k q
      · have : k = n := by omega
        subst this
        simpa using hp
theorem bst_ex {P : Nat → Bool} {v : Nat → Int} {n k : Nat} (hk : k < n) (hp : P k = true) : ∃ b, bst P v n = some b := by
  cases h : bst P v n with
  | none => have := bst_none h k hk; rw [this] at hp; cases hp
  | some b => exact ⟨b, rfl⟩
theorem bst_cong {P P' : Nat → Bool} {v v' : Nat → Int} : ∀ {n : Nat}, (∀ k, k < n → P k = P' k) → (∀ k, k < n → v k = v' k) → bst P v n = bst P' v' n
  | 0, _, _ => rfl
  | n + 1, h1, h2 => by
    have ih := bst_cong (n := n) (fun k hk => h1 k (by omega)) (fun k hk => h2 k (by omega))
    unfold bst
    rw [ih, h1 n (by omega), h2 n (by omega)]
    cases hb : bst P' v' n with
    | none => rfl
    | some b =>
      have := (bst_some hb).1
      simp only [h2 b (by omega)]
def mo (g : Geo) (of by_ : Int64) : Option Nat := bst (bit of) (fun c => (hs g by_ c : Int)) g.N
def lo (g : Geo) (of by_ : Int64) : Option Nat := bst (bit of) (fun c => -(hs g by_ c : Int)) g.N
def enc (z : Int32) (o : Option Nat) : Int32 := match o with | none => z | some b => nI b
def val0 (v : Nat → Int32) (o : Option Nat) : Int32 := match o with | none => 0 | some b => v b
theorem nI_ne_neg {b : Nat} (hb : b < 2 ^ 31) {z : Int32} (hz : z.toInt < 0) : ¬ nI b = z := by
  intro h
  rw [← h, nI_toInt hb] at hz
  omega
/-! the class's -/
def HOk (g : Geo) (S : Int64) (sums : Nat → Int32) : Prop := ∀ c, c < g.N → sums c = nI (hs g S c)
theorem far_lp {N : Nat} (hN : N ≤ 64) (sums : Nat → Int32) (of : Int64) (sg : Int32) : ∀ (d i fu : Nat), i + d = N → d < fu →
    lp_X1_farthest_9 (nI N) sums of sg fu (enc (-1) (bst (bit of) (fun c => (sg * sums c).toInt) i)) (val0 (fun c => sg * sums c) (bst (bit of) (fun c => (sg * sums c).toInt) i)) (nI i) = some (enc (-1) (bst (bit of) (fun c => (sg * sums c).toInt) N)) := by
  intro d
  induction d with
  | zero =>
    intro i fu hi hf
    obtain ⟨n, rfl⟩ : ∃ n, fu = n + 1 := ⟨fu - 1, by omega⟩
    have hi : i = N := by omega
    subst hi
    rw [lp_X1_farthest_9_s, if_pos (nI_le (Nat.le_refl _) (by omega))]
  | succ d ih =>
    intro i fu hi hf
    obtain ⟨n, rfl⟩ : ∃ n, fu = n + 1 := ⟨fu - 1, by omega⟩
    have h1 := ih (i + 1) n (by omega) (by omega)
    rw [lp_X1_farthest_9_s, ite_le (by omega) (by omega), if_neg (by omega), if_pos (inb_t (show i < 64 by omega) (by decide)), has9 of (by omega), Option.bind_some, nI_clamp (by omega)]
    by_cases hb : bit of i = true
    · rw [if_neg (by rw [if_pos hb]; decide)]
      rw [bst, if_pos hb] at h1
      unfold j_X1_farthest_54
      rw [nI_1]
      cases ho : bst (bit of) (fun c => (sg * sums c).toInt) i with
      | none =>
        rw [ho] at h1
        rw [if_pos (show enc (-1) none = -1 from rfl)]
        exact h1
      | some b =>
        rw [ho] at h1
        have hlt := (bst_some ho).1
        rw [if_neg (show ¬ enc (-1) (some b) = -1 from nI_ne_neg (by omega) (by decide))]
        by_cases hv : (sg * sums b).toInt < (sg * sums i).toInt
        · rw [if_neg (by
            show ¬ sg * sums i ≤ sg * sums b
            rw [Int32.le_iff_toInt_le]
            omega)]
          simp only [hv, ↓reduceIte] at h1
          exact h1
        · rw [if_pos (by
            show sg * sums i ≤ sg * sums b
            rw [Int32.le_iff_toInt_le]
            omega)]
          simp only [hv, ↓reduceIte] at h1
          exact h1
    · rw [if_pos (by rw [if_neg hb]), nI_1]
      rw [bst, if_neg hb] at h1
      exact h1
theorem farthest1 {N : Nat} (hN : N ≤ 64) (sums : Nat → Int32) (of : Int64) (sg : Int32) : f_X1_farthest (nI N) sums of sg = some (enc (-1) (bst (bit of) (fun c => (sg * sums c).toInt) N)) := by
  unfold f_X1_farthest
  exact far_lp hN sums of sg N 0 FU (by omega) (by unfold FU; omega)
theorem one_mul_nI (x : Int32) : (1 : Int32) * x = x := by grind
theorem m1_mul_nI {n : Nat} (h : n < 2 ^ 30) : ((-1 : Int32) * nI n).toInt = -(n : Int) := by
  have e : (-1 : Int32) * nI n = nI 0 - nI n := by rw [← L0]; grind
  rw [e, pk_sub_toInt (by decide) h]
  omega
theorem most1 {g : Geo} (hg : g.ok) {S : Int64} {sums : Nat → Int32} (hS : HOk g S sums) (of : Int64) : f_X1_most (nI g.N) sums of = some (enc (-1) (mo g of S)) := by
  unfold f_X1_most mo
  rw [farthest1 (Geo.N_le hg), Option.bind_some]
  congr 2
  refine bst_cong (fun _ _ => rfl) (fun c hc => ?_)
  have := hs_le hg S c
  rw [hS c hc, one_mul_nI, nI_toInt (by omega)]
theorem least1 {g : Geo} (hg : g.ok) {S : Int64} {sums : Nat → Int32} (hS : HOk g S sums) (of : Int64) : f_X1_least (nI g.N) sums of = some (enc (-1) (lo g of S)) := by
  unfold f_X1_least lo
  rw [farthest1 (Geo.N_le hg), Option.bind_some]
  congr 2
  refine bst_cong (fun _ _ => rfl) (fun c hc => ?_)
  have := hs_le hg S c
  rw [hS c hc, m1_mul_nI (by omega)]
/-! the model's -/
theorem ext_lp {g : Geo} {told : Nat → Int32} (hg : g.ok) (hT : RepT g told) (of by_ : Int64) (most : Bool) : ∀ (d i fu : Nat), i + d = g.N → d < fu →
    lp_X10_extremeOf_10 told of by_ (if most = true then 1 else 0) fu (enc (-9) (bst (bit of) (fun c => if most = true then (hs g by_ c : Int) else -(hs g by_ c : Int)) i)) (val0 (fun c => nI (hs g by_ c)) (bst (bit of) (fun c => if most = true then (hs g by_ c : Int) else -(hs g by_ c : Int)) i)) (nI i) = some (enc (-9) (bst (bit of) (fun c => if most = true then (hs g by_ c : Int) else -(hs g by_ c : Int)) g.N)) := by
  have hN := Geo.N_le hg
  intro d
  induction d with
  | zero =>
    intro i fu hi hf
    obtain ⟨n, rfl⟩ : ∃ n, fu = n + 1 := ⟨fu - 1, by omega⟩
    have hi : i = g.N := by omega
    subst hi
    rw [lp_X10_extremeOf_10_s, cells10 hT, Option.bind_some, if_pos (nI_le (Nat.le_refl _) (by omega))]
  | succ d ih =>
    intro i fu hi hf
    obtain ⟨n, rfl⟩ : ∃ n, fu = n + 1 := ⟨fu - 1, by omega⟩
    have h1 := ih (i + 1) n (by omega) (by omega)
    rw [lp_X10_extremeOf_10_s, cells10 hT, Option.bind_some, ite_le (by omega) (by omega), if_neg (by omega), has10 of (by omega), Option.bind_some]
    by_cases hb : bit of i = true
    · rw [if_neg (by rw [if_pos hb]; decide), heldBy10 hg hT by_ (by omega), Option.bind_some]
      rw [bst, if_pos hb] at h1
      have t1 : ∀ (k10 : Int32 → Int32 → Int32 → Option Int32) (a b : Int32), j_X10_extremeOf_71 k10 a b (nI i) (nI (hs g by_ i)) 1 = k10 (nI i) (nI (hs g by_ i)) (nI (i + 1)) := by
        intro k10 a b
        unfold j_X10_extremeOf_71 j_X10_extremeOf_85
        rw [if_neg (by decide), if_neg (by decide), nI_1]
      have t0 : ∀ (k10 : Int32 → Int32 → Int32 → Option Int32) (a b : Int32), j_X10_extremeOf_71 k10 a b (nI i) (nI (hs g by_ i)) 0 = k10 a b (nI (i + 1)) := by
        intro k10 a b
        unfold j_X10_extremeOf_71 j_X10_extremeOf_85
        rw [if_pos rfl, if_pos rfl, nI_1]
      simp only [t1, t0]
      have hi2 := hs_le hg by_ i
      cases ho : bst (bit of) (fun c => if most = true then (hs g by_ c : Int) else -(hs g by_ c : Int)) i with
      | none =>
        rw [ho] at h1
        rw [if_pos (show enc (-9) none = -9 from rfl)]
        exact h1
      | some b =>
        rw [ho] at h1
        have hlt := (bst_some ho).1
        have hb2 := hs_le hg by_ b
        rw [if_neg (show ¬ enc (-9) (some b) = -9 from nI_ne_neg (by omega) (by decide))]
        show (if (if most = true then 1 else 0 : Int32) = 0 then (if nI (hs g by_ b) ≤ nI (hs g by_ i) then _ else _) else (if nI (hs g by_ i) ≤ nI (hs g by_ b) then _ else _)) = _
        rw [ite_le (by omega) (by omega), ite_le (by omega) (by omega)]
        cases most with
        | true =>
          rw [if_neg (by decide)]
          simp only [↓reduceIte] at h1 ⊢
          by_cases hv : hs g by_ i ≤ hs g by_ b
          · rw [if_pos hv]
            rw [if_neg (by omega)] at h1
            exact h1
          · rw [if_neg hv]
            rw [if_pos (by omega)] at h1
            exact h1
        | false =>
          rw [if_pos (by decide)]
          simp only [Bool.false_eq_true, ↓reduceIte] at h1 ⊢
          by_cases hv : hs g by_ b ≤ hs g by_ i
          · rw [if_pos hv]
            rw [if_neg (by omega)] at h1
            exact h1
          · rw [if_neg hv]
            rw [if_pos (by omega)] at h1
            exact h1
    · rw [if_pos (by rw [if_neg hb]), nI_1]
      rw [bst, if_neg hb] at h1
      exact h1
theorem extreme_most {g : Geo} {told : Nat → Int32} (hg : g.ok) (hT : RepT g told) (of by_ : Int64) : f_X10_extremeOf told of by_ 1 = some (enc (-9) (mo g of by_)) := by
  have := Geo.N_le hg
  have h := ext_lp hg hT of by_ true g.N 0 FU (by omega) (by unfold FU; omega)
  simp only [↓reduceIte] at h
  unfold f_X10_extremeOf mo
  exact h
theorem extreme_least {g : Geo} {told : Nat → Int32} (hg : g.ok) (hT : RepT g told) (of by_ : Int64) : f_X10_extremeOf told of by_ 0 = some (enc (-9) (lo g of by_)) := by
  have := Geo.N_le hg
  have h := ext_lp hg hT of by_ false g.N 0 FU (by omega) (by unfold FU; omega)
  simp only [Bool.false_eq_true, ↓reduceIte] at h
  unfold f_X10_extremeOf lo
  exact h
theorem tightest10 {g : Geo} {told : Nat → Int32} (hg : g.ok) (hT : RepT g told) (S : Int64) : f_X10_tightest told S = some (enc (-9) (mo g S S)) := by
  unfold f_X10_tightest
  rw [extreme_most hg hT, Option.bind_some]
