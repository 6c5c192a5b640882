/-! The grid: distances and weights, in numbers. -/
theorem ite_le {α : Type} {a b : Nat} (ha : a < 2 ^ 31) (hb : b < 2 ^ 31) (x y : α) : (if nI a ≤ nI b then x else y) = if a ≤ b then x else y := by
  by_cases h : a ≤ b
  · rw [if_pos h, if_pos ((nI_leI ha hb).mpr h)]
  · rw [if_neg h, if_neg (fun q => h ((nI_leI ha hb).mp q))]
theorem ite_lt {α : Type} {a b : Nat} (ha : a < 2 ^ 31) (hb : b < 2 ^ 31) (x y : α) : (if nI a < nI b then x else y) = if a < b then x else y := by
  by_cases h : a < b
  · rw [if_pos h, if_pos ((nI_ltI ha hb).mpr h)]
  · rw [if_neg h, if_neg (fun q => h ((nI_ltI ha hb).mp q))]
theorem ite_eq {α : Type} {a b : Nat} (ha : a < 2 ^ 31) (hb : b < 2 ^ 31) (x y : α) : (if nI a = nI b then x else y) = if a = b then x else y := by
  by_cases h : a = b
  · rw [if_pos h, if_pos ((nI_eq ha hb).mpr h)]
  · rw [if_neg h, if_neg (fun q => h ((nI_eq ha hb).mp q))]
def Geo : Type := Nat × Nat × Nat × Nat × Nat × Nat × Nat
def Geo.W (g : Geo) : Nat := g.1
def Geo.H (g : Geo) : Nat := g.2.1
def Geo.ke (g : Geo) : Nat := g.2.2.1
def Geo.po (g : Geo) : Nat := g.2.2.2.1
def Geo.fa (g : Geo) : Nat := g.2.2.2.2.1
def Geo.ax (g : Geo) : Nat := g.2.2.2.2.2.1
def Geo.ay (g : Geo) : Nat := g.2.2.2.2.2.2
def Geo.ok (g : Geo) : Prop := (1 ≤ g.W ∧ g.W ≤ 8) ∧ (1 ≤ g.H ∧ g.H ≤ 8) ∧ g.ke ≤ 2 ∧ (1 ≤ g.po ∧ g.po ≤ 999) ∧ (1 ≤ g.fa ∧ g.fa ≤ 99) ∧ (1 ≤ g.ax ∧ g.ax ≤ 4) ∧ (1 ≤ g.ay ∧ g.ay ≤ 4)
def Geo.N (g : Geo) : Nat := g.W * g.H
def adif (a b : Nat) : Nat := if a ≤ b then b - a else a - b
def rnd (n d : Nat) : Nat := if n - d ≤ d then n - d else d
def Geo.dxy (g : Geo) (dx dy : Nat) : Nat := g.ax * rnd g.W dx * rnd g.W dx + g.ay * rnd g.H dy * rnd g.H dy
def Geo.dst (g : Geo) (a b : Nat) : Nat := g.dxy (adif (a % g.W) (b % g.W)) (adif (a / g.W) (b / g.W))
def Geo.wgt (g : Geo) (d : Nat) : Nat := if g.ke = 0 then g.po / (1 + d) else if g.ke = 1 then g.po - g.fa * d else g.po / 2 ^ d
def Geo.wt (g : Geo) (a b : Nat) : Nat := g.wgt (g.dst a b)
theorem Geo.N_le {g : Geo} (h : g.ok) : g.N ≤ 64 := by
  have := Nat.mul_le_mul h.1.2 h.2.1.2
  exact this
theorem Geo.N_pos {g : Geo} (h : g.ok) : 1 ≤ g.N := Nat.mul_le_mul h.1.1 h.2.1.1
theorem adif_symm (a b : Nat) : adif a b = adif b a := by unfold adif; split <;> split <;> omega
theorem adif_lt {a b n : Nat} (ha : a < n) (hb : b < n) : adif a b < n := by unfold adif; split <;> omega
theorem adif_self (a : Nat) : adif a a = 0 := by unfold adif; simp
theorem rnd_le (n d : Nat) : rnd n d ≤ n / 2 := by unfold rnd; split <;> omega
theorem rnd_0 (n : Nat) : rnd n 0 = 0 := by unfold rnd; split <;> omega
theorem Geo.dst_symm (g : Geo) (a b : Nat) : g.dst a b = g.dst b a := by
  unfold Geo.dst
  rw [adif_symm (a % g.W), adif_symm (a / g.W)]
theorem Geo.wt_symm (g : Geo) (a b : Nat) : g.wt a b = g.wt b a := by unfold Geo.wt; rw [Geo.dst_symm]
theorem sq_le {a r : Nat} (ha : a ≤ 4) (hr : r ≤ 4) : a * r * r ≤ 64 := by
  have h1 : a * r ≤ 16 := Nat.mul_le_mul ha hr
  exact Nat.mul_le_mul h1 hr
theorem Geo.dxy_le {g : Geo} (h : g.ok) (dx dy : Nat) : g.dxy dx dy ≤ 128 := by
  have h1 := rnd_le g.W dx
  have h2 := rnd_le g.H dy
  obtain ⟨⟨w1, w2⟩, ⟨y1, y2⟩, -, -, -, ⟨a1, a2⟩, ⟨b1, b2⟩⟩ := h
  have h3 := sq_le a2 (show rnd g.W dx ≤ 4 by omega)
  have h4 := sq_le b2 (show rnd g.H dy ≤ 4 by omega)
  unfold Geo.dxy
  omega
theorem Geo.dst_le {g : Geo} (h : g.ok) (a b : Nat) : g.dst a b ≤ 128 := Geo.dxy_le h _ _
theorem Geo.wgt_le {g : Geo} (h : g.ok) (d : Nat) : g.wgt d ≤ 999 := by
  have h1 : g.po ≤ 999 := h.2.2.2.1.2
  unfold Geo.wgt
  have h2 := Nat.div_le_self g.po (1 + d)
  have h3 := Nat.div_le_self g.po (2 ^ d)
  split
  · omega
  · split <;> omega
theorem Geo.wt_le {g : Geo} (h : g.ok) (a b : Nat) : g.wt a b ≤ 999 := Geo.wgt_le h _
theorem Geo.mod_lt {g : Geo} (h : g.ok) (a : Nat) : a % g.W < g.W := Nat.mod_lt _ h.1.1
theorem Geo.div_lt {g : Geo} {a : Nat} (ha : a < g.N) : a / g.W < g.H := Nat.div_lt_of_lt_mul ha
/-- what the model was told -/
def RepT (g : Geo) (told : Nat → Int32) : Prop := told 0 = nI g.W ∧ told 1 = nI g.H ∧ told 2 = nI g.ke ∧ told 3 = nI g.po ∧ told 4 = nI g.fa ∧ told 5 = nI g.ax ∧ told 6 = nI g.ay
theorem T0 : (0 : Int32).toNatClampNeg = 0 := by decide
theorem T1 : (1 : Int32).toNatClampNeg = 1 := by decide
theorem T2 : (2 : Int32).toNatClampNeg = 2 := by decide
theorem T3 : (3 : Int32).toNatClampNeg = 3 := by decide
theorem T4 : (4 : Int32).toNatClampNeg = 4 := by decide
theorem T5 : (5 : Int32).toNatClampNeg = 5 := by decide
theorem T6 : (6 : Int32).toNatClampNeg = 6 := by decide
theorem B0 : inb (0 : Int32) 7 = true := by decide
theorem B1 : inb (1 : Int32) 7 = true := by decide
theorem B2 : inb (2 : Int32) 7 = true := by decide
theorem B3 : inb (3 : Int32) 7 = true := by decide
theorem B4 : inb (4 : Int32) 7 = true := by decide
theorem B5 : inb (5 : Int32) 7 = true := by decide
theorem B6 : inb (6 : Int32) 7 = true := by decide
theorem L0 : (0 : Int32) = nI 0 := rfl
theorem L1 : (1 : Int32) = nI 1 := rfl
theorem cells10 {g : Geo} {told : Nat → Int32} (hT : RepT g told) : f_X10_cells told = some (nI g.N) := by
  unfold f_X10_cells
  simp only [B0, B1, T0, T1, ↓reduceIte, hT.1, hT.2.1, pk_mul]
  rfl
theorem round10 {n a b : Nat} (hn : n ≤ 1000) (ha : a < n) (hb : b < n) : f_X10_round (nI a) (nI b) (nI n) = some (nI (rnd n (adif a b))) := by
  have key : ∀ d, d ≤ n → j_X10_round_14 (nI n) (nI d) = some (nI (rnd n d)) := by
    intro d hd
    unfold j_X10_round_14 rnd
    rw [pk_sub hd, ite_le (by omega) (by omega)]
    split <;> rfl
  unfold f_X10_round adif
  rw [ite_le (by omega) (by omega)]
  by_cases h : a ≤ b
  · rw [if_pos h, if_pos h, pk_sub h]
    exact key _ (by omega)
  · rw [if_neg h, if_neg h, pk_sub (by omega)]
    exact key _ (by omega)
theorem distance10 {g : Geo} {told : Nat → Int32} (hg : g.ok) (hT : RepT g told) {a b : Nat} (ha : a < g.N) (hb : b < g.N) : f_X10_distance told (nI a) (nI b) = some (nI (g.dst a b)) := by
  have hN := Geo.N_le hg
  have hw : ¬ nI g.W = 0 := nI_ne0 hg.1.1 (by have := hg.1.2; omega)
  have w1 := hg.1.1
  have w2 := hg.1.2
  have y2 := hg.2.1.2
  unfold f_X10_distance
  simp only [B0, B1, B5, B6, T0, T1, T5, T6, ↓reduceIte, hT.1, hT.2.1, hT.2.2.2.2.2.1, hT.2.2.2.2.2.2, hw]
  rw [pk_rem (by omega) w1 (by omega), pk_rem (by omega) w1 (by omega), pk_div (by omega) w1 (by omega), pk_div (by omega) w1 (by omega)]
  rw [round10 (by omega) (Geo.mod_lt hg a) (Geo.mod_lt hg b), round10 (by omega) (Geo.div_lt ha) (Geo.div_lt hb)]
  simp only [Option.bind_some, pk_mul, nI_add]
  rfl
theorem half_lp {p : Nat} (hp : p ≤ 999) : ∀ (d i fu : Nat), d < fu → i + d ≤ 1000 → lp_X10_weight_65 (nI (i + d)) fu (nI (p / 2 ^ i)) (nI i) = some (nI (p / 2 ^ (i + d))) := by
  intro d
  induction d with
  | zero =>
    intro i fu hf hi
    obtain ⟨n, rfl⟩ : ∃ n, fu = n + 1 := ⟨fu - 1, by omega⟩
    rw [lp_X10_weight_65_s, if_pos (by rw [nI_leI (by omega) (by omega)]; omega)]
    rfl
  | succ d ih =>
    intro i fu hf hi
    obtain ⟨n, rfl⟩ : ∃ n, fu = n + 1 := ⟨fu - 1, by omega⟩
    have hle : p / 2 ^ i ≤ 999 := Nat.le_trans (Nat.div_le_self _ _) hp
    rw [lp_X10_weight_65_s, if_neg (by rw [nI_leI (by omega) (by omega)]; omega)]
    by_cases h0 : p / 2 ^ i = 0
    · rw [if_pos (by rw [h0]; decide), h0]
      have : p / 2 ^ (i + (d + 1)) = 0 := by
        have h1 : p / 2 ^ (i + (d + 1)) = p / 2 ^ i / 2 ^ (d + 1) := by rw [Nat.pow_add, Nat.div_div_eq_div_mul]
        rw [h1, h0, Nat.zero_div]
      rw [this]
    · rw [if_neg (nI_nle (Nat.pos_of_ne_zero h0) (by omega)), show (2 : Int32) = nI 2 from rfl, pk_div (by omega) (by decide) (by decide), Nat.div_div_eq_div_mul, ← Nat.pow_succ, nI_1]
      have := ih (i + 1) n (by omega) (by omega)
      rw [show i + 1 + d = i + (d + 1) by omega] at this
      exact this
theorem sub_pos_iff {a b : Nat} (ha : a < 2 ^ 30) (hb : b < 2 ^ 30) : ((0 : Int32) < nI a - nI b) ↔ b < a := by
  rw [Int32.lt_iff_toInt_lt, pk_sub_toInt ha hb]
  show (0 : Int) < _ ↔ _
  omega
theorem sub_nonpos_iff {a b : Nat} (ha : a < 2 ^ 30) (hb : b < 2 ^ 30) : (nI a - nI b ≤ (0 : Int32)) ↔ a ≤ b := by
  rw [Int32.le_iff_toInt_le, pk_sub_toInt ha hb]
  show _ ≤ (0 : Int) ↔ _
  omega
theorem fd_le {g : Geo} (hg : g.ok) {d : Nat} (hd : d ≤ 128) : g.fa * d ≤ 12672 := Nat.mul_le_mul hg.2.2.2.2.1.2 hd
theorem weight10 {g : Geo} {told : Nat → Int32} (hg : g.ok) (hT : RepT g told) {d : Nat} (hd : d ≤ 128) : f_X10_weight told (nI d) = some (nI (g.wgt d)) := by
  have hk := hg.2.2.1
  have hp := hg.2.2.2.1.2
  have hfd := fd_le hg hd
  unfold f_X10_weight Geo.wgt
  simp only [B2, B3, B4, T2, T3, T4, ↓reduceIte, hT.2.2.1, hT.2.2.2.1, hT.2.2.2.2.1, pk_mul]
  rw [L0, L1, ite_eq (by omega) (by omega), nI_add, ite_eq (by omega) (by omega), if_neg (show ¬ 1 + d = 0 by omega), ite_eq (by omega) (by omega)]
  by_cases h0 : g.ke = 0
  · rw [if_pos h0, if_pos h0, pk_div (by omega) (by omega) (by omega)]
  · rw [if_neg h0, if_neg h0]
    by_cases h1 : g.ke = 1
    · rw [if_pos h1, if_pos h1, ← L0]
      by_cases h2 : g.po ≤ g.fa * d
      · rw [if_pos ((sub_nonpos_iff (by omega) (by omega)).mpr h2), Nat.sub_eq_zero_of_le h2]; rfl
      · rw [if_neg (fun h => h2 ((sub_nonpos_iff (by omega) (by omega)).mp h)), pk_sub (by omega)]
    · rw [if_neg h1, if_neg h1]
      have := half_lp hp d 0 FU (by unfold FU; omega) (by omega)
      rw [Nat.zero_add, Nat.pow_zero, Nat.div_one] at this
      exact this
/-! the class's side -/
theorem distanceOf5 {g : Geo} (hg : g.ok) {dx dy : Nat} (hx : dx < g.W) (hy : dy < g.H) : f_X5_distanceOf (nI g.W) (nI g.H) (nI g.ax) (nI g.ay) (nI dx) (nI dy) = some (nI (g.dxy dx dy)) := by
  have w2 := hg.1.2
  have y2 := hg.2.1.2
  have key : ∀ {n d : Nat}, n ≤ 8 → d < n → (if nI n - nI d < nI d then nI n - nI d else nI d) = nI (rnd n d) := by
    intro n d hn hd
    rw [pk_sub (by omega), ite_lt (by omega) (by omega)]
    unfold rnd
    split <;> split <;> first | rfl | (congr 1; omega)
  unfold f_X5_distanceOf
  rw [key w2 hx, key y2 hy]
  simp only [pk_mul, nI_add]
  rfl
theorem weightOf5 {g : Geo} (hg : g.ok) {d : Nat} (hd : d ≤ 128) : f_X5_weightOf (nI g.ke) (nI g.po) (nI g.fa) (nI d) = some (nI (g.wgt d)) := by
  have hk := hg.2.2.1
  have hp := hg.2.2.2.1.2
  have hfd := fd_le hg hd
  unfold f_X5_weightOf Geo.wgt
  simp only [pk_mul]
  rw [L1, L0, nI_add, ite_le (by omega) (by omega), if_pos (show 1 ≤ 1 + d by omega), ite_eq (by omega) (by omega), ite_eq (by omega) (by omega), if_neg (show ¬ 1 + d = 0 by omega), ite_eq (by omega) (by omega)]
  by_cases h0 : g.ke = 0
  · rw [if_pos h0, if_pos h0, pk_div (by omega) (by omega) (by omega)]
  · rw [if_neg h0, if_neg h0]
    by_cases h1 : g.ke = 1
    · rw [if_pos h1, if_pos h1, ← L0]
      by_cases h2 : g.fa * d < g.po
      · rw [if_pos ((sub_pos_iff (by omega) (by omega)).mpr h2), pk_sub (by omega)]
      · rw [if_neg (fun h => h2 ((sub_pos_iff (by omega) (by omega)).mp h)), Nat.sub_eq_zero_of_le (by omega)]; rfl
    · rw [if_neg h1, if_neg h1, show (31 : Int32) = nI 31 from rfl, ite_lt (by omega) (by omega)]
      by_cases h3 : 31 < d
      · rw [if_pos h3, pk_shrN (by omega) _ 31 (by decide)]
        have e1 : g.po / 2 ^ 31 = 0 := Nat.div_eq_of_lt (by omega)
        have e2 : g.po / 2 ^ d = 0 := Nat.div_eq_of_lt (Nat.lt_of_lt_of_le (show g.po < 2 ^ 31 by omega) (Nat.pow_le_pow_right (by decide) (by omega)))
        rw [e1, e2]
      · rw [if_neg h3, show nI 31 = (31 : Int32) from rfl, pk_shrN (by omega) _ d (s_l d (by omega))]
