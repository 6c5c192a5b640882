/-! Ranks: in which order cells come. -/
def clr (S : Int64) (k : Nat) : Int64 := S &&& (lsh 1 (nI k) ^^^ (-1))
def ins (S : Int64) (k : Nat) : Int64 := S ||| lsh 1 (nI k)
def Sub (S U : Int64) : Prop := ∀ k, bit S k = true → bit U k = true
theorem Sub.rfl' (S : Int64) : Sub S S := fun _ h => h
theorem Sub.trans {A B C : Int64} (h1 : Sub A B) (h2 : Sub B C) : Sub A C := fun k h => h2 k (h1 k h)
theorem Sub.inn {g : Geo} {S U : Int64} (h : Sub S U) (hU : Inn g U) : Inn g S := fun k hk => hU k (h k hk)
theorem xor_clr {S : Int64} {k : Nat} (hk : k < 64) (hb : bit S k = true) : S ^^^ lsh 1 (nI k) = clr S k := bit_ext (fun j _ => by
  unfold clr
  rw [bit_flp S hk, bit_clr S hk]
  by_cases h : j = k
  · subst h; rw [hb]; simp
  · simp [h])
theorem xor_ins {S : Int64} {k : Nat} (hk : k < 64) (hb : bit S k = false) : S ^^^ lsh 1 (nI k) = ins S k := bit_ext (fun j _ => by
  unfold ins
  rw [bit_flp S hk, bit_set S hk]
  by_cases h : j = k
  · subst h; rw [hb]; simp
  · simp [h])
theorem pc_clr {S : Int64} {k : Nat} (hk : k < 64) (hb : bit S k = true) : pc (clr S k) + 1 = pc S := by
  have h := fb_ct_upd (bit S) false (i := k) (n := 64) hk
  rw [if_pos hb, if_neg (by decide)] at h
  have e : pc (clr S k) = fb_ct (fun j => if j = k then false else bit S j) 64 := fb_ct_cong (fun j _ => by
    unfold clr
    rw [bit_clr S hk]
    by_cases hj : j = k
    · simp [hj]
    · simp [hj])
  rw [e]
  exact h
theorem pc_ins {S : Int64} {k : Nat} (hk : k < 64) (hb : bit S k = false) : pc (ins S k) = pc S + 1 := by
  have h := fb_ct_upd (bit S) true (i := k) (n := 64) hk
  rw [if_neg (by rw [hb]; decide), if_pos rfl] at h
  have e : pc (ins S k) = fb_ct (fun j => if j = k then true else bit S j) 64 := fb_ct_cong (fun j _ => by
    unfold ins
    rw [bit_set S hk]
    by_cases hj : j = k
    · simp [hj]
    · simp [hj])
  rw [e]
  exact h
theorem pc_pos {S : Int64} (h : 0 < pc S) : ∃ k, k < 64 ∧ bit S k = true := fb_ct_pos.mp h
theorem pc_zero {S : Int64} (h : pc S = 0) : S = 0 := bit_ext (fun k hk => by rw [fb_ct_zero.mp h k hk, bit_zero])
theorem pc_of_ne {S : Int64} (h : S ≠ 0) : 0 < pc S := by
  rcases Nat.eq_zero_or_pos (pc S) with q | q
  · exact absurd (pc_zero q) h
  · exact q
theorem pc_sub {S U : Int64} (h : Sub S U) : pc S ≤ pc U := fb_ct_sub (fun k _ hk => h k hk)
theorem pc_lt {S U : Int64} (h : pc S < pc U) : ∃ k, k < 64 ∧ bit U k = true ∧ bit S k = false := by
  refine Classical.byContradiction fun hn => ?_
  have : pc U ≤ pc S := fb_ct_sub (fun k hk hb => by
    cases hs : bit S k with
    | true => rfl
    | false => exact absurd ⟨k, hk, hb, hs⟩ hn)
  omega
def tg (g : Geo) (S : Int64) : Nat := (mo g S S).getD 0
def pk (g : Geo) (free : Int64) (m : Nat) (S : Int64) : Nat := if m < (pc free + 1) / 2 then (lo g (free &&& (S ^^^ (-1))) S).getD 0 else (mo g (free &&& (S ^^^ (-1))) (free &&& (S ^^^ (-1)))).getD 0
def Tn (g : Geo) (D : Int64) : Nat → Int64
  | 0 => D
  | i + 1 => clr (Tn g D i) (tg g (Tn g D i))
def Fn (g : Geo) (free D : Int64) : Nat → Int64
  | 0 => D
  | i + 1 => ins (Fn g free D i) (pk g free (pc D + i) (Fn g free D i))
/-- the cell of a rank -/
def od (g : Geo) (free D : Int64) (k : Nat) : Nat := if k < pc D then tg g (Tn g D (pc D - 1 - k)) else pk g free k (Fn g free D (k - pc D))
theorem bst_getD {P : Nat → Bool} {v : Nat → Int} {n k : Nat} (hk : k < n) (hp : P k = true) : bst P v n = some ((bst P v n).getD 0) ∧ (bst P v n).getD 0 < n ∧ P ((bst P v n).getD 0) = true := by
  obtain ⟨b, hb⟩ := bst_ex (v := v) hk hp
  have := bst_some hb
  rw [hb]
  exact ⟨rfl, this.1, this.2⟩
theorem tg_in {g : Geo} {S : Int64} (hS : Inn g S) (h : 0 < pc S) : mo g S S = some (tg g S) ∧ tg g S < g.N ∧ bit S (tg g S) = true := by
  obtain ⟨k, -, hb⟩ := pc_pos h
  exact bst_getD (hS k hb) hb
theorem bit_emp {free S : Int64} {k : Nat} (hk : k < 64) : bit (free &&& (S ^^^ (-1))) k = (bit free k && !bit S k) := by rw [bit_and, bit_not _ hk]
theorem emp_inn {g : Geo} {free : Int64} (hf : Inn g free) (S : Int64) : Inn g (free &&& (S ^^^ (-1))) := fun k h => hf k (by rw [bit_and] at h; cases hb : bit free k <;> simp_all)
theorem pkc_in {g : Geo} {free S : Int64} (hf : Inn g free) (h : pc S < pc free) (m : Nat) : (m < (pc free + 1) / 2 → lo g (free &&& (S ^^^ (-1))) S = some (pk g free m S)) ∧ (¬ m < (pc free + 1) / 2 → mo g (free &&& (S ^^^ (-1))) (free &&& (S ^^^ (-1))) = some (pk g free m S)) ∧ pk g free m S < g.N ∧ bit free (pk g free m S) = true ∧ bit S (pk g free m S) = false := by
  obtain ⟨k, hk, hb1, hb2⟩ := pc_lt h
  have hb : bit (free &&& (S ^^^ (-1))) k = true := by rw [bit_emp hk, hb1, hb2]; rfl
  have hlt := hf k hb1
  unfold pk
  by_cases hm : m < (pc free + 1) / 2
  · obtain ⟨a1, a2, a3⟩ := bst_getD (P := bit (free &&& (S ^^^ (-1)))) (v := fun c => -(hs g S c : Int)) hlt hb
    have h64 := bit_lt a3
    rw [if_pos hm]
    rw [bit_emp h64, Bool.and_eq_true] at a3
    exact ⟨fun _ => a1, fun q => absurd hm q, a2, a3.1, (Bool.not_eq_true' _).mp a3.2⟩
  · obtain ⟨a1, a2, a3⟩ := bst_getD (P := bit (free &&& (S ^^^ (-1)))) (v := fun c => (hs g (free &&& (S ^^^ (-1))) c : Int)) hlt hb
    have h64 := bit_lt a3
    rw [if_neg hm]
    rw [bit_emp h64, Bool.and_eq_true] at a3
    exact ⟨fun q => absurd q hm, fun _ => a1, a2, a3.1, (Bool.not_eq_true' _).mp a3.2⟩
theorem Tn_ok {g : Geo} {D : Int64} (hD : Inn g D) : ∀ i, i ≤ pc D → pc (Tn g D i) = pc D - i ∧ Sub (Tn g D i) D
  | 0, _ => ⟨rfl, Sub.rfl' D⟩
  | i + 1, h => by
    obtain ⟨h1, h2⟩ := Tn_ok hD i (by omega)
    obtain ⟨-, -, a3⟩ := tg_in (h2.inn hD) (by omega)
    have h64 := bit_lt a3
    have h3 := pc_clr h64 a3
    refine ⟨by rw [Tn]; omega, fun k hk => h2 k ?_⟩
    rw [Tn, clr, bit_clr _ h64, Bool.and_eq_true] at hk
    exact hk.1
theorem Tn_tg {g : Geo} {D : Int64} (hD : Inn g D) {i : Nat} (h : i < pc D) : mo g (Tn g D i) (Tn g D i) = some (tg g (Tn g D i)) ∧ tg g (Tn g D i) < g.N ∧ bit (Tn g D i) (tg g (Tn g D i)) = true := by
  obtain ⟨h1, h2⟩ := Tn_ok hD i (by omega)
  exact tg_in (h2.inn hD) (by omega)
theorem Tn_mono {g : Geo} {D : Int64} (hD : Inn g D) {i : Nat} : ∀ j, i + j ≤ pc D → Sub (Tn g D (i + j)) (Tn g D i)
  | 0, _ => Sub.rfl' _
  | j + 1, h => by
    have ih := Tn_mono hD (i := i) j (by omega)
    obtain ⟨-, -, a3⟩ := Tn_tg hD (i := i + j) (by omega)
    intro k hk
    refine ih k ?_
    rw [← Nat.add_assoc, Tn, clr, bit_clr _ (bit_lt a3), Bool.and_eq_true] at hk
    exact hk.1
theorem Fn_ok {g : Geo} {free D : Int64} (hf : Inn g free) (hD : Sub D free) : ∀ i, pc D + i ≤ pc free → pc (Fn g free D i) = pc D + i ∧ Sub (Fn g free D i) free
  | 0, _ => ⟨rfl, hD⟩
  | i + 1, h => by
    obtain ⟨h1, h2⟩ := Fn_ok hf hD i (by omega)
    obtain ⟨-, -, a3, a4, a5⟩ := pkc_in (S := Fn g free D i) hf (by omega) (pc D + i)
    have h64 := bit_lt a4
    have h3 := pc_ins h64 a5
    refine ⟨by rw [Fn]; omega, fun k hk => ?_⟩
    rw [Fn, ins, bit_set _ h64, Bool.or_eq_true, decide_eq_true_eq] at hk
    rcases hk with q | q
    · exact h2 k q
    · rw [q]; exact a4
theorem Fn_pk {g : Geo} {free D : Int64} (hf : Inn g free) (hD : Sub D free) {i : Nat} (h : pc D + i < pc free) : (pc D + i < (pc free + 1) / 2 → lo g (free &&& (Fn g free D i ^^^ (-1))) (Fn g free D i) = some (pk g free (pc D + i) (Fn g free D i))) ∧ (¬ pc D + i < (pc free + 1) / 2 → mo g (free &&& (Fn g free D i ^^^ (-1))) (free &&& (Fn g free D i ^^^ (-1))) = some (pk g free (pc D + i) (Fn g free D i))) ∧ pk g free (pc D + i) (Fn g free D i) < g.N ∧ bit free (pk g free (pc D + i) (Fn g free D i)) = true ∧ bit (Fn g free D i) (pk g free (pc D + i) (Fn g free D i)) = false := by
  obtain ⟨h1, h2⟩ := Fn_ok hf hD i (by omega)
  exact pkc_in hf (by omega) _
theorem Fn_mono {g : Geo} {free D : Int64} (hf : Inn g free) (hD : Sub D free) {i : Nat} : ∀ j, pc D + (i + j) ≤ pc free → Sub (Fn g free D i) (Fn g free D (i + j))
  | 0, _ => Sub.rfl' _
  | j + 1, h => by
    have ih := Fn_mono hf hD (i := i) j (by omega)
    obtain ⟨-, -, -, a4, -⟩ := Fn_pk hf hD (i := i + j) (by omega)
    intro k hk
    rw [← Nat.add_assoc, Fn, ins, bit_set _ (bit_lt a4), ih k hk]
    rfl
theorem od_lo {g : Geo} {free D : Int64} {i : Nat} (h : i < pc D) : od g free D (pc D - 1 - i) = tg g (Tn g D i) := by
  unfold od
  rw [if_pos (by omega)]
  congr 2
  omega
theorem od_hi {g : Geo} {free D : Int64} (i : Nat) : od g free D (pc D + i) = pk g free (pc D + i) (Fn g free D i) := by
  unfold od
  rw [if_neg (by omega)]
  congr 2
  omega
theorem od_free {g : Geo} {free D : Int64} (hf : Inn g free) (hD : Sub D free) {k : Nat} (hk : k < pc free) : bit free (od g free D k) = true := by
  rcases Nat.lt_or_ge k (pc D) with q | q
  · obtain ⟨i, hi, rfl⟩ : ∃ i, i < pc D ∧ k = pc D - 1 - i := ⟨pc D - 1 - k, by omega, by omega⟩
    rw [od_lo hi]
    obtain ⟨-, -, a3⟩ := Tn_tg (hD.inn hf) hi
    exact hD _ ((Tn_ok (hD.inn hf) i (by omega)).2 _ a3)
  · obtain ⟨i, rfl⟩ : ∃ i, k = pc D + i := ⟨k - pc D, by omega⟩
    rw [od_hi]
    exact (Fn_pk hf hD hk).2.2.2.1
theorem od_lt {g : Geo} {free D : Int64} (hf : Inn g free) (hD : Sub D free) {k : Nat} (hk : k < pc free) : od g free D k < g.N := hf _ (od_free hf hD hk)
theorem od_inj {g : Geo} {free D : Int64} (hf : Inn g free) (hD : Sub D free) {k k' : Nat} (h : k < k') (hk : k' < pc free) : od g free D k ≠ od g free D k' := by
  have hDi := hD.inn hf
  rcases Nat.lt_or_ge k' (pc D) with q | q
  · -- both thinned: k' goes first
    obtain ⟨j, hj, rfl⟩ : ∃ j, j < pc D ∧ k' = pc D - 1 - j := ⟨pc D - 1 - k', by omega, by omega⟩
    obtain ⟨d, hd, rfl⟩ : ∃ d, j + 1 + d < pc D ∧ k = pc D - 1 - (j + 1 + d) := ⟨pc D - 1 - k - (j + 1), by omega, by omega⟩
    rw [od_lo hj, od_lo hd]
    obtain ⟨-, -, a3⟩ := Tn_tg hDi hj
    obtain ⟨-, -, b3⟩ := Tn_tg hDi hd
    have hm := Tn_mono hDi (i := j + 1) d (by omega) _ b3
    intro he
    rw [he, Tn, clr, bit_clr _ (bit_lt a3)] at hm
    simp at hm
  · obtain ⟨j, rfl⟩ : ∃ j, k' = pc D + j := ⟨k' - pc D, by omega⟩
    obtain ⟨-, -, -, b4, b5⟩ := Fn_pk hf hD hk
    rw [od_hi]
    rcases Nat.lt_or_ge k (pc D) with q2 | q2
    · obtain ⟨i, hi, rfl⟩ : ∃ i, i < pc D ∧ k = pc D - 1 - i := ⟨pc D - 1 - k, by omega, by omega⟩
      rw [od_lo hi]
      obtain ⟨-, -, a3⟩ := Tn_tg hDi hi
      have h1 := (Tn_ok hDi i (by omega)).2 _ a3
      have h2 := Fn_mono hf hD (i := 0) j (by omega) _ h1
      rw [Nat.zero_add] at h2
      intro he
      rw [← he, h2] at b5
      cases b5
    · obtain ⟨i, rfl⟩ : ∃ i, k = pc D + i := ⟨k - pc D, by omega⟩
      rw [od_hi]
      obtain ⟨-, -, -, a4, a5⟩ := Fn_pk hf hD (i := i) (by omega)
      obtain ⟨d, rfl⟩ : ∃ d, j = i + 1 + d := ⟨j - (i + 1), by omega⟩
      have h2 := Fn_mono hf hD (i := i + 1) d (by omega) (pk g free (pc D + i) (Fn g free D i)) (by
        rw [Fn, ins, bit_set _ (bit_lt a4)]; simp)
      intro he
      rw [← he, h2] at b5
      cases b5
theorem od_ne {g : Geo} {free D : Int64} (hf : Inn g free) (hD : Sub D free) {k k' : Nat} (h1 : k < pc free) (h2 : k' < pc free) (h : k ≠ k') : od g free D k ≠ od g free D k' := by
  rcases Nat.lt_or_ge k k' with q | q
  · exact od_inj hf hD q h2
  · exact (od_inj hf hD (show k' < k by omega) h1).symm
/-- each free cell has a rank -/
theorem od_onto {g : Geo} {free D : Int64} (hf : Inn g free) (hD : Sub D free) {c : Nat} (hc : bit free c = true) : ∃ k, k < pc free ∧ od g free D k = c := by
  -- the ranks' cells, as places among the free cells
  obtain ⟨i, hi, he⟩ := fb_onto (n := pc free) (f := fun k => fb_ct (bit free) (od g free D k)) (fun k hk => by
    have h1 := od_free hf hD hk
    have h2 : fb_ct (bit free) (od g free D k + 1) ≤ fb_ct (bit free) 64 := fb_ct_mono _ (bit_lt h1)
    rw [fb_ct_succ, if_pos h1] at h2
    exact h2) (fun i j hij hj he => od_inj hf hD hij hj (fb_ct_kth_one (od_free hf hD (by omega)) (od_free hf hD hj) he)) (y := fb_ct (bit free) c) (by
    have h2 : fb_ct (bit free) (c + 1) ≤ fb_ct (bit free) 64 := fb_ct_mono _ (bit_lt hc)
    rw [fb_ct_succ, if_pos hc] at h2
    exact h2)
  exact ⟨i, hi, fb_ct_kth_one (od_free hf hD hi) hc he⟩
