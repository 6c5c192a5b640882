/-! Bits of a long. -/
def bit (x : Int64) (k : Nat) : Bool := x.toBitVec.getLsbD k
theorem bit_and (x y : Int64) (k : Nat) : bit (x &&& y) k = (bit x k && bit y k) := by simp [bit]
theorem bit_or (x y : Int64) (k : Nat) : bit (x ||| y) k = (bit x k || bit y k) := by simp [bit]
theorem bit_xor (x y : Int64) (k : Nat) : bit (x ^^^ y) k = (bit x k ^^ bit y k) := by simp [bit]
theorem bit_big {x : Int64} {k : Nat} (h : 64 ≤ k) : bit x k = false := BitVec.getLsbD_of_ge _ _ h
theorem bit_lt {x : Int64} {k : Nat} (h : bit x k = true) : k < 64 := by
  rcases Nat.lt_or_ge k 64 with q | q
  · exact q
  · rw [bit_big q] at h; cases h
theorem bit_zero (k : Nat) : bit 0 k = false := by
  show (0#64).getLsbD k = false
  simp
theorem bit_m1 {k : Nat} (h : k < 64) : bit (-1) k = true := by
  have hm : (-1 : Int64).toBitVec = BitVec.allOnes 64 := by decide
  unfold bit
  rw [hm, BitVec.getLsbD_allOnes]
  simp [h]
theorem bit_not (x : Int64) {k : Nat} (h : k < 64) : bit (x ^^^ (-1)) k = !bit x k := by rw [bit_xor, bit_m1 h]; cases bit x k <;> rfl
theorem bit_ext {x y : Int64} (h : ∀ k, k < 64 → bit x k = bit y k) : x = y := Int64.toBitVec_inj.mp (BitVec.eq_of_getLsbD_eq h)
theorem lsh1_bv : ∀ k, k < 64 → (lsh 1 (nI k)).toBitVec = BitVec.twoPow 64 k := by decide +kernel
theorem bit_lsh1 {k : Nat} (hk : k < 64) (j : Nat) : bit (lsh 1 (nI k)) j = decide (j = k) := by
  unfold bit
  rw [lsh1_bv k hk, BitVec.getLsbD_twoPow]
  by_cases h : j = k
  · subst h; simp [hk]
  · simp [h, Ne.symm h]
theorem bit_set (x : Int64) {k : Nat} (hk : k < 64) (j : Nat) : bit (x ||| lsh 1 (nI k)) j = (bit x j || decide (j = k)) := by rw [bit_or, bit_lsh1 hk]
theorem bit_clr (x : Int64) {k : Nat} (hk : k < 64) (j : Nat) : bit (x &&& (lsh 1 (nI k) ^^^ (-1))) j = (bit x j && !decide (j = k)) := by
  rcases Nat.lt_or_ge j 64 with q | q
  · rw [bit_and, bit_not _ q, bit_lsh1 hk]
  · rw [bit_big q, bit_big q]; rfl
theorem bit_flp (x : Int64) {k : Nat} (hk : k < 64) (j : Nat) : bit (x ^^^ lsh 1 (nI k)) j = (bit x j ^^ decide (j = k)) := by rw [bit_xor, bit_lsh1 hk]
theorem lg_cmp_0 (x y : Int64) : lg_cmp x y = 0 ↔ x = y := by
  unfold lg_cmp
  by_cases h1 : x > y
  · rw [if_pos h1]
    constructor
    · intro h; exact absurd h (by decide)
    · intro h; subst h; exact (Int64.lt_irrefl h1).elim
  · rw [if_neg h1]
    by_cases h2 : x = y
    · rw [if_pos h2]; simp [h2]
    · rw [if_neg h2]
      constructor
      · intro h; exact absurd h (by decide)
      · intro h; exact absurd h h2
theorem lus_bit (x : Int64) {k : Nat} (hk : k < 64) : (lus x (nI k) &&& 1) = 0 ↔ bit x k = false := by
  unfold lus bit
  exact ts_bit hk (by rw [wb_cu k hk]; exact u_tn (by omega))
theorem has9 (x : Int64) {k : Nat} (hk : k < 64) : f_X9_has x (nI k) = some (if bit x k = true then 1 else 0) := by
  unfold f_X9_has
  by_cases h : bit x k = true
  · rw [if_pos h, if_neg]
    rw [lg_cmp_0, lus_bit x hk, h]; decide
  · have h' : bit x k = false := by simpa using h
    rw [if_neg h, if_pos]
    rw [lg_cmp_0, lus_bit x hk]; exact h'
theorem lsr_amt : ∀ k, k < 64 → ((nI k).toInt64 &&& 63).toBitVec.smod 64 = BitVec.ofNat 64 k := by decide +kernel
theorem lsr_bit (x : Int64) {k : Nat} (hk : k < 64) : (lsr x (nI k) &&& 1) = 1 ↔ bit x k = true := by
  have hb : (lsr x (nI k) &&& 1).toBitVec = (x.toBitVec.sshiftRight k) &&& 1#64 := by
    show (x.toBitVec.sshiftRight (((nI k).toInt64 &&& 63).toBitVec.smod 64).toNat) &&& 1#64 = _
    rw [lsr_amt k hk, BitVec.toNat_ofNat, Nat.mod_eq_of_lt (by omega)]
  have h0 : (x.toBitVec.sshiftRight k).getLsbD 0 = bit x k := by
    rw [BitVec.getLsbD_sshiftRight]
    simp [bit, hk]
  constructor
  · intro h
    have h1 : (x.toBitVec.sshiftRight k) &&& 1#64 = 1#64 := by rw [← hb, h]; rfl
    have h2 := congrArg (fun z => z.getLsbD 0) h1
    simp only [BitVec.getLsbD_and, h0] at h2
    simpa using h2
  · intro h
    apply Int64.toBitVec_inj.mp
    rw [hb]
    apply BitVec.eq_of_getLsbD_eq
    intro i hi
    rw [BitVec.getLsbD_and]
    show _ = (1#64).getLsbD i
    by_cases hz : i = 0
    · subst hz; rw [h0, h]; rfl
    · simp [BitVec.getLsbD_one, hz]
theorem has10 (x : Int64) {k : Nat} (hk : k < 64) : f_X10_has x (nI k) = some (if bit x k = true then 1 else 0) := by
  unfold f_X10_has
  by_cases h : bit x k = true
  · rw [if_pos h, if_pos]
    rw [lg_cmp_0, lsr_bit x hk]; exact h
  · rw [if_neg h, if_neg]
    rw [lg_cmp_0, lsr_bit x hk]; exact h
theorem if10 {c : Prop} [Decidable c] : ((if c then 1 else 0 : Int32) = 0) ↔ ¬ c := by
  by_cases h : c
  · rw [if_pos h]; simp [h]
  · rw [if_neg h]; simp [h]
/-- how many bits of x are set -/
def pc (x : Int64) : Nat := fb_ct (bit x) 64
theorem pc_le (x : Int64) : pc x ≤ 64 := fb_ct_le _ _
theorem inb_t {i n : Nat} (h : i < n) (hn : n ≤ 1000) : inb (nI i) n = true := by
  unfold inb
  rw [nI_clamp (by omega)]
  simp [nI_pos (n := i) (by omega), h]
theorem ones_lp (x : Int64) : ∀ (d i fu : Nat), i + d = 64 → d < fu → lp_X10_ones_4 x fu (nI (fb_ct (bit x) i)) (nI i) = some (nI (pc x)) := by
  intro d
  induction d with
  | zero =>
    intro i fu hi hf
    obtain ⟨n, rfl⟩ : ∃ n, fu = n + 1 := ⟨fu - 1, by omega⟩
    have hi : i = 64 := by omega
    subst hi
    rw [lp_X10_ones_4_s, if_pos (by decide)]
    rfl
  | succ d ih =>
    intro i fu hi hf
    obtain ⟨n, rfl⟩ : ∃ n, fu = n + 1 := ⟨fu - 1, by omega⟩
    rw [lp_X10_ones_4_s, if_neg (by rw [show (64 : Int32) = nI 64 from rfl, nI_leI (by omega) (by omega)]; omega), has10 x (by omega)]
    have h1 := ih (i + 1) n (by omega) (by omega)
    show (if (if bit x i = true then 1 else 0 : Int32) = 0 then _ else _) = _
    by_cases hb : bit x i = true
    · rw [if_neg (by rw [if_pos hb]; decide)]
      unfold j_X10_ones_24
      rw [nI_1, nI_1]
      rw [fb_ct_succ, if_pos hb] at h1
      exact h1
    · rw [if_pos (by rw [if_neg hb])]
      unfold j_X10_ones_24
      rw [nI_1, show (0 : Int32) = nI 0 from rfl, nI_add]
      rw [fb_ct_succ, if_neg hb] at h1
      exact h1
theorem ones10 (x : Int64) : f_X10_ones x = some (nI (pc x)) := by
  unfold f_X10_ones
  exact ones_lp x 64 0 FU (by omega) (by decide)
