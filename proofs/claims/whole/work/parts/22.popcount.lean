/-! Long.bitCount counts the bits. -/
def cb : Nat → Nat → Nat
  | 0, _ => 0
  | n + 1, x => x % 2 + cb n (x / 2)
theorem cb_mod : ∀ (a x : Nat), cb a (x % 2 ^ a) = cb a x
  | 0, _ => rfl
  | a + 1, x => by
    have h1 : x % 2 ^ (a + 1) % 2 = x % 2 := Nat.mod_mod_of_dvd x ⟨2 ^ a, by rw [Nat.pow_succ]; omega⟩
    have h2 : x % 2 ^ (a + 1) / 2 = x / 2 % 2 ^ a := by
      rw [Nat.pow_succ, Nat.mul_comm, Nat.mod_mul_right_div_self]
    rw [cb, cb, h1, h2, cb_mod a (x / 2)]
theorem cb_add : ∀ (a b x : Nat), cb (a + b) x = cb a x + cb b (x / 2 ^ a)
  | 0, b, x => by rw [Nat.zero_add, Nat.pow_zero, Nat.div_one, cb, Nat.zero_add]
  | a + 1, b, x => by
    rw [show a + 1 + b = (a + b) + 1 by omega, cb, cb, cb_add a b (x / 2), Nat.div_div_eq_div_mul, Nat.pow_succ, Nat.mul_comm 2 (2 ^ a), Nat.add_assoc]
theorem cb_le : ∀ (a x : Nat), cb a x ≤ a
  | 0, _ => Nat.le_refl 0
  | a + 1, x => by
    have := cb_le a (x / 2)
    rw [cb]; omega
theorem and_split (k a b : Nat) : a &&& b = 2 ^ k * ((a / 2 ^ k) &&& (b / 2 ^ k)) + ((a % 2 ^ k) &&& (b % 2 ^ k)) := by
  rw [← Nat.and_div_two_pow, ← Nat.and_mod_two_pow, Nat.div_add_mod]
def m1 : Nat → Nat | 0 => 0 | n + 1 => 4 * m1 n + 1
def m2 : Nat → Nat | 0 => 0 | n + 1 => 16 * m2 n + 3
def m3 : Nat → Nat | 0 => 0 | n + 1 => 256 * m3 n + 15
def d1 : Nat → Nat → Nat | 0, _ => 0 | n + 1, x => 4 * d1 n (x / 4) + cb 2 (x % 4)
def d2 : Nat → Nat → Nat | 0, _ => 0 | n + 1, x => 16 * d2 n (x / 16) + cb 4 (x % 16)
def d3 : Nat → Nat → Nat | 0, _ => 0 | n + 1, x => 256 * d3 n (x / 256) + cb 8 (x % 256)
theorem cb2 : ∀ d, d < 4 → cb 2 d = d - d / 2 := by decide
theorem cb4 : ∀ d, d < 16 → cb 4 d = cb 2 (d % 4) + cb 2 (d / 4) := by decide
theorem cb8 (d : Nat) (h : d < 256) : cb 8 d = cb 4 (d % 16) + cb 4 (d / 16) := by
  rw [show (8 : Nat) = 4 + 4 from rfl, cb_add 4 4 d, ← cb_mod 4 d]
theorem s1 : ∀ (n x : Nat), x < 4 ^ n → (x / 2 &&& m1 n) ≤ x ∧ x - (x / 2 &&& m1 n) = d1 n x
  | 0, x, h => by
    have : x = 0 := by simpa using h
    subst this
    decide
  | n + 1, x, h => by
    have ih := s1 n (x / 4) (by rw [Nat.pow_succ] at h; omega)
    have e : x / 2 &&& m1 (n + 1) = 4 * (x / 4 / 2 &&& m1 n) + (x / 2) % 2 := by
      rw [and_split 2]
      have h1 : x / 2 / 2 ^ 2 = x / 4 / 2 := by omega
      have h2 : m1 (n + 1) / 2 ^ 2 = m1 n := by rw [m1]; omega
      have h3 : m1 (n + 1) % 2 ^ 2 = 1 := by rw [m1]; omega
      rw [h1, h2, h3]
      have h4 : (x / 2 % 2 ^ 2) &&& 1 = x / 2 % 2 := by
        rw [Nat.and_one_is_mod]; omega
      rw [h4]
    have hc := cb2 (x % 4) (by omega)
    rw [e, d1, hc]
    omega
theorem d1_lt : ∀ (n x : Nat), d1 n x < 4 ^ n
  | 0, _ => by simp [d1]
  | n + 1, x => by
    have := d1_lt n (x / 4)
    have := cb_le 2 (x % 4)
    rw [d1, Nat.pow_succ]; omega
theorem s2 : ∀ (n x : Nat), (d1 (2 * n) x &&& m2 n) + (d1 (2 * n) x / 4 &&& m2 n) = d2 n x
  | 0, x => by simp [d1, d2, m2]
  | n + 1, x => by
    have ih := s2 n (x / 16)
    have hY : d1 (2 * (n + 1)) x = 16 * d1 (2 * n) (x / 16) + (4 * cb 2 (x / 4 % 4) + cb 2 (x % 4)) := by
      rw [show 2 * (n + 1) = (2 * n + 1) + 1 by omega, d1, d1, show x / 4 / 4 = x / 16 by omega]
      omega
    have h0 := cb_le 2 (x % 4)
    have h1 := cb_le 2 (x / 4 % 4)
    have hc := cb4 (x % 16) (by omega)
    rw [show x % 16 % 4 = x % 4 by omega, show x % 16 / 4 = x / 4 % 4 by omega] at hc
    rw [d2, hc, ← ih, hY]
    generalize cb 2 (x % 4) = c0 at *
    generalize cb 2 (x / 4 % 4) = c1 at *
    generalize d1 (2 * n) (x / 16) = q at *
    have e1 : (16 * q + (4 * c1 + c0)) &&& m2 (n + 1) = 16 * (q &&& m2 n) + c0 := by
      rw [and_split 4]
      have h1 : (16 * q + (4 * c1 + c0)) / 2 ^ 4 = q := by omega
      have h2 : m2 (n + 1) / 2 ^ 4 = m2 n := by rw [m2]; omega
      have h3 : m2 (n + 1) % 2 ^ 4 = 2 ^ 2 - 1 := by rw [m2]; omega
      rw [h1, h2, h3, Nat.and_two_pow_sub_one_eq_mod]
      omega
    have e2 : ((16 * q + (4 * c1 + c0)) / 4) &&& m2 (n + 1) = 16 * (q / 4 &&& m2 n) + c1 := by
      rw [and_split 4]
      have h1 : (16 * q + (4 * c1 + c0)) / 4 / 2 ^ 4 = q / 4 := by omega
      have h2 : m2 (n + 1) / 2 ^ 4 = m2 n := by rw [m2]; omega
      have h3 : m2 (n + 1) % 2 ^ 4 = 2 ^ 2 - 1 := by rw [m2]; omega
      rw [h1, h2, h3, Nat.and_two_pow_sub_one_eq_mod]
      omega
    rw [e1, e2]
    omega
theorem d2_low : ∀ (n x : Nat), d2 n x % 16 ≤ 4
  | 0, _ => by simp [d2]
  | n + 1, x => by
    have := cb_le 4 (x % 16)
    rw [d2]; omega
theorem d2_lt : ∀ (n x : Nat), d2 n x < 16 ^ n
  | 0, _ => by simp [d2]
  | n + 1, x => by
    have := d2_lt n (x / 16)
    have := cb_le 4 (x % 16)
    rw [d2, Nat.pow_succ]; omega
theorem s3 : ∀ (n x : Nat), (d2 (2 * n) x + d2 (2 * n) x / 16) &&& m3 n = d3 n x
  | 0, x => by simp [d2, d3, m3]
  | n + 1, x => by
    have ih := s3 n (x / 256)
    have hY : d2 (2 * (n + 1)) x = 256 * d2 (2 * n) (x / 256) + (16 * cb 4 (x / 16 % 16) + cb 4 (x % 16)) := by
      rw [show 2 * (n + 1) = (2 * n + 1) + 1 by omega, d2, d2, show x / 16 / 16 = x / 256 by omega]
      omega
    have h0 := cb_le 4 (x % 16)
    have h1 := cb_le 4 (x / 16 % 16)
    have hl := d2_low (2 * n) (x / 256)
    have hc := cb8 (x % 256) (by omega)
    rw [show x % 256 % 16 = x % 16 by omega, show x % 256 / 16 = x / 16 % 16 by omega] at hc
    rw [d3, hc, ← ih, hY]
    generalize cb 4 (x % 16) = c0 at *
    generalize cb 4 (x / 16 % 16) = c1 at *
    generalize d2 (2 * n) (x / 256) = q at *
    rw [and_split 8]
    have h1 : (256 * q + (16 * c1 + c0) + (256 * q + (16 * c1 + c0)) / 16) / 2 ^ 8 = q + q / 16 := by omega
    have h2 : m3 (n + 1) / 2 ^ 8 = m3 n := by rw [m3]; omega
    have h3 : m3 (n + 1) % 2 ^ 8 = 2 ^ 4 - 1 := by rw [m3]; omega
    rw [h1, h2, h3, Nat.and_two_pow_sub_one_eq_mod]
    omega
theorem pc_cb (n : Nat) (hn : n < 2 ^ 64) : pc (lN n) = cb 64 n := by
  have key : ∀ k, fb_ct (bit (lN n)) k = cb k n := by
    intro k
    induction k with
    | zero => rfl
    | succ k ih =>
      rw [fb_ct_succ, ih, cb_add k 1 n]
      have hb : bit (lN n) k = n.testBit k := by
        unfold bit
        rw [wb_tb, BitVec.getLsbD_ofNat]
        rcases Nat.lt_or_ge k 64 with q | q
        · simp [q]
        · rw [Nat.testBit_lt_two_pow (Nat.lt_of_lt_of_le hn (Nat.pow_le_pow_right (by decide) q))]
          simp
      rw [hb, Nat.testBit_eq_decide_div_mod_eq]
      show _ = cb k n + (n / 2 ^ k % 2 + cb 0 _)
      have h2 : n / 2 ^ k % 2 < 2 := Nat.mod_lt _ (by decide)
      by_cases h : n / 2 ^ k % 2 = 1
      · rw [h]; simp [cb]
      · have : n / 2 ^ k % 2 = 0 := by omega
        rw [this]; simp [cb]
  exact key 64
theorem bitCount13 (x : Int64) : f_J13_bitCount_95d88 x = some (nI (pc x)) := by
  obtain ⟨n, hn, rfl⟩ := wb_of x
  rw [pc_cb n hn]
  have hs1 := s1 32 n (by omega)
  have e1 : lN n - (lus (lN n) 1 &&& 6148914691236517205) = lN (d1 32 n) := by
    have : lus (lN n) 1 = lN (n / 2 ^ 1) := wb_shr (k := 1) hn (by decide)
    rw [this, show (6148914691236517205 : Int64) = lN (m1 32) from by decide +kernel, fb_andL, lN_sub (by rw [Nat.pow_one]; exact hs1.1), Nat.pow_one, hs1.2]
  have hd1 := d1_lt 32 n
  have e2 : (lN (d1 32 n) &&& 3689348814741910323) + (lus (lN (d1 32 n)) 2 &&& 3689348814741910323) = lN (d2 16 n) := by
    have : lus (lN (d1 32 n)) 2 = lN (d1 32 n / 2 ^ 2) := wb_shr (k := 2) (by omega) (by decide)
    rw [this, show (3689348814741910323 : Int64) = lN (m2 16) from by decide +kernel, fb_andL, fb_andL, lN_add]
    exact congrArg lN (s2 16 n)
  have hd2 := d2_lt 16 n
  have e3 : (lN (d2 16 n) + lus (lN (d2 16 n)) 4) &&& 1085102592571150095 = lN (d3 8 n) := by
    have : lus (lN (d2 16 n)) 4 = lN (d2 16 n / 2 ^ 4) := wb_shr (k := 4) (by omega) (by decide)
    rw [this, show (1085102592571150095 : Int64) = lN (m3 8) from by decide +kernel, lN_add, fb_andL]
    exact congrArg lN (s3 8 n)
  unfold f_J13_bitCount_95d88
  rw [e1, e2, e3]
  have hc : cb 64 n = cb 8 n + (cb 8 (n / 2 ^ 8) + (cb 8 (n / 2 ^ 8 / 2 ^ 8) + (cb 8 (n / 2 ^ 8 / 2 ^ 8 / 2 ^ 8) + (cb 8 (n / 2 ^ 8 / 2 ^ 8 / 2 ^ 8 / 2 ^ 8) + (cb 8 (n / 2 ^ 8 / 2 ^ 8 / 2 ^ 8 / 2 ^ 8 / 2 ^ 8) + (cb 8 (n / 2 ^ 8 / 2 ^ 8 / 2 ^ 8 / 2 ^ 8 / 2 ^ 8 / 2 ^ 8) + cb 8 (n / 2 ^ 8 / 2 ^ 8 / 2 ^ 8 / 2 ^ 8 / 2 ^ 8 / 2 ^ 8 / 2 ^ 8))))))) := by
    rw [show (64 : Nat) = 8 + (8 + (8 + (8 + (8 + (8 + (8 + 8)))))) from rfl, cb_add, cb_add, cb_add, cb_add, cb_add, cb_add, cb_add]
  have hd : d3 8 n = cb 8 n + 256 * (cb 8 (n / 2 ^ 8) + 256 * (cb 8 (n / 2 ^ 8 / 2 ^ 8) + 256 * (cb 8 (n / 2 ^ 8 / 2 ^ 8 / 2 ^ 8) + 256 * (cb 8 (n / 2 ^ 8 / 2 ^ 8 / 2 ^ 8 / 2 ^ 8) + 256 * (cb 8 (n / 2 ^ 8 / 2 ^ 8 / 2 ^ 8 / 2 ^ 8 / 2 ^ 8) + 256 * (cb 8 (n / 2 ^ 8 / 2 ^ 8 / 2 ^ 8 / 2 ^ 8 / 2 ^ 8 / 2 ^ 8) + 256 * cb 8 (n / 2 ^ 8 / 2 ^ 8 / 2 ^ 8 / 2 ^ 8 / 2 ^ 8 / 2 ^ 8 / 2 ^ 8))))))) := by
    have hm : ∀ z, cb 8 (z % 256) = cb 8 z := fun z => cb_mod 8 z
    simp only [d3, hm, show (2 : Nat) ^ 8 = 256 from rfl]
    omega
  have b0 := cb_le 8 n
  have b1 := cb_le 8 (n / 2 ^ 8)
  have b2 := cb_le 8 (n / 2 ^ 8 / 2 ^ 8)
  have b3 := cb_le 8 (n / 2 ^ 8 / 2 ^ 8 / 2 ^ 8)
  have b4 := cb_le 8 (n / 2 ^ 8 / 2 ^ 8 / 2 ^ 8 / 2 ^ 8)
  have b5 := cb_le 8 (n / 2 ^ 8 / 2 ^ 8 / 2 ^ 8 / 2 ^ 8 / 2 ^ 8)
  have b6 := cb_le 8 (n / 2 ^ 8 / 2 ^ 8 / 2 ^ 8 / 2 ^ 8 / 2 ^ 8 / 2 ^ 8)
  have b7 := cb_le 8 (n / 2 ^ 8 / 2 ^ 8 / 2 ^ 8 / 2 ^ 8 / 2 ^ 8 / 2 ^ 8 / 2 ^ 8)
  rw [hd, hc]
  generalize cb 8 n = c0 at *
  generalize cb 8 (n / 2 ^ 8) = c1 at *
  generalize cb 8 (n / 2 ^ 8 / 2 ^ 8) = c2 at *
  generalize cb 8 (n / 2 ^ 8 / 2 ^ 8 / 2 ^ 8) = c3 at *
  generalize cb 8 (n / 2 ^ 8 / 2 ^ 8 / 2 ^ 8 / 2 ^ 8) = c4 at *
  generalize cb 8 (n / 2 ^ 8 / 2 ^ 8 / 2 ^ 8 / 2 ^ 8 / 2 ^ 8) = c5 at *
  generalize cb 8 (n / 2 ^ 8 / 2 ^ 8 / 2 ^ 8 / 2 ^ 8 / 2 ^ 8 / 2 ^ 8) = c6 at *
  generalize cb 8 (n / 2 ^ 8 / 2 ^ 8 / 2 ^ 8 / 2 ^ 8 / 2 ^ 8 / 2 ^ 8 / 2 ^ 8) = c7 at *
  clear hd hc e1 e2 e3 hs1 hd1 hd2
  generalize ht : c0 + 256 * (c1 + 256 * (c2 + 256 * (c3 + 256 * (c4 + 256 * (c5 + 256 * (c6 + 256 * c7)))))) = t
  have e4 : lN t + lus (lN t) 8 = lN (t + t / 256) := by
    have : lus (lN t) 8 = lN (t / 2 ^ 8) := wb_shr (k := 8) (by omega) (by decide)
    rw [this, lN_add]
  generalize ht2 : t + t / 256 = t2 at *
  have e5 : lN t2 + lus (lN t2) 16 = lN (t2 + t2 / 65536) := by
    have : lus (lN t2) 16 = lN (t2 / 2 ^ 16) := wb_shr (k := 16) (by omega) (by decide)
    rw [this, lN_add]
  generalize ht3 : t2 + t2 / 65536 = t3 at *
  have e6 : lN t3 + lus (lN t3) 32 = lN (t3 + t3 / 4294967296) := by
    have : lus (lN t3) 32 = lN (t3 / 2 ^ 32) := wb_shr (k := 32) (by omega) (by decide)
    rw [this, lN_add]
  rw [e4, e5, e6]
  congr 1
  rw [lN_i, show (127 : Int32) = nI (2 ^ 7 - 1) from rfl, fa_mask]
  congr 1
  have g1 : t / 256 = (c1) + 256 * ((c2) + 256 * ((c3) + 256 * ((c4) + 256 * ((c5) + 256 * ((c6) + 256 * (c7)))))) := by omega
  have g2 : t2 = (c0+c1) + 256 * ((c1+c2) + 256 * ((c2+c3) + 256 * ((c3+c4) + 256 * ((c4+c5) + 256 * ((c5+c6) + 256 * ((c6+c7) + 256 * (c7))))))) := by omega
  have g3 : t2 / 65536 = (c2+c3) + 256 * ((c3+c4) + 256 * ((c4+c5) + 256 * ((c5+c6) + 256 * ((c6+c7) + 256 * (c7))))) := by omega
  have g4 : t3 = (c0+c1+c2+c3) + 256 * ((c1+c2+c3+c4) + 256 * ((c2+c3+c4+c5) + 256 * ((c3+c4+c5+c6) + 256 * ((c4+c5+c6+c7) + 256 * ((c5+c6+c7) + 256 * ((c6+c7) + 256 * (c7))))))) := by omega
  have g5 : t3 / 4294967296 = (c4+c5+c6+c7) + 256 * ((c5+c6+c7) + 256 * ((c6+c7) + 256 * (c7))) := by omega
  rw [g5]
  clear g5 g3 g2 g1 e4 e5 e6 ht ht2 ht3
  subst g4
  omega
