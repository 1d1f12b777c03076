/-! THE OPEN ARCS COUNTED -/
def nL6 (n : Nat) : Int64 := Int64.ofNat n
theorem lb_nL (n : Nat) {i : Nat} (hi : i < 64) : (nL6 n).toBitVec.getLsbD i = n.testBit i := by
  show (BitVec.ofNat 64 n).getLsbD i = _
  rw [BitVec.getLsbD_ofNat]
  simp [hi]
theorem l_ext {x y : Int64} (h : ∀ i, i < 64 → x.toBitVec.getLsbD i = y.toBitVec.getLsbD i) : x = y := Int64.toBitVec_inj.mp (BitVec.eq_of_getLsbD_eq (fun i hi => h i hi))
theorem l_and (a b : Nat) : nL6 a &&& nL6 b = nL6 (a &&& b) := l_ext fun i hi => by rw [lb_and, lb_nL _ hi, lb_nL _ hi, lb_nL _ hi, Nat.testBit_and]
theorem l_add (a b : Nat) : nL6 a + nL6 b = nL6 (a + b) := (Int64.ofNat_add a b).symm
theorem l_sub {a b : Nat} (h : b ≤ a) : nL6 a - nL6 b = nL6 (a - b) := by
  apply Int64.toBitVec_inj.mp
  show BitVec.ofNat 64 a - BitVec.ofNat 64 b = BitVec.ofNat 64 (a - b)
  apply BitVec.eq_of_toNat_eq
  simp only [BitVec.toNat_sub, BitVec.toNat_ofNat]
  omega
theorem l_of (x : Int64) : x = nL6 x.toBitVec.toNat := Int64.toBitVec_inj.mp (by show _ = BitVec.ofNat 64 _; simp)
theorem l_ush {a k : Nat} (ha : a < 2 ^ 64) (hk : k < 64) : lush (nL6 a) (nI k) = nL6 (a >>> k) := by
  refine l_ext fun i hi => ?_
  unfold lush
  rw [wb_cu k hk, lb_nL _ hi, Nat.testBit_shiftRight]
  have e : ((nL6 a).toUInt64 >>> UInt64.ofNat k).toInt64.toBitVec.getLsbD i = (nL6 a).toBitVec.getLsbD (k + i) := by
    show ((nL6 a).toBitVec >>> ((UInt64.ofNat k).toBitVec % 64)).getLsbD i = _
    have hs : ((UInt64.ofNat k).toBitVec % 64).toNat = k := by
      show (BitVec.ofNat 64 k % 64).toNat = k
      rw [BitVec.toNat_umod, BitVec.toNat_ofNat]
      show k % 2 ^ 64 % 64 = k
      omega
    rw [BitVec.ushiftRight_eq', BitVec.getLsbD_ushiftRight, hs]
  rw [e]
  by_cases h : k + i < 64
  · rw [lb_nL _ h]
  · rw [BitVec.getLsbD_of_ge _ _ (by omega), Nat.testBit_lt_two_pow]
    exact Nat.lt_of_lt_of_le ha (Nat.pow_le_pow_right (by omega) (by omega))
theorem l_i32 (n : Nat) : (nL6 n).toInt32 &&& (127 : Int32) = nI (n &&& 127) := by
  rw [show (127 : Int32) = nI 127 from rfl]
  refine b_ext fun i hi => ?_
  rw [b_and, bt_nI _ hi, bt_nI _ hi, Nat.testBit_and]
  congr 1
  show (nL6 n).toInt32.toBitVec.getLsbD i = _
  rw [Int64.toBitVec_toInt32, BitVec.getLsbD_signExtend, if_pos (show i < 64 by omega), decide_eq_true hi, Bool.true_and]
  exact lb_nL n (by omega)
/-! byte by byte -/
def rp (c : Nat) : Nat → Nat
  | 0 => 0
  | k + 1 => 256 * rp c k + c
theorem lane {q b m c s : Nat} (hb : b < 256) (hc : c < 2 ^ (8 - s)) (hs : s ≤ 8) : ((256 * q + b) >>> s) &&& (256 * m + c) = 256 * ((q >>> s) &&& m) + ((b >>> s) &&& c) := by
  have hc8 : c < 2 ^ 8 := Nat.lt_of_lt_of_le hc (Nat.pow_le_pow_right (by omega) (by omega))
  have hlow : ((b >>> s) &&& c) < 2 ^ 8 := Nat.lt_of_le_of_lt Nat.and_le_right hc8
  refine Nat.eq_of_testBit_eq fun j => ?_
  rw [show 256 = 2 ^ 8 from rfl, Nat.testBit_and, Nat.testBit_shiftRight, Nat.testBit_two_pow_mul_add _ (show b < 2 ^ 8 from hb), Nat.testBit_two_pow_mul_add _ hc8, Nat.testBit_two_pow_mul_add _ hlow]
  by_cases h : j < 8
  · rw [if_pos h, if_pos h, Nat.testBit_and, Nat.testBit_shiftRight]
    by_cases h2 : s + j < 8
    · rw [if_pos h2]
    · have : c.testBit j = false := Nat.testBit_lt_two_pow (Nat.lt_of_lt_of_le hc (Nat.pow_le_pow_right (by omega) (by omega)))
      rw [this, Bool.and_false, Bool.and_false]
  · rw [if_neg h, if_neg h, if_neg (show ¬ s + j < 8 by omega), Nat.testBit_and, Nat.testBit_shiftRight, show s + j - 8 = s + (j - 8) by omega]
theorem lane0 {q b m c : Nat} (hb : b < 256) (hc : c < 256) : (256 * q + b) &&& (256 * m + c) = 256 * (q &&& m) + (b &&& c) := by
  have := lane (s := 0) (q := q) (m := m) hb (show c < 2 ^ (8 - 0) from hc) (by omega)
  simpa using this
def w1 (k n : Nat) : Nat := n - ((n >>> 1) &&& rp 85 k)
def w2 (k n : Nat) : Nat := (n &&& rp 51 k) + ((n >>> 2) &&& rp 51 k)
def w3 (k n : Nat) : Nat := (n + (n >>> 4)) &&& rp 15 k
def u1 (b : Nat) : Nat := b - ((b >>> 1) &&& 85)
def u2 (b : Nat) : Nat := (b &&& 51) + ((b >>> 2) &&& 51)
theorem u_n : ∀ b, b < 256 → u1 b < 256 ∧ u2 (u1 b) ≤ 68 ∧ u2 (u1 b) % 16 ≤ 4 := by decide +kernel
theorem u_p : ∀ b, b < 256 → ∀ x, x < 5 → (u2 (u1 b) + (u2 (u1 b) >>> 4) + 16 * x) < 256 ∧ (u2 (u1 b) + (u2 (u1 b) >>> 4) + 16 * x) &&& 15 = fb_ct b.testBit 8 := by decide +kernel
theorem w1_s {k q b : Nat} (hb : b < 256) : w1 (k + 1) (256 * q + b) = 256 * w1 k q + u1 b := by
  unfold w1 u1
  show 256 * q + b - (((256 * q + b) >>> 1) &&& (256 * rp 85 k + 85)) = _
  rw [lane (s := 1) hb (by decide) (by omega)]
  have h1 : (q >>> 1) &&& rp 85 k ≤ q := Nat.le_trans Nat.and_le_left (shr_le _ _)
  have h2 : (b >>> 1) &&& 85 ≤ b := Nat.le_trans Nat.and_le_left (shr_le _ _)
  omega
theorem w2_s {k q b : Nat} (hb : b < 256) : w2 (k + 1) (256 * q + b) = 256 * w2 k q + u2 b := by
  unfold w2 u2
  show ((256 * q + b) &&& (256 * rp 51 k + 51)) + (((256 * q + b) >>> 2) &&& (256 * rp 51 k + 51)) = _
  rw [lane0 hb (by decide), lane (s := 2) hb (by decide) (by omega)]
  omega
def w12 (k n : Nat) : Nat := w2 k (w1 k n)
theorem w12_s {k q b : Nat} (hb : b < 256) : w12 (k + 1) (256 * q + b) = 256 * w12 k q + u2 (u1 b) := by
  unfold w12
  rw [w1_s hb, w2_s (u_n b hb).1]
theorem w12_4 : ∀ (k n : Nat), n < 256 ^ k → w12 k n % 16 < 5
  | 0, n, h => by
    have : n = 0 := by simpa using h
    subst this
    decide
  | k + 1, n, h => by
    have e : n = 256 * (n / 256) + n % 256 := by omega
    rw [e, w12_s (by omega)]
    have := (u_n (n % 256) (by omega)).2.2
    omega
def w123 (k n : Nat) : Nat := w3 k (w12 k n)
theorem w123_s {k q b : Nat} (hb : b < 256) (hq : q < 256 ^ k) : w123 (k + 1) (256 * q + b) = 256 * w123 k q + fb_ct b.testBit 8 := by
  unfold w123
  rw [w12_s hb]
  have h4 := w12_4 k q hq
  obtain ⟨x, hx⟩ : ∃ x, w12 k q % 16 = x := ⟨_, rfl⟩
  obtain ⟨y, hy⟩ : ∃ y, w12 k q / 16 = y := ⟨_, rfl⟩
  obtain ⟨p1, p2⟩ := u_p b hb x (by omega)
  unfold w3
  have e : 256 * w12 k q + u2 (u1 b) + ((256 * w12 k q + u2 (u1 b)) >>> 4) = 256 * (w12 k q + (w12 k q >>> 4)) + (u2 (u1 b) + (u2 (u1 b) >>> 4) + 16 * x) := by
    rw [Nat.shiftRight_eq_div_pow, Nat.shiftRight_eq_div_pow, Nat.shiftRight_eq_div_pow]
    show _ + (256 * w12 k q + u2 (u1 b)) / 16 = 256 * (w12 k q + w12 k q / 16) + (u2 (u1 b) + u2 (u1 b) / 16 + 16 * x)
    omega
  rw [e]
  show (256 * (w12 k q + (w12 k q >>> 4)) + (u2 (u1 b) + (u2 (u1 b) >>> 4) + 16 * x)) &&& (256 * rp 15 k + 15) = _
  rw [lane0 p1 (by decide), p2]
theorem ct_byte {q b m : Nat} (hb : b < 256) : fb_ct (256 * q + b).testBit (8 + m) = fb_ct b.testBit 8 + fb_ct q.testBit m := by
  rw [fb_ct_split]
  congr 1
  · refine fb_ct_cong fun k hk => ?_
    rw [show 256 = 2 ^ 8 from rfl, Nat.testBit_two_pow_mul_add _ (show b < 2 ^ 8 from hb), if_pos hk]
  · refine fb_ct_cong fun k hk => ?_
    rw [show 256 = 2 ^ 8 from rfl, Nat.testBit_two_pow_mul_add _ (show b < 2 ^ 8 from hb), if_neg (by omega), Nat.add_sub_cancel_left]
def w4 (n : Nat) : Nat := n + (n >>> 8)
def w5 (n : Nat) : Nat := n + (n >>> 16)
def w6 (n : Nat) : Nat := n + (n >>> 32)
theorem fold_z (A B C D g h : Nat) (hC : C ≤ 10000) (hD : D ≤ 32) (hg : g ≤ 32) (hh : h ≤ 32) : (4294967296 * (65536 * A + (256 * B + h)) + (65536 * C + (256 * D + g)) + (4294967296 * (65536 * A + (256 * B + h)) + (65536 * C + (256 * D + g))) / 2 ^ 32) % 2 ^ 7 = g + h := by
  have e6 : (4294967296 * (65536 * A + (256 * B + h)) + (65536 * C + (256 * D + g))) / 2 ^ 32 = 65536 * A + (256 * B + h) := by
    rw [show 2 ^ 32 = 4294967296 from rfl, Nat.mul_add_div (by omega), Nat.div_eq_of_lt (by omega), Nat.add_zero]
  rw [e6, show 4294967296 * (65536 * A + (256 * B + h)) + (65536 * C + (256 * D + g)) + (65536 * A + (256 * B + h)) = 2 ^ 7 * (33554432 * (65536 * A + (256 * B + h)) + (512 * C + 2 * D) + (512 * A + 2 * B)) + (g + h) by omega, Nat.mul_add_mod]
  exact Nat.mod_eq_of_lt (by omega)
theorem fold8 (c0 c1 c2 c3 c4 c5 c6 c7 : Nat) (h0 : c0 ≤ 8) (h1 : c1 ≤ 8) (h2 : c2 ≤ 8) (h3 : c3 ≤ 8) (h4 : c4 ≤ 8) (h5 : c5 ≤ 8) (h6 : c6 ≤ 8) (h7 : c7 ≤ 8) : w6 (w5 (w4 (256 * (256 * (256 * (256 * (256 * (256 * (256 * (256 * 0 + c7) + c6) + c5) + c4) + c3) + c2) + c1) + c0))) &&& 127 = c0 + c1 + c2 + c3 + c4 + c5 + c6 + c7 := by
  unfold w6 w5 w4
  rw [show 127 = 2 ^ 7 - 1 from rfl, Nat.and_two_pow_sub_one_eq_mod]
  simp only [Nat.shiftRight_eq_div_pow]
  have e4 : (256 * (256 * (256 * (256 * (256 * (256 * (256 * (256 * 0 + c7) + c6) + c5) + c4) + c3) + c2) + c1) + c0) + (256 * (256 * (256 * (256 * (256 * (256 * (256 * (256 * 0 + c7) + c6) + c5) + c4) + c3) + c2) + c1) + c0) / 2 ^ 8 = 65536 * (65536 * (65536 * (256 * c7 + (c6 + c7)) + (256 * (c5 + c6) + (c4 + c5))) + (256 * (c3 + c4) + (c2 + c3))) + (256 * (c1 + c2) + (c0 + c1)) := by omega
  rw [e4]
  have e5 : 65536 * (65536 * (65536 * (256 * c7 + (c6 + c7)) + (256 * (c5 + c6) + (c4 + c5))) + (256 * (c3 + c4) + (c2 + c3))) + (256 * (c1 + c2) + (c0 + c1)) + (65536 * (65536 * (65536 * (256 * c7 + (c6 + c7)) + (256 * (c5 + c6) + (c4 + c5))) + (256 * (c3 + c4) + (c2 + c3))) + (256 * (c1 + c2) + (c0 + c1))) / 2 ^ 16 = 4294967296 * (65536 * (256 * c7 + (c6 + c7)) + (256 * (c5 + c6 + c7) + (c4 + c5 + c6 + c7))) + (65536 * (256 * (c3 + c4 + c5 + c6) + (c2 + c3 + c4 + c5)) + (256 * (c1 + c2 + c3 + c4) + (c0 + c1 + c2 + c3))) := by omega
  rw [e5]
  have hC : 256 * (c3 + c4 + c5 + c6) + (c2 + c3 + c4 + c5) ≤ 10000 := by omega
  have hD : c1 + c2 + c3 + c4 ≤ 32 := by omega
  have hg : c0 + c1 + c2 + c3 ≤ 32 := by omega
  have hh : c4 + c5 + c6 + c7 ≤ 32 := by omega
  rw [show c0 + c1 + c2 + c3 + c4 + c5 + c6 + c7 = (c0 + c1 + c2 + c3) + (c4 + c5 + c6 + c7) by omega]
  generalize 256 * c7 + (c6 + c7) = A
  generalize c5 + c6 + c7 = B
  generalize 256 * (c3 + c4 + c5 + c6) + (c2 + c3 + c4 + c5) = C at hC
  generalize c1 + c2 + c3 + c4 = D at hD
  generalize c0 + c1 + c2 + c3 = g at hg
  generalize c4 + c5 + c6 + c7 = h at hh
  exact fold_z A B C D g h hC hD hg hh
theorem w123_0 : w123 0 0 = 0 := by decide
theorem bc64_n {n : Nat} (hn : n < 2 ^ 64) : w6 (w5 (w4 (w123 8 n))) &&& 127 = fb_ct n.testBit 64 := by
  have hp : ∀ {m k}, m < 256 ^ (k + 1) → m / 256 < 256 ^ k := fun {m k} h => by
    rw [Nat.pow_succ] at h
    exact Nat.div_lt_of_lt_mul (by rw [Nat.mul_comm]; exact h)
  obtain ⟨n1, e1⟩ : ∃ q, n / 256 = q := ⟨_, rfl⟩
  obtain ⟨n2, e2⟩ : ∃ q, n1 / 256 = q := ⟨_, rfl⟩
  obtain ⟨n3, e3⟩ : ∃ q, n2 / 256 = q := ⟨_, rfl⟩
  obtain ⟨n4, e4⟩ : ∃ q, n3 / 256 = q := ⟨_, rfl⟩
  obtain ⟨n5, e5⟩ : ∃ q, n4 / 256 = q := ⟨_, rfl⟩
  obtain ⟨n6, e6⟩ : ∃ q, n5 / 256 = q := ⟨_, rfl⟩
  obtain ⟨n7, e7⟩ : ∃ q, n6 / 256 = q := ⟨_, rfl⟩
  have h8 : n < 256 ^ 8 := hn
  have h7 : n1 < 256 ^ 7 := by rw [← e1]; exact hp h8
  have h6 : n2 < 256 ^ 6 := by rw [← e2]; exact hp h7
  have h5 : n3 < 256 ^ 5 := by rw [← e3]; exact hp h6
  have h4 : n4 < 256 ^ 4 := by rw [← e4]; exact hp h5
  have h3 : n5 < 256 ^ 3 := by rw [← e5]; exact hp h4
  have h2 : n6 < 256 ^ 2 := by rw [← e6]; exact hp h3
  have h1 : n7 < 256 ^ 1 := by rw [← e7]; exact hp h2
  have d0 : n = 256 * n1 + n % 256 := by omega
  have d1 : n1 = 256 * n2 + n1 % 256 := by omega
  have d2 : n2 = 256 * n3 + n2 % 256 := by omega
  have d3 : n3 = 256 * n4 + n3 % 256 := by omega
  have d4 : n4 = 256 * n5 + n4 % 256 := by omega
  have d5 : n5 = 256 * n6 + n5 % 256 := by omega
  have d6 : n6 = 256 * n7 + n6 % 256 := by omega
  have d7 : n7 = 256 * 0 + n7 % 256 := by omega
  have c0 : w123 8 n = 256 * w123 7 n1 + fb_ct (n % 256).testBit 8 := by
    conv => lhs; rw [d0]
    exact w123_s (by omega) h7
  have c1 : w123 7 n1 = 256 * w123 6 n2 + fb_ct (n1 % 256).testBit 8 := by
    conv => lhs; rw [d1]
    exact w123_s (by omega) h6
  have c2 : w123 6 n2 = 256 * w123 5 n3 + fb_ct (n2 % 256).testBit 8 := by
    conv => lhs; rw [d2]
    exact w123_s (by omega) h5
  have c3 : w123 5 n3 = 256 * w123 4 n4 + fb_ct (n3 % 256).testBit 8 := by
    conv => lhs; rw [d3]
    exact w123_s (by omega) h4
  have c4 : w123 4 n4 = 256 * w123 3 n5 + fb_ct (n4 % 256).testBit 8 := by
    conv => lhs; rw [d4]
    exact w123_s (by omega) h3
  have c5 : w123 3 n5 = 256 * w123 2 n6 + fb_ct (n5 % 256).testBit 8 := by
    conv => lhs; rw [d5]
    exact w123_s (by omega) h2
  have c6 : w123 2 n6 = 256 * w123 1 n7 + fb_ct (n6 % 256).testBit 8 := by
    conv => lhs; rw [d6]
    exact w123_s (by omega) h1
  have c7 : w123 1 n7 = 256 * 0 + fb_ct (n7 % 256).testBit 8 := by
    conv => lhs; rw [d7]
    rw [w123_s (by omega) (by decide), w123_0]
  have f0 : fb_ct n.testBit 64 = fb_ct (n % 256).testBit 8 + fb_ct n1.testBit 56 := by
    conv => lhs; rw [d0]
    exact ct_byte (m := 56) (by omega)
  have f1 : fb_ct n1.testBit 56 = fb_ct (n1 % 256).testBit 8 + fb_ct n2.testBit 48 := by
    conv => lhs; rw [d1]
    exact ct_byte (m := 48) (by omega)
  have f2 : fb_ct n2.testBit 48 = fb_ct (n2 % 256).testBit 8 + fb_ct n3.testBit 40 := by
    conv => lhs; rw [d2]
    exact ct_byte (m := 40) (by omega)
  have f3 : fb_ct n3.testBit 40 = fb_ct (n3 % 256).testBit 8 + fb_ct n4.testBit 32 := by
    conv => lhs; rw [d3]
    exact ct_byte (m := 32) (by omega)
  have f4 : fb_ct n4.testBit 32 = fb_ct (n4 % 256).testBit 8 + fb_ct n5.testBit 24 := by
    conv => lhs; rw [d4]
    exact ct_byte (m := 24) (by omega)
  have f5 : fb_ct n5.testBit 24 = fb_ct (n5 % 256).testBit 8 + fb_ct n6.testBit 16 := by
    conv => lhs; rw [d5]
    exact ct_byte (m := 16) (by omega)
  have f6 : fb_ct n6.testBit 16 = fb_ct (n6 % 256).testBit 8 + fb_ct n7.testBit 8 := by
    conv => lhs; rw [d6]
    exact ct_byte (m := 8) (by omega)
  have f7 : fb_ct n7.testBit 8 = fb_ct (n7 % 256).testBit 8 := by rw [show n7 % 256 = n7 by omega]
  rw [c0, c1, c2, c3, c4, c5, c6, c7, fold8 _ _ _ _ _ _ _ _ (fb_ct_le _ 8) (fb_ct_le _ 8) (fb_ct_le _ 8) (fb_ct_le _ 8) (fb_ct_le _ 8) (fb_ct_le _ 8) (fb_ct_le _ 8) (fb_ct_le _ 8), f0, f1, f2, f3, f4, f5, f6, f7]
  omega
