theorem bc64_ok (a : Int64) : bc64 a = nI (fb_ct (fun i => a.toBitVec.getLsbD i) 64) := by
  have hn : a.toBitVec.toNat < 2 ^ 64 := a.toBitVec.isLt
  obtain ⟨n, en⟩ : ∃ n, a.toBitVec.toNat = n := ⟨_, rfl⟩
  have ea : a = nL6 n := by rw [← en]; exact l_of a
  rw [en] at hn
  have ect : fb_ct (fun i => a.toBitVec.getLsbD i) 64 = fb_ct n.testBit 64 := fb_ct_cong fun i hi => by
    rw [← en]
    rfl
  rw [ect, ← bc64_n hn, ea]
  have b1 : w1 8 n < 2 ^ 64 := Nat.lt_of_le_of_lt (Nat.sub_le _ _) hn
  have b2 : w2 8 (w1 8 n) < 2 ^ 64 := by
    have r : rp 51 8 = 3689348814741910323 := by decide +kernel
    have x1 : w1 8 n &&& rp 51 8 ≤ rp 51 8 := Nat.and_le_right
    have x2 : (w1 8 n >>> 2) &&& rp 51 8 ≤ rp 51 8 := Nat.and_le_right
    unfold w2
    omega
  have b3 : w123 8 n ≤ 1085102592571150095 := by
    have r : rp 15 8 = 1085102592571150095 := by decide +kernel
    have x1 : (w12 8 n + (w12 8 n >>> 4)) &&& rp 15 8 ≤ rp 15 8 := Nat.and_le_right
    unfold w123 w3
    omega
  have b4 : w4 (w123 8 n) < 2 ^ 64 := by
    have := shr_le (w123 8 n) 8
    unfold w4
    omega
  have b5 : w5 (w4 (w123 8 n)) < 2 ^ 64 := by
    have := shr_le (w123 8 n) 8
    have := shr_le (w4 (w123 8 n)) 16
    unfold w5
    unfold w4 at *
    omega
  unfold bc64
  simp only
  rw [show (1 : Int32) = nI 1 from rfl, show (2 : Int32) = nI 2 from rfl, show (4 : Int32) = nI 4 from rfl, show (8 : Int32) = nI 8 from rfl, show (16 : Int32) = nI 16 from rfl, show (32 : Int32) = nI 32 from rfl]
  have c1 : nL6 n - ((lush (nL6 n) (nI 1)) &&& (6148914691236517205 : Int64)) = nL6 (w1 8 n) := by
    rw [l_ush hn (by omega), show (6148914691236517205 : Int64) = nL6 (rp 85 8) by decide +kernel, l_and, l_sub (Nat.le_trans Nat.and_le_left (shr_le _ _))]
    rfl
  rw [c1]
  have c2 : (nL6 (w1 8 n) &&& (3689348814741910323 : Int64)) + ((lush (nL6 (w1 8 n)) (nI 2)) &&& (3689348814741910323 : Int64)) = nL6 (w2 8 (w1 8 n)) := by
    rw [l_ush b1 (by omega), show (3689348814741910323 : Int64) = nL6 (rp 51 8) by decide +kernel, l_and, l_and, l_add]
    rfl
  rw [c2]
  have c3 : (nL6 (w2 8 (w1 8 n)) + (lush (nL6 (w2 8 (w1 8 n))) (nI 4))) &&& (1085102592571150095 : Int64) = nL6 (w123 8 n) := by
    rw [l_ush b2 (by omega), show (1085102592571150095 : Int64) = nL6 (rp 15 8) by decide +kernel, l_add, l_and]
    rfl
  rw [c3]
  have c4 : nL6 (w123 8 n) + (lush (nL6 (w123 8 n)) (nI 8)) = nL6 (w4 (w123 8 n)) := by
    rw [l_ush (by omega) (by omega), l_add]
    rfl
  rw [c4]
  have c5 : nL6 (w4 (w123 8 n)) + (lush (nL6 (w4 (w123 8 n))) (nI 16)) = nL6 (w5 (w4 (w123 8 n))) := by
    rw [l_ush b4 (by omega), l_add]
    rfl
  rw [c5]
  have c6 : nL6 (w5 (w4 (w123 8 n))) + (lush (nL6 (w5 (w4 (w123 8 n)))) (nI 32)) = nL6 (w6 (w5 (w4 (w123 8 n)))) := by
    rw [l_ush b5 (by omega), l_add]
    rfl
  rw [c6]
  exact l_i32 _
theorem ones_q {N : aN} {hm y : gIH} {xc : gXH} (hN : aOk N) (q : QM N hm y) (hC : CNet xc 7 N) : f_X10_openOnes y = some (bc64 (xc.2 7 7)) := by
  have h60 := hN.m60
  have h2 := lp_sum (step := f_X10_openOnes_L4 y) (nM N) (fun a => if nO N a = true then 1 else 0) 0 (fun j a hj => by
    unfold f_X10_openOnes_L4
    rw [m_arcs q.2.1]
    simp only [Option.bind_some, lt]
    have v : y 82 (140 + j) = if nO N j = true then 1 else 0 := ((MNet.z.mp q.2.1).2.2.2.2.1 j hj).2.2
    rw [if_neg (nI_ge hj (by omega)), show (140 : Int32) = nI 140 from rfl, nI_add, gck_ni (by omega) (by omega), nI_clamp (by omega), v]
    by_cases c : nO N j = true
    · rw [if_pos c, if_pos c, nI_1, nI_1]
    · rw [if_neg c, if_neg c, nI_1, show (0 : Int32) = nI 0 from rfl, nI_add]) (fun a => by
    unfold f_X10_openOnes_L4
    rw [m_arcs q.2.1]
    simp only [Option.bind_some]
    rw [if_pos (Int32.le_refl _)]) (k := 2000) (by omega)
  rw [fb_sm_ct, Nat.zero_add, nI_0] at h2
  unfold f_X10_openOnes
  rw [h2, bc64_ok]
  have e : fb_ct (fun i => (xc.2 7 7).toBitVec.getLsbD i) 64 = fb_ct (nO N) (nM N) := by
    have e1 : fb_ct (fun i => (xc.2 7 7).toBitVec.getLsbD i) 64 = fb_ct (fun i => decide (i < nM N) && nO N i) 64 := fb_ct_cong fun i hi => hC.2.2.2.2.2.1 i hi
    rw [e1, fb_ct_ext (n := nM N) (by omega) (fun k hk => by rw [decide_eq_false (by omega), Bool.false_and])]
    exact fb_ct_cong fun i hi => by rw [decide_eq_true hi, Bool.true_and]
  rw [e]
  rfl
