/-! THE COUNTS -/
theorem M33_ok : M33 Rel := by
  rintro xc fa tr pm hm ⟨N, k, Ms, im, h⟩ a1
  obtain ⟨hN, hC, hM, hz, hX, hG, hR⟩ := h.go
  have hE : E16 (Ed N 100) := hN.e16n (k1 := 100) (k2 := 100)
  have hcf := h.1.1.1
  have hfa : 70 < fa := by omega
  obtain ⟨y, e, q, t⟩ := lays_q hN hM hz.1 hz.2 0
  have hr := h.q q
  unfold f_X9_count f_X10_count
  simp only [lt]
  rw [e]
  simp only [Option.bind_some]
  by_cases c0 : a1 = 0
  · rw [if_pos c0, if_pos c0]
    rw [hC.1, q.nodes]
    exact ⟨_, rfl, _, rfl, hr.rel, rfl⟩
  rw [if_neg c0, if_neg c0]
  by_cases c1 : a1 = 1
  · rw [if_pos c1, if_pos c1]
    rw [hC.2.1, m_root q.2.1]
    exact ⟨_, rfl, _, rfl, hr.rel, rfl⟩
  rw [if_neg c1, if_neg c1]
  by_cases c2 : a1 = 2
  · rw [if_pos c2, if_pos c2]
    have e2 : gck 200 (2 : Int32) (some (y 82 (2 : Int32).toNatClampNeg, y)) = some (nI (nEx N), y) := by
      rw [show (2 : Int32) = nI 2 from rfl, gck_ni (by omega) (by omega), nI_clamp (by omega), m_exit q]
    rw [hC.2.2.1, e2]
    exact ⟨_, rfl, _, rfl, hr.rel, rfl⟩
  rw [if_neg c2, if_neg c2]
  by_cases c3 : a1 = 3
  · rw [if_pos c3, if_pos c3]
    rw [hC.2.2.2.1, m_arcs q.2.1]
    exact ⟨_, rfl, _, rfl, hr.rel, rfl⟩
  rw [if_neg c3, if_neg c3]
  by_cases c4 : a1 = 4
  · rw [if_pos c4, if_pos c4]
    rw [ones_q hN q hC]
    exact ⟨_, rfl, _, rfl, hr.rel, rfl⟩
  rw [if_neg c4, if_neg c4]
  by_cases c5 : a1 = 5
  · rw [if_pos c5, if_pos c5]
    exact ⟨_, rfl, _, rfl, hr.rel, hG.1.1.same q.2.2.1.1.1 hG.1.2 q.2.2.1.1.2⟩
  rw [if_neg c5, if_neg c5]
  by_cases c6 : a1 = 6
  · rw [if_pos c6, if_pos c6]
    obtain ⟨z, e1, e2⟩ := depth_q hN q hG
    rw [e1, e2]
    exact ⟨_, rfl, _, rfl, hr.rel, rfl⟩
  rw [if_neg c6, if_neg c6]
  by_cases c7 : a1 = 7
  · rw [if_pos c7, if_pos c7]
    obtain ⟨x, e1, f1, l1⟩ := loops_c hE hG hR hfa
    unfold f_X8_heads
    rw [e1, heads_q hN q l1]
    exact ⟨_, rfl, _, rfl, ((h.fr (f1.mono fun c hc => by unfold WS; omega)).q q).rel, rfl⟩
  rw [if_neg c7, if_neg c7]
  by_cases c8 : a1 = 8
  · rw [if_pos c8, if_pos c8]
    obtain ⟨z, e1, e2⟩ := back_q hN q hC hG
    rw [e1, e2]
    exact ⟨_, rfl, _, rfl, hr.rel, rfl⟩
  rw [if_neg c8, if_neg c8]
  by_cases c9 : a1 = 9
  · rw [if_pos c9, if_pos c9]
    obtain ⟨z, x, e1, f1, e2⟩ := bridges_q h.cq q
    rw [e1, e2]
    exact ⟨_, rfl, _, rfl, ((h.fr f1).q q).rel, rfl⟩
  rw [if_neg c9, if_neg c9]
  by_cases c10 : a1 = 10
  · rw [if_pos c10, if_pos c10]
    obtain ⟨z, e1, e2⟩ := sound_q hN q hX hG
    rw [e1, e2]
    simp only [Option.bind_some]
    by_cases c : z = 0
    · rw [if_pos c, if_pos c]
      exact ⟨_, rfl, _, rfl, hr.rel, rfl⟩
    · rw [if_neg c, if_neg c]
      exact ⟨_, rfl, _, rfl, hr.rel, rfl⟩
  rw [if_neg c10, if_neg c10]
  by_cases c11 : a1 = 11
  · rw [if_pos c11, if_pos c11]
    obtain ⟨z, e1, e2⟩ := depths_q hN q hG
    rw [e1, e2]
    exact ⟨_, rfl, _, rfl, hr.rel, rfl⟩
  rw [if_neg c11, if_neg c11]
  by_cases c12 : a1 = 12
  · rw [if_pos c12, if_pos c12]
    obtain ⟨z, e1, e2⟩ := leaves_q hN q hG
    rw [e1, e2]
    exact ⟨_, rfl, _, rfl, hr.rel, rfl⟩
  rw [if_neg c12, if_neg c12]
  by_cases c13 : a1 = 13
  · rw [if_pos c13, if_pos c13]
    obtain ⟨x, e1, f1, l1⟩ := loops_c hE hG hR hfa
    obtain ⟨z, e2, e3⟩ := mostNest_q (fa := fa) hN q l1
    unfold f_X8_mostNest
    rw [e1]
    simp only [Option.bind_some]
    rw [e2, e3]
    exact ⟨_, rfl, _, rfl, ((h.fr (f1.mono fun c hc => by unfold WS; omega)).q q).rel, rfl⟩
  rw [if_neg c13, if_neg c13]
  by_cases c14 : a1 = 14
  · rw [if_pos c14, if_pos c14]
    exact ⟨_, rfl, _, rfl, hr.rel, hr.2.2.1.2.1.trans hr.2.2.1.2.2.1.symm⟩
  rw [if_neg c14, if_neg c14]
  by_cases c15 : a1 = 15
  · rw [if_pos c15, if_pos c15]
    obtain ⟨z, x, e1, e2, f1⟩ := spans_q hN q hfa hC hG hR
    rw [e1, e2]
    exact ⟨_, rfl, _, rfl, ((h.fr (f1.mono fun c hc => by unfold WO at hc; unfold WS; omega)).q q).rel, rfl⟩
  rw [if_neg c15, if_neg c15]
  by_cases c16 : a1 = 16
  · rw [if_pos c16, if_pos c16]
    obtain ⟨z, e1, e2⟩ := rings_q hN q hX hG hR
    rw [e1, e2]
    exact ⟨_, rfl, _, rfl, hr.rel, rfl⟩
  rw [if_neg c16, if_neg c16]
  by_cases c17 : a1 = 17
  · rw [if_pos c17, if_pos c17]
    obtain ⟨z, e1, e2⟩ := tolls_q hN q hC hG
    rw [e1, e2]
    exact ⟨_, rfl, _, rfl, hr.rel, rfl⟩
  rw [if_neg c17, if_neg c17]
  by_cases c18 : a1 = 18
  · rw [if_pos c18, if_pos c18]
    obtain ⟨z, x, w, e1, f1, e2, q2⟩ := spares_q h.cq q.n
    rw [e1, e2]
    exact ⟨_, rfl, _, rfl, ((h.fr f1).qn q2).rel, rfl⟩
  rw [if_neg c18, if_neg c18]
  exact ⟨_, rfl, _, rfl, hr.rel, rfl⟩
