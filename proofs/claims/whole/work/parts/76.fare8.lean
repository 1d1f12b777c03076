theorem fare_m {N : aN} {hm y : gIH} (hN : aOk N) (q : QM N hm y) {a : Nat} (ha : a < nN N) : ∃ z y', f_X10_fareOf y (nI a) = some (z, y') ∧ FrM (fun c _ => 94 ≤ c ∧ c ≤ 97) y y' ∧ FaI N a z := by
  have hn := hN.n16
  obtain ⟨y0, e0, f0, g0⟩ := fare0_m hN q (nI a)
  have key : ∃ y', lp (f_X10_fareOf_L44 (nI a)) 2000 (1, y0) = some y' ∧ FrM (fun c _ => 94 ≤ c ∧ c ≤ 97) y y' ∧ ∃ F B, FM N y' F B ∧ FA N F ∧ F (nRt N) = some (nL N (nRt N)) ∧ ∀ u w c, Ed N 100 u w → F u = some c → ∃ b, F w = some b ∧ b ≤ c + nL N w := by
    refine lp_forx (step := f_X10_fareOf_L44 (nI a)) 17 (fun j s => FrM (fun c _ => 94 ≤ c ∧ c ≤ 97) y s.2 ∧ ∃ F, FM N s.2 F (99 + 5940 * j) ∧ FA N F ∧ F (nRt N) = some (nL N (nRt N)) ∧ FB N F j ∧ (s.1 = 0 → ∀ u w c, Ed N 100 u w → F u = some c → ∃ b, F w = some b ∧ b ≤ c + nL N w) ∧ (16 ≤ j → s.1 = 0)) _ ?_ ?_ ⟨f0, _, g0, fun v c hc => ?_, if_pos rfl, fun v c hw => ?_, fun z => absurd z i1n0, fun z => absurd z (by omega)⟩ (by omega)
    · rintro j ⟨m, x⟩ hj ⟨hf, F, g1, g2, g3, g4, g5, g6⟩
      dsimp only at hf g1 g5 g6
      unfold f_X10_fareOf_L44
      dsimp only
      by_cases c : m = 0
      · rw [if_pos c]
        exact Or.inr ⟨_, rfl, hf, F, _, g1, g2, g3, g5 c⟩
      · rw [if_neg c]
        obtain ⟨m', y', F', e, r1, r2, r3, r4, r5, r6, r7⟩ := round_m hN (q.scr hf) (show 99 + 5940 * j + 99 * 60 ≤ 1000000 by omega) g1 g2 g3 g4 (nI a)
        rw [e]
        left
        have e9 : 99 + 5940 * j + 99 * 60 = 99 + 5940 * (j + 1) := by omega
        rw [e9] at r2
        refine ⟨_, rfl, hf.tr r1, F', r2, r3, r4, r5, r6, fun z => r7 (by omega)⟩
    · rintro ⟨m, x⟩ ⟨hf, F, g1, g2, g3, g4, g5, g6⟩
      dsimp only at hf g1 g5 g6
      unfold f_X10_fareOf_L44
      dsimp only
      rw [if_pos (g6 (by omega))]
      exact ⟨_, rfl, hf, F, _, g1, g2, g3, g5 (g6 (by omega))⟩
    · dsimp only at hc
      by_cases d : v = nRt N
      · rw [if_pos d] at hc
        cases hc
        exact ⟨0, d, rfl⟩
      · rw [if_neg d] at hc
        cases hc
    · refine ⟨nL N (nRt N), if_pos hw.1, ?_⟩
      rw [hw.2]
      exact Nat.le_refl _
  obtain ⟨y', ey, f', F, B, h1, h2, h3, h4⟩ := key
  refine ⟨y' 96 a, y', ?_, f', FC.fai h2 h3 h4 (h1 a (by omega) ha).1⟩
  unfold f_X10_fareOf
  rw [e0]
  simp only [Option.bind_some]
  rw [ey]
  simp only [Option.bind_some]
  rw [gck_ni (by omega) (by omega), nI_clamp (by omega)]
