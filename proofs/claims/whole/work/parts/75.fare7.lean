section
variable {N : aN} {hm y : gIH}
theorem fare0_m (hN : aOk N) (q : QM N hm y) (b1 : Int32) : ∃ y', lp (f_X10_fareOf_L2 b1) 2000 (0, y) = some y' ∧ FrM (fun c _ => 94 ≤ c ∧ c ≤ 97) y y' ∧ FM N y' (fun w => if w = nRt N then some (nL N (nRt N)) else none) 99 := by
  have hn := hN.n16
  have hr := hN.r16
  have hl := hN.2.2.2.2.2.2 _ hr
  refine lp_for (step := f_X10_fareOf_L2 b1) (nN N) (fun j s => s.1 = nI j ∧ FrM (fun c _ => 94 ≤ c ∧ c ≤ 97) y s.2 ∧ ∀ v, v < j → s.2 96 v = fI (if v = nRt N then some (nL N (nRt N)) else none)) _ ?_ ?_ ⟨rfl, FrM.rf, fun v hv => absurd hv (by omega)⟩ (by omega)
  · rintro j ⟨i, x⟩ hj ⟨h0, hf, hh⟩
    dsimp only at h0 hf hh
    subst h0
    have qx := q.scr hf
    have nx : ∀ z : Int32, z = fI (if j = nRt N then some (nL N (nRt N)) else none) → ∃ s', f_X10_fareOf_J35 x b1 (nI j) (nI j) z = some (.inl s') ∧ s'.1 = nI (j + 1) ∧ FrM (fun c _ => 94 ≤ c ∧ c ≤ 97) y s'.2 ∧ ∀ v, v < j + 1 → s'.2 96 v = fI (if v = nRt N then some (nL N (nRt N)) else none) := fun z hz => by
      unfold f_X10_fareOf_J35
      rw [gck_ni (by omega) (by omega), nI_clamp (by omega)]
      simp only [lt]
      refine ⟨_, rfl, nI_1 j, hf.tr (FrM.s (by omega)), fun v hv => ?_⟩
      dsimp only
      by_cases c : v = j
      · rw [c, up2_at, hz]
      · rw [up2_at2 (Or.inr c)]
        exact hh v (by omega)
    unfold f_X10_fareOf_L2
    dsimp only
    rw [m_nodes qx.2.1]
    simp only [Option.bind_some]
    rw [if_neg (nI_ge hj (by omega)), m_root qx.2.1]
    simp only [Option.bind_some]
    by_cases c : j = nRt N
    · rw [if_pos (by rw [c]), show (4 : Int32) + nI j = nI (4 + j) by rw [show (4 : Int32) = nI 4 from rfl, nI_add], gck_ni (by omega) (by omega), nI_clamp (by omega), m_toll qx.2.1 (show j < 16 by omega)]
      exact nx _ (by rw [if_pos c, c]; rfl)
    · rw [if_neg (by rw [nI_eq (by omega) (by omega)]; exact c)]
      exact nx _ (by rw [if_neg c]; rfl)
  · rintro ⟨i, x⟩ ⟨h0, hf, hh⟩
    dsimp only at h0 hf hh
    subst h0
    unfold f_X10_fareOf_L2
    dsimp only
    rw [m_nodes (q.scr hf).2.1]
    simp only [Option.bind_some]
    rw [if_pos (Int32.le_refl _)]
    refine ⟨_, rfl, hf, fun v v1 v2 => ⟨hh v v2, fun c hc => ?_⟩⟩
    dsimp only at hc
    split at hc
    · cases hc
      exact hl
    · cases hc
/-- one round over the arcs -/
theorem round_m (hN : aOk N) (q : QM N hm y) {F : Nat → Option Nat} {B i : Nat} (hB : B + 99 * 60 ≤ 1000000) (h : FM N y F B) (hA : FA N F) (hr : F (nRt N) = some (nL N (nRt N))) (hF : FB N F i) (b1 : Int32) :
    ∃ m' y' F', lp (f_X10_fareOf_L52 b1) 2000 (0, 0, y) = some (m', y') ∧ FrM (fun c _ => 94 ≤ c ∧ c ≤ 97) y y' ∧ FM N y' F' (B + 99 * 60) ∧ FA N F' ∧ F' (nRt N) = some (nL N (nRt N)) ∧ FB N F' (i + 1) ∧ (m' = 0 → ∀ u w c, Ed N 100 u w → F' u = some c → ∃ b, F' w = some b ∧ b ≤ c + nL N w) ∧ (15 ≤ i → m' = 0) := by
  have h60 := hN.m60
  have key : ∃ z, lp (f_X10_fareOf_L52 b1) 2000 (0, 0, y) = some z ∧ ∃ F', FrM (fun c _ => 94 ≤ c ∧ c ≤ 97) y z.2 ∧ FM N z.2 F' (B + 99 * 60) ∧ FA N F' ∧ F' (nRt N) = some (nL N (nRt N)) ∧ FB N F' (i + 1) ∧ (z.1 = 0 → ∀ u w c, Ed N 100 u w → F' u = some c → ∃ b, F' w = some b ∧ b ≤ c + nL N w) ∧ (15 ≤ i → z.1 = 0) := by
    refine lp_for (step := f_X10_fareOf_L52 b1) (nM N) (fun j s => s.2.1 = nI j ∧ ∃ F', FrM (fun c _ => 94 ≤ c ∧ c ≤ 97) y s.2.2 ∧ FM N s.2.2 F' (B + 99 * j) ∧ FA N F' ∧ F' (nRt N) = some (nL N (nRt N)) ∧ FB N F' i ∧ (∀ k, k < j → nO N k = true → ∀ c, Wk (Ed N 100) (nL N) (nRt N) i (nF N k) c → ∃ b, F' (nT N k) = some b ∧ b ≤ c + nL N (nT N k)) ∧ (s.1 = 0 → ∀ k, k < j → nO N k = true → ∀ c, F' (nF N k) = some c → ∃ b, F' (nT N k) = some b ∧ b ≤ c + nL N (nT N k)) ∧ (15 ≤ i → s.1 = 0)) _ ?_ ?_ ⟨rfl, F, FrM.rf, fun v v1 v2 => h v v1 v2, hA, hr, hF, fun k hk => absurd hk (by omega), fun _ k hk => absurd hk (by omega), fun _ => rfl⟩ (by omega)
    · rintro j ⟨m, i', x⟩ hj ⟨h0, G, g1, g2, g3, g4, g5, g6, g7, g8⟩
      dsimp only at h0 g1 g2 g7 g8
      subst h0
      obtain ⟨m', x', G', e, f1, f2, f3, f4, f5, f6⟩ := relax_m hN (q.scr g1) (show B + 99 * j ≤ 1000000 by omega) g2 g3 g4 hj b1 m
      refine ⟨_, e, rfl, G', g1.tr f1, fun v v1 v2 => ⟨(f2 v v1 v2).1, fun c hc => by have := (f2 v v1 v2).2 c hc; omega⟩, f3, f4, fun v c hv => ?_, fun k hk ho c hw => ?_, fun hm k hk ho c hc => ?_, fun h15 => ?_⟩
      · obtain ⟨b, b1, b2⟩ := g5 v c hv
        obtain ⟨b', b3, b4⟩ := f5 v b b1
        exact ⟨b', b3, by omega⟩
      · rcases Nat.lt_or_ge k j with o | o
        · obtain ⟨b, b1, b2⟩ := g6 k o ho c hw
          obtain ⟨b', b3, b4⟩ := f5 _ b b1
          exact ⟨b', b3, by omega⟩
        · have ek : k = j := by omega
          subst ek
          obtain ⟨b, b1, b2⟩ := g5 _ c hw
          rcases f6 with ⟨-, r2, r3⟩ | ⟨-, -, c', r2, r3, r4⟩
          · obtain ⟨b', b3, b4⟩ := r3 ho b b1
            rw [r2]
            exact ⟨b', b3, by omega⟩
          · rw [b1] at r2
            cases r2
            refine ⟨b + nL N (nT N k), ?_, by omega⟩
            rw [r3]
            unfold upF
            rw [if_pos rfl]
      · rcases f6 with ⟨r1, r2, r3⟩ | ⟨r1, -⟩
        · dsimp only at hm
          rw [r2] at hc ⊢
          rcases Nat.lt_or_ge k j with o | o
          · exact g7 (r1.symm.trans hm) k o ho c hc
          · have ek : k = j := by omega
            subst ek
            exact r3 ho c hc
        · dsimp only at hm
          rw [r1] at hm
          exact absurd hm i1n0
      · dsimp only
        rcases f6 with ⟨r1, -⟩ | ⟨r1, ho, c, r2, r3, r4⟩
        · rw [r1]
          exact g8 h15
        · -- nothing is better than the best
          exfalso
          have g15 : FB N G 15 := fun v c hv => g5 v c (hv.mono h15)
          have hE : E16 (Ed N 100) := hN.e16n (k1 := 100) (k2 := 100)
          obtain ⟨k, hk⟩ := g3 _ c r2
          have he : Ed N 100 (nF N j) (nT N j) := Or.inl ⟨j, hj, ho, by omega, by omega, rfl, rfl⟩
          obtain ⟨d, hd⟩ := Lt.ex (L := nL N) (Rc.step hk.rc he (fun z => z))
          have e1 := FB.fin hN g3 g15 hd
          have e2 := r4 d e1
          have := hd.2 (k + 1) (c + nL N (nT N j)) (Or.inr ⟨nF N j, c, hk, he, rfl⟩)
          omega
    · rintro ⟨m, i', x⟩ ⟨h0, G, g1, g2, g3, g4, g5, g6, g7, g8⟩
      dsimp only at h0 g1 g2 g7 g8
      subst h0
      unfold f_X10_fareOf_L52
      dsimp only
      rw [m_arcs (q.scr g1).2.1]
      simp only [Option.bind_some]
      rw [if_pos (Int32.le_refl _)]
      refine ⟨_, rfl, G, g1, fun v v1 v2 => ⟨(g2 v v1 v2).1, fun c hc => by have := (g2 v v1 v2).2 c hc; omega⟩, g3, g4, fun v c hv => ?_, fun hm u w c he hc => ?_, g8⟩
      · rcases hv with hv | ⟨u, c', w1, w2, w3⟩
        · exact g5 v c hv
        · rcases w2 with ⟨a, a1, a2, -, -, rfl, rfl⟩ | w2
          · rw [w3]
            exact g6 a a1 a2 c' w1
          · cases w2
      · rcases he with ⟨a, a1, a2, -, -, rfl, rfl⟩ | he
        · exact g7 hm a a1 a2 c hc
        · cases he
  obtain ⟨z, ez, F', h1, h2, h3, h4, h5, h6, h7⟩ := key
  exact ⟨z.1, z.2, F', ez, h1, h2, h3, h4, h5, h6, h7⟩
end
