/-! THE REFERENCE'S ACTS, ITS MEMORY -/
theorem MNet.z {hm : gIH} {w : Nat} {N : aN} : MNet hm w 0 N ↔ hm w 0 = nI (nN N) ∧ hm w 1 = nI (nRt N) ∧ hm w 2 = nI (nEx N) ∧ hm w 3 = nI (nM N) ∧ (∀ i, i < nM N → hm w (20 + i) = nI (nF N i) ∧ hm w (80 + i) = nI (nT N i) ∧ hm w (140 + i) = if nO N i = true then 1 else 0) ∧ ∀ v, v < 16 → hm w (4 + v) = nI (nL N v) := by
  unfold MNet
  simp only [Nat.zero_add]
abbrev W82 : Nat → Nat → Prop := fun c _ => c = 82
section
variable {N : aN} {hm : gIH}
theorem root_m (h : MNet hm 82 0 N) (v : Nat) : MNet (up2 hm 82 1 (nI v)) 82 0 (aRoot N v) := by
  obtain ⟨h1, h2, h3, h4, h5, h6⟩ := MNet.z.mp h
  refine MNet.z.mpr ⟨?_, up2_at, ?_, ?_, fun i hi => ?_, fun w hw => ?_⟩
  · rw [up2_at2 (Or.inr (by decide))]; exact h1
  · rw [up2_at2 (Or.inr (by decide))]; exact h3
  · rw [up2_at2 (Or.inr (by decide))]; exact h4
  · rw [up2_at2 (Or.inr (by omega)), up2_at2 (Or.inr (by omega)), up2_at2 (Or.inr (by omega))]; exact h5 i hi
  · rw [up2_at2 (Or.inr (by omega))]; exact h6 w hw
theorem exit_m (h : MNet hm 82 0 N) (v : Nat) : MNet (up2 hm 82 2 (nI v)) 82 0 (aExit N v) := by
  obtain ⟨h1, h2, h3, h4, h5, h6⟩ := MNet.z.mp h
  refine MNet.z.mpr ⟨?_, ?_, up2_at, ?_, fun i hi => ?_, fun w hw => ?_⟩
  · rw [up2_at2 (Or.inr (by decide))]; exact h1
  · rw [up2_at2 (Or.inr (by decide))]; exact h2
  · rw [up2_at2 (Or.inr (by decide))]; exact h4
  · rw [up2_at2 (Or.inr (by omega)), up2_at2 (Or.inr (by omega)), up2_at2 (Or.inr (by omega))]; exact h5 i hi
  · rw [up2_at2 (Or.inr (by omega))]; exact h6 w hw
theorem toll_n (h : MNet hm 82 0 N) {v : Nat} (hv : v < 16) (t : Nat) : MNet (up2 hm 82 (4 + v) (nI t)) 82 0 (aToll N v t) := by
  obtain ⟨h1, h2, h3, h4, h5, h6⟩ := MNet.z.mp h
  refine MNet.z.mpr ⟨?_, ?_, ?_, ?_, fun i hi => ?_, fun w hw => ?_⟩
  · rw [up2_at2 (Or.inr (by omega))]; exact h1
  · rw [up2_at2 (Or.inr (by omega))]; exact h2
  · rw [up2_at2 (Or.inr (by omega))]; exact h3
  · rw [up2_at2 (Or.inr (by omega))]; exact h4
  · rw [up2_at2 (Or.inr (by omega)), up2_at2 (Or.inr (by omega)), up2_at2 (Or.inr (by omega))]; exact h5 i hi
  · show _ = nI (if w = v then t else nL N w)
    by_cases c : w = v
    · rw [c, up2_at, if_pos rfl]
    · rw [up2_at2 (Or.inr (by omega)), if_neg c]; exact h6 w hw
theorem turn_m (h60 : nM N ≤ 60) (h : MNet hm 82 0 N) {a : Nat} (o : Bool) : MNet (up2 hm 82 (140 + a) (if o = true then 1 else 0)) 82 0 (aTurn N a o) := by
  obtain ⟨h1, h2, h3, h4, h5, h6⟩ := MNet.z.mp h
  refine MNet.z.mpr ⟨?_, ?_, ?_, ?_, fun i hi => ⟨?_, ?_, ?_⟩, fun w hw => ?_⟩
  · rw [up2_at2 (Or.inr (by omega))]; exact h1
  · rw [up2_at2 (Or.inr (by omega))]; exact h2
  · rw [up2_at2 (Or.inr (by omega))]; exact h3
  · rw [up2_at2 (Or.inr (by omega))]; exact h4
  · have hi : i < nM N := hi
    rw [up2_at2 (Or.inr (by omega))]; exact (h5 i hi).1
  · have hi : i < nM N := hi
    rw [up2_at2 (Or.inr (by omega))]; exact (h5 i hi).2.1
  · show _ = if (if i = a then o else nO N i) = true then 1 else 0
    by_cases c : i = a
    · rw [c, up2_at, if_pos rfl]
    · rw [up2_at2 (Or.inr (by omega)), if_neg c]; exact (h5 i hi).2.2
  · rw [up2_at2 (Or.inr (by omega))]; exact h6 w hw
theorem lay_m (h : MNet hm 82 0 N) (h60 : nM N < 60) (a b : Nat) : ∃ y, f_X10_lays hm (nI a) (nI b) = some (nI (nM N), y) ∧ MNet y 82 0 (aLay N a b) ∧ FrM W82 hm y := by
  unfold f_X10_lays
  rw [m_arcs h]
  obtain ⟨h1, h2, h3, h4, h5, h6⟩ := MNet.z.mp h
  simp only [Option.bind_some, lt]
  rw [show (20 : Int32) = nI 20 from rfl, show (80 : Int32) = nI 80 from rfl, show (140 : Int32) = nI 140 from rfl, show (3 : Int32) = nI 3 from rfl, nI_add, nI_add, nI_add, gck_ni (by omega) (by omega), gck_ni (by omega) (by omega), gck_ni (by omega) (by omega), gck_ni (by omega) (by omega), gck_ni (by omega) (by omega), nI_clamp (by omega), nI_clamp (by omega), nI_clamp (by omega), nI_clamp (by omega)]
  obtain ⟨x, ex⟩ : ∃ x, up2 (up2 (up2 hm 82 (20 + nM N) (nI a)) 82 (80 + nM N) (nI b)) 82 (140 + nM N) 1 = x := ⟨_, rfl⟩
  rw [ex]
  have f : FrM (fun c j => c = 82 ∧ (j = 20 + nM N ∨ j = 80 + nM N ∨ j = 140 + nM N)) hm x := by
    rw [← ex]
    exact ((FrM.s (W := fun c j => c = 82 ∧ (j = 20 + nM N ∨ j = 80 + nM N ∨ j = 140 + nM N)) (by omega)).tr (FrM.s (by omega))).tr (FrM.s (by omega))
  have v20 : x 82 (20 + nM N) = nI a := by rw [← ex, up2_at2 (Or.inr (by omega)), up2_at2 (Or.inr (by omega)), up2_at]
  have v80 : x 82 (80 + nM N) = nI b := by rw [← ex, up2_at2 (Or.inr (by omega)), up2_at]
  have v140 : x 82 (140 + nM N) = 1 := by rw [← ex, up2_at]
  have v3 : x 82 3 = nI (nM N) := by rw [f 82 3 (by omega)]; exact h4
  rw [v3]
  refine ⟨_, rfl, MNet.z.mpr ⟨?_, ?_, ?_, ?_, fun i hi => ?_, fun w hw => ?_⟩, (f.mono fun c j hc => hc.1).tr (FrM.s rfl)⟩
  · rw [up2_at2 (Or.inr (by omega)), f _ _ (by omega)]; exact h1
  · rw [up2_at2 (Or.inr (by omega)), f _ _ (by omega)]; exact h2
  · rw [up2_at2 (Or.inr (by omega)), f _ _ (by omega)]; exact h3
  · rw [up2_at]
    exact nI_1 _
  · have hi : i < nM N + 1 := hi
    show _ = nI (if i = nM N then a else nF N i) ∧ _ = nI (if i = nM N then b else nT N i) ∧ _ = if (if i = nM N then true else nO N i) = true then 1 else 0
    rw [up2_at2 (Or.inr (by omega)), up2_at2 (Or.inr (by omega)), up2_at2 (Or.inr (by omega))]
    by_cases c : i = nM N
    · rw [c, if_pos rfl, if_pos rfl, if_pos rfl, if_pos rfl]
      exact ⟨v20, v80, v140⟩
    · rw [if_neg c, if_neg c, if_neg c, f _ _ (by omega), f _ _ (by omega), f _ _ (by omega)]
      exact h5 i (by omega)
  · rw [up2_at2 (Or.inr (by omega)), f _ _ (by omega)]; exact h6 w hw
theorem new_m (n : Nat) (hn : 2 ≤ n) (h16 : n ≤ 16) : ∃ y, f_X10_isFresh hm (nI n) = some y ∧ MNet y 82 0 (aNew n) ∧ FrM W82 hm y := by
  have key : ∃ y, lp (f_X10_isFresh_L2 (nI n)) 2000 (0, hm) = some y ∧ FrM W82 hm y ∧ ∀ k, k < 200 → y 82 k = if 4 ≤ k ∧ k < 20 then 1 else 0 := by
    refine lp_for (step := f_X10_isFresh_L2 (nI n)) 200 (fun j s => s.1 = nI j ∧ FrM W82 hm s.2 ∧ ∀ k, k < j → s.2 82 k = if 4 ≤ k ∧ k < 20 then 1 else 0) _ ?_ ?_ ⟨rfl, FrM.rf, fun k hk => absurd hk (by omega)⟩ (by omega)
    · rintro j ⟨i, x⟩ hj ⟨h0, hf, hh⟩
      dsimp only at h0 hf hh
      subst h0
      have nx : ∀ v : Int32, v = (if 4 ≤ j ∧ j < 20 then 1 else 0) → ∃ s', f_X10_isFresh_J30 x (nI n) (nI j) (nI j) v = some (.inl s') ∧ s'.1 = nI (j + 1) ∧ FrM W82 hm s'.2 ∧ ∀ k, k < j + 1 → s'.2 82 k = if 4 ≤ k ∧ k < 20 then 1 else 0 := fun v hv => by
        unfold f_X10_isFresh_J30
        rw [gck_ni (by omega) (by omega), nI_clamp (by omega)]
        simp only [lt]
        refine ⟨_, rfl, nI_1 j, hf.tr (FrM.s rfl), fun k hk => ?_⟩
        dsimp only
        by_cases c : k = j
        · rw [c, up2_at, hv]
        · rw [up2_at2 (Or.inr c)]
          exact hh k (by omega)
      unfold f_X10_isFresh_L2
      dsimp only
      rw [if_neg (show ¬ (200 : Int32) ≤ nI j from nI_ge (a := j) (b := 200) hj (by omega))]
      by_cases c1 : j < 4
      · rw [if_pos (show nI j < (4 : Int32) from nI_lt (a := j) (b := 4) c1 (by omega))]
        exact nx 0 (by rw [if_neg (by omega)])
      · rw [if_neg (show ¬ nI j < (4 : Int32) from nI_nlt (a := j) (b := 4) (by omega) (by omega))]
        by_cases c2 : 20 ≤ j
        · rw [if_pos (show (20 : Int32) ≤ nI j from nI_le (a := 20) (b := j) c2 (by omega))]
          exact nx 0 (by rw [if_neg (by omega)])
        · rw [if_neg (show ¬ (20 : Int32) ≤ nI j from nI_ge (a := j) (b := 20) (by omega) (by omega))]
          exact nx 1 (by rw [if_pos (by omega)])
    · rintro ⟨i, x⟩ ⟨h0, hf, hh⟩
      dsimp only at h0 hf hh
      subst h0
      unfold f_X10_isFresh_L2
      dsimp only
      rw [if_pos (show (200 : Int32) ≤ nI 200 from Int32.le_refl _)]
      exact ⟨_, rfl, hf, hh⟩
  obtain ⟨y, ey, y1, y2⟩ := key
  unfold f_X10_isFresh
  rw [ey]
  simp only [Option.bind_some, lt]
  rw [show (0 : Int32) = nI 0 from rfl, show (2 : Int32) = nI 2 from rfl, show (1 : Int32) = nI 1 from rfl, gck_ni (by omega) (by omega), gck_ni (by omega) (by omega), nI_clamp (by omega), nI_clamp (by omega), sub_n (by omega)]
  refine ⟨_, rfl, MNet.z.mpr ⟨?_, ?_, up2_at, ?_, fun i hi => absurd hi (by show ¬ i < 0; omega), fun w hw => ?_⟩, (y1.tr (FrM.s rfl)).tr (FrM.s rfl)⟩
  · rw [up2_at2 (Or.inr (by decide)), up2_at]
    rfl
  · rw [up2_at2 (Or.inr (by decide)), up2_at2 (Or.inr (by decide)), y2 1 (by omega), if_neg (by omega)]
    rfl
  · rw [up2_at2 (Or.inr (by decide)), up2_at2 (Or.inr (by decide)), y2 3 (by omega), if_neg (by omega)]
    rfl
  · rw [up2_at2 (Or.inr (by omega)), up2_at2 (Or.inr (by omega)), y2 (4 + w) (by omega), if_pos (by omega)]
    rfl
/-- 200 cells copied -/
theorem copies_ok {c0 L0 c2 L2 a b : Nat} (ha : a + 200 ≤ L0) (hb : b + 200 ≤ L2) (hL0 : L0 ≤ 1600) (hL2 : L2 ≤ 1600) (hd : c0 ≠ c2 ∨ a + 200 ≤ b ∨ b + 200 ≤ a) (hm : gIH) : ∃ y, f_X10_copies c0 L0 c2 L2 hm (nI a) (nI b) = some y ∧ (∀ k, k < 200 → y c2 (b + k) = hm c0 (a + k)) ∧ FrM (fun c j => c = c2 ∧ b ≤ j ∧ j < b + 200) hm y := by
  have key : ∃ y, lp (f_X10_copies_L3 c0 L0 c2 L2 (nI a) (nI b)) 2000 (0, hm) = some y ∧ (∀ k, k < 200 → y c2 (b + k) = hm c0 (a + k)) ∧ FrM (fun c j => c = c2 ∧ b ≤ j ∧ j < b + 200) hm y := by
    refine lp_for (step := f_X10_copies_L3 c0 L0 c2 L2 (nI a) (nI b)) 200 (fun j s => s.1 = nI j ∧ (∀ k, k < j → s.2 c2 (b + k) = hm c0 (a + k)) ∧ FrM (fun c j => c = c2 ∧ b ≤ j ∧ j < b + 200) hm s.2) _ ?_ ?_ ⟨rfl, fun k hk => absurd hk (by omega), FrM.rf⟩ (by omega)
    · rintro j ⟨i, x⟩ hj ⟨h0, hh, hf⟩
      dsimp only at h0 hf hh
      subst h0
      unfold f_X10_copies_L3
      dsimp only
      rw [if_neg (show ¬ (200 : Int32) ≤ nI j from nI_ge (a := j) (b := 200) hj (by omega)), nI_add, nI_add, gck_ni (by omega) (by omega), gck_ni (by omega) (by omega), nI_clamp (by omega), nI_clamp (by omega)]
      simp only [lt]
      refine ⟨_, rfl, nI_1 j, fun k hk => ?_, hf.tr (FrM.s (by omega))⟩
      dsimp only
      by_cases c : k = j
      · rw [c, up2_at, hf c0 (a + j) (by omega)]
      · rw [up2_at2 (Or.inr (by omega))]
        exact hh k (by omega)
    · rintro ⟨i, x⟩ ⟨h0, hh, hf⟩
      dsimp only at h0 hf hh
      subst h0
      unfold f_X10_copies_L3
      dsimp only
      rw [if_pos (show (200 : Int32) ≤ nI 200 from Int32.le_refl _)]
      exact ⟨_, rfl, hh, hf⟩
  obtain ⟨y, ey, hy⟩ := key
  refine ⟨y, ?_, hy⟩
  unfold f_X10_copies
  rw [ey]
  rfl
theorem MNet.copy {c0 c2 a b : Nat} {y : gIH} (hN : aOk N) (h : MNet hm c0 a N) (hc : ∀ k, k < 200 → y c2 (b + k) = hm c0 (a + k)) : MNet y c2 b N := by
  have h60 := hN.m60
  obtain ⟨h1, h2, h3, h4, h5, h6⟩ := h
  refine ⟨(hc 0 (by omega)).trans h1, (hc 1 (by omega)).trans h2, (hc 2 (by omega)).trans h3, (hc 3 (by omega)).trans h4, fun i hi => ⟨?_, ?_, ?_⟩, fun v hv => ?_⟩
  · rw [hc _ (by omega)]; exact (h5 i hi).1
  · rw [hc _ (by omega)]; exact (h5 i hi).2.1
  · rw [hc _ (by omega)]; exact (h5 i hi).2.2
  · rw [hc _ (by omega)]; exact h6 v hv
/-- the part of a row where a net lies -/
theorem MNet.part {w o : Nat} {y : gIH} (hN : aOk N) (h : MNet hm w o N) (hc : ∀ j, o ≤ j → j < o + 200 → y w j = hm w j) : MNet y w o N := h.copy hN (fun k hk => hc (o + k) (by omega) (by omega))
end
