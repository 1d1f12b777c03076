/-! THE REFERENCE'S ACTS OF A TEXT -/
theorem aRf_b {k : Nat} {N : aN} {a b b' : Nat} (h : k = 3 ∨ k = 6 → b = b') : aRf k N a b = aRf k N a b' := by
  by_cases z : k = 3 ∨ k = 6
  · rw [h z]
  · unfold aRf
    rw [if_neg (show ¬ k = 3 from fun q => z (Or.inl q)), if_neg (show ¬ k = 6 from fun q => z (Or.inr q)), if_neg (show ¬ k = 3 from fun q => z (Or.inl q)), if_neg (show ¬ k = 6 from fun q => z (Or.inr q))]
theorem aPf_b {k : Nat} {N : aN} {a b b' : Nat} (hk : k < 7) (h : k = 3 ∨ k = 6 → b = b') : aPf k N a b = aPf k N a b' := by
  rcases (show k = 0 ∨ k = 1 ∨ k = 2 ∨ k = 3 ∨ k = 4 ∨ k = 5 ∨ k = 6 by omega) with rfl | rfl | rfl | rfl | rfl | rfl | rfl
  · rfl
  · rfl
  · rfl
  · rw [h (Or.inl rfl)]
  · rfl
  · rfl
  · rw [h (Or.inr rfl)]
theorem rnA_one {k w : Nat} {f : Nat → Nat} {N : aN} {a b : Nat} (hk : k < 7) (ha : f (w * 0) = a) (hb : k = 3 ∨ k = 6 → f (w * 0 + 1) = b) : (rnA k w f N 1).1 = aRf k N a b ∧ (aRf k N a b = 0 → (rnA k w f N 1).2 = aPf k N a b) := by
  have e := aRf_b (N := N) (a := a) hb
  have e2 := aPf_b (N := N) (a := a) hk hb
  have h0 : (rnA k w f N 0).1 = 0 := rfl
  have h1 : (rnA k w f N 0).2 = N := rfl
  by_cases c : aRf k N a b = 0
  · have c2 : aRf k (rnA k w f N 0).2 (f (w * 0)) (f (w * 0 + 1)) = 0 := by rw [h1, ha, e, c]
    rw [show (1 : Nat) = 0 + 1 from rfl, rnA_y h0 c2, h1, ha, c]
    exact ⟨rfl, fun _ => e2⟩
  · have c2 : ¬ aRf k (rnA k w f N 0).2 (f (w * 0)) (f (w * 0 + 1)) = 0 := by rw [h1, ha, e]; exact c
    rw [show (1 : Nat) = 0 + 1 from rfl, rnA_r h0 c2, h1, ha]
    exact ⟨e, fun z => absurd z c⟩
section
variable {N : aN} {m : gIH}
theorem whyTell_m (hN : aOk N) (hM : MNet m 82 0 N) {k a b : Nat} (hk : k = 1 ∨ k = 2) (ha : a < 2 ^ 31) : f_X10_whyNoTell m (nI a) (nI k) = some (nI (aRf k N a b)) := by
  have hr16 := hN.r16
  have he16 := hN.e16'
  have hz := MNet.z.mp hM
  unfold f_X10_whyNoTell
  rw [isNn hN hM ha]
  simp only [Option.bind_some]
  rcases hk with rfl | rfl
  · show _ = some (nI (if a < nN N then (if nRt N = a then 4 else 0) else 1))
    by_cases c : a < nN N
    · rw [if_pos c, if_pos c, if_neg i1n0, gck_ni (by omega) (by omega), nI_clamp (by omega), hz.2.1]
      by_cases d : nRt N = a
      · rw [if_pos (by rw [d]), if_pos d]
        rfl
      · rw [if_neg (fun z => d ((nI_eq (by omega) ha).mp z)), if_neg d]
        rfl
    · rw [if_neg c, if_neg c, if_pos rfl]
      rfl
  · show _ = some (nI (if a < nN N then (if nEx N = a then 4 else 0) else 1))
    by_cases c : a < nN N
    · rw [if_pos c, if_pos c, if_neg i1n0, gck_ni (by omega) (by omega), nI_clamp (by omega), hz.2.2.1]
      by_cases d : nEx N = a
      · rw [if_pos (by rw [d]), if_pos d]
        rfl
      · rw [if_neg (fun z => d ((nI_eq (by omega) ha).mp z)), if_neg d]
        rfl
    · rw [if_neg c, if_neg c, if_pos rfl]
      rfl
theorem whyLay_m (hN : aOk N) (hM : MNet m 82 0 N) {a b : Nat} (ha : a < 2 ^ 31) (hb : b < 2 ^ 31) : f_X10_whyNoLay m (nI a) (nI b) = some (nI (aRf 3 N a b)) := by
  have h60 := hN.m60
  unfold f_X10_whyNoLay
  rw [isNn hN hM ha, isNn hN hM hb]
  simp only [Option.bind_some]
  show _ = some (nI (if a < nN N then (if b < nN N then (if nM N = 60 then 2 else 0) else 1) else 1))
  by_cases c : a < nN N
  · rw [if_pos c, if_pos c, if_neg i1n0]
    by_cases d : b < nN N
    · rw [if_pos d, if_pos d, if_neg i1n0, m_arcs hM]
      simp only [Option.bind_some]
      by_cases e : nM N = 60
      · rw [if_pos e, if_pos (show nI (nM N) = (60 : Int32) by rw [e]; rfl)]
        rfl
      · rw [if_neg e, if_neg (show ¬ nI (nM N) = (60 : Int32) from fun z => e ((nI_eq (b := 60) (by omega) (by omega)).mp z))]
        rfl
    · rw [if_neg d, if_neg d, if_pos rfl]
      rfl
  · rw [if_neg c, if_neg c, if_pos rfl]
    rfl
theorem whyTurn_m (hN : aOk N) (hM : MNet m 82 0 N) {a b : Nat} (o : Bool) (ha : a < 2 ^ 31) : f_X10_whyNoTurn m (nI a) (if o = true then 1 else 0) = some (nI (aRf (if o = true then 5 else 4) N a b)) := by
  have h60 := hN.m60
  unfold f_X10_whyNoTurn
  rw [isAn hN hM ha]
  simp only [Option.bind_some]
  have ev : a < nM N → gck 200 ((140 : Int32) + nI a) (if m 82 ((140 : Int32) + nI a).toNatClampNeg = (if o = true then (1 : Int32) else 0) then some (4 : Int32) else some 0) = if (if nO N a = true then (1 : Int32) else 0) = (if o = true then (1 : Int32) else 0) then some 4 else some 0 := fun c => by
    rw [show (140 : Int32) = nI 140 from rfl, nI_add, gck_ni (by omega) (by omega), nI_clamp (by omega), ((MNet.z.mp hM).2.2.2.2.1 a c).2.2]
  cases o with
  | false =>
    show _ = some (nI (if a < nM N then (if nO N a = true then 0 else 4) else 3))
    by_cases c : a < nM N
    · rw [if_pos c, if_pos c, if_neg i1n0, ev c]
      by_cases d : nO N a = true
      · rw [if_pos d, if_pos d, if_neg (by decide)]
        rfl
      · rw [if_neg d, if_neg d, if_pos (by decide)]
        rfl
    · rw [if_neg c, if_neg c, if_pos rfl]
      rfl
  | true =>
    show _ = some (nI (if a < nM N then (if nO N a = true then 4 else 0) else 3))
    by_cases c : a < nM N
    · rw [if_pos c, if_pos c, if_neg i1n0, ev c]
      by_cases d : nO N a = true
      · rw [if_pos d, if_pos d, if_pos (by decide)]
        rfl
      · rw [if_neg d, if_neg d, if_neg (by decide)]
        rfl
    · rw [if_neg c, if_neg c, if_pos rfl]
      rfl
theorem whyToll_m (hN : aOk N) (hM : MNet m 82 0 N) {a b : Nat} (ha : a < 2 ^ 31) (hb : b < 2 ^ 31) : f_X10_whyNoToll m (nI a) (nI b) = some (nI (aRf 6 N a b)) := by
  have hn := hN.n16
  unfold f_X10_whyNoToll
  rw [isNn hN hM ha]
  simp only [Option.bind_some]
  show _ = some (nI (if a < nN N then (if nL N a = b then 4 else 0) else 1))
  by_cases c : a < nN N
  · have hl := hN.2.2.2.2.2.2 a (by omega)
    rw [if_pos c, if_pos c, if_neg i1n0, show (4 : Int32) + nI a = nI (4 + a) from nI_add 4 a, gck_ni (by omega) (by omega), nI_clamp (by omega), (MNet.z.mp hM).2.2.2.2.2 a (by omega)]
    by_cases d : nL N a = b
    · rw [if_pos (by rw [d]), if_pos d]
      rfl
    · rw [if_neg (fun z => d ((nI_eq (by omega) hb).mp z)), if_neg d]
      rfl
  · rw [if_neg c, if_neg c, if_pos rfl]
    rfl
def W28 : Nat → Nat → Prop := fun c j => (c = 81 ∧ j = 28) ∨ c = 82
theorem lay_l (hN : aOk N) (hM : MNet m 82 0 N) {f : Nat → Nat} {J : Nat} (hJ : 2 * J < 400) (h93 : ∀ i, i < 2 * J → m 93 i = nI (f i)) (hB : fB 3 2 f J) (h28 : m 81 28 = 0) :
    ∃ y, lp (f_X10_readsLay_L10 (nI (2 * J))) 2000 ((0 : Int32), m) = some y ∧ FrM W28 m y ∧ y 81 28 = nI (rnA 3 2 f N J).1 ∧ ((rnA 3 2 f N J).1 = 0 → MNet y 82 0 (rnA 3 2 f N J).2) := by
  refine lp_forx (step := f_X10_readsLay_L10 (nI (2 * J))) J (fun j s => s.1 = nI (2 * j) ∧ FrM W28 m s.2 ∧ s.2 81 28 = nI (rnA 3 2 f N j).1 ∧ ((rnA 3 2 f N j).1 = 0 → MNet s.2 82 0 (rnA 3 2 f N j).2)) _ ?_ ?_ ⟨rfl, FrM.rf, h28, fun _ => hM⟩ (by omega)
  · rintro j ⟨i, y⟩ hj ⟨h0, hf, h3, h4⟩
    dsimp only at h0 hf h3 h4
    subst h0
    unfold f_X10_readsLay_L10
    dsimp only
    rw [if_neg (nI_ge (show 2 * j < 2 * J by omega) (by omega))]
    by_cases c : (rnA 3 2 f N j).1 = 0
    · left
      have hNj := rnA_ok hN (by omega) hB j (by omega) c
      have hMj := h4 c
      have hb := hB j hj
      have b3 := hb.2.2 (Or.inl rfl)
      have e28 : y 81 28 = 0 := by rw [h3, c]; rfl
      have e93 : ∀ i, i < 2 * J → y 93 i = nI (f i) := fun i hi => by
        rw [hf 93 i (by unfold W28; omega)]
        exact h93 i hi
      rw [if_pos e28, nI_1, gck_ni (show 2 * j < 400 by omega) (by omega), gck_ni (show 2 * j + 1 < 400 by omega) (by omega), nI_clamp (show 2 * j < 2 ^ 31 by omega), nI_clamp (show 2 * j + 1 < 2 ^ 31 by omega), e93 (2 * j) (by omega), e93 (2 * j + 1) (by omega), whyLay_m hNj hMj hb.1 (by omega)]
      simp only [Option.bind_some, lt]
      obtain ⟨x3, e3⟩ : ∃ x3, up2 y 81 28 (nI (aRf 3 (rnA 3 2 f N j).2 (f (2 * j)) (f (2 * j + 1)))) = x3 := ⟨_, rfl⟩
      have v28 : x3 81 28 = nI (aRf 3 (rnA 3 2 f N j).2 (f (2 * j)) (f (2 * j + 1))) := by rw [← e3, up2_at]
      have f3 : FrM (fun c j => c = 81 ∧ j = 28) y x3 := by
        rw [← e3]
        exact FrM.s ⟨rfl, rfl⟩
      have f3' : FrM W28 m x3 := hf.tr (f3.mono fun c j h => Or.inl h)
      have h4c := aRf_4 3 (rnA 3 2 f N j).2 (f (2 * j)) (f (2 * j + 1))
      rw [e3, v28]
      by_cases d : aRf 3 (rnA 3 2 f N j).2 (f (2 * j)) (f (2 * j + 1)) = 0
      · have e9 : ∀ i, i < 2 * J → x3 93 i = nI (f i) := fun i hi => by
          rw [f3 93 i (by omega)]
          exact e93 i hi
        have h60 : nM (rnA 3 2 f N j).2 < 60 := by
          have hr : (if f (2 * j) < nN (rnA 3 2 f N j).2 then (if f (2 * j + 1) < nN (rnA 3 2 f N j).2 then (if nM (rnA 3 2 f N j).2 = 60 then 2 else 0) else 1) else 1) = 0 := d
          have := hNj.m60
          by_cases q : nM (rnA 3 2 f N j).2 = 60
          · rw [if_pos q] at hr
            split at hr
            · split at hr <;> omega
            · omega
          · omega
        obtain ⟨y5, ey5, g1, g2⟩ := lay_m (hMj.fr f3 (fun j => by omega)) h60 (f (2 * j)) (f (2 * j + 1))
        rw [d, if_pos nI_0, gck_ni (show 2 * j < 400 by omega) (by omega), gck_ni (show 2 * j + 1 < 400 by omega) (by omega), e9 (2 * j) (by omega), e9 (2 * j + 1) (by omega), ey5]
        simp only [Option.bind_some]
        have er := rnA_y c d
        refine ⟨_, rfl, ?_, f3'.tr (g2.mono fun c j h => Or.inr h), ?_, ?_⟩
        · show nI (2 * j) + nI 2 = nI (2 * (j + 1))
          rw [nI_add, Nat.mul_succ]
        · dsimp only
          rw [g2 81 28 (by omega), v28, er, d]
        · intro _
          rw [er]
          exact g1
      · rw [if_neg (nI_nz (by omega) (by omega))]
        have er := rnA_r c d
        refine ⟨_, rfl, ?_, f3', ?_, ?_⟩
        · show nI (2 * j) + nI 2 = nI (2 * (j + 1))
          rw [nI_add, Nat.mul_succ]
        · dsimp only
          rw [v28, er]
        · intro z
          rw [er] at z
          exact absurd z d
    · right
      have := rnA_4 (k := 3) (w := 2) (f := f) (N := N) j
      rw [if_neg (show ¬ y 81 28 = 0 by rw [h3]; exact nI_nz (by omega) (by omega))]
      have eJ := rnA_J c (J := J) (by omega)
      rw [eJ]
      exact ⟨_, rfl, hf, h3, h4⟩
  · rintro ⟨i, y⟩ ⟨h0, hf, h3, h4⟩
    dsimp only at h0 hf h3 h4
    subst h0
    unfold f_X10_readsLay_L10
    dsimp only
    rw [if_pos (nI_le (Nat.le_refl _) (by omega))]
    exact ⟨_, rfl, hf, h3, h4⟩
theorem turn_l (hN : aOk N) (hM : MNet m 82 0 N) (o : Bool) {f : Nat → Nat} {J : Nat} (hJ : 1 * J < 400) (h93 : ∀ i, i < 1 * J → m 93 i = nI (f i)) (hB : fB (if o = true then 5 else 4) 1 f J) (h28 : m 81 28 = 0) :
    ∃ y, lp (f_X10_readsTurn_L10 (if o = true then 1 else 0) (nI (1 * J))) 2000 ((0 : Int32), m) = some y ∧ FrM W28 m y ∧ y 81 28 = nI (rnA (if o = true then 5 else 4) 1 f N J).1 ∧ ((rnA (if o = true then 5 else 4) 1 f N J).1 = 0 → MNet y 82 0 (rnA (if o = true then 5 else 4) 1 f N J).2) := by
  obtain ⟨κ, eκ⟩ : ∃ κ, (if o = true then 5 else 4) = κ := ⟨_, rfl⟩
  have hκ : κ < 7 := by
    rw [← eκ]
    split <;> omega
  have hwy : ∀ {N' : aN} {y : gIH} {a b : Nat}, aOk N' → MNet y 82 0 N' → a < 2 ^ 31 → f_X10_whyNoTurn y (nI a) (if o = true then 1 else 0) = some (nI (aRf κ N' a b)) := fun h1 h2 h3 => by
    rw [← eκ]
    exact whyTurn_m h1 h2 o h3
  have hpf : ∀ (N' : aN) (a b : Nat), aPf κ N' a b = aTurn N' a o := fun N' a b => by
    rw [← eκ]
    cases o with
    | false => rfl
    | true => rfl
  have hrf : ∀ (N' : aN) (a b : Nat), aRf κ N' a b = 0 → a < nM N' := fun N' a b hr => by
    apply Classical.byContradiction
    intro c
    rw [← eκ] at hr
    cases o with
    | false =>
      have hr : (if a < nM N' then (if nO N' a = true then 0 else 4) else 3) = 0 := hr
      rw [if_neg c] at hr
      omega
    | true =>
      have hr : (if a < nM N' then (if nO N' a = true then 4 else 0) else 3) = 0 := hr
      rw [if_neg c] at hr
      omega
  rw [eκ] at hB ⊢
  refine lp_forx (step := f_X10_readsTurn_L10 (if o = true then 1 else 0) (nI (1 * J))) J (fun j s => s.1 = nI (1 * j) ∧ FrM W28 m s.2 ∧ s.2 81 28 = nI (rnA κ 1 f N j).1 ∧ ((rnA κ 1 f N j).1 = 0 → MNet s.2 82 0 (rnA κ 1 f N j).2)) _ ?_ ?_ ⟨rfl, FrM.rf, h28, fun _ => hM⟩ (by omega)
  · rintro j ⟨i, y⟩ hj ⟨h0, hf, h3, h4⟩
    dsimp only at h0 hf h3 h4
    subst h0
    unfold f_X10_readsTurn_L10
    dsimp only
    rw [if_neg (nI_ge (show 1 * j < 1 * J by omega) (by omega))]
    by_cases c : (rnA κ 1 f N j).1 = 0
    · left
      have hNj := rnA_ok hN hκ hB j (by omega) c
      have hMj := h4 c
      have hb := hB j hj
      have e28 : y 81 28 = 0 := by rw [h3, c]; rfl
      have e93 : y 93 (1 * j) = nI (f (1 * j)) := by
        rw [hf 93 (1 * j) (by unfold W28; omega)]
        exact h93 _ (by omega)
      rw [if_pos e28, gck_ni (show 1 * j < 400 by omega) (by omega), nI_clamp (show 1 * j < 2 ^ 31 by omega), e93, hwy (b := f (1 * j + 1)) hNj hMj hb.1]
      simp only [Option.bind_some, lt]
      obtain ⟨x3, e3⟩ : ∃ x3, up2 y 81 28 (nI (aRf κ (rnA κ 1 f N j).2 (f (1 * j)) (f (1 * j + 1)))) = x3 := ⟨_, rfl⟩
      have v28 : x3 81 28 = nI (aRf κ (rnA κ 1 f N j).2 (f (1 * j)) (f (1 * j + 1))) := by rw [← e3, up2_at]
      have f3 : FrM (fun c j => c = 81 ∧ j = 28) y x3 := by
        rw [← e3]
        exact FrM.s ⟨rfl, rfl⟩
      have f3' : FrM W28 m x3 := hf.tr (f3.mono fun c j h => Or.inl h)
      have h4c := aRf_4 κ (rnA κ 1 f N j).2 (f (1 * j)) (f (1 * j + 1))
      rw [e3, v28]
      by_cases d : aRf κ (rnA κ 1 f N j).2 (f (1 * j)) (f (1 * j + 1)) = 0
      · have e9 : x3 93 (1 * j) = nI (f (1 * j)) := by
          rw [f3 93 (1 * j) (by omega)]
          exact e93
        have h60 := hNj.m60
        have ha := hrf _ _ _ d
        have g1 := turn_m h60 (hMj.fr f3 (fun j => by omega)) (a := f (1 * j)) o
        rw [d, if_pos nI_0, gck_ni (show 1 * j < 400 by omega) (by omega), e9, show (140 : Int32) = nI 140 from rfl, nI_add, gck_ni (show 140 + f (1 * j) < 200 by omega) (by omega), nI_clamp (show 140 + f (1 * j) < 2 ^ 31 by omega)]
        have er := rnA_y c d
        refine ⟨_, rfl, ?_, f3'.tr (FrM.s (Or.inr rfl)), ?_, ?_⟩
        · show nI (1 * j) + nI 1 = nI (1 * (j + 1))
          rw [nI_add, Nat.mul_succ]
        · dsimp only
          rw [up2_at2 (Or.inl (by decide)), v28, er, d]
        · intro _
          rw [er]
          dsimp only
          rw [hpf]
          exact g1
      · rw [if_neg (nI_nz (by omega) (by omega))]
        have er := rnA_r c d
        refine ⟨_, rfl, ?_, f3', ?_, ?_⟩
        · show nI (1 * j) + nI 1 = nI (1 * (j + 1))
          rw [nI_add, Nat.mul_succ]
        · dsimp only
          rw [v28, er]
        · intro z
          rw [er] at z
          exact absurd z d
    · right
      have := rnA_4 (k := κ) (w := 1) (f := f) (N := N) j
      rw [if_neg (show ¬ y 81 28 = 0 by rw [h3]; exact nI_nz (by omega) (by omega))]
      have eJ := rnA_J c (J := J) (by omega)
      rw [eJ]
      exact ⟨_, rfl, hf, h3, h4⟩
  · rintro ⟨i, y⟩ ⟨h0, hf, h3, h4⟩
    dsimp only at h0 hf h3 h4
    subst h0
    unfold f_X10_readsTurn_L10
    dsimp only
    rw [if_pos (nI_le (Nat.le_refl _) (by omega))]
    exact ⟨_, rfl, hf, h3, h4⟩
end
