/-! THE CLASS'S WEIGHING -/
theorem addGate_ok {g : Nat} {xc : gXH} (a : Nat) (ha : a < 16) (b : Int32) (hb : S16 b) (hs : ∀ v, v < 16 → S16 (xc.1 (g + 2) v)) :
    ∃ y, f_X3_addGate g xc (nI a) b = some y ∧ Fr (fun q => q = g + 2) xc y ∧ ∀ v, v < 16 → S16 (y.1 (g + 2) v) ∧ ∀ x, x < 16 → (bt (y.1 (g + 2) v) x = true ↔ bt (xc.1 (g + 2) v) x = true ∨ (x = a ∧ bt b v = true)) := by
  refine Exists.elim (lp_forx (step := f_X3_addGate_L2 g (nI a) b) 16
    (fun j t => t.1 = nI j ∧ Fr (fun q => q = g + 2) xc t.2 ∧ ∀ v, v < 16 → S16 (t.2.1 (g + 2) v) ∧ ∀ x, x < 16 → (bt (t.2.1 (g + 2) v) x = true ↔ bt (xc.1 (g + 2) v) x = true ∨ (x = a ∧ v < j ∧ bt b v = true)))
    (fun y => Fr (fun q => q = g + 2) xc y ∧ ∀ v, v < 16 → S16 (y.1 (g + 2) v) ∧ ∀ x, x < 16 → (bt (y.1 (g + 2) v) x = true ↔ bt (xc.1 (g + 2) v) x = true ∨ (x = a ∧ bt b v = true))) ?_ ?_ (s := (0, xc)) (k := 2000) ⟨rfl, Fr.rf, fun v hv => ⟨hs v hv, fun x hx => by simp⟩⟩ (by omega)) (fun y hh => ⟨y, by unfold f_X3_addGate; rw [hh.1]; rfl, hh.2⟩)
  · rintro j ⟨i, y⟩ hj ⟨h0, h1, h2⟩
    simp only at h0 h1 h2
    subst h0
    unfold f_X3_addGate_L2
    rw [if_neg (by show ¬ nI 16 ≤ nI j; rw [nI_leI (by omega) (by omega)]; omega)]
    by_cases hz : b = 0
    · right
      refine ⟨y, by rw [if_pos hz], h1, fun v hv => ⟨(h2 v hv).1, fun x hx => ?_⟩⟩
      rw [(h2 v hv).2 x hx, hz, b_0]
      simp
    · left
      rw [if_neg hz]
      by_cases hbj : bt b j = true
      · rw [if_neg (by rw [has0 _ (by omega), hbj]; decide)]
        simp only [lt]
        rw [atv_n (L := 16) hj (by omega), putv_n (L := 16) hj (by omega)]
        refine ⟨_, rfl, nI_1 j, h1.tr (Fr.s rfl), fun v hv => ?_⟩
        obtain ⟨g1, g2⟩ := bt_set ha (h2 j hj).1
        by_cases hvj : v = j
        · subst hvj
          have er : (sI y (g + 2) v (y.1 (g + 2) v ||| f_X9_only (nI a))).1 (g + 2) v = y.1 (g + 2) v ||| ((1 : Int32) <<< (nI a &&& 31)) := sI_at
          show S16 ((sI y (g + 2) v (y.1 (g + 2) v ||| f_X9_only (nI a))).1 (g + 2) v) ∧ _
          rw [er]
          refine ⟨g1, fun x hx => ?_⟩
          rw [g2, (h2 v hv).2 x hx]
          constructor
          · rintro ((q | q) | q)
            · exact Or.inl q
            · exact Or.inr ⟨q.1, by omega, q.2.2⟩
            · exact Or.inr ⟨q, by omega, hbj⟩
          · rintro (q | q)
            · exact Or.inl (Or.inl q)
            · exact Or.inr q.1
        · have er : (sI y (g + 2) j (y.1 (g + 2) j ||| f_X9_only (nI a))).1 (g + 2) v = y.1 (g + 2) v := sI_at2 hvj
          show S16 ((sI y (g + 2) j (y.1 (g + 2) j ||| f_X9_only (nI a))).1 (g + 2) v) ∧ _
          rw [er]
          refine ⟨(h2 v hv).1, fun x hx => ?_⟩
          rw [(h2 v hv).2 x hx]
          constructor
          · rintro (q | q)
            · exact Or.inl q
            · exact Or.inr ⟨q.1, by omega, q.2.2⟩
          · rintro (q | q)
            · exact Or.inl q
            · exact Or.inr ⟨q.1, by omega, q.2.2⟩
      · rw [if_pos (by rw [has0 _ (by omega)]; simpa using hbj)]
        refine ⟨_, rfl, nI_1 j, h1, fun v hv => ⟨(h2 v hv).1, fun x hx => ?_⟩⟩
        rw [(h2 v hv).2 x hx]
        constructor
        · rintro (q | q)
          · exact Or.inl q
          · exact Or.inr ⟨q.1, by omega, q.2.2⟩
        · rintro (q | ⟨q1, q2, q3⟩)
          · exact Or.inl q
          · refine Or.inr ⟨q1, ?_, q3⟩
            rcases Nat.lt_or_ge v j with r | r
            · exact r
            · rw [show v = j by omega] at q3
              exact absurd q3 hbj
  · rintro ⟨i, y⟩ ⟨h0, h1, h2⟩
    simp only at h0 h1 h2
    subst h0
    unfold f_X3_addGate_L2
    rw [if_pos (by show nI 16 ≤ nI 16; exact Int32.le_refl _)]
    refine ⟨y, rfl, h1, fun v hv => ⟨(h2 v hv).1, fun x hx => ?_⟩⟩
    rw [(h2 v hv).2 x hx]
    constructor
    · rintro (q | q)
      · exact Or.inl q
      · exact Or.inr ⟨q.1, q.2.2⟩
    · rintro (q | q)
      · exact Or.inl q
      · exact Or.inr ⟨q.1, hv, q.2⟩
theorem ct_dm {E : Nat → Nat → Prop} {S : Nat → Prop} {s : Int32} {v : Nat} (h : ∀ x, x < 16 → (bt s x = true ↔ Dm E S x v)) : fb_ct (bt s) 16 = dp E S v := by
  unfold dp
  refine fb_ct_cong fun x hx => ?_
  apply Bool.eq_iff_iff.mpr
  rw [h x hx, cb_t]
/-- the rows next of a weighing's start -/
def WG (g : Nat) : Nat → Prop := fun q => q = g ∨ q = g + 2 ∨ q = g + 3 ∨ q = g + 4
set_option maxHeartbeats 2000000 in
theorem weigh_ok {g : Nat} {xc : gXH} {E : Nat → Nat → Prop} (hE : E16 E) (hN : NX xc (g + 1) E) (a : Int32) (ha : S16 a) :
    ∃ y, f_X3_weigh g xc a = some y ∧ Fr (WG g) xc y ∧ GF y g E (fun s => bt a s = true) := by
  obtain ⟨S, hS⟩ : ∃ S : Nat → Prop, (fun s => bt a s = true) = S := ⟨_, rfl⟩
  have hSe : ∀ v, S v ↔ bt a v = true := fun v => by rw [← hS]
  have hS16 : ∀ s, S s → s < 16 := fun s h => ha.of_bt ((hSe s).mp h)
  rw [hS]
  obtain ⟨r, e1, r1, r2⟩ := spread_ok hE hN a 0 ha
  have r3 : ∀ v, v < 16 → (bt r v = true ↔ Rc E S nox v) := fun v hv => by
    rw [r2 v hv]
    exact Rc.congr (fun _ _ => Iff.rfl) (fun s => (hSe s).symm) (fun x => by rw [b_0]; simp [nox])
  obtain ⟨x1, ex1⟩ : ∃ x1, sI xc g 4 r = x1 := ⟨_, rfl⟩
  have f1 : Fr (WG g) xc x1 := by rw [← ex1]; exact Fr.s (Or.inl rfl)
  have x14 : x1.1 g 4 = r := by rw [← ex1]; exact sI_at
  obtain ⟨x2, e2, z1, z2⟩ := fill_ok (g + 2) 16 (by omega) x1 0
  have f2 : Fr (WG g) xc x2 := f1.tr (z2.mono fun c hc => by rw [hc]; exact Or.inr (Or.inl rfl))
  have x24 : x2.1 g 4 = r := by rw [z2.1 g (by omega)]; exact x14
  have step1 : ∃ y, lp (f_X3_weigh_L23 g a) 2000 (0, x2) = some y ∧ (Fr (WG g) xc y ∧ y.1 g 4 = r ∧ (∀ v, v < 16 → S16 (y.1 (g + 2) v) ∧ ∀ x, x < 16 → (bt (y.1 (g + 2) v) x = true ↔ Dm E S x v)) ∧ (∀ v, v < 16 → S16 (y.1 (g + 3) v) ∧ ∀ x, x < 16 → (bt (y.1 (g + 3) v) x = true ↔ Dm E S v x))) := by
    refine lp_for (step := f_X3_weigh_L23 g a) 16 (fun j t => t.1 = nI j ∧ Fr (WG g) xc t.2 ∧ t.2.1 g 4 = r ∧ (∀ v, v < 16 → S16 (t.2.1 (g + 2) v) ∧ ∀ x, x < 16 → (bt (t.2.1 (g + 2) v) x = true ↔ x < j ∧ Dm E S x v)) ∧ (∀ v, v < j → S16 (t.2.1 (g + 3) v) ∧ ∀ x, x < 16 → (bt (t.2.1 (g + 3) v) x = true ↔ Dm E S v x))) _ ?_ ?_ ⟨rfl, f2, x24, fun v hv => ?_, fun v hv => by omega⟩ (by omega)
    · rintro j ⟨i, y⟩ hj ⟨h0, h1, h2, h3, h4⟩
      simp only at h0 h1 h2 h3 h4
      subst h0
      have hNy : NX y (g + 1) E := hN.cg (h1.1 _ (by unfold WG; omega))
      -- with the lost of j
      have fin : ∀ l, S16 l → (∀ x, x < 16 → (bt l x = true ↔ Dm E S j x)) → ∃ s', f_X3_weigh_J69 g y a (nI j) l = some (.inl s') ∧ (s'.1 = nI (j + 1) ∧ Fr (WG g) xc s'.2 ∧ s'.2.1 g 4 = r ∧ (∀ v, v < 16 → S16 (s'.2.1 (g + 2) v) ∧ ∀ x, x < 16 → (bt (s'.2.1 (g + 2) v) x = true ↔ x < j + 1 ∧ Dm E S x v)) ∧ (∀ v, v < j + 1 → S16 (s'.2.1 (g + 3) v) ∧ ∀ x, x < 16 → (bt (s'.2.1 (g + 3) v) x = true ↔ Dm E S v x))) := by
        intro l hl hl2
        unfold f_X3_weigh_J69
        simp only [lt]
        rw [putv_n (L := 16) hj (by omega)]
        obtain ⟨w, ew⟩ : ∃ w, sI y (g + 3) j l = w := ⟨_, rfl⟩
        rw [ew]
        have w2 : w.1 (g + 2) = y.1 (g + 2) := by rw [← ew]; exact sI_row (by omega)
        obtain ⟨u, eu, u1, u2⟩ := addGate_ok (g := g) (xc := w) j hj l hl (fun v hv => by rw [w2]; exact (h3 v hv).1)
        rw [eu]
        simp only [Option.bind_some]
        have fw : Fr (WG g) y w := by rw [← ew]; exact Fr.s (Or.inr (Or.inr (Or.inl rfl)))
        have fu : Fr (WG g) w u := u1.mono fun c hc => by rw [hc]; exact Or.inr (Or.inl rfl)
        refine ⟨_, rfl, nI_1 j, (h1.tr fw).tr fu, ?_, fun v hv => ⟨(u2 v hv).1, fun x hx => ?_⟩, fun v hv => ?_⟩
        · show u.1 g 4 = r
          rw [u1.1 g (by omega), ← ew, sI_row (by omega)]
          exact h2
        · rw [(u2 v hv).2 x hx, w2, (h3 v hv).2 x hx, hl2 v hv]
          constructor
          · rintro (q | q)
            · exact ⟨by omega, q.2⟩
            · exact ⟨by omega, by rw [q.1]; exact q.2⟩
          · rintro ⟨q1, q2⟩
            rcases Nat.lt_or_ge x j with q | q
            · exact Or.inl ⟨q, q2⟩
            · have : x = j := by omega
              subst this
              exact Or.inr ⟨rfl, q2⟩
        · show S16 (u.1 (g + 3) v) ∧ ∀ x, x < 16 → (bt (u.1 (g + 3) v) x = true ↔ Dm E S v x)
          rw [u1.1 (g + 3) (by omega), ← ew]
          by_cases hvj : v = j
          · subst hvj
            rw [sI_at]
            exact ⟨hl, hl2⟩
          · rw [sI_at2 hvj]
            exact h4 v (by omega)
      unfold f_X3_weigh_L23
      rw [if_neg (by show ¬ nI 16 ≤ nI j; rw [nI_leI (by omega) (by omega)]; omega), h2]
      by_cases hr : bt r j = true
      · rw [if_neg (by rw [has0 _ (by omega), hr]; decide)]
        obtain ⟨q, eq, q1, q2⟩ := spread_ok hE hNy a (f_X9_only (nI j)) ha
        rw [eq]
        simp only [Option.bind_some, lt]
        refine fin _ ((r1.and).and) (fun x hx => ?_)
        rw [b_and, b_and, bt_not _ (by omega), bt_not _ (by omega), bt_only (by omega) (by omega)]
        have e3 := r3 x hx
        have e4 : bt q x = true ↔ Rc E S (fun s => s = j) x := by
          rw [q2 x hx]
          refine Iff.intro (fun h => h.mono (fun _ _ h => h) (fun s p z => Rc.base ((hSe s).mpr p) (fun z2 => z (by subst z2; rw [bt_only (by omega) (by omega)]; simp))) (fun x z => ?_)) (fun h => h.mono (fun _ _ h => h) (fun s p z => Rc.base ((hSe s).mp p) (fun z2 => z ?_)) (fun x z => ?_))
          · subst z
            rw [bt_only (by omega) (by omega)]
            simp
          · have : s < 16 := hS16 s p
            rw [bt_only (by omega) (by omega)] at z2
            simpa using z2
          · rcases Nat.lt_or_ge x 32 with k | k
            · rw [bt_only (by omega) k] at z
              simpa using z
            · rw [b_big k] at z
              cases z
        unfold Dm
        rw [← e3, ← e4]
        cases bt r x <;> cases bt q x <;> simp
        exact ⟨fun z q => z q.symm, fun z q => z q.symm⟩
      · rw [if_pos (by rw [has0 _ (by omega)]; simpa using hr)]
        refine fin 0 s16_0 (fun x hx => ?_)
        rw [b_0]
        constructor
        · intro q; cases q
        · intro q
          exact absurd ((r3 j hj).mpr q.rg) hr
    · rintro ⟨i, y⟩ ⟨h0, h1, h2, h3, h4⟩
      simp only at h0 h1 h2 h3 h4
      subst h0
      unfold f_X3_weigh_L23
      rw [if_pos (by show nI 16 ≤ nI 16; exact Int32.le_refl _)]
      refine ⟨y, rfl, h1, h2, fun v hv => ⟨(h3 v hv).1, fun x hx => ?_⟩, h4⟩
      rw [(h3 v hv).2 x hx]
      exact ⟨fun q => q.2, fun q => ⟨hx, q⟩⟩
    · show S16 (x2.1 (g + 2) v) ∧ ∀ x, x < 16 → (bt (x2.1 (g + 2) v) x = true ↔ _)
      rw [z1 v hv]
      refine ⟨s16_0, fun x hx => ?_⟩
      rw [b_0]
      simp
  obtain ⟨x3, e3, f3, x34, x3g, x3k⟩ := step1
  have step2 : ∃ y, lp (f_X3_weigh_L92 g) 2000 (0, x3) = some y ∧ (Fr (fun q => q = g + 4) x3 y ∧ ∀ v, v < 16 → KpI E S v (y.1 (g + 4) v)) := by
    refine lp_for (step := f_X3_weigh_L92 g) 16 (fun j t => t.1 = nI j ∧ Fr (fun q => q = g + 4) x3 t.2 ∧ ∀ v, v < j → KpI E S v (t.2.1 (g + 4) v)) _ ?_ ?_ ⟨rfl, Fr.rf, fun v hv => by omega⟩ (by omega)
    · rintro j ⟨i, y⟩ hj ⟨h0, h1, h2⟩
      simp only at h0 h1 h2
      subst h0
      have hy2 : y.1 (g + 2) = x3.1 (g + 2) := h1.1 _ (by omega)
      unfold f_X3_weigh_L92
      rw [if_neg (by show ¬ nI 16 ≤ nI j; rw [nI_leI (by omega) (by omega)]; omega), atv_n (L := 16) hj (by omega)]
      obtain ⟨q, eq, q1, q2⟩ := deepest_ok (xc := y) (g := g) (fun v hv => by rw [hy2]; exact (x3g v hv).1) (y.1 (g + 2) j) (by rw [hy2]; exact (x3g j hj).1)
      rw [eq]
      simp only [Option.bind_some, lt]
      rw [putv_n (L := 16) hj (by omega)]
      refine ⟨_, rfl, nI_1 j, h1.tr (Fr.s rfl), fun v hv => ?_⟩
      show KpI E S v ((sI y (g + 4) j q).1 (g + 4) v)
      by_cases hvj : v = j
      · subst hvj
        rw [sI_at]
        refine ⟨fun k hk => ?_, fun hno => q1 fun w hw => ?_⟩
        · have hk16 := hk.1.lt hE hS16
          obtain ⟨m, m1, m2, m3, m4⟩ := q2 k hk16 (by rw [hy2, (x3g v hj).2 k hk16]; exact hk.1)
          rw [hy2, (x3g v hj).2 m m1] at m2
          have : IsK E S m v := IsK.of_deep m2 (fun g' hg' => by
            have hg16 := hg'.lt hE hS16
            have := m4 g' hg16 (by rw [hy2, (x3g v hj).2 g' hg16]; exact hg')
            rw [hy2, ct_dm (x3g g' hg16).2, ct_dm (x3g m m1).2] at this
            exact this) hE hS16
          rw [m3, hk.uniq this]
        · cases hb : bt (y.1 (g + 2) v) w with
          | false => rfl
          | true => rw [hy2, (x3g v hj).2 w hw] at hb; exact absurd hb (hno w)
      · rw [sI_at2 hvj]
        exact h2 v (by omega)
    · rintro ⟨i, y⟩ ⟨h0, h1, h2⟩
      simp only at h0 h1 h2
      subst h0
      unfold f_X3_weigh_L92
      rw [if_pos (by show nI 16 ≤ nI 16; exact Int32.le_refl _)]
      exact ⟨y, rfl, h1, h2⟩
  obtain ⟨x4, e4, f4, x4k⟩ := step2
  refine ⟨x4, ?_, f3.tr (f4.mono fun c hc => by rw [hc]; exact Or.inr (Or.inr (Or.inr rfl))), ⟨?_, ?_⟩, ?_, ?_, x4k⟩
  · unfold f_X3_weigh
    rw [e1]
    simp only [Option.bind_some, lt]
    rw [ex1, e2]
    simp only [Option.bind_some]
    rw [e3]
    simp only [Option.bind_some]
    rw [e4]
    rfl
  · rw [f4.1 g (by omega), x34]
    exact r1
  · rw [f4.1 g (by omega), x34]
    exact r3
  · rw [f4.1 (g + 2) (by omega)]
    exact x3g
  · rw [f4.1 (g + 3) (by omega)]
    exact x3k
