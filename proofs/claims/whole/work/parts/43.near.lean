/-! NEAR, ROW: how many arcs from the root -/
/-- reached by so many arcs at most -/
def Bk (E : Nat → Nat → Prop) (r : Nat) : Nat → Nat → Prop
  | 0, v => v = r
  | k + 1, v => Bk E r k v ∨ ∃ u, Bk E r k u ∧ E u v
/-- just so many -/
def Ds (E : Nat → Nat → Prop) (r d v : Nat) : Prop := Bk E r d v ∧ ∀ j, j < d → ¬ Bk E r j v
section
variable {E : Nat → Nat → Prop} {r : Nat}
theorem Bk.le {j k v : Nat} (h : Bk E r j v) (hjk : j ≤ k) : Bk E r k v := by
  obtain ⟨d, rfl⟩ : ∃ d, k = j + d := ⟨k - j, by omega⟩
  clear hjk
  induction d with
  | zero => exact h
  | succ d ih => exact Or.inl ih
theorem Ds.one {a b v : Nat} (h1 : Ds E r a v) (h2 : Ds E r b v) : a = b := by
  rcases Nat.lt_trichotomy a b with q | q | q
  · exact absurd h1.1 (h2.2 a q)
  · exact q
  · exact absurd h2.1 (h1.2 b q)
theorem Bk.lt (hE : E16 E) (hr : r < 16) : ∀ {k v : Nat}, Bk E r k v → v < 16
  | 0, v, h => by rw [show v = r from h]; exact hr
  | k + 1, v, h => by
    rcases h with h | ⟨u, -, h⟩
    · exact Bk.lt hE hr h
    · exact (hE _ _ h).2
theorem Bk.ds {k v : Nat} (h : Bk E r k v) : ∃ d, d ≤ k ∧ Ds E r d v := by
  obtain ⟨d, h1, h2, h3⟩ := fb_first (p := fun j => cb (Bk E r j v) = true) (n := k + 1) ⟨k, by omega, cb_t.mpr h⟩
  exact ⟨d, by omega, cb_t.mp h2, fun j hj z => h3 j hj (cb_t.mpr z)⟩
theorem Ds.pred {d v : Nat} (h : Ds E r (d + 1) v) : ∃ u, Ds E r d u ∧ E u v := by
  rcases h.1 with q | ⟨u, u1, u2⟩
  · exact absurd q (h.2 d (by omega))
  · refine ⟨u, ⟨u1, fun j hj z => ?_⟩, u2⟩
    exact h.2 (j + 1) (by omega) (Or.inr ⟨u, z, u2⟩)
theorem Ds.below {v : Nat} : ∀ (e d : Nat), Ds E r (d + e) v → ∃ u, Ds E r d u := by
  intro e
  induction e generalizing v with
  | zero => intro d h; exact ⟨v, h⟩
  | succ e ih =>
    intro d h
    obtain ⟨u, u1, -⟩ := Ds.pred (d := d + e) h
    exact ih d u1
theorem Ds.lt16 (hE : E16 E) (hr : r < 16) {d v : Nat} (h : Ds E r d v) : d < 16 := by
  have hx : ∀ j, ∃ u, j ≤ d → Ds E r j u := fun j => by
    by_cases hj : j ≤ d
    · obtain ⟨u, hu⟩ := Ds.below (d - j) j (by rw [show j + (d - j) = d by omega]; exact h)
      exact ⟨u, fun _ => hu⟩
    · exact ⟨0, fun z => absurd z hj⟩
  have hf := fun j => (hx j).choose_spec
  have := fb_holes 16 (d + 1) (fun j => (hx j).choose) (fun j hj => Bk.lt hE hr (hf j (by omega)).1) (fun i j hij hj q => by
    have q : (hx i).choose = (hx j).choose := q
    have h1 := hf i (by omega)
    have h2 := hf j (by omega)
    rw [q] at h1
    have := h1.one h2
    omega)
  omega
theorem Bk.stop {k : Nat} (h : ∀ v, Bk E r (k + 1) v → Bk E r k v) : ∀ d v, Bk E r (k + d) v → Bk E r k v
  | 0, v, q => q
  | d + 1, v, q => by
    rcases q with q | ⟨u, q1, q2⟩
    · exact Bk.stop h d v q
    · exact h v (Or.inr ⟨u, Bk.stop h d u q1, q2⟩)
theorem Bk.rc {k v : Nat} : Bk E r k v → Rc E (fun s => s = r) nox v := by
  induction k generalizing v with
  | zero => intro h; exact Rc.base h (fun z => z)
  | succ k ih =>
    intro h
    rcases h with h | ⟨u, h1, h2⟩
    · exact ih h
    · exact Rc.step (ih h1) h2 (fun z => z)
theorem Rc.bk {v : Nat} (h : Rc E (fun s => s = r) nox v) : ∃ k, Bk E r k v :=
  h.ind (P := fun v => ∃ k, Bk E r k v) (fun s p _ => ⟨0, p⟩) (fun _ _ _ p e _ => p.elim fun k q => ⟨k + 1, Or.inr ⟨_, q, e⟩⟩)
def NearI (E : Nat → Nat → Prop) (r v : Nat) (y : Int32) : Prop := (∀ d, Ds E r d v → y = nI d) ∧ ((∀ d, ¬ Bk E r d v) → y = -1)
theorem NearI.uniq {v : Nat} {y z : Int32} (h1 : NearI E r v y) (h2 : NearI E r v z) : y = z := by
  by_cases c : ∃ d, Bk E r d v
  · obtain ⟨d, hd⟩ := c
    obtain ⟨e, -, he⟩ := hd.ds
    rw [h1.1 e he, h2.1 e he]
  · rw [h1.2 (fun d z => c ⟨d, z⟩), h2.2 (fun d z => c ⟨d, z⟩)]
theorem near_c {xc : gXH} {fa : Nat} (hE : E16 E) (hr : r < 16) (hX : NX xc (fa + 1) E) (h4 : xc.1 7 4 = nI r) {v : Nat} (hv : v < 16) : ∃ y, f_X8_near fa xc (nI v) = some y ∧ NearI E r v y := by
  unfold f_X8_near
  simp only [lt]
  rw [h4]
  have key : ∃ y, lp (f_X8_near_L16 fa xc (nI v)) 2000 (f_X9_only (nI r), f_X9_only (nI r), 0) = some y ∧ Sum.elim (fun z => ∃ d, Ds E r d v ∧ z = nI d) (fun _ => ∀ d, ¬ Bk E r d v) y := by
    refine lp_forx (step := f_X8_near_L16 fa xc (nI v)) 16 (fun j s => s.2.2 = nI j ∧ S16 s.1 ∧ S16 s.2.1 ∧ (∀ w, w < 16 → (bt s.1 w = true ↔ Ds E r j w)) ∧ (∀ w, w < 16 → (bt s.2.1 w = true ↔ Bk E r j w)) ∧ ∀ i, i < j → ¬ Ds E r i v) _ ?_ ?_ ⟨rfl, s16_one hr, s16_one hr, fun w hw => ?_, fun w hw => ?_, fun i hi => by omega⟩ (by omega)
    · rintro j ⟨f, s, c⟩ hj ⟨h0, h1, h2, h3, h5, h6⟩
      simp only at h0 h1 h2 h3 h5 h6
      subst h0
      unfold f_X8_near_L16
      rw [if_neg (ge16 hj)]
      by_cases hb : bt f v = true
      · rw [if_neg (by rw [has0 _ (by omega), hb]; decide)]
        exact Or.inr ⟨_, rfl, j, (h3 v hv).mp hb, rfl⟩
      · rw [if_pos (by rw [has0 _ (by omega)]; simpa using hb)]
        obtain ⟨z, ez, z1, z2⟩ := step_c (fa := fa) hX f
        rw [ez]
        simp only [Option.bind_some, lt]
        have hB : ∀ w, w < 16 → (bt (s ||| (z &&& (s ^^^ (-1)))) w = true ↔ Bk E r (j + 1) w) := by
          intro w hw
          rw [b_or, b_and, bt_not _ (by omega), Bool.or_eq_true, Bool.and_eq_true, h5 w hw, z2 w hw]
          constructor
          · rintro (q | ⟨⟨u, u1, u2, u3⟩, -⟩)
            · exact Or.inl q
            · exact Or.inr ⟨u, ((h3 u u1).mp u2).1, u3⟩
          · rintro (q | ⟨u, u1, u2⟩)
            · exact Or.inl q
            · by_cases hw2 : Bk E r j w
              · exact Or.inl hw2
              · have hu16 := (hE _ _ u2).1
                have hd : Ds E r j u := ⟨u1, fun i hi q => hw2 (Bk.le (k := j) (j := i + 1) (Or.inr ⟨u, q, u2⟩) (by omega))⟩
                refine Or.inr ⟨⟨u, hu16, (h3 u hu16).mpr hd, u2⟩, ?_⟩
                cases hbs : bt s w with
                | false => rfl
                | true => exact absurd ((h5 w hw).mp hbs) hw2
        refine Or.inl ⟨_, rfl, nI_1 j, z1.and, h2.or z1.and, fun w hw => ?_, hB, fun i hi => ?_⟩
        · show bt (z &&& (s ^^^ (-1))) w = true ↔ _
          have hb2 := hB w hw
          rw [b_or, Bool.or_eq_true, h5 w hw] at hb2
          have hn : bt (z &&& (s ^^^ (-1))) w = true → ¬ Bk E r j w := fun q => by
            rw [b_and, bt_not _ (by omega), Bool.and_eq_true] at q
            intro q2
            rw [(h5 w hw).mpr q2] at q
            exact absurd q.2 (by decide)
          constructor
          · intro q
            exact ⟨hb2.mp (Or.inr q), fun i hi q2 => hn q (q2.le (by omega))⟩
          · intro q
            rcases hb2.mpr q.1 with q2 | q2
            · exact absurd q2 (q.2 j (by omega))
            · exact q2
        · rcases Nat.lt_or_ge i j with o | o
          · exact h6 i o
          · rw [show i = j by omega]
            exact fun q => hb ((h3 v hv).mpr q)
    · rintro ⟨f, s, c⟩ ⟨h0, h1, h2, h3, h5, h6⟩
      simp only at h0 h1 h2 h3 h5 h6
      subst h0
      unfold f_X8_near_L16
      rw [if_pos le16]
      refine ⟨_, rfl, fun d hd => ?_⟩
      obtain ⟨e, -, he⟩ := hd.ds
      exact h6 e (he.lt16 hE hr) he
    · show bt (f_X9_only (nI r)) w = true ↔ _
      rw [show bt (f_X9_only (nI r)) w = true ↔ w = r from bt_one16 hr w]
      exact ⟨fun q => ⟨q, fun j hj => by omega⟩, fun q => q.1⟩
    · exact bt_one16 hr w
  obtain ⟨y, ey, hy⟩ := key
  rw [ey]
  cases y with
  | inl z =>
    obtain ⟨d, hd, rfl⟩ := hy
    exact ⟨_, rfl, fun e he => by rw [he.one hd], fun q => absurd hd.1 (q d)⟩
  | inr z => exact ⟨_, rfl, fun d hd => absurd hd.1 (hy d), fun _ => rfl⟩
end
theorem near_m {N : aN} (hN : aOk N) {hm y : gIH} (q : QM N hm y) {v : Nat} (hv : v < 16) : ∃ z, f_X10_nearOf y (nI v) = some z ∧ NearI (Ed N 100) (nRt N) v z := by
  have h60 := hN.m60
  have hE16 := hN.e16n (k1 := 100) (k2 := 100)
  unfold f_X10_nearOf
  rw [m_root q.2.1]
  simp only [Option.bind_some, lt]
  have inner : ∀ (s f : Int32) (w : Nat → Prop), S16 s → (∀ x, x < 16 → (bt s x = true ↔ w x)) → ∃ z, lp (f_X10_nearOf_L25 y (nI v) s f) 2000 (s, 0) = some z ∧ S16 z ∧ ∀ x, x < 16 → (bt z x = true ↔ w x ∨ ∃ u, w u ∧ Ed N 100 u x) := by
    intro s f w hs hw
    refine lp_for (step := f_X10_nearOf_L25 y (nI v) s f) (nM N) (fun j t => t.2 = nI j ∧ S16 t.1 ∧ ∀ x, x < 16 → (bt t.1 x = true ↔ w x ∨ ∃ a, a < j ∧ nO N a = true ∧ w (nF N a) ∧ nT N a = x)) _ ?_ ?_ ⟨rfl, hs, fun x hx => by rw [hw x hx]; simp⟩ (by omega)
    · rintro j ⟨t, c⟩ hj ⟨h0, h1, h2⟩
      simp only at h0 h1 h2
      subst h0
      have stay : ¬ (nO N j = true ∧ w (nF N j)) → (nI j + 1 = nI (j + 1) ∧ S16 t ∧ ∀ x, x < 16 → (bt t x = true ↔ w x ∨ ∃ a, a < j + 1 ∧ nO N a = true ∧ w (nF N a) ∧ nT N a = x)) := fun hno => ⟨nI_1 j, h1, fun x hx => by
        rw [h2 x hx]
        constructor
        · rintro (z | ⟨a, a1, a2⟩)
          · exact Or.inl z
          · exact Or.inr ⟨a, by omega, a2⟩
        · rintro (z | ⟨a, a1, a2, a3, a4⟩)
          · exact Or.inl z
          · rcases Nat.lt_or_ge a j with o | o
            · exact Or.inr ⟨a, o, a2, a3, a4⟩
            · rw [show a = j by omega] at a2 a3
              exact absurd ⟨a2, a3⟩ hno⟩
      unfold f_X10_nearOf_L25
      rw [m_arcs q.2.1]
      simp only [Option.bind_some, lt]
      rw [if_neg (nI_ge hj (by omega)), m_open hN q.2.1 hj]
      simp only [Option.bind_some]
      by_cases a1 : nO N j = true
      · rw [if_neg (by rw [bi01, a1]; decide), m_from hN q.2.1 hj]
        simp only [Option.bind_some]
        have hbf := hw (nF N j) (hN.f16 hj)
        by_cases a2 : w (nF N j)
        · rw [if_neg (by rw [holds0 _ (by have := hN.f16 hj; omega), hbf.mpr a2]; decide), m_to hN q.2.1 hj]
          simp only [Option.bind_some]
          obtain ⟨b1, b2⟩ := bt_set (hN.t16 hj) h1
          refine ⟨_, rfl, nI_1 j, b1, fun x hx => ?_⟩
          show bt (t ||| _) x = true ↔ _
          rw [b2, h2 x hx]
          constructor
          · rintro ((z | ⟨a, z1, z2⟩) | z)
            · exact Or.inl z
            · exact Or.inr ⟨a, by omega, z2⟩
            · exact Or.inr ⟨j, by omega, a1, a2, z.symm⟩
          · rintro (z | ⟨a, z1, z2, z3, z4⟩)
            · exact Or.inl (Or.inl z)
            · rcases Nat.lt_or_ge a j with o | o
              · exact Or.inl (Or.inr ⟨a, o, z2, z3, z4⟩)
              · rw [show a = j by omega] at z4
                exact Or.inr z4.symm
        · rw [if_pos (by rw [holds0 _ (by have := hN.f16 hj; omega), ← Bool.not_eq_true, hbf]; exact a2)]
          exact ⟨_, rfl, stay fun z => a2 z.2⟩
      · rw [if_pos (by rw [bi01]; simpa using a1)]
        exact ⟨_, rfl, stay fun z => a1 z.1⟩
    · rintro ⟨t, c⟩ ⟨h0, h1, h2⟩
      simp only at h0 h1 h2
      subst h0
      unfold f_X10_nearOf_L25
      rw [m_arcs q.2.1]
      simp only [Option.bind_some]
      rw [if_pos (Int32.le_refl _)]
      refine ⟨t, rfl, h1, fun x hx => ?_⟩
      rw [h2 x hx]
      constructor
      · rintro (z | ⟨a, a1, a2, a3, rfl⟩)
        · exact Or.inl z
        · exact Or.inr ⟨_, a3, Or.inl ⟨a, a1, a2, by omega, by omega, rfl, rfl⟩⟩
      · rintro (z | ⟨u, u1, ⟨a, a1, a2, a3, a4, rfl, rfl⟩ | z⟩)
        · exact Or.inl z
        · exact Or.inr ⟨a, a1, a2, u1, rfl⟩
        · cases z
  have key : ∃ z, lp (f_X10_nearOf_L9 y (nI v)) 2000 ((1 : Int32) <<< (nI (nRt N) &&& 31), 0) = some z ∧ Sum.elim (fun z => ∃ d, Ds (Ed N 100) (nRt N) d v ∧ z = nI d) (fun _ => ∀ d, ¬ Bk (Ed N 100) (nRt N) d v) z := by
    refine lp_run (step := f_X10_nearOf_L9 y (nI v)) (fun s => ∃ j, s.2 = nI j ∧ S16 s.1 ∧ (∀ w, w < 16 → (bt s.1 w = true ↔ Bk (Ed N 100) (nRt N) j w)) ∧ ∀ i, i < j → ¬ Bk (Ed N 100) (nRt N) i v) (fun s => 16 - fb_ct (bt s.1) 16) _ ?_ ⟨0, rfl, s16_one hN.r16, fun w _ => bt_one16 hN.r16 w, fun i hi => by omega⟩ (by omega)
    rintro ⟨s, c⟩ ⟨j, h0, h1, h2, h3⟩
    simp only at h0 h1 h2
    subst h0
    unfold f_X10_nearOf_L9
    by_cases hb : bt s v = true
    · rw [if_neg (by rw [holds0 _ (by omega), hb]; decide)]
      exact Or.inr ⟨_, rfl, j, ⟨(h2 v hv).mp hb, h3⟩, rfl⟩
    · rw [if_pos (by rw [holds0 _ (by omega)]; simpa using hb)]
      obtain ⟨z, ez, z1, z2⟩ := inner s (nI j) (Bk (Ed N 100) (nRt N) j) h1 h2
      rw [ez]
      simp only [Option.bind_some]
      by_cases hzs : z = s
      · rw [if_pos hzs]
        refine Or.inr ⟨_, rfl, fun d hd => ?_⟩
        have hst : ∀ w, Bk (Ed N 100) (nRt N) (j + 1) w → Bk (Ed N 100) (nRt N) j w := fun w hw => by
          have hw16 := hw.lt hE16 hN.r16
          have := (z2 w hw16).mpr hw
          rw [hzs] at this
          exact (h2 w hw16).mp this
        exact hb ((h2 v hv).mpr (Bk.stop hst d v (hd.le (by omega))))
      · rw [if_neg hzs]
        simp only [lt]
        refine Or.inl ⟨_, rfl, ⟨j + 1, nI_1 j, z1, z2, fun i hi q => ?_⟩, ?_⟩
        · exact hb ((h2 v hv).mpr (q.le (by omega)))
        · have hg : fb_ct (bt s) 16 < fb_ct (bt z) 16 := S16.grow h1 z1 (fun w hw => (z2 w (h1.of_bt hw)).mpr (Or.inl ((h2 w (h1.of_bt hw)).mp hw))) hzs
          have := fb_ct_le (bt z) 16
          show 16 - fb_ct (bt z) 16 < 16 - fb_ct (bt s) 16
          omega
  obtain ⟨z, ez, hz⟩ := key
  rw [ez]
  cases z with
  | inl z =>
    obtain ⟨d, hd, rfl⟩ := hz
    exact ⟨_, rfl, fun e he => by rw [he.one hd], fun q => absurd hd.1 (q d)⟩
  | inr z => exact ⟨_, rfl, fun d hd => absurd hd.1 (hz d), fun _ => rfl⟩
