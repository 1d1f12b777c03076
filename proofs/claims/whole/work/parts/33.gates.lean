/-! THE REFERENCE'S COMERS; WHO IS ON EACH WAY -/
theorem m_comersIn {hm : gIH} {N : aN} (hN : aOk N) (h : MNet hm 82 0 N) (b w s0 : Int32) (hs0 : S16 s0) :
    ∃ y, lp (f_X10_comers_L21 hm b w) 2000 (s0, 0) = some y ∧ S16 y ∧ (∀ i, bt s0 i = true → bt y i = true) ∧
      (∀ P : Nat → Prop, (∀ i, bt s0 i = true → P i) → (∀ u v, P v → Ed N 100 u v → ¬ bt b u = true → P u) → ∀ i, bt y i = true → P i) ∧
      (∀ u v, bt s0 v = true → Ed N 100 u v → ¬ bt b u = true → bt y u = true) := by
  have hm60 := hN.m60
  refine lp_for (step := f_X10_comers_L21 hm b w) (nM N)
    (fun j s => s.2 = nI j ∧ S16 s.1 ∧ (∀ i, bt s0 i = true → bt s.1 i = true) ∧ (∀ P : Nat → Prop, (∀ i, bt s0 i = true → P i) → (∀ u v, P v → Ed N 100 u v → ¬ bt b u = true → P u) → ∀ i, bt s.1 i = true → P i) ∧
      (∀ a, a < j → nO N a = true → bt s0 (nT N a) = true → ¬ bt b (nF N a) = true → bt s.1 (nF N a) = true))
    (fun y => S16 y ∧ (∀ i, bt s0 i = true → bt y i = true) ∧ (∀ P : Nat → Prop, (∀ i, bt s0 i = true → P i) → (∀ u v, P v → Ed N 100 u v → ¬ bt b u = true → P u) → ∀ i, bt y i = true → P i) ∧
      (∀ u v, bt s0 v = true → Ed N 100 u v → ¬ bt b u = true → bt y u = true)) ?_ ?_ (s := (s0, 0)) (k := 2000) ⟨rfl, hs0, fun i hi => hi, fun P hP _ => hP, fun a ha => by omega⟩ (by omega)
  · rintro j ⟨s, c⟩ hj ⟨hc, h1, h3, h4, h5⟩
    simp only at hc h1 h3 h4 h5
    subst hc
    have stay : ∀ (hno : nO N j = true → bt s0 (nT N j) = true → ¬ bt b (nF N j) = true → bt s (nF N j) = true), (nI j + 1 = nI (j + 1) ∧ S16 s ∧ (∀ i, bt s0 i = true → bt s i = true) ∧ (∀ P : Nat → Prop, (∀ i, bt s0 i = true → P i) → (∀ u v, P v → Ed N 100 u v → ¬ bt b u = true → P u) → ∀ i, bt s i = true → P i) ∧ (∀ a, a < j + 1 → nO N a = true → bt s0 (nT N a) = true → ¬ bt b (nF N a) = true → bt s (nF N a) = true)) := by
      intro hno
      refine ⟨nI_1 j, h1, h3, h4, fun a ha => ?_⟩
      rcases Nat.lt_or_ge a j with q | q
      · exact h5 a q
      · rw [show a = j by omega]
        exact hno
    unfold f_X10_comers_L21
    rw [m_arcs h]
    simp only [Option.bind_some, lt]
    rw [if_neg (by rw [nI_leI (by omega) (by omega)]; omega), m_open hN h hj]
    simp only [Option.bind_some]
    by_cases a3 : nO N j = true
    · rw [if_neg (by rw [bi01, a3]; decide), m_to hN h hj]
      simp only [Option.bind_some]
      by_cases a4 : bt s (nT N j) = true
      · rw [if_neg (by rw [holds0 _ (by have := hN.t16 hj; omega), a4]; decide), m_from hN h hj]
        simp only [Option.bind_some]
        by_cases a5 : bt b (nF N j) = true
        · rw [if_neg (by rw [holds0 _ (by have := hN.f16 hj; omega), a5]; decide)]
          exact ⟨_, rfl, stay fun _ _ q => absurd a5 q⟩
        · rw [if_pos (by rw [holds0 _ (by have := hN.f16 hj; omega)]; simpa using a5)]
          obtain ⟨g1, g2⟩ := bt_set (hN.f16 hj) h1
          refine ⟨_, rfl, nI_1 j, g1, fun i hi => (g2 i).mpr (Or.inl (h3 i hi)), fun P hP hst i hi => ?_, fun a ha b1 b4 b5 => ?_⟩
          · rcases (g2 i).mp hi with q | q
            · exact h4 P hP hst i q
            · subst q
              exact hst _ _ (h4 P hP hst _ a4) (Or.inl ⟨j, hj, a3, by omega, by omega, rfl, rfl⟩) a5
          · rcases Nat.lt_or_ge a j with q | q
            · exact (g2 _).mpr (Or.inl (h5 a q b1 b4 b5))
            · rw [show a = j by omega]
              exact (g2 _).mpr (Or.inr rfl)
      · rw [if_pos (by rw [holds0 _ (by have := hN.t16 hj; omega)]; simpa using a4)]
        exact ⟨_, rfl, stay fun _ q => absurd (h3 _ q) a4⟩
    · rw [if_pos (by rw [bi01]; simpa using a3)]
      exact ⟨_, rfl, stay fun q => absurd q a3⟩
  · rintro ⟨s, c⟩ ⟨hc, h1, h3, h4, h5⟩
    simp only at hc h1 h3 h4 h5
    subst hc
    refine ⟨s, ?_, h1, h3, h4, ?_⟩
    · unfold f_X10_comers_L21
      rw [m_arcs h]
      simp only [Option.bind_some]
      rw [if_pos (Int32.le_refl _)]
    · rintro u v hu (⟨a, b1, b2, b3, b4, rfl, rfl⟩ | q) hb
      · exact h5 a b1 b2 hu hb
      · cases q
/-- THE REFERENCE'S COMERS: reach against the arcs -/
theorem m_comers {hm : gIH} {N : aN} (hN : aOk N) (h : MNet hm 82 0 N) (a b : Int32) (ha : S16 a) :
    ∃ y, f_X10_comers hm a b = some y ∧ S16 y ∧ ∀ v, v < 16 → (bt y v = true ↔ Rc (fun u w => Ed N 100 w u) (fun s => bt a s = true) (fun s => bt b s = true) v) := by
  obtain ⟨S, hS⟩ : ∃ S : Nat → Prop, (fun s => bt a s = true) = S := ⟨_, rfl⟩
  obtain ⟨X, hX⟩ : ∃ X : Nat → Prop, (fun s => bt b s = true) = X := ⟨_, rfl⟩
  have hXe : ∀ v, X v ↔ bt b v = true := fun v => by rw [← hX]
  have hSe : ∀ v, S v ↔ bt a v = true := fun v => by rw [← hS]
  rw [hS, hX]
  refine Exists.elim (lp_run (step := f_X10_comers_L9 hm b)
    (fun s => S16 s.1 ∧ S16 s.2 ∧ (∀ i, bt s.2 i = true → bt s.1 i = true) ∧ (∀ i, bt s.1 i = true → Rc (fun u w => Ed N 100 w u) S X i) ∧ (∀ i, S i → ¬ X i → bt s.1 i = true) ∧ (∀ u v, bt s.2 u = true → Ed N 100 v u → ¬ X v → bt s.1 v = true))
    (fun s => 2 * (16 - fb_ct (bt s.1) 16) + if s.1 = s.2 then 0 else 1)
    (fun y => S16 y ∧ ∀ v, v < 16 → (bt y v = true ↔ Rc (fun u w => Ed N 100 w u) S X v)) ?_ (k := 2000) (s := (a &&& (b ^^^ (-1)), 0)) ?_ ?_) (fun y hh => ?_)
  · rintro ⟨s, w⟩ ⟨h1, h3, h4, h5, h6, h7⟩
    simp only at h1 h3 h4 h5 h6 h7
    by_cases hsw : s = w
    · right
      subst hsw
      refine ⟨s, by unfold f_X10_comers_L9; rw [if_pos rfl], h1, fun v _ => ⟨h5 v, fun hr => hr.ind h6 (fun u w _ p q r => h7 u w p q r)⟩⟩
    · left
      unfold f_X10_comers_L9
      rw [if_neg hsw]
      obtain ⟨y, e, g1, g2, g3, g4⟩ := m_comersIn hN h b s s h1
      rw [e]
      simp only [Option.bind_some]
      have snd : ∀ i, bt y i = true → Rc (fun u w => Ed N 100 w u) S X i := g3 _ h5 (fun u v p q r => Rc.step p q (fun z => r ((hXe _).mp z)))
      refine ⟨(y, s), rfl, ⟨g1, h1, fun i hi => g2 i hi, snd, fun i p q => g2 i (h6 i p q), fun u v p q r => g4 v u p q (fun z => r ((hXe v).mpr z))⟩, ?_⟩
      rw [if_neg hsw]
      have hle := fb_ct_le (bt y) 16
      by_cases hzs : y = s
      · subst hzs
        show 2 * (16 - fb_ct (bt y) 16) + (if y = y then 0 else 1) < _
        rw [if_pos rfl]
        omega
      · have := S16.grow h1 g1 (fun i hi => g2 i hi) hzs
        show 2 * (16 - fb_ct (bt y) 16) + (if y = s then 0 else 1) < _
        rw [if_neg hzs]
        omega
  · refine ⟨ha.and, s16_0, fun i hi => (by rw [b_0] at hi; cases hi), fun i hi => ?_, fun i p q => ?_, fun u v hu => (by rw [b_0] at hu; cases hu)⟩
    · have h16 := (ha.and (y := b ^^^ (-1))).of_bt hi
      have hi : bt (a &&& (b ^^^ (-1))) i = true := hi
      rw [b_and, bt_not _ (by omega), Bool.and_eq_true] at hi
      refine Rc.base ((hSe i).mpr hi.1) (fun z => ?_)
      rw [(hXe i).mp z] at hi
      exact absurd hi.2 (by decide)
    · have p' := (hSe i).mp p
      have := ha.of_bt p'
      show bt (a &&& (b ^^^ (-1))) i = true
      rw [b_and, bt_not _ (by omega), p']
      cases hb : bt b i with
      | false => rfl
      | true => exact absurd ((hXe i).mpr hb) q
  · show 2 * (16 - fb_ct (bt _) 16) + (if _ then 0 else 1) < 2000
    split <;> omega
  · obtain ⟨e, hy⟩ := hh
    refine ⟨y, ?_, hy⟩
    unfold f_X10_comers
    simp only [lt]
    rw [e]
    rfl
/-! GATES: g is on each way from S to v, and another one -/
def nox : Nat → Prop := fun _ => False
def Dm (E : Nat → Nat → Prop) (S : Nat → Prop) (g v : Nat) : Prop := Rc E S nox v ∧ g ≠ v ∧ ¬ Rc E S (fun s => s = g) v
section
variable {E : Nat → Nat → Prop} {S : Nat → Prop}
theorem Rc.all {X : Nat → Prop} {v : Nat} (h : Rc E S X v) : Rc E S nox v := h.mono (fun _ _ h => h) (fun s a _ => Rc.base a (fun q => q)) (fun _ q => q.elim)
theorem Dm.rv {g v : Nat} (h : Dm E S g v) : Rc E S nox v := h.1
theorem Dm.rg {g v : Nat} (h : Dm E S g v) : Rc E S nox g := by
  apply Classical.byContradiction
  intro q
  refine h.2.2 (h.1.ind (P := Rc E S (fun s => s = g)) (fun s a b => Rc.base a (fun e => q (by subst e; exact Rc.base a b))) (fun u w a b c d => Rc.step b c (fun e => q (by subst e; exact Rc.step a c d))))
/-- of two gates of one the one is a gate of the other -/
theorem Dm.tot {a b v : Nat} (ha : Dm E S a v) (hb : Dm E S b v) (hne : a ≠ b) : Dm E S a b ∨ Dm E S b a := by
  have key : Rc E S (fun s => s = a ∨ s = b) v ∨ Rc E (fun s => s = b) (fun s => s = a) v ∨ Rc E (fun s => s = a) (fun s => s = b) v := by
    refine ha.1.ind (P := fun v => Rc E S (fun s => s = a ∨ s = b) v ∨ Rc E (fun s => s = b) (fun s => s = a) v ∨ Rc E (fun s => s = a) (fun s => s = b) v) (fun s h1 _ => ?_) (fun u w _ h1 h2 _ => ?_)
    · by_cases e1 : s = a
      · exact Or.inr (Or.inr (Rc.base e1 (fun q => hne (e1.symm.trans q))))
      · by_cases e2 : s = b
        · exact Or.inr (Or.inl (Rc.base e2 e1))
        · exact Or.inl (Rc.base h1 (fun q => q.elim e1 e2))
    · by_cases e1 : w = a
      · exact Or.inr (Or.inr (Rc.base e1 (fun q => hne (e1.symm.trans q))))
      · by_cases e2 : w = b
        · exact Or.inr (Or.inl (Rc.base e2 e1))
        · rcases h1 with h1 | h1 | h1
          · exact Or.inl (h1.step h2 (fun q => q.elim e1 e2))
          · exact Or.inr (Or.inl (h1.step h2 e1))
          · exact Or.inr (Or.inr (h1.step h2 e2))
  rcases key with k | k | k
  · exact absurd (k.mono (fun _ _ h => h) (fun s p q => Rc.base p (fun z => q (Or.inl z))) (fun x z => Or.inl z)) ha.2.2
  · left
    refine ⟨hb.rg, hne, fun q => ha.2.2 (q.trans k)⟩
  · right
    refine ⟨ha.rg, fun z => hne z.symm, fun q => hb.2.2 (q.trans k)⟩
theorem Dm.asym {a b : Nat} (h1 : Dm E S a b) (h2 : Dm E S b a) : False := by
  have key : Rc E S (fun s => s = a ∨ s = b) a := by
    refine h2.1.ind (P := Rc E S (fun s => s = a ∨ s = b)) (fun s p _ => Rc.base p ?_) (fun u w _ p q _ => Rc.step p q ?_)
    · rintro (e | e)
      · subst e
        exact h2.2.2 (Rc.base p (fun z => h1.2.1 z))
      · subst e
        exact h1.2.2 (Rc.base p (fun z => h2.2.1 z))
    · rintro (e | e)
      · subst e
        exact h2.2.2 (Rc.step (p.mono (fun _ _ h => h) (fun s p q => Rc.base p (fun z => q (Or.inr z))) (fun x z => Or.inr z)) q (fun z => h1.2.1 z))
      · subst e
        exact h1.2.2 (Rc.step (p.mono (fun _ _ h => h) (fun s p q => Rc.base p (fun z => q (Or.inl z))) (fun x z => Or.inl z)) q (fun z => h2.2.1 z))
  exact key.notX (Or.inl rfl)
theorem Dm.trans {a b v : Nat} (h1 : Dm E S a b) (h2 : Dm E S b v) : Dm E S a v := by
  refine ⟨h2.1, fun e => ?_, fun q => ?_⟩
  · subst e
    exact h1.asym h2
  · have key : Rc E S (fun s => s = a) b ∨ Rc E S (fun s => s = b) v := by
      refine q.ind (P := fun w => Rc E S (fun s => s = a) b ∨ Rc E S (fun s => s = b) w) (fun s p z => ?_) (fun u w hu p e z => ?_)
      · by_cases hb : s = b
        · subst hb; exact Or.inl (Rc.base p z)
        · exact Or.inr (Rc.base p hb)
      · rcases p with p | p
        · exact Or.inl p
        · by_cases hb : w = b
          · subst hb; exact Or.inl (Rc.step hu e z)
          · exact Or.inr (Rc.step p e hb)
    rcases key with k | k
    · exact h1.2.2 k
    · exact h2.2.2 k
/-- how many gates -/
noncomputable def dp (E : Nat → Nat → Prop) (S : Nat → Prop) (v : Nat) : Nat := fb_ct (fun g => cb (Dm E S g v)) 16
theorem dp_lt {g v : Nat} (hg : g < 16) (h : Dm E S g v) : dp E S g < dp E S v := by
  unfold dp
  have e := fb_ct_upd (fun x => cb (Dm E S x g)) true (i := g) (n := 16) hg
  have h0 : cb (Dm E S g g) = false := cb_f.mpr (fun q => q.2.1 rfl)
  rw [h0] at e
  have e2 : fb_ct (fun x => if x = g then true else cb (Dm E S x g)) 16 ≤ fb_ct (fun x => cb (Dm E S x v)) 16 := fb_ct_sub fun x _ hx => by
    by_cases hxg : x = g
    · subst hxg; exact cb_t.mpr h
    · rw [if_neg hxg] at hx
      exact cb_t.mpr ((cb_t.mp hx).trans h)
  change fb_ct _ 16 + 0 = fb_ct _ 16 + 1 at e
  omega
/-- the keeper: of the gates the one that has all others -/
def IsK (E : Nat → Nat → Prop) (S : Nat → Prop) (k v : Nat) : Prop := Dm E S k v ∧ ∀ g, Dm E S g v → g ≠ k → Dm E S g k
theorem IsK.uniq {k k' v : Nat} (h : IsK E S k v) (h' : IsK E S k' v) : k = k' := by
  apply Classical.byContradiction
  intro q
  exact (h'.2 k h.1 q).asym (h.2 k' h'.1 (fun e => q e.symm))
theorem Dm.lt (hE : E16 E) (hS : ∀ s, S s → s < 16) {g v : Nat} (h : Dm E S g v) : g < 16 := h.rg.lt hE hS
/-- the deepest gate is the keeper -/
theorem IsK.of_deep {k v : Nat} (h : Dm E S k v) (hd : ∀ g, Dm E S g v → dp E S g ≤ dp E S k) (hE : E16 E) (hS : ∀ s, S s → s < 16) : IsK E S k v := by
  refine ⟨h, fun g hg hne => ?_⟩
  rcases hg.tot h hne with q | q
  · exact q
  · have := dp_lt (h.lt hE hS) q
    have := hd g hg
    omega
theorem IsK.ex (hE : E16 E) (hS : ∀ s, S s → s < 16) {g v : Nat} (h : Dm E S g v) : ∃ k, k < 16 ∧ IsK E S k v := by
  obtain ⟨k, hk, h1, -⟩ := fb_best (fun g => if cb (Dm E S g v) = true then (dp E S g : Int) else -1) (n := 16) (by omega)
  have hg := h1 g (h.lt hE hS)
  simp only [cb_t.mpr h, if_true] at hg
  have hkd : Dm E S k v := by
    apply Classical.byContradiction
    intro q
    rw [if_neg (fun z => q (cb_t.mp z))] at hg
    omega
  refine ⟨k, hk, IsK.of_deep hkd (fun x hx => ?_) hE hS⟩
  have hx1 := h1 x (hx.lt hE hS)
  simp only [cb_t.mpr hx, cb_t.mpr hkd, if_true] at hx1
  omega
/-- the keeper's depth is one less -/
theorem IsK.dpk (hE : E16 E) (hS : ∀ s, S s → s < 16) {k v : Nat} (h : IsK E S k v) : dp E S v = dp E S k + 1 := by
  have hk := h.1.lt hE hS
  unfold dp
  have e := fb_ct_upd (fun x => cb (Dm E S x k)) true (i := k) (n := 16) hk
  have h0 : cb (Dm E S k k) = false := cb_f.mpr (fun q => q.2.1 rfl)
  rw [h0] at e
  have e2 : fb_ct (fun x => if x = k then true else cb (Dm E S x k)) 16 = fb_ct (fun x => cb (Dm E S x v)) 16 := fb_ct_cong fun x _ => by
    by_cases hx : x = k
    · subst hx
      rw [if_pos rfl, cb_t.mpr h.1]
    · rw [if_neg hx]
      exact cb_congr ⟨fun q => q.trans h.1, fun q => h.2 x q hx⟩
  change fb_ct _ 16 + 0 = fb_ct _ 16 + 1 at e
  omega
/-- a gate whose depth is one less is the keeper -/
theorem IsK.of_dp (hE : E16 E) (hS : ∀ s, S s → s < 16) {g v : Nat} (h : Dm E S g v) (hd : dp E S v = dp E S g + 1) : IsK E S g v := by
  refine IsK.of_deep h (fun x hx => ?_) hE hS
  have := dp_lt (hx.lt hE hS) hx
  omega
theorem dp_pos {g v : Nat} (hg : g < 16) (h : Dm E S g v) : 0 < dp E S v := Nat.lt_of_le_of_lt (Nat.zero_le _) (dp_lt hg h)
theorem dp_16 (v : Nat) : dp E S v ≤ 16 := fb_ct_le _ 16
end
