/-! THE REFERENCE'S NET, ITS REACH -/
theorem bi01 {b : Bool} : ((if b = true then (1 : Int32) else 0) = 0) ↔ b = false := by cases b <;> decide
theorem bi11 {b : Bool} : ((if b = true then (1 : Int32) else 0) = 1) ↔ b = true := by cases b <;> decide
theorem m_nodes {hm : gIH} {N : aN} (h : MNet hm 82 0 N) : f_X10_nodes hm = some (nI (nN N)) := by
  unfold f_X10_nodes
  rw [show (0 : Int32) = nI 0 from rfl, gck_ni (by omega) (by omega), nI_clamp (by omega)]
  exact congrArg some h.1
theorem m_root {hm : gIH} {N : aN} (h : MNet hm 82 0 N) : f_X10_root hm = some (nI (nRt N)) := by
  unfold f_X10_root
  rw [show (1 : Int32) = nI 1 from rfl, gck_ni (by omega) (by omega), nI_clamp (by omega)]
  exact congrArg some h.2.1
theorem m_arcs {hm : gIH} {N : aN} (h : MNet hm 82 0 N) : f_X10_arcs hm = some (nI (nM N)) := by
  unfold f_X10_arcs
  rw [show (3 : Int32) = nI 3 from rfl, gck_ni (by omega) (by omega), nI_clamp (by omega)]
  exact congrArg some h.2.2.2.1
theorem m_from {hm : gIH} {N : aN} (hN : aOk N) (h : MNet hm 82 0 N) {a : Nat} (ha : a < nM N) : f_X10_fromOf hm (nI a) = some (nI (nF N a)) := by
  have h5 := hN.2.2.2.2.1
  unfold f_X10_fromOf
  rw [show (20 : Int32) = nI 20 from rfl, nI_add, gck_ni (by omega) (by omega), nI_clamp (by omega)]
  have := (h.2.2.2.2.1 a ha).1
  rw [Nat.zero_add] at this
  rw [this]
theorem m_to {hm : gIH} {N : aN} (hN : aOk N) (h : MNet hm 82 0 N) {a : Nat} (ha : a < nM N) : f_X10_toOf hm (nI a) = some (nI (nT N a)) := by
  have h5 := hN.2.2.2.2.1
  unfold f_X10_toOf
  rw [show (80 : Int32) = nI 80 from rfl, nI_add, gck_ni (by omega) (by omega), nI_clamp (by omega)]
  have := (h.2.2.2.2.1 a ha).2.1
  rw [Nat.zero_add] at this
  rw [this]
theorem m_open {hm : gIH} {N : aN} (hN : aOk N) (h : MNet hm 82 0 N) {a : Nat} (ha : a < nM N) : f_X10_isOpen hm (nI a) = some (if nO N a = true then 1 else 0) := by
  have h5 := hN.2.2.2.2.1
  unfold f_X10_isOpen
  rw [show (140 : Int32) = nI 140 from rfl, nI_add, gck_ni (by omega) (by omega), nI_clamp (by omega)]
  have := (h.2.2.2.2.1 a ha).2.2
  rw [Nat.zero_add] at this
  rw [this]
  cases nO N a <;> rfl
theorem aOk.m60 {N : aN} (h : aOk N) : nM N ≤ 60 := h.2.2.2.2.1
theorem aOk.n16 {N : aN} (h : aOk N) : nN N ≤ 16 := h.2.1
theorem aOk.r16 {N : aN} (h : aOk N) : nRt N < 16 := Nat.lt_of_lt_of_le h.2.2.1 h.2.1
theorem aOk.e16' {N : aN} (h : aOk N) : nEx N < 16 := Nat.lt_of_lt_of_le h.2.2.2.1 h.2.1
theorem aOk.f16 {N : aN} (h : aOk N) {a : Nat} (ha : a < nM N) : nF N a < 16 := Nat.lt_of_lt_of_le (h.2.2.2.2.2.1 a ha).1 h.2.1
theorem aOk.t16 {N : aN} (h : aOk N) {a : Nat} (ha : a < nM N) : nT N a < 16 := Nat.lt_of_lt_of_le (h.2.2.2.2.2.1 a ha).2 h.2.1
/-- an arc's number as the reference tells it, or none -/
def skI (k : Nat) : Int32 := if k < 60 then nI k else -1
theorem skI_eq {j k : Nat} (hj : j < 60) : nI j = skI k ↔ j = k ∧ k < 60 := by
  unfold skI
  by_cases hk : k < 60
  · rw [if_pos hk, nI_eq (by omega) (by omega)]
    exact ⟨fun h => ⟨h, hk⟩, fun h => h.1⟩
  · rw [if_neg hk]
    constructor
    · intro h
      exfalso
      have h2 := congrArg Int32.toInt h
      rw [nI_toInt (by omega)] at h2
      have h3 : (-1 : Int32).toInt = -1 := by decide
      omega
    · intro h
      exact absurd h.2 hk
/-- one arc more, as the reference holds it -/
def XT (xt : Option (Nat × Nat)) (hm : gIH) : Prop := match xt with
  | none => hm 81 8 = -1
  | some p => p.1 < 16 ∧ p.2 < 16 ∧ hm 81 8 = nI p.1 ∧ hm 81 9 = nI p.2
theorem nI_ne_m1 {k : Nat} (hk : k < 2 ^ 31) : ¬ nI k = (-1 : Int32) := by
  intro h
  have h2 := congrArg Int32.toInt h
  rw [nI_toInt hk] at h2
  have h3 : (-1 : Int32).toInt = -1 := by decide
  omega
theorem ct_lt {s t : Int32} (h : ∀ i, i < 16 → bt s i = true → bt t i = true) {k : Nat} (hk : k < 16) (h1 : bt t k = true) (h2 : bt s k = false) : fb_ct (bt s) 16 < fb_ct (bt t) 16 := by
  have e := fb_ct_upd (bt s) true (i := k) (n := 16) hk
  rw [h2] at e
  have e2 : fb_ct (fun i => if i = k then true else bt s i) 16 ≤ fb_ct (bt t) 16 := fb_ct_sub fun i hi hb => by
    by_cases hik : i = k
    · subst hik; exact h1
    · rw [if_neg hik] at hb
      exact h i hi hb
  change fb_ct _ 16 + 0 = fb_ct _ 16 + 1 at e
  omega
theorem S16.grow {s t : Int32} (hs : S16 s) (ht : S16 t) (h : ∀ i, bt s i = true → bt t i = true) (hne : t ≠ s) : fb_ct (bt s) 16 < fb_ct (bt t) 16 := by
  have hx : ∃ k, k < 16 ∧ bt t k = true ∧ bt s k = false := by
    apply Classical.byContradiction
    intro q
    refine hne (ht.ext hs fun i hi => ?_)
    cases e1 : bt t i with
    | false =>
      cases e2 : bt s i with
      | false => rfl
      | true => rw [h i e2] at e1; cases e1
    | true =>
      cases e2 : bt s i with
      | false => exact absurd ⟨i, hi, e1, e2⟩ q
      | true => rfl
  obtain ⟨k, hk, h1, h2⟩ := hx
  exact ct_lt (fun i _ => h i) hk h1 h2
theorem S16.of_bt {s : Int32} (hs : S16 s) {i : Nat} (h : bt s i = true) : i < 16 := by
  rcases Nat.lt_or_ge i 16 with q | q
  · exact q
  · rw [hs i q] at h; cases h
theorem bt_set {s : Int32} {k : Nat} (hk : k < 16) (hs : S16 s) : S16 (s ||| ((1 : Int32) <<< (nI k &&& 31))) ∧ ∀ i, bt (s ||| ((1 : Int32) <<< (nI k &&& 31))) i = true ↔ bt s i = true ∨ i = k := by
  refine ⟨hs.or (s16_one hk), fun i => ?_⟩
  by_cases hi : i < 32
  · rw [b_or, bt_one (by omega) hi, Bool.or_eq_true, decide_eq_true_eq]
  · rw [b_big (by omega), b_big (by omega)]
    simp
    omega
/-- one round of the reference's reach over the arcs: what it adds to cur out of set -/
theorem m_reachIn {hm : gIH} {N : aN} (hN : aOk N) (h : MNet hm 82 0 N) (k1 k2 : Nat) (h2 : hm 81 10 = skI k2) (b w s0 : Int32) (hs0 : S16 s0) :
    ∃ y, lp (f_X10_reach_L24 hm b (skI k1) w) 2000 (s0, 0) = some y ∧ S16 y ∧ (∀ i, bt s0 i = true → bt y i = true) ∧
      (∀ P : Nat → Prop, (∀ i, bt s0 i = true → P i) → (∀ u v, P u → EdX N k1 k2 none u v → ¬ bt b v = true → P v) → ∀ i, bt y i = true → P i) ∧
      (∀ u v, bt s0 u = true → EdX N k1 k2 none u v → ¬ bt b v = true → bt y v = true) := by
  have hm60 := hN.m60
  refine lp_for (step := f_X10_reach_L24 hm b (skI k1) w) (nM N)
    (fun j s => s.2 = nI j ∧ S16 s.1 ∧ (∀ i, bt s0 i = true → bt s.1 i = true) ∧ (∀ P : Nat → Prop, (∀ i, bt s0 i = true → P i) → (∀ u v, P u → EdX N k1 k2 none u v → ¬ bt b v = true → P v) → ∀ i, bt s.1 i = true → P i) ∧
      (∀ a, a < j → nO N a = true → a ≠ k1 → a ≠ k2 → bt s0 (nF N a) = true → ¬ bt b (nT N a) = true → bt s.1 (nT N a) = true))
    (fun y => S16 y ∧ (∀ i, bt s0 i = true → bt y i = true) ∧ (∀ P : Nat → Prop, (∀ i, bt s0 i = true → P i) → (∀ u v, P u → EdX N k1 k2 none u v → ¬ bt b v = true → P v) → ∀ i, bt y i = true → P i) ∧
      (∀ u v, bt s0 u = true → EdX N k1 k2 none u v → ¬ bt b v = true → bt y v = true)) ?_ ?_ (s := (s0, 0)) (k := 2000) ⟨rfl, hs0, fun i hi => hi, fun P hP _ => hP, fun a ha => by omega⟩ (by omega)
  · rintro j ⟨s, c⟩ hj ⟨hc, h1, h3, h4, h5⟩
    simp only at hc h1 h3 h4 h5
    subst hc
    have stay : ∀ (hno : nO N j = true → j ≠ k1 → j ≠ k2 → bt s0 (nF N j) = true → ¬ bt b (nT N j) = true → bt s (nT N j) = true), (nI j + 1 = nI (j + 1) ∧ S16 s ∧ (∀ i, bt s0 i = true → bt s i = true) ∧ (∀ P : Nat → Prop, (∀ i, bt s0 i = true → P i) → (∀ u v, P u → EdX N k1 k2 none u v → ¬ bt b v = true → P v) → ∀ i, bt s i = true → P i) ∧ (∀ a, a < j + 1 → nO N a = true → a ≠ k1 → a ≠ k2 → bt s0 (nF N a) = true → ¬ bt b (nT N a) = true → bt s (nT N a) = true)) := by
      intro hno
      refine ⟨nI_1 j, h1, h3, h4, fun a ha => ?_⟩
      rcases Nat.lt_or_ge a j with q | q
      · exact h5 a q
      · rw [show a = j by omega]
        exact hno
    unfold f_X10_reach_L24
    rw [m_arcs h]
    simp only [Option.bind_some, lt]
    rw [if_neg (by rw [nI_leI (by omega) (by omega)]; omega)]
    by_cases a1 : nI j = skI k1
    · rw [if_pos a1]
      exact ⟨_, rfl, stay fun _ q => absurd ((skI_eq (by omega)).mp a1).1 q⟩
    rw [if_neg a1, h2]
    by_cases a2 : nI j = skI k2
    · rw [if_pos a2]
      exact ⟨_, rfl, stay fun _ _ q => absurd ((skI_eq (by omega)).mp a2).1 q⟩
    rw [if_neg a2, m_open hN h hj]
    simp only [Option.bind_some]
    by_cases a3 : nO N j = true
    · rw [if_neg (by rw [bi01, a3]; decide), m_from hN h hj]
      simp only [Option.bind_some]
      by_cases a4 : bt s (nF N j) = true
      · rw [if_neg (by rw [holds0 _ (by have := hN.f16 hj; omega), a4]; decide), m_to hN h hj]
        simp only [Option.bind_some]
        by_cases a5 : bt b (nT N j) = true
        · rw [if_neg (by rw [holds0 _ (by have := hN.t16 hj; omega), a5]; decide)]
          exact ⟨_, rfl, stay fun _ _ _ _ q => absurd a5 q⟩
        · rw [if_pos (by rw [holds0 _ (by have := hN.t16 hj; omega)]; simpa using a5)]
          have hk1 : j ≠ k1 := fun q => a1 ((skI_eq (by omega)).mpr ⟨q, by omega⟩)
          have hk2 : j ≠ k2 := fun q => a2 ((skI_eq (by omega)).mpr ⟨q, by omega⟩)
          obtain ⟨g1, g2⟩ := bt_set (hN.t16 hj) h1
          refine ⟨_, rfl, nI_1 j, g1, fun i hi => (g2 i).mpr (Or.inl (h3 i hi)), fun P hP hst i hi => ?_, fun a ha b1 b2 b3 b4 b5 => ?_⟩
          · rcases (g2 i).mp hi with q | q
            · exact h4 P hP hst i q
            · subst q
              exact hst _ _ (h4 P hP hst _ a4) (Or.inl ⟨j, hj, a3, hk1, hk2, rfl, rfl⟩) a5
          · rcases Nat.lt_or_ge a j with q | q
            · exact (g2 _).mpr (Or.inl (h5 a q b1 b2 b3 b4 b5))
            · rw [show a = j by omega]
              exact (g2 _).mpr (Or.inr rfl)
      · rw [if_pos (by rw [holds0 _ (by have := hN.f16 hj; omega)]; simpa using a4)]
        exact ⟨_, rfl, stay fun _ _ _ q => absurd (h3 _ q) a4⟩
    · rw [if_pos (by rw [bi01]; simpa using a3)]
      exact ⟨_, rfl, stay fun q => absurd q a3⟩
  · rintro ⟨s, c⟩ ⟨hc, h1, h3, h4, h5⟩
    simp only at hc h1 h3 h4 h5
    subst hc
    refine ⟨s, ?_, h1, h3, h4, ?_⟩
    · unfold f_X10_reach_L24
      rw [m_arcs h]
      simp only [Option.bind_some]
      rw [if_pos (Int32.le_refl _)]
    · rintro u v hu (⟨a, b1, b2, b3, b4, rfl, rfl⟩ | q) hb
      · exact h5 a b1 b2 b3 b4 hu hb
      · cases q
/-- THE REFERENCE'S REACH -/
theorem m_reach {hm : gIH} {N : aN} (hN : aOk N) (h : MNet hm 82 0 N) (k1 k2 : Nat) (h2 : hm 81 10 = skI k2) (xt : Option (Nat × Nat)) (hx : XT xt hm) (a b : Int32) (ha : S16 a) :
    ∃ y, f_X10_reach hm a b (skI k1) = some y ∧ S16 y ∧ ∀ v, v < 16 → (bt y v = true ↔ Rc (EdX N k1 k2 xt) (fun s => bt a s = true) (fun s => bt b s = true) v) := by
  have hE16 : E16 (EdX N k1 k2 xt) := by
    refine hN.e16 fun p q => ?_
    subst q
    exact ⟨hx.1, hx.2.1⟩
  have hEm : ∀ u v, EdX N k1 k2 none u v → EdX N k1 k2 xt u v := by
    rintro u v (q | q)
    · exact Or.inl q
    · cases q
  obtain ⟨S, hS⟩ : ∃ S : Nat → Prop, (fun s => bt a s = true) = S := ⟨_, rfl⟩
  obtain ⟨X, hX⟩ : ∃ X : Nat → Prop, (fun s => bt b s = true) = X := ⟨_, rfl⟩
  have hXe : ∀ v, X v ↔ bt b v = true := fun v => by rw [← hX]
  have hSe : ∀ v, S v ↔ bt a v = true := fun v => by rw [← hS]
  rw [hS, hX]
  refine Exists.elim (lp_run (step := f_X10_reach_L10 hm b (skI k1))
    (fun s => S16 s.1 ∧ S16 s.2 ∧ (∀ i, bt s.2 i = true → bt s.1 i = true) ∧ (∀ i, bt s.1 i = true → Rc (EdX N k1 k2 xt) S X i) ∧ (∀ i, S i → ¬ X i → bt s.1 i = true) ∧ (∀ u v, bt s.2 u = true → EdX N k1 k2 xt u v → ¬ X v → bt s.1 v = true))
    (fun s => 2 * (16 - fb_ct (bt s.1) 16) + if s.1 = s.2 then 0 else 1)
    (fun y => S16 y ∧ ∀ v, v < 16 → (bt y v = true ↔ Rc (EdX N k1 k2 xt) S X v)) ?_ (k := 2000) (s := (a &&& (b ^^^ (-1)), 0)) ?_ ?_) (fun y hh => ?_)
  · rintro ⟨s, w⟩ ⟨h1, h3, h4, h5, h6, h7⟩
    simp only at h1 h3 h4 h5 h6 h7
    by_cases hsw : s = w
    · right
      subst hsw
      refine ⟨s, by unfold f_X10_reach_L10; rw [if_pos rfl], h1, fun v _ => ⟨h5 v, fun hr => hr.ind h6 (fun u w _ p q r => h7 u w p q r)⟩⟩
    · left
      unfold f_X10_reach_L10
      rw [if_neg hsw]
      obtain ⟨y, e, g1, g2, g3, g4⟩ := m_reachIn hN h k1 k2 h2 b s s h1
      rw [e]
      simp only [Option.bind_some]
      have snd : ∀ i, bt y i = true → Rc (EdX N k1 k2 xt) S X i := g3 _ h5 (fun u v p q r => Rc.step p (hEm _ _ q) (fun z => r ((hXe v).mp z)))
      have fin : ∀ z, S16 z → (∀ i, bt y i = true → bt z i = true) → (∀ i, bt z i = true → Rc (EdX N k1 k2 xt) S X i) → (∀ u v, bt s u = true → EdX N k1 k2 xt u v → ¬ X v → bt z v = true) → ∃ s', some (Sum.inl (z, s)) = (some (Sum.inl s') : Option ((Int32 × Int32) ⊕ Int32)) ∧ (S16 s'.1 ∧ S16 s'.2 ∧ (∀ i, bt s'.2 i = true → bt s'.1 i = true) ∧ (∀ i, bt s'.1 i = true → Rc (EdX N k1 k2 xt) S X i) ∧ (∀ i, S i → ¬ X i → bt s'.1 i = true) ∧ (∀ u v, bt s'.2 u = true → EdX N k1 k2 xt u v → ¬ X v → bt s'.1 v = true)) ∧ (2 * (16 - fb_ct (bt s'.1) 16) + if s'.1 = s'.2 then 0 else 1) < 2 * (16 - fb_ct (bt s) 16) + if s = w then 0 else 1 := by
        intro z z1 z2 z3 z4
        refine ⟨(z, s), rfl, ⟨z1, h1, fun i hi => z2 i (g2 i hi), z3, fun i p q => z2 i (g2 i (h6 i p q)), z4⟩, ?_⟩
        rw [if_neg hsw]
        have hle := fb_ct_le (bt z) 16
        by_cases hzs : z = s
        · subst hzs
          show 2 * (16 - fb_ct (bt z) 16) + (if z = z then 0 else 1) < _
          rw [if_pos rfl]
          omega
        · have := S16.grow h1 z1 (fun i hi => z2 i (g2 i hi)) hzs
          show 2 * (16 - fb_ct (bt z) 16) + (if z = s then 0 else 1) < _
          rw [if_neg hzs]
          omega
      have old : xt = none → ∀ u v, bt s u = true → EdX N k1 k2 xt u v → ¬ X v → bt y v = true := by
        intro q u v p1 p2 p3
        subst q
        exact g4 u v p1 p2 (fun z => p3 ((hXe v).mpr z))
      match xt, hx, old, fin with
      | none, hx, old, fin =>
        have hx : hm 81 8 = -1 := hx
        rw [if_pos hx]
        exact fin y g1 (fun i hi => hi) snd (old rfl)
      | some (p, q), hx, old, fin =>
        obtain ⟨x1, x2, x3, x4⟩ := hx
        simp only at x1 x2 x3 x4
        rw [x3, x4, if_neg (nI_ne_m1 (by omega))]
        by_cases c1 : bt y p = true
        · rw [if_neg (by rw [holds0 _ (by omega), c1]; decide)]
          by_cases c2 : bt b q = true
          · rw [if_neg (by rw [holds0 _ (by omega), c2]; decide)]
            refine fin y g1 (fun i hi => hi) snd ?_
            rintro u v p1 (p2 | p2) p3
            · exact g4 u v p1 (Or.inl p2) (fun z => p3 ((hXe v).mpr z))
            · cases p2
              exact absurd ((hXe _).mpr c2) p3
          · rw [if_pos (by rw [holds0 _ (by omega)]; simpa using c2)]
            simp only [lt]
            obtain ⟨z1, z2⟩ := bt_set x2 g1
            refine fin _ z1 (fun i hi => (z2 i).mpr (Or.inl hi)) (fun i hi => ?_) ?_
            · rcases (z2 i).mp hi with r | r
              · exact snd i r
              · subst r
                exact Rc.step (snd _ c1) (Or.inr rfl) (fun z => c2 ((hXe _).mp z))
            · rintro u v p1 (p2 | p2) p3
              · exact (z2 v).mpr (Or.inl (g4 u v p1 (Or.inl p2) (fun z => p3 ((hXe v).mpr z))))
              · cases p2
                exact (z2 _).mpr (Or.inr rfl)
        · rw [if_pos (by rw [holds0 _ (by omega)]; simpa using c1)]
          refine fin y g1 (fun i hi => hi) snd ?_
          rintro u v p1 (p2 | p2) p3
          · exact g4 u v p1 (Or.inl p2) (fun z => p3 ((hXe v).mpr z))
          · cases p2
            exact absurd (g2 _ p1) c1
  · refine ⟨ha.and, s16_0, fun i hi => (by rw [b_0] at hi; cases hi), fun i hi => ?_, fun i p q => ?_, fun u v hu => (by rw [b_0] at hu; cases hu)⟩
    · have h16 := (ha.and (y := b ^^^ (-1))).of_bt hi
      have hi : bt (a &&& (b ^^^ (-1))) i = true := hi
      rw [b_and, bt_not _ (by omega), Bool.and_eq_true] at hi
      refine Rc.base ((hSe i).mpr hi.1) (fun z => ?_)
      rw [(hXe i).mp z] at hi
      exact absurd hi.2 (by decide)
    · have p' := (hSe i).mp p
      have := ha.of_bt p'
      show bt (a &&& (b ^^^ (-1))) i = true
      rw [b_and, bt_not _ (by omega), p']
      cases hb : bt b i with
      | false => rfl
      | true => exact absurd ((hXe i).mpr hb) q
  · show 2 * (16 - fb_ct (bt _) 16) + (if _ then 0 else 1) < 2000
    split <;> omega
  · obtain ⟨e, hy⟩ := hh
    refine ⟨y, ?_, hy⟩
    unfold f_X10_reach
    simp only [lt]
    rw [e]
    rfl
