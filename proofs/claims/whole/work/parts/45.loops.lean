/-! LOOPS: heads and bodies -/
/-- u, reached, has an arc to v, which keeps it or is it -/
def Tl (E : Nat → Nat → Prop) (S : Nat → Prop) (v u : Nat) : Prop := Rc E S nox u ∧ E u v ∧ (Dm E S v u ∨ u = v)
def Hd (E : Nat → Nat → Prop) (S : Nat → Prop) (v : Nat) : Prop := ∃ u, Tl E S v u
def Bd (E : Nat → Nat → Prop) (S : Nat → Prop) (v x : Nat) : Prop := Hd E S v ∧ (x = v ∨ (Rc E S nox x ∧ Rc (fun u w => E w u) (Tl E S v) (fun s => s = v) x))
section
variable {E : Nat → Nat → Prop} {S : Nat → Prop}
/-- against the arcs among who is reached, or among all: for who is reached it's the same -/
theorem rear_iff {T X : Nat → Prop} (hT : ∀ u, T u → Rc E S nox u) {x : Nat} : (Rc E S nox x ∧ Rc (fun u w => E w u) T X x) ↔ Rc (fun v u => Rc E S nox u ∧ E u v) T X x := by
  constructor
  · rintro ⟨h1, h2⟩
    have key : Rc E S nox x → Rc (fun v u => Rc E S nox u ∧ E u v) T X x := by
      refine h2.ind (P := fun x => Rc E S nox x → Rc (fun v u => Rc E S nox u ∧ E u v) T X x) (fun s p q _ => Rc.base p q) (fun u w _ p e z hw => ?_)
      exact Rc.step (p (Rc.step hw e (fun z => z))) ⟨hw, e⟩ z
    exact key h1
  · intro h
    refine h.ind (P := fun x => Rc E S nox x ∧ Rc (fun u w => E w u) T X x) (fun s p q => ⟨hT s p, Rc.base p q⟩) (fun u w _ p e z => ⟨e.1, Rc.step p.2 e.2 z⟩)
/-- the rows of heads and bodies -/
def LF (y : gXH) (E : Nat → Nat → Prop) (S : Nat → Prop) : Prop :=
  (S16 (y.1 64 1) ∧ ∀ v, v < 16 → (bt (y.1 64 1) v = true ↔ Hd E S v)) ∧ ∀ v, v < 16 → S16 (y.1 65 v) ∧ ∀ x, x < 16 → (bt (y.1 65 v) x = true ↔ Bd E S v x)
theorem loops_c {xc : gXH} {fa : Nat} (hE : E16 E) (hG : GF xc fa E S) (hR : NX xc 60 (fun v u => Rc E S nox u ∧ E u v)) (hfa : 70 < fa) :
    ∃ y, f_X4_weigh fa xc = some y ∧ Fr (fun c => c = 64 ∨ c = 65) xc y ∧ LF y E S := by
  have hR16 : E16 (fun v u => Rc E S nox u ∧ E u v) := fun u v z => ⟨(hE _ _ z.2).2, (hE _ _ z.2).1⟩
  unfold f_X4_weigh
  simp only [lt]
  obtain ⟨x1, ex1⟩ : ∃ x1, sI xc 64 1 0 = x1 := ⟨_, rfl⟩
  rw [ex1]
  have f1 : Fr (fun c => c = 64 ∨ c = 65) xc x1 := by rw [← ex1]; exact Fr.s (Or.inl rfl)
  refine Exists.elim (lp_for (step := f_X4_weigh_L7 fa) 16 (fun j t => t.1 = nI j ∧ Fr (fun c => c = 64 ∨ c = 65) xc t.2 ∧ (S16 (t.2.1 64 1) ∧ ∀ v, v < 16 → (bt (t.2.1 64 1) v = true ↔ v < j ∧ Hd E S v)) ∧ ∀ v, v < j → S16 (t.2.1 65 v) ∧ ∀ x, x < 16 → (bt (t.2.1 65 v) x = true ↔ Bd E S v x)) (fun y => Fr (fun c => c = 64 ∨ c = 65) xc y ∧ LF y E S) ?_ ?_ (s := (0, x1)) (k := 2000) ⟨rfl, f1, ?_, fun v hv => by omega⟩ (by omega)) (fun y hh => ⟨y, by rw [hh.1]; rfl, hh.2⟩)
  · rintro j ⟨i, y⟩ hj ⟨h0, h1, h2, h3⟩
    simp only at h0 h1 h2 h3
    subst h0
    have hGy : GF y fa E S := hG.fr h1 (fun c a b => by omega)
    have hRy : NX y 60 (fun v u => Rc E S nox u ∧ E u v) := hR.cg (h1.1 60 (by omega))
    unfold f_X4_weigh_L7
    rw [if_neg (ge16 hj)]
    simp only [lt]
    rw [atv_n (L := 16) hj (by omega), atv_n (L := 16) hj (by omega), putv_n (L := 16) hj (by omega)]
    obtain ⟨t, et⟩ : ∃ t, y.1 60 j &&& (y.1 (fa + 3) j ||| f_X9_only (nI j)) = t := ⟨_, rfl⟩
    rw [et]
    have ht16 : S16 t := by rw [← et]; exact (hRy j hj).1.and
    have ht : ∀ u, u < 16 → (bt t u = true ↔ Tl E S j u) := fun u hu => by
      rw [← et, b_and, Bool.and_eq_true, (hRy j hj).2 u hu]
      have := (bt_set (s := y.1 (fa + 3) j) hj (hGy.2.2.1 j hj).1).2 u
      rw [show bt (y.1 (fa + 3) j ||| f_X9_only (nI j)) u = true ↔ _ from this, (hGy.2.2.1 j hj).2 u hu]
      exact ⟨fun z => ⟨z.1.1, z.1.2, z.2⟩, fun z => ⟨⟨z.1, z.2.1⟩, z.2.2⟩⟩
    obtain ⟨x3, ex3⟩ : ∃ x3, sI y 65 j 0 = x3 := ⟨_, rfl⟩
    rw [ex3]
    have f3 : Fr (fun c => c = 64 ∨ c = 65) y x3 := by rw [← ex3]; exact Fr.s (Or.inr rfl)
    have g3 : Fr (fun c => c = 65) y x3 := by rw [← ex3]; exact Fr.s rfl
    have x365 : ∀ v, v ≠ j → x3.1 65 v = y.1 65 v := fun v hv => by rw [← ex3]; exact sI_at2 hv
    have x36j : x3.1 65 j = 0 := by rw [← ex3]; exact sI_at
    have x364 : x3.1 64 1 = y.1 64 1 := by rw [g3.1 64 (by omega)]
    have hnx : ∀ v, v < 16 → ((v < j ∧ Hd E S v) ∨ (v = j ∧ Hd E S j) ↔ v < j + 1 ∧ Hd E S v) := fun v _ => by
      constructor
      · rintro (z | z)
        · exact ⟨by omega, z.2⟩
        · exact ⟨by omega, by rw [z.1]; exact z.2⟩
      · rintro ⟨z1, z2⟩
        rcases Nat.lt_or_ge v j with o | o
        · exact Or.inl ⟨o, z2⟩
        · have : v = j := by omega
          subst this
          exact Or.inr ⟨rfl, z2⟩
    by_cases h0 : t = 0
    · rw [if_pos h0]
      have hno : ¬ Hd E S j := fun ⟨u, hu⟩ => by
        have hu16 := (hE _ _ hu.2.1).1
        have := (ht u hu16).mpr hu
        rw [h0, b_0] at this
        cases this
      refine ⟨_, rfl, nI_1 j, h1.tr f3, ⟨?_, fun v hv => ?_⟩, fun v hv => ?_⟩
      · rw [x364]; exact h2.1
      · rw [x364, h2.2 v hv, ← hnx v hv]
        exact ⟨fun z => Or.inl z, fun z => z.elim id (fun z => absurd z.2 hno)⟩
      · by_cases hvj : v = j
        · subst hvj
          dsimp only
          rw [x36j]
          refine ⟨s16_0, fun x _ => ?_⟩
          rw [b_0]
          exact ⟨fun z => (by cases z), fun z => absurd z.1 hno⟩
        · dsimp only
          rw [x365 v hvj]
          exact h3 v (by omega)
    · rw [if_neg h0]
      have hyes : Hd E S j := by
        obtain ⟨u, hu, hb, -⟩ := least_of h0
        have hu16 := ht16.of_bt hb
        exact ⟨u, (ht u hu16).mp hb⟩
      obtain ⟨x5, ex5⟩ : ∃ x5, sI x3 64 1 (x3.1 64 1 ||| f_X9_only (nI j)) = x5 := ⟨_, rfl⟩
      rw [ex5]
      have f5 : Fr (fun c => c = 64) x3 x5 := by rw [← ex5]; exact Fr.s rfl
      have hR5 : NX x5 60 (fun v u => Rc E S nox u ∧ E u v) := hRy.cg ((f5.1 60 (by omega)).trans (g3.1 60 (by omega)))
      obtain ⟨z, ez, z1, z2⟩ := spread_ok hR16 hR5 t (f_X9_only (nI j)) ht16
      rw [ez]
      simp only [Option.bind_some]
      rw [putv_n (L := 16) hj (by omega)]
      obtain ⟨x7, ex7⟩ : ∃ x7, sI x5 65 j (f_X9_only (nI j) ||| z) = x7 := ⟨_, rfl⟩
      rw [ex7]
      have f7 : Fr (fun c => c = 65) x5 x7 := by rw [← ex7]; exact Fr.s rfl
      have x764 : x7.1 64 1 = y.1 64 1 ||| f_X9_only (nI j) := by
        rw [f7.1 64 (by omega), ← ex5, sI_at, x364]
      obtain ⟨b1, b2⟩ := bt_set (s := y.1 64 1) hj h2.1
      refine ⟨_, rfl, nI_1 j, ((h1.tr f3).tr (f5.mono fun c hc => Or.inl hc)).tr (f7.mono fun c hc => Or.inr hc), ⟨?_, fun v hv => ?_⟩, fun v hv => ?_⟩
      · rw [x764]; exact b1
      · rw [x764, ← hnx v hv]
        rw [show bt (y.1 64 1 ||| f_X9_only (nI j)) v = true ↔ _ from b2 v, h2.2 v hv]
        exact ⟨fun z => z.imp id (fun z => ⟨z, hyes⟩), fun z => z.imp id (fun z => z.1)⟩
      · by_cases hvj : v = j
        · subst hvj
          have e7 : x7.1 65 v = f_X9_only (nI v) ||| z := by rw [← ex7]; exact sI_at
          dsimp only
          rw [e7]
          refine ⟨(s16_one hj).or z1, fun x hx => ?_⟩
          rw [b_or, Bool.or_eq_true, show bt (f_X9_only (nI v)) x = true ↔ _ from bt_one16 hj x, z2 x hx]
          have e8 : Rc (fun v u => Rc E S nox u ∧ E u v) (fun s => bt t s = true) (fun s => bt (f_X9_only (nI v)) s = true) x ↔ Rc (fun v u => Rc E S nox u ∧ E u v) (Tl E S v) (fun s => s = v) x := by
            refine Rc.congr (fun _ _ => Iff.rfl) (fun s => ?_) (fun s => bt_one16 hj s)
            rcases Nat.lt_or_ge s 16 with o | o
            · exact ht s o
            · rw [ht16 s o]
              exact ⟨fun q => (by cases q), fun q => by have := (hE _ _ q.2.1).1; omega⟩
          rw [e8, ← rear_iff (fun u hu => hu.1)]
          exact ⟨fun q => ⟨hyes, q⟩, fun q => q.2⟩
        · dsimp only
          rw [show x7.1 65 v = y.1 65 v by rw [← ex7, sI_at2 hvj, ← x365 v hvj, f5.1 65 (by omega)]]
          exact h3 v (by omega)
  · rintro ⟨i, y⟩ ⟨h0, h1, h2, h3⟩
    simp only at h0 h1 h2 h3
    subst h0
    unfold f_X4_weigh_L7
    rw [if_pos le16]
    refine ⟨y, rfl, h1, ⟨h2.1, fun v hv => ?_⟩, h3⟩
    rw [h2.2 v hv]
    exact ⟨fun z => z.2, fun z => ⟨hv, z⟩⟩
  · show S16 (x1.1 64 1) ∧ _
    have : x1.1 64 1 = 0 := by rw [← ex1]; exact sI_at
    rw [this]
    refine ⟨s16_0, fun v _ => ?_⟩
    rw [b_0]
    simp
end
/-! the reference's bodies -/
section
variable {N : aN} {hm y : gIH}
def BkA (N : aN) (a : Nat) : Prop := nO N a = true ∧ Rc (Ed N 100) (fun s => s = nRt N) nox (nF N a) ∧ (nF N a = nT N a ∨ Dm (Ed N 100) (fun s => s = nRt N) (nT N a) (nF N a))
theorem isBack_m (hN : aOk N) (q : QM N hm y) {a : Nat} (ha : a < nM N) : f_X10_isBack y (nI a) = some (if cb (BkA N a) = true then 1 else 0) := by
  have h60 := hN.m60
  have hf := hN.f16 ha
  have ht := hN.t16 ha
  unfold f_X10_isBack
  rw [m_open hN q.2.1 ha]
  simp only [Option.bind_some]
  by_cases c1 : nO N a = true
  · rw [if_neg (by rw [bi01, c1]; decide), m_from hN q.2.1 ha]
    simp only [Option.bind_some]
    by_cases c2 : Rc (Ed N 100) (fun s => s = nRt N) nox (nF N a)
    · rw [if_neg (fun z => (q.2.2.1.r0 hf).mp z c2), m_to hN q.2.1 ha]
      simp only [Option.bind_some]
      by_cases c3 : nF N a = nT N a
      · rw [if_pos (by rw [c3]), if_pos (cb_t.mpr ⟨c1, c2, Or.inl c3⟩)]
      · rw [if_neg (by rw [nI_eq (by omega) (by omega)]; exact c3), q.2.2.1.keeps ht hf]
        simp only [Option.bind_some]
        by_cases c4 : Dm (Ed N 100) (fun s => s = nRt N) (nT N a) (nF N a)
        · rw [if_neg (by rw [bi01, cb_t.mpr c4]; decide), if_pos (cb_t.mpr ⟨c1, c2, Or.inr c4⟩)]
        · rw [if_pos (by rw [bi01]; exact cb_f.mpr c4), if_neg (fun z => ((cb_t.mp z).2.2).elim c3 c4)]
    · rw [if_pos ((q.2.2.1.r0 hf).mpr c2), if_neg (fun z => c2 (cb_t.mp z).2.1)]
  · rw [if_pos (by rw [bi01]; simpa using c1), if_neg (fun z => c1 (cb_t.mp z).1)]
theorem tl_iff (hN : aOk N) {v u : Nat} : Tl (Ed N 100) (fun s => s = nRt N) v u ↔ ∃ a, a < nM N ∧ (BkA N a ∧ nT N a = v) ∧ nF N a = u := by
  have h60 := hN.m60
  constructor
  · rintro ⟨h1, (⟨a, a1, a2, a3, a4, rfl, rfl⟩ | z), h3⟩
    · exact ⟨a, a1, ⟨⟨a2, h1, h3.elim (fun z => Or.inr z) (fun z => Or.inl z)⟩, rfl⟩, rfl⟩
    · cases z
  · rintro ⟨a, a1, ⟨⟨a2, a3, a4⟩, rfl⟩, rfl⟩
    exact ⟨a3, Or.inl ⟨a, a1, a2, by omega, by omega, rfl, rfl⟩, a4.elim (fun z => Or.inr z) (fun z => Or.inl z)⟩
theorem Hd.lt (hN : aOk N) {v : Nat} (h : Hd (Ed N 100) (fun s => s = nRt N) v) : v < nN N := by
  obtain ⟨u, hu⟩ := h
  obtain ⟨a, a1, ⟨-, a2⟩, -⟩ := (tl_iff hN).mp hu
  rw [← a2]
  exact (hN.2.2.2.2.2.1 a a1).2
theorem Bd.lt (hN : aOk N) {v x : Nat} (h : Bd (Ed N 100) (fun s => s = nRt N) v x) : v < nN N ∧ x < nN N := by
  refine ⟨h.1.lt hN, ?_⟩
  rcases h.2 with q | q
  · rw [q]; exact h.1.lt hN
  · exact hN.rn q.1
theorem body_m (hN : aOk N) (q : QM N hm y) {i : Nat} (hi : i < 16) : ∃ z, f_X10_bodyOf y (nI i) = some z ∧ S16 z ∧ ∀ x, x < 16 → (bt z x = true ↔ Bd (Ed N 100) (fun s => s = nRt N) i x) := by
  have h60 := hN.m60
  have key : ∃ t, lp (f_X10_bodyOf_L7 y (nI i)) 2000 (0, 0, 0) = some t ∧ (S16 t.1 ∧ (∀ u, u < 16 → (bt t.1 u = true ↔ Tl (Ed N 100) (fun s => s = nRt N) i u)) ∧ (t.2 = 0 ↔ ¬ Hd (Ed N 100) (fun s => s = nRt N) i)) := by
    refine lp_for (step := f_X10_bodyOf_L7 y (nI i)) (nM N) (fun j s => s.2.2 = nI j ∧ S16 s.1 ∧ (∀ u, u < 16 → (bt s.1 u = true ↔ ∃ a, a < j ∧ (BkA N a ∧ nT N a = i) ∧ nF N a = u)) ∧ (s.2.1 = 0 ↔ ¬ ∃ a, a < j ∧ (BkA N a ∧ nT N a = i))) _ ?_ ?_ ⟨rfl, s16_0, fun u _ => by rw [b_0]; simp, by simp⟩ (by omega)
    · rintro j ⟨t, b, c⟩ hj ⟨h0, h1, h2, h3⟩
      simp only at h0 h1 h2 h3
      subst h0
      have stay : ¬ (BkA N j ∧ nT N j = i) → (nI j + 1 = nI (j + 1) ∧ S16 t ∧ (∀ u, u < 16 → (bt t u = true ↔ ∃ a, a < j + 1 ∧ (BkA N a ∧ nT N a = i) ∧ nF N a = u)) ∧ (b = 0 ↔ ¬ ∃ a, a < j + 1 ∧ (BkA N a ∧ nT N a = i))) := fun hno => by
        have up : ∀ P : Nat → Prop, (∃ a, a < j ∧ (BkA N a ∧ nT N a = i) ∧ P a) ↔ ∃ a, a < j + 1 ∧ (BkA N a ∧ nT N a = i) ∧ P a := fun P => by
          constructor
          · rintro ⟨a, a1, a2⟩
            exact ⟨a, by omega, a2⟩
          · rintro ⟨a, a1, a2⟩
            rcases Nat.lt_or_ge a j with o | o
            · exact ⟨a, o, a2⟩
            · rw [show a = j by omega] at a2
              exact absurd a2.1 hno
        refine ⟨nI_1 j, h1, fun u hu => (h2 u hu).trans (up _), ?_⟩
        have e := up (fun _ => True)
        simp only [and_true] at e
        rw [h3, e]
      unfold f_X10_bodyOf_L7
      rw [m_arcs q.2.1]
      simp only [Option.bind_some, lt]
      rw [if_neg (nI_ge hj (by omega)), isBack_m hN q hj]
      simp only [Option.bind_some]
      by_cases c1 : BkA N j
      · rw [if_neg (by rw [bi01, cb_t.mpr c1]; decide), m_to hN q.2.1 hj]
        simp only [Option.bind_some]
        by_cases c2 : nT N j = i
        · rw [if_pos (by rw [c2]), m_from hN q.2.1 hj]
          simp only [Option.bind_some]
          obtain ⟨b1, b2⟩ := bt_set (hN.f16 hj) h1
          refine ⟨_, rfl, nI_1 j, b1, fun u hu => ?_, ?_⟩
          · show bt (t ||| _) u = true ↔ _
            rw [b2, h2 u hu]
            constructor
            · rintro (⟨a, a1, a2⟩ | z)
              · exact ⟨a, by omega, a2⟩
              · exact ⟨j, by omega, ⟨c1, c2⟩, z.symm⟩
            · rintro ⟨a, a1, a2, a3⟩
              rcases Nat.lt_or_ge a j with o | o
              · exact Or.inl ⟨a, o, a2, a3⟩
              · rw [show a = j by omega] at a3
                exact Or.inr a3.symm
          · show (1 : Int32) = 0 ↔ _
            exact ⟨fun z => absurd z i1n0, fun z => absurd ⟨j, by omega, c1, c2⟩ z⟩
        · rw [if_neg (by rw [nI_eq (by have := hN.t16 hj; omega) (by omega)]; exact c2)]
          exact ⟨_, rfl, stay fun z => c2 z.2⟩
      · rw [if_pos (by rw [bi01]; exact cb_f.mpr c1)]
        exact ⟨_, rfl, stay fun z => c1 z.1⟩
    · rintro ⟨t, b, c⟩ ⟨h0, h1, h2, h3⟩
      simp only at h0 h1 h2 h3
      subst h0
      unfold f_X10_bodyOf_L7
      rw [m_arcs q.2.1]
      simp only [Option.bind_some]
      rw [if_pos (Int32.le_refl _)]
      refine ⟨_, rfl, h1, fun u hu => (h2 u hu).trans (tl_iff hN).symm, ?_⟩
      show b = 0 ↔ _
      rw [h3]
      refine not_congr ⟨?_, ?_⟩
      · rintro ⟨a, a1, a2⟩
        exact ⟨_, (tl_iff hN).mpr ⟨a, a1, a2, rfl⟩⟩
      · rintro ⟨u, hu⟩
        obtain ⟨a, a1, a2, -⟩ := (tl_iff hN).mp hu
        exact ⟨a, a1, a2⟩
  obtain ⟨⟨t, b⟩, et, h1, h2, h3⟩ := key
  simp only at h1 h2 h3
  unfold f_X10_bodyOf
  rw [et]
  simp only [Option.bind_some]
  by_cases c : Hd (Ed N 100) (fun s => s = nRt N) i
  · rw [if_neg (fun z => (h3.mp z) c)]
    obtain ⟨z, ez, z1, z2⟩ := m_comers hN q.2.1 (t &&& (((1 : Int32) <<< (nI i &&& 31)) ^^^ (-1))) ((1 : Int32) <<< (nI i &&& 31)) h1.and
    rw [ez]
    obtain ⟨b1, b2⟩ := bt_set (s := z &&& y 81 11) hi z1.and
    refine ⟨_, rfl, b1, fun x hx => ?_⟩
    rw [b2, b_and, Bool.and_eq_true, z2 x hx, q.2.2.1.1.2 x hx]
    have e8 : Rc (fun u w => Ed N 100 w u) (fun s => bt (t &&& (((1 : Int32) <<< (nI i &&& 31)) ^^^ (-1))) s = true) (fun s => bt ((1 : Int32) <<< (nI i &&& 31)) s = true) x ↔ Rc (fun u w => Ed N 100 w u) (Tl (Ed N 100) (fun s => s = nRt N) i) (fun s => s = i) x := by
      constructor
      · intro w
        refine w.mono (fun _ _ h => h) (fun s p z => ?_) (fun x z => (bt_one16 hi x).mpr z)
        have p16 := (h1.and (y := ((1 : Int32) <<< (nI i &&& 31)) ^^^ (-1))).of_bt p
        rw [b_and, Bool.and_eq_true, h2 s p16] at p
        exact Rc.base p.1 (fun z2 => z ((bt_one16 hi s).mpr z2))
      · intro w
        refine w.mono (fun _ _ h => h) (fun s p z => ?_) (fun x z => (bt_one16 hi x).mp z)
        have p16 := (hN.e16n (k1 := 100) (k2 := 100) _ _ p.2.1).1
        refine Rc.base ?_ (fun z2 => z ((bt_one16 hi s).mp z2))
        rw [b_and, bt_not _ (by omega), Bool.and_eq_true, h2 s p16]
        refine ⟨p, ?_⟩
        cases hb : bt ((1 : Int32) <<< (nI i &&& 31)) s with
        | false => rfl
        | true => exact absurd ((bt_one16 hi s).mp hb) z
    rw [e8]
    constructor
    · rintro (z | z)
      · exact ⟨c, Or.inr ⟨z.2, z.1⟩⟩
      · exact ⟨c, Or.inl z⟩
    · rintro ⟨-, z | z⟩
      · exact Or.inr z
      · exact Or.inl ⟨z.2, z.1⟩
  · rw [if_pos (h3.mpr c)]
    refine ⟨0, rfl, s16_0, fun x _ => ?_⟩
    rw [b_0]
    exact ⟨fun z => (by cases z), fun z => absurd z.1 c⟩
theorem fb_ct_ext {p : Nat → Bool} {n m : Nat} (hnm : n ≤ m) (h : ∀ k, n ≤ k → p k = false) : fb_ct p m = fb_ct p n := by
  obtain ⟨d, rfl⟩ : ∃ d, m = n + d := ⟨m - n, by omega⟩
  rw [fb_ct_split]
  have : fb_ct (fun k => p (n + k)) d = 0 := fb_ct_zero.mpr fun k _ => h _ (by omega)
  omega
/-- how many bodies have v; how great a body is -/
noncomputable def nst (N : aN) (v : Nat) : Nat := fb_ct (fun h => cb (Bd (Ed N 100) (fun s => s = nRt N) h v)) 16
noncomputable def bsz (N : aN) (h : Nat) : Nat := fb_ct (fun x => cb (Bd (Ed N 100) (fun s => s = nRt N) h x)) 16
theorem ct_bd {s : Int32} {h : Nat} (hs : ∀ x, x < 16 → (bt s x = true ↔ Bd (Ed N 100) (fun s => s = nRt N) h x)) : fb_ct (bt s) 16 = bsz N h := by
  unfold bsz
  refine fb_ct_cong fun x hx => ?_
  apply Bool.eq_iff_iff.mpr
  rw [hs x hx, cb_t]
theorem nest_m (hN : aOk N) (q : QM N hm y) {v : Nat} (hv : v < 16) : f_X10_nestOf y (nI v) = some (nI (nst N v)) := by
  have hn := hN.n16
  have h := lp_sum (step := f_X10_nestOf_L4 y (nI v)) (nN N) (fun h => if cb (Bd (Ed N 100) (fun s => s = nRt N) h v) = true then 1 else 0) 0 (fun j a hj => by
    unfold f_X10_nestOf_L4
    rw [q.nodes]
    simp only [Option.bind_some, lt]
    rw [if_neg (nI_ge hj (by omega))]
    obtain ⟨z, ez, z1, z2⟩ := body_m hN q (i := j) (by omega)
    rw [ez]
    simp only [Option.bind_some]
    by_cases c : Bd (Ed N 100) (fun s => s = nRt N) j v
    · rw [if_neg (by rw [holds0 _ (by omega), (z2 v hv).mpr c]; decide), if_pos (cb_t.mpr c), nI_1, nI_1]
    · rw [if_pos (by rw [holds0 _ (by omega), ← Bool.not_eq_true, z2 v hv]; exact c), if_neg (fun z => c (cb_t.mp z)), nI_1, show (0 : Int32) = nI 0 from rfl, nI_add]) (fun a => by
    unfold f_X10_nestOf_L4
    rw [q.nodes]
    simp only [Option.bind_some]
    rw [if_pos (Int32.le_refl _)]) (k := 2000) (by omega)
  unfold f_X10_nestOf
  rw [Nat.zero_add, fb_sm_ct] at h
  rw [show ((0 : Int32), (0 : Int32)) = (nI 0, 0) from rfl, h]
  simp only [Option.bind_some]
  congr 2
  unfold nst
  exact (fb_ct_ext hn fun k hk => cb_f.mpr fun z => by have := (z.lt hN).1; omega).symm
theorem nest_c {xc : gXH} (hL : LF xc (Ed N 100) (fun s => s = nRt N)) {v : Nat} (hv : v < 16) : f_X4_holding xc (nI v) = some (nI (nst N v)) := by
  have h := lp_sum (step := f_X4_holding_L4 xc (nI v)) 16 (fun h => if cb (Bd (Ed N 100) (fun s => s = nRt N) h v) = true then 1 else 0) 0 (fun j a hj => by
    unfold f_X4_holding_L4
    rw [if_neg (ge16 hj), atv_n (L := 16) hj (by omega)]
    simp only [lt]
    have z2 := (hL.2 j hj).2 v hv
    by_cases c : Bd (Ed N 100) (fun s => s = nRt N) j v
    · rw [if_neg (by rw [has0 _ (by omega), z2.mpr c]; decide), if_pos (cb_t.mpr c), nI_1, nI_1]
    · rw [if_pos (by rw [has0 _ (by omega), ← Bool.not_eq_true, z2]; exact c), if_neg (fun z => c (cb_t.mp z)), nI_1]
      rfl) (fun a => by
    unfold f_X4_holding_L4
    rw [if_pos le16]) (k := 2000) (by omega)
  unfold f_X4_holding
  rw [Nat.zero_add, fb_sm_ct] at h
  rw [show ((0 : Int32), (0 : Int32)) = (nI 0, 0) from rfl, h]
  rfl
/-- the first of the least, or none -/
def SmI (c : Nat → Prop) (sz : Nat → Nat) (y : Int32) : Prop := (∃ h, h < 16 ∧ c h ∧ y = nI h ∧ (∀ g, c g → sz h ≤ sz g) ∧ ∀ g, g < h → c g → sz h < sz g) ∨ ((∀ h, ¬ c h) ∧ y = -1)
theorem SmI.uniq {c : Nat → Prop} {sz : Nat → Nat} {y z : Int32} (h1 : SmI c sz y) (h2 : SmI c sz z) : y = z := by
  rcases h1 with ⟨a, -, a1, a2, a3, a4⟩ | ⟨a1, a2⟩ <;> rcases h2 with ⟨b, -, b1, b2, b3, b4⟩ | ⟨b1, b2⟩
  · rw [a2, b2]
    congr 1
    rcases Nat.lt_trichotomy a b with o | o | o
    · have := b4 a o a1
      have := a3 b b1
      omega
    · exact o
    · have := a4 b o b1
      have := b3 a a1
      omega
  · exact absurd a1 (b1 a)
  · exact absurd b1 (a1 b)
  · rw [a2, b2]
theorem size_c {xc : gXH} (hL : LF xc (Ed N 100) (fun s => s = nRt N)) {h : Nat} (hh : h < 16) : f_X4_size xc (nI h) = nI (bsz N h) := by
  unfold f_X4_size
  rw [if_neg (nI_ne_m1 (by omega)), atv_n (L := 16) hh (by omega), bc_ct (hL.2 h hh).1, ct_bd (hL.2 h hh).2]
theorem bsz16 (N : aN) (h : Nat) : bsz N h ≤ 16 := fb_ct_le _ 16
theorem small_c (hN : aOk N) {xc : gXH} (hL : LF xc (Ed N 100) (fun s => s = nRt N)) {v : Nat} (hv : v < 16) (A : Nat) (hA : A < 1000) : ∃ z, f_X4_smallest xc (nI v) (nI A) = some z ∧ SmI (fun h => Bd (Ed N 100) (fun s => s = nRt N) h v ∧ A < bsz N h) (bsz N) z := by
  have hn := hN.n16
  obtain ⟨c, hc⟩ : ∃ c : Nat → Prop, (fun h => Bd (Ed N 100) (fun s => s = nRt N) h v ∧ A < bsz N h) = c := ⟨_, rfl⟩
  have hce : ∀ h, c h ↔ Bd (Ed N 100) (fun s => s = nRt N) h v ∧ A < bsz N h := fun h => by rw [← hc]
  rw [hc]
  have key : ∃ z, lp (f_X4_smallest_L5 xc (nI v) (nI A)) 2000 (-1, 0) = some z ∧ SmI c (bsz N) z := by
    refine lp_for (step := f_X4_smallest_L5 xc (nI v) (nI A)) 16 (fun j s => s.2 = nI j ∧ ((∃ h, h < j ∧ c h ∧ s.1 = nI h ∧ (∀ g, g < j → c g → bsz N h ≤ bsz N g) ∧ ∀ g, g < h → c g → bsz N h < bsz N g) ∨ ((∀ h, h < j → ¬ c h) ∧ s.1 = -1))) _ ?_ ?_ ⟨rfl, Or.inr ⟨fun h hh => by omega, rfl⟩⟩ (by omega)
    · rintro j ⟨f, i⟩ hj ⟨h0, h1⟩
      simp only at h0 h1
      subst h0
      have no : ¬ c j → ∃ s', f_X4_smallest_J43 xc (nI v) (nI A) f (nI j) 0 = some (.inl s') ∧ s'.2 = nI (j + 1) ∧ ((∃ h, h < j + 1 ∧ c h ∧ s'.1 = nI h ∧ (∀ g, g < j + 1 → c g → bsz N h ≤ bsz N g) ∧ ∀ g, g < h → c g → bsz N h < bsz N g) ∨ ((∀ h, h < j + 1 → ¬ c h) ∧ s'.1 = -1)) := fun hno => by
        unfold f_X4_smallest_J43
        rw [if_pos rfl]
        refine ⟨_, rfl, nI_1 j, ?_⟩
        rcases h1 with ⟨h, a1, a2, a3, a4, a5⟩ | ⟨a1, a2⟩
        · refine Or.inl ⟨h, by omega, a2, a3, fun g hg hcg => ?_, a5⟩
          rcases Nat.lt_or_ge g j with o | o
          · exact a4 g o hcg
          · rw [show g = j by omega] at hcg; exact absurd hcg hno
        · refine Or.inr ⟨fun h hh hch => ?_, a2⟩
          rcases Nat.lt_or_ge h j with o | o
          · exact a1 h o hch
          · rw [show h = j by omega] at hch; exact hno hch
      unfold f_X4_smallest_L5
      rw [if_neg (ge16 hj), atv_n (L := 16) hj (by omega)]
      dsimp only
      have z2 := (hL.2 j hj).2 v hv
      have b16 := bsz16 N j
      by_cases c1 : Bd (Ed N 100) (fun s => s = nRt N) j v
      · rw [if_neg (by rw [has0 _ (by omega), z2.mpr c1]; decide), size_c hL hj]
        by_cases c2 : A < bsz N j
        · rw [if_neg (nI_ge c2 (by omega))]
          have hcj : c j := (hce j).mpr ⟨c1, c2⟩
          unfold f_X4_smallest_J43
          rw [if_neg i1n0]
          rcases h1 with ⟨h, a1, a2, a3, a4, a5⟩ | ⟨a1, a2⟩
          · have bh16 := bsz16 N h
            rw [a3, if_neg (nI_ne_m1 (by omega)), size_c hL (show h < 16 by omega), size_c hL hj]
            by_cases hle : bsz N h ≤ bsz N j
            · rw [if_pos (nI_le hle (by omega))]
              refine ⟨_, rfl, nI_1 j, Or.inl ⟨h, by omega, a2, rfl, fun g hg hcg => ?_, a5⟩⟩
              rcases Nat.lt_or_ge g j with o | o
              · exact a4 g o hcg
              · rw [show g = j by omega]; exact hle
            · rw [if_neg (nI_ge (by omega) (by omega))]
              refine ⟨_, rfl, nI_1 j, Or.inl ⟨j, by omega, hcj, rfl, fun g hg hcg => ?_, fun g hg hcg => ?_⟩⟩
              · rcases Nat.lt_or_ge g j with o | o
                · have := a4 g o hcg; omega
                · rw [show g = j by omega]; exact Nat.le_refl _
              · have := a4 g hg hcg; omega
          · rw [if_pos a2]
            refine ⟨_, rfl, nI_1 j, Or.inl ⟨j, by omega, hcj, rfl, fun g hg hcg => ?_, fun g hg hcg => absurd hcg (a1 g hg)⟩⟩
            rcases Nat.lt_or_ge g j with o | o
            · exact absurd hcg (a1 g o)
            · rw [show g = j by omega]; exact Nat.le_refl _
        · rw [if_pos (nI_le (by omega) (by omega))]
          exact no fun z => c2 ((hce j).mp z).2
      · rw [if_pos (by rw [has0 _ (by omega), ← Bool.not_eq_true, z2]; exact c1)]
        exact no fun z => c1 ((hce j).mp z).1
    · rintro ⟨f, i⟩ ⟨h0, h1⟩
      simp only at h0 h1
      subst h0
      unfold f_X4_smallest_L5
      rw [if_pos le16]
      have lt : ∀ g, c g → g < 16 := fun g hg => by have := (((hce g).mp hg).1.lt hN).1; omega
      refine ⟨f, rfl, ?_⟩
      rcases h1 with ⟨h, a1, a2, a3, a4, a5⟩ | ⟨a1, a2⟩
      · exact Or.inl ⟨h, a1, a2, a3, fun g hg => a4 g (lt g hg) hg, a5⟩
      · exact Or.inr ⟨fun h hh => a1 h (lt h hh) hh, a2⟩
  obtain ⟨z, ez, hz⟩ := key
  exact ⟨z, by unfold f_X4_smallest; rw [ez]; rfl, hz⟩
/-- the reference's search for the least body above a size: two texts of it -/
theorem inner_m {step : Int32 × Int32 × Int32 → Option ((Int32 × Int32 × Int32) ⊕ Int32)} (hN : aOk N) {v : Nat} (A : Nat)
    (hend : ∀ b l, step (b, l, nI (nN N)) = some (.inr b))
    (hst : ∀ b (l j : Nat), j < nN N → l ≤ 17 → step (b, nI l, nI j) = some (.inl (if cb (Bd (Ed N 100) (fun s => s = nRt N) j v ∧ A < bsz N j ∧ bsz N j < l) = true then (nI j, nI (bsz N j), nI (j + 1)) else (b, nI l, nI (j + 1))))) :
    ∃ z, lp step 2000 (-1, 17, 0) = some z ∧ SmI (fun h => Bd (Ed N 100) (fun s => s = nRt N) h v ∧ A < bsz N h) (bsz N) z := by
  have hn := hN.n16
  obtain ⟨c, hc⟩ : ∃ c : Nat → Prop, (fun h => Bd (Ed N 100) (fun s => s = nRt N) h v ∧ A < bsz N h) = c := ⟨_, rfl⟩
  have hce : ∀ h, c h ↔ Bd (Ed N 100) (fun s => s = nRt N) h v ∧ A < bsz N h := fun h => by rw [← hc]
  rw [hc]
  refine lp_for (step := step) (nN N) (fun j s => ∃ l, s.2.2 = nI j ∧ s.2.1 = nI l ∧ ((∃ h, h < j ∧ c h ∧ s.1 = nI h ∧ l = bsz N h ∧ (∀ g, g < j → c g → bsz N h ≤ bsz N g) ∧ ∀ g, g < h → c g → bsz N h < bsz N g) ∨ ((∀ h, h < j → ¬ c h) ∧ s.1 = -1 ∧ l = 17))) _ ?_ ?_ ⟨17, rfl, rfl, Or.inr ⟨fun h hh => by omega, rfl, rfl⟩⟩ (by omega)
  · rintro j ⟨b, l0, i⟩ hj ⟨l, h0, hl, h1⟩
    simp only at h0 hl h1
    subst h0 hl
    have l17 : l ≤ 17 := by
      rcases h1 with ⟨h, -, -, -, e, -⟩ | ⟨-, -, e⟩
      · have := bsz16 N h; omega
      · omega
    rw [hst b l j hj l17]
    by_cases cc : Bd (Ed N 100) (fun s => s = nRt N) j v ∧ A < bsz N j ∧ bsz N j < l
    · rw [if_pos (cb_t.mpr cc)]
      have hcj : c j := (hce j).mpr ⟨cc.1, cc.2.1⟩
      refine ⟨_, rfl, bsz N j, rfl, rfl, Or.inl ⟨j, by omega, hcj, rfl, rfl, fun g hg hcg => ?_, fun g hg hcg => ?_⟩⟩
      · rcases Nat.lt_or_ge g j with o | o
        · rcases h1 with ⟨h, a1, a2, a3, a4, a5, a6⟩ | ⟨a1, a2, a3⟩
          · have := a5 g o hcg
            omega
          · exact absurd hcg (a1 g o)
        · rw [show g = j by omega]; exact Nat.le_refl _
      · rcases h1 with ⟨h, a1, a2, a3, a4, a5, a6⟩ | ⟨a1, a2, a3⟩
        · have := a5 g hg hcg
          omega
        · exact absurd hcg (a1 g hg)
    · rw [if_neg (fun z => cc (cb_t.mp z))]
      refine ⟨_, rfl, l, rfl, rfl, ?_⟩
      rcases h1 with ⟨h, a1, a2, a3, a4, a5, a6⟩ | ⟨a1, a2, a3⟩
      · refine Or.inl ⟨h, by omega, a2, a3, a4, fun g hg hcg => ?_, a6⟩
        rcases Nat.lt_or_ge g j with o | o
        · exact a5 g o hcg
        · rw [show g = j by omega] at hcg ⊢
          have := (hce j).mp hcg
          apply Classical.byContradiction
          intro z
          exact cc ⟨this.1, this.2, by omega⟩
      · refine Or.inr ⟨fun h hh hch => ?_, a2, a3⟩
        rcases Nat.lt_or_ge h j with o | o
        · exact a1 h o hch
        · rw [show h = j by omega] at hch
          have := (hce j).mp hch
          have b16 := bsz16 N j
          exact cc ⟨this.1, this.2, by omega⟩
  · rintro ⟨b, l0, i⟩ ⟨l, h0, hl, h1⟩
    simp only at h0 hl h1
    subst h0 hl
    have lt : ∀ g, c g → g < nN N := fun g hg => (((hce g).mp hg).1.lt hN).1
    refine ⟨b, hend _ _, ?_⟩
    rcases h1 with ⟨h, a1, a2, a3, a4, a5, a6⟩ | ⟨a1, a2, a3⟩
    · exact Or.inl ⟨h, by omega, a2, a3, fun g hg => a5 g (lt g hg) hg, a6⟩
    · exact Or.inr ⟨fun h hh => a1 h (lt h hh) hh, a2⟩
theorem inner0_m (hN : aOk N) (q : QM N hm y) {v : Nat} (hv : v < 16) : ∃ z, f_X10_innerOf_0 y (nI v) = some z ∧ SmI (fun h => Bd (Ed N 100) (fun s => s = nRt N) h v ∧ 0 < bsz N h) (bsz N) z := by
  have hn := hN.n16
  obtain ⟨z, ez, hz⟩ := inner_m (step := f_X10_innerOf_0_L47 y (nI v) 0) hN (v := v) 0 (fun b l => by
    unfold f_X10_innerOf_0_L47
    rw [q.nodes]
    simp only [Option.bind_some]
    rw [if_pos (Int32.le_refl _)]) (fun b l j hj hl => by
    unfold f_X10_innerOf_0_L47
    rw [q.nodes]
    simp only [Option.bind_some, lt]
    rw [if_neg (nI_ge hj (by omega))]
    obtain ⟨w, ew, w1, w2⟩ := body_m hN q (i := j) (by omega)
    have b16 := bsz16 N j
    rw [ew]
    simp only [Option.bind_some, bits_ct, ct_bd w2, nI_1]
    by_cases c1 : Bd (Ed N 100) (fun s => s = nRt N) j v
    · rw [if_neg (by rw [holds0 _ (by omega), (w2 v hv).mpr c1]; decide)]
      by_cases c2 : 0 < bsz N j
      · rw [if_neg (nI_nle c2 (by omega))]
        by_cases c3 : bsz N j < l
        · rw [if_pos (nI_lt c3 (by omega)), if_pos (cb_t.mpr ⟨c1, c2, c3⟩)]
        · rw [if_neg (nI_nlt (by omega) (by omega)), if_neg (fun z => c3 (cb_t.mp z).2.2)]
      · rw [if_pos (show nI (bsz N j) ≤ (0 : Int32) from (nI_le (by omega) (by omega) : nI (bsz N j) ≤ nI 0)), if_neg (fun z => c2 (cb_t.mp z).2.1)]
    · rw [if_pos (by rw [holds0 _ (by omega), ← Bool.not_eq_true, w2 v hv]; exact c1), if_neg (fun z => c1 (cb_t.mp z).1)])
  exact ⟨z, by unfold f_X10_innerOf_0 f_X10_innerOf_0_J42; rw [ez]; rfl, hz⟩
theorem inner1_m (hN : aOk N) (q : QM N hm y) {v : Nat} (hv : v < 16) (A : Nat) (hA : A ≤ 16) : ∃ z, f_X10_innerOf_1_J42 y (nI v) (-1) 17 (nI A) = some z ∧ SmI (fun h => Bd (Ed N 100) (fun s => s = nRt N) h v ∧ A < bsz N h) (bsz N) z := by
  have hn := hN.n16
  obtain ⟨z, ez, hz⟩ := inner_m (step := f_X10_innerOf_1_L47 y (nI v) (nI A)) hN (v := v) A (fun b l => by
    unfold f_X10_innerOf_1_L47
    rw [q.nodes]
    simp only [Option.bind_some]
    rw [if_pos (Int32.le_refl _)]) (fun b l j hj hl => by
    unfold f_X10_innerOf_1_L47
    rw [q.nodes]
    simp only [Option.bind_some, lt]
    rw [if_neg (nI_ge hj (by omega))]
    obtain ⟨w, ew, w1, w2⟩ := body_m hN q (i := j) (by omega)
    have b16 := bsz16 N j
    rw [ew]
    simp only [Option.bind_some, bits_ct, ct_bd w2, nI_1]
    by_cases c1 : Bd (Ed N 100) (fun s => s = nRt N) j v
    · rw [if_neg (by rw [holds0 _ (by omega), (w2 v hv).mpr c1]; decide)]
      by_cases c2 : A < bsz N j
      · rw [if_neg (nI_ge c2 (by omega))]
        by_cases c3 : bsz N j < l
        · rw [if_pos (nI_lt c3 (by omega)), if_pos (cb_t.mpr ⟨c1, c2, c3⟩)]
        · rw [if_neg (nI_nlt (by omega) (by omega)), if_neg (fun z => c3 (cb_t.mp z).2.2)]
      · rw [if_pos (nI_le (by omega) (by omega)), if_neg (fun z => c2 (cb_t.mp z).2.1)]
    · rw [if_pos (by rw [holds0 _ (by omega), ← Bool.not_eq_true, w2 v hv]; exact c1), if_neg (fun z => c1 (cb_t.mp z).1)])
  exact ⟨z, by unfold f_X10_innerOf_1_J42; rw [ez]; rfl, hz⟩
theorem io_1 (hN : aOk N) (q : QM N hm y) {xc : gXH} (hL : LF xc (Ed N 100) (fun s => s = nRt N)) {v : Nat} (hv : v < 16) : ∃ z, f_X4_smallest xc (nI v) 0 = some z ∧ f_X10_innerOf_0 y (nI v) = some z ∧ SmI (fun h => Bd (Ed N 100) (fun s => s = nRt N) h v ∧ 0 < bsz N h) (bsz N) z := by
  obtain ⟨z, ez, hz⟩ := small_c hN hL hv 0 (by omega)
  obtain ⟨z', ez', hz'⟩ := inner0_m hN q hv
  have e := hz'.uniq hz
  subst e
  exact ⟨z', by rw [← nI_0]; exact ez, ez', hz⟩
theorem io_2 (hN : aOk N) (q : QM N hm y) {v : Nat} (hv : v < 16) : f_X10_innerOf_1_J42 y (nI v) (-1) 17 (nI 16) = some (-1) := by
  obtain ⟨w, ew, hw⟩ := inner1_m hN q hv 16 (Nat.le_refl _)
  rcases hw with ⟨h, -, h1, -⟩ | h
  · have b16 := bsz16 N h
    exact absurd h1.2 (Nat.not_lt.mpr b16)
  · rw [ew, h.2]
theorem io_3 (hN : aOk N) (q : QM N hm y) {v : Nat} (hv : v < 16) (h0 : f_X10_innerOf_0 y (nI v) = some (-1)) : f_X10_innerOf_1 y (nI v) = some (-1) := by
  have h2 := io_2 hN q hv
  unfold f_X10_innerOf_1
  rw [h0, Option.bind_some, if_pos rfl]
  rw [show (16 : Int32) = nI 16 from rfl]
  exact h2
theorem io_4 (hN : aOk N) (q : QM N hm y) {xc : gXH} (hL : LF xc (Ed N 100) (fun s => s = nRt N)) {v h : Nat} (hv : v < 16) (h16 : h < 16) (h0 : f_X10_innerOf_0 y (nI v) = some (nI h)) : ∃ w, f_X10_innerOf_1 y (nI v) = some w ∧ f_X4_smallest xc (nI v) (f_X4_size xc (nI h)) = some w := by
  have b16 := bsz16 N h
  obtain ⟨w, ew, hw⟩ := inner1_m hN q hv (bsz N h) b16
  obtain ⟨w', ew', hw'⟩ := small_c hN hL hv (bsz N h) (by omega)
  have e := hw'.uniq hw
  subst e
  refine ⟨w', ?_, by rw [size_c hL h16]; exact ew'⟩
  obtain ⟨b, eb, b1, b2⟩ := body_m hN q h16
  unfold f_X10_innerOf_1
  rw [h0, Option.bind_some, if_neg (nI_ne_m1 (by omega)), Option.bind_some, eb, Option.bind_some, bits_ct, ct_bd b2, Option.bind_some]
  exact ew
/-- both innermost and next -/
theorem io_q (hN : aOk N) (q : QM N hm y) {xc : gXH} (hL : LF xc (Ed N 100) (fun s => s = nRt N)) {v : Nat} (hv : v < 16) :
    ∃ z, f_X4_smallest xc (nI v) 0 = some z ∧ f_X10_innerOf_0 y (nI v) = some z ∧ ∃ w, f_X10_innerOf_1 y (nI v) = some w ∧ (z = -1 → w = -1) ∧ (z ≠ -1 → f_X4_smallest xc (nI v) (f_X4_size xc z) = some w) := by
  obtain ⟨z, e1, e2, hz⟩ := io_1 hN q hL hv
  refine ⟨z, e1, e2, ?_⟩
  rcases hz with ⟨h, h16, h1, rfl, -⟩ | ⟨-, rfl⟩
  · obtain ⟨w, w1, w2⟩ := io_4 hN q hL hv h16 e2
    exact ⟨w, w1, fun z => absurd z (nI_ne_m1 (by omega)), fun _ => w2⟩
  · exact ⟨-1, io_3 hN q hv e2, fun _ => rfl, fun z => absurd rfl z⟩
end
