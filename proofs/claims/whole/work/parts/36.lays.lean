/-! THE REFERENCE'S GATES -/
def FrM (W : Nat → Nat → Prop) (x y : gIH) : Prop := ∀ c j, ¬ W c j → y c j = x c j
theorem FrM.rf {W : Nat → Nat → Prop} {x : gIH} : FrM W x x := fun _ _ _ => rfl
theorem FrM.tr {W : Nat → Nat → Prop} {x y z : gIH} (h1 : FrM W x y) (h2 : FrM W y z) : FrM W x z := fun c j h => (h2 c j h).trans (h1 c j h)
theorem FrM.mono {W W' : Nat → Nat → Prop} {x y : gIH} (h : FrM W x y) (hw : ∀ c j, W c j → W' c j) : FrM W' x y := fun c j hc => h c j (fun q => hc (hw c j q))
theorem FrM.s {W : Nat → Nat → Prop} {x : gIH} {c j : Nat} {v : Int32} (h : W c j) : FrM W x (up2 x c j v) := fun c' j' hc => by
  unfold up2
  rw [if_neg]
  rintro ⟨rfl, rfl⟩
  exact hc h
theorem up2_at {α : Type} {h : Nat → Nat → α} {c j : Nat} {v : α} : up2 h c j v c j = v := by simp [up2]
theorem up2_at2 {α : Type} {h : Nat → Nat → α} {c j c' j' : Nat} {v : α} (hne : c' ≠ c ∨ j' ≠ j) : up2 h c j v c' j' = h c' j' := by
  unfold up2
  rw [if_neg]
  rintro ⟨rfl, rfl⟩
  exact hne.elim (fun q => q rfl) (fun q => q rfl)
theorem MNet.fr {W : Nat → Nat → Prop} {x y : gIH} {w o : Nat} {N : aN} (h : MNet x w o N) (hf : FrM W x y) (hw : ∀ j, ¬ W w j) : MNet y w o N := by
  obtain ⟨h1, h2, h3, h4, h5, h6⟩ := h
  have e : ∀ j, y w j = x w j := fun j => hf w j (hw j)
  exact ⟨by rw [e]; exact h1, by rw [e]; exact h2, by rw [e]; exact h3, by rw [e]; exact h4, fun i hi => by rw [e, e, e]; exact h5 i hi, fun v hv => by rw [e]; exact h6 v hv⟩
theorem XT.fr {xt : Option (Nat × Nat)} {x y : gIH} (h : XT xt x) (h8 : y 81 8 = x 81 8) (h9 : y 81 9 = x 81 9) : XT xt y := by
  unfold XT at *
  rw [h8, h9]
  exact h
theorem skI_none : skI 100 = -1 := rfl
theorem bt_one16 {k : Nat} (hk : k < 16) (i : Nat) : bt ((1 : Int32) <<< (nI k &&& 31)) i = true ↔ i = k := by
  by_cases hi : i < 32
  · rw [bt_one (by omega) hi, decide_eq_true_eq]
  · rw [b_big (by omega)]
    simp
    omega
theorem m_reachedBut {hm : gIH} {N : aN} (hN : aOk N) (h : MNet hm 82 0 N) (k1 k2 : Nat) (h2 : hm 81 10 = skI k2) (xt : Option (Nat × Nat)) (hx : XT xt hm) (b : Int32) :
    ∃ y, f_X10_reachedBut hm b (skI k1) = some y ∧ S16 y ∧ ∀ v, v < 16 → (bt y v = true ↔ Rc (EdX N k1 k2 xt) (fun s => s = nRt N) (fun s => bt b s = true) v) := by
  obtain ⟨y, e, h3, h4⟩ := m_reach hN h k1 k2 h2 xt hx ((1 : Int32) <<< (nI (nRt N) &&& 31)) b (s16_one hN.r16)
  refine ⟨y, ?_, h3, fun v hv => ?_⟩
  · unfold f_X10_reachedBut
    rw [m_root h]
    simp only [Option.bind_some]
    rw [e]
    rfl
  · rw [h4 v hv]
    exact Rc.congr (fun _ _ => Iff.rfl) (fun s => bt_one16 hN.r16 s) (fun _ => Iff.rfl)
theorem Rc.ltn {E : Nat → Nat → Prop} {S X : Nat → Prop} {n v : Nat} (hE : ∀ u v, E u v → v < n) (hS : ∀ s, S s → s < n) (h : Rc E S X v) : v < n := h.ind (fun s a _ => hS s a) (fun _ _ _ _ b _ => hE _ _ b)
theorem aOk.en {N : aN} (h : aOk N) {k1 k2 : Nat} {xt : Option (Nat × Nat)} (hx : ∀ p, xt = some p → p.1 < nN N ∧ p.2 < nN N) : ∀ u v, EdX N k1 k2 xt u v → v < nN N := by
  rintro u v (⟨a, a1, -, -, -, -, a3⟩ | q)
  · rw [← a3]
    exact (h.2.2.2.2.2.1 a a1).2
  · exact (hx _ q).2
/-- the reference's rows -/
def MF (y : gIH) (E : Nat → Nat → Prop) (S : Nat → Prop) : Prop :=
  (S16 (y 81 11) ∧ ∀ v, v < 16 → (bt (y 81 11) v = true ↔ Rc E S nox v)) ∧
  (∀ v, v < 16 → S16 (y 86 v) ∧ ∀ x, x < 16 → (bt (y 86 v) x = true ↔ Dm E S x v)) ∧
  (∀ v, v < 16 → (Rc E S nox v → y 87 v = nI (dp E S v)) ∧ (¬ Rc E S nox v → y 87 v = -1)) ∧
  (∀ v, v < 16 → KpI E S v (y 88 v))
def WL : Nat → Nat → Prop := fun c j => (c = 81 ∧ j = 11) ∨ c = 86 ∨ c = 87 ∨ c = 88
set_option maxHeartbeats 4000000 in
theorem lays_ok {hm : gIH} {N : aN} (hN : aOk N) (h : MNet hm 82 0 N) (k2 : Nat) (h2 : hm 81 10 = skI k2) (xt : Option (Nat × Nat)) (hx : XT xt hm) (hxn : ∀ p, xt = some p → p.1 < nN N ∧ p.2 < nN N) :
    ∃ y, f_X10_laysGates hm = some y ∧ FrM WL hm y ∧ MF y (EdX N k2 100 xt) (fun s => s = nRt N) := by
  have hn16 := hN.n16
  obtain ⟨E, hEe⟩ : ∃ E, EdX N 100 k2 xt = E := ⟨_, rfl⟩
  obtain ⟨S, hS⟩ : ∃ S : Nat → Prop, (fun s => s = nRt N) = S := ⟨_, rfl⟩
  have hSr : ∀ s, S s → s < nN N := fun s q => by rw [← hS] at q; rw [show s = nRt N from q]; exact hN.2.2.1
  have hEn : ∀ u v, E u v → v < nN N := by rw [← hEe]; exact hN.en hxn
  have hE16 : E16 E := by rw [← hEe]; exact hN.e16 (fun p q => by have := hxn p q; omega)
  have hS16 : ∀ s, S s → s < 16 := fun s q => Nat.lt_of_lt_of_le (hSr s q) hn16
  have hRn : ∀ {v X}, Rc E S X v → v < nN N := fun q => q.ltn hEn hSr
  rw [EdX_comm N k2 100 xt, hEe, hS]
  obtain ⟨r, e1, r1, r2⟩ := m_reachedBut hN h 100 k2 h2 xt hx 0
  rw [hEe, hS] at r2
  have r3 : ∀ v, v < 16 → (bt r v = true ↔ Rc E S nox v) := fun v hv => by
    rw [r2 v hv]
    exact Rc.congr (fun _ _ => Iff.rfl) (fun _ => Iff.rfl) (fun x => by rw [b_0]; simp [nox])
  obtain ⟨x1, ex1⟩ : ∃ x1, up2 hm 81 11 r = x1 := ⟨_, rfl⟩
  have f1 : FrM WL hm x1 := by rw [← ex1]; exact FrM.s (Or.inl ⟨rfl, rfl⟩)
  have st1 : ∃ y, lp f_X10_laysGates_L12 2000 (0, x1) = some y ∧ (FrM (fun c _ => c = 86) x1 y ∧ ∀ v, v < 16 → y 86 v = 0) := by
    refine lp_for (step := f_X10_laysGates_L12) 16 (fun j t => t.1 = nI j ∧ FrM (fun c _ => c = 86) x1 t.2 ∧ ∀ v, v < j → t.2 86 v = 0) _ ?_ ?_ ⟨rfl, FrM.rf, fun v hv => by omega⟩ (by omega)
    · rintro j ⟨i, y⟩ hj ⟨g0, g1, g2⟩
      simp only at g0 g1 g2
      subst g0
      unfold f_X10_laysGates_L12
      rw [if_neg (by show ¬ nI 16 ≤ nI j; rw [nI_leI (by omega) (by omega)]; omega), gck_ni hj (by omega), nI_clamp (by omega)]
      refine ⟨_, rfl, nI_1 j, g1.tr (FrM.s rfl), fun v hv => ?_⟩
      by_cases q : v = j
      · subst q; exact up2_at
      · exact (up2_at2 (Or.inr q)).trans (g2 v (by omega))
    · rintro ⟨i, y⟩ ⟨g0, g1, g2⟩
      simp only at g0 g1 g2
      subst g0
      unfold f_X10_laysGates_L12
      rw [if_pos (by show nI 16 ≤ nI 16; exact Int32.le_refl _)]
      exact ⟨y, rfl, g1, g2⟩
  obtain ⟨x2, e2, f2, z2⟩ := st1
  have x11 : x2 81 11 = r := by rw [f2 81 11 (by omega), ← ex1]; exact up2_at
  have f2' : FrM WL hm x2 := f1.tr (f2.mono fun c _ q => Or.inr (Or.inl q))
  have st2 : ∃ y, lp f_X10_laysGates_L33 2000 (0, x2) = some y ∧ (FrM WL hm y ∧ y 81 11 = r ∧ ∀ v, v < 16 → S16 (y 86 v) ∧ ∀ x, x < 16 → (bt (y 86 v) x = true ↔ Dm E S x v)) := by
    refine lp_for (step := f_X10_laysGates_L33) (nN N) (fun j t => t.1 = nI j ∧ FrM WL hm t.2 ∧ t.2 81 11 = r ∧ ∀ v, v < 16 → S16 (t.2 86 v) ∧ ∀ x, x < 16 → (bt (t.2 86 v) x = true ↔ x < j ∧ Dm E S x v)) _ ?_ ?_ ⟨rfl, f2', x11, fun v hv => ?_⟩ (by omega)
    · rintro j ⟨i, y⟩ hj ⟨g0, g1, g2, g3⟩
      simp only at g0 g1 g2 g3
      subst g0
      have hy : MNet y 82 0 N := h.fr g1 (fun j => by unfold WL; omega)
      have hy10 : y 81 10 = skI k2 := (g1 81 10 (by unfold WL; omega)).trans h2
      have hyx : XT xt y := hx.fr (g1 81 8 (by unfold WL; omega)) (g1 81 9 (by unfold WL; omega))
      obtain ⟨q, eq, q1, q2⟩ := m_reachedBut hN hy 100 k2 hy10 xt hyx ((1 : Int32) <<< (nI j &&& 31))
      rw [hEe, hS] at q2
      rw [skI_none] at eq
      unfold f_X10_laysGates_L33
      rw [m_nodes hy]
      simp only [Option.bind_some]
      rw [if_neg (by rw [nI_leI (by omega) (by omega)]; omega), eq]
      simp only [Option.bind_some, lt]
      rw [g2]
      obtain ⟨l, el⟩ : ∃ l, r &&& (q ^^^ (-1)) = l := ⟨_, rfl⟩
      rw [el]
      have hl : ∀ x, x < 16 → (bt l x = true ↔ Rc E S nox x ∧ ¬ Rc E S (fun s => s = j) x) := by
        intro x hx16
        rw [← el, b_and, bt_not _ (by omega), ← r3 x hx16]
        have e4 := q2 x hx16
        have e5 : Rc E S (fun s => bt ((1 : Int32) <<< (nI j &&& 31)) s = true) x ↔ Rc E S (fun s => s = j) x := Rc.congr (fun _ _ => Iff.rfl) (fun _ => Iff.rfl) (fun s => bt_one16 (by omega) s)
        rw [← e5, ← e4]
        cases bt r x <;> cases bt q x <;> simp
      have hd : ∀ x, x < 16 → x ≠ j → (bt l x = true ↔ Dm E S j x) := fun x hx16 hxj => by
        rw [hl x hx16]
        exact ⟨fun z => ⟨z.1, fun w => hxj w.symm, z.2⟩, fun z => ⟨z.1, z.2.2⟩⟩
      have inner : ∃ u, lp (f_X10_laysGates_L59 (nI j) l) 2000 (0, y) = some u ∧ (FrM WL hm u ∧ u 81 11 = r ∧ ∀ v, v < 16 → S16 (u 86 v) ∧ ∀ x, x < 16 → (bt (u 86 v) x = true ↔ x < j + 1 ∧ Dm E S x v)) := by
        refine lp_for (step := f_X10_laysGates_L59 (nI j) l) (nN N) (fun n t => t.1 = nI n ∧ FrM WL hm t.2 ∧ t.2 81 11 = r ∧ ∀ v, v < 16 → S16 (t.2 86 v) ∧ ∀ x, x < 16 → (bt (t.2 86 v) x = true ↔ (x < j ∧ Dm E S x v) ∨ (v < n ∧ x = j ∧ Dm E S j v))) _ ?_ ?_ ⟨rfl, g1, g2, fun v hv => ⟨(g3 v hv).1, fun x hx16 => by rw [(g3 v hv).2 x hx16]; simp⟩⟩ (by omega)
        · rintro n ⟨i, w⟩ hn ⟨k0, k1, k2, k3⟩
          simp only at k0 k1 k2 k3
          subst k0
          have hw : MNet w 82 0 N := h.fr k1 (fun j => by unfold WL; omega)
          unfold f_X10_laysGates_L59
          rw [m_nodes hw]
          simp only [Option.bind_some]
          rw [if_neg (by rw [nI_leI (by omega) (by omega)]; omega)]
          have stay : ¬ Dm E S j n → (nI n + 1 = nI (n + 1) ∧ FrM WL hm w ∧ w 81 11 = r ∧ ∀ v, v < 16 → S16 (w 86 v) ∧ ∀ x, x < 16 → (bt (w 86 v) x = true ↔ (x < j ∧ Dm E S x v) ∨ (v < n + 1 ∧ x = j ∧ Dm E S j v))) := by
            intro hno
            refine ⟨nI_1 n, k1, k2, fun v hv => ⟨(k3 v hv).1, fun x hx16 => ?_⟩⟩
            rw [(k3 v hv).2 x hx16]
            constructor
            · rintro (z | z)
              · exact Or.inl z
              · exact Or.inr ⟨by omega, z.2⟩
            · rintro (z | ⟨z1, z2, z3⟩)
              · exact Or.inl z
              · refine Or.inr ⟨?_, z2, z3⟩
                rcases Nat.lt_or_ge v n with o | o
                · exact o
                · rw [show v = n by omega] at z3
                  exact absurd z3 hno
          by_cases hnj : n = j
          · rw [if_pos (by rw [hnj])]
            exact ⟨_, rfl, stay fun z => z.2.1 hnj.symm⟩
          rw [if_neg (by rw [nI_eq (by omega) (by omega)]; exact hnj)]
          by_cases hb : bt l n = true
          · rw [if_neg (by rw [holds0 _ (by omega), hb]; decide), gck_ni (by omega) (by omega), gck_ni (by omega) (by omega), nI_clamp (by omega)]
            simp only [lt]
            have hdm := (hd n (by omega) hnj).mp hb
            refine ⟨_, rfl, nI_1 n, k1.tr (FrM.s (Or.inr (Or.inl rfl))), by
              dsimp only
              rw [up2_at2 (Or.inl (by decide))]
              exact k2, fun v hv => ?_⟩
            obtain ⟨b1, b2⟩ := bt_set (s := w 86 n) (k := j) (by omega) (k3 n (by omega)).1
            by_cases hvn : v = n
            · subst hvn
              have er : (up2 w 86 v (w 86 v ||| 1 <<< (nI j &&& 31))) 86 v = w 86 v ||| 1 <<< (nI j &&& 31) := up2_at
              dsimp only
              rw [er]
              refine ⟨b1, fun x hx16 => ?_⟩
              rw [b2, (k3 v hv).2 x hx16]
              constructor
              · rintro ((z | z) | z)
                · exact Or.inl z
                · exact Or.inr ⟨by omega, z.2⟩
                · exact Or.inr ⟨by omega, z, hdm⟩
              · rintro (z | z)
                · exact Or.inl (Or.inl z)
                · exact Or.inr z.2.1
            · have er : (up2 w 86 n (w 86 n ||| 1 <<< (nI j &&& 31))) 86 v = w 86 v := up2_at2 (Or.inr hvn)
              dsimp only
              rw [er]
              refine ⟨(k3 v hv).1, fun x hx16 => ?_⟩
              rw [(k3 v hv).2 x hx16]
              constructor
              · rintro (z | z)
                · exact Or.inl z
                · exact Or.inr ⟨by omega, z.2⟩
              · rintro (z | z)
                · exact Or.inl z
                · exact Or.inr ⟨by omega, z.2⟩
          · rw [if_pos (by rw [holds0 _ (by omega)]; simpa using hb)]
            exact ⟨_, rfl, stay fun z => hb ((hd n (by omega) hnj).mpr z)⟩
        · rintro ⟨i, w⟩ ⟨k0, k1, k2, k3⟩
          simp only at k0 k1 k2 k3
          subst k0
          have hw : MNet w 82 0 N := h.fr k1 (fun j => by unfold WL; omega)
          unfold f_X10_laysGates_L59
          rw [m_nodes hw]
          simp only [Option.bind_some]
          rw [if_pos (Int32.le_refl _)]
          refine ⟨w, rfl, k1, k2, fun v hv => ⟨(k3 v hv).1, fun x hx16 => ?_⟩⟩
          rw [(k3 v hv).2 x hx16]
          constructor
          · rintro (z | ⟨z1, z2, z3⟩)
            · exact ⟨by omega, z.2⟩
            · exact ⟨by omega, by rw [z2]; exact z3⟩
          · rintro ⟨z1, z2⟩
            rcases Nat.lt_or_ge x j with o | o
            · exact Or.inl ⟨o, z2⟩
            · have : x = j := by omega
              subst this
              exact Or.inr ⟨hRn z2.1, rfl, z2⟩
      obtain ⟨u, eu, u1, u2, u3⟩ := inner
      rw [eu]
      exact ⟨_, rfl, nI_1 j, u1, u2, u3⟩
    · rintro ⟨i, y⟩ ⟨g0, g1, g2, g3⟩
      simp only at g0 g1 g2 g3
      subst g0
      have hy : MNet y 82 0 N := h.fr g1 (fun j => by unfold WL; omega)
      unfold f_X10_laysGates_L33
      rw [m_nodes hy]
      simp only [Option.bind_some]
      rw [if_pos (Int32.le_refl _)]
      refine ⟨y, rfl, g1, g2, fun v hv => ⟨(g3 v hv).1, fun x hx16 => ?_⟩⟩
      rw [(g3 v hv).2 x hx16]
      exact ⟨fun z => z.2, fun z => ⟨hRn z.rg, z⟩⟩
    · show S16 (x2 86 v) ∧ ∀ x, x < 16 → (bt (x2 86 v) x = true ↔ _)
      rw [z2 v hv]
      refine ⟨s16_0, fun x _ => ?_⟩
      rw [b_0]
      simp
  obtain ⟨x3, e3, f3, x311, x3g⟩ := st2
  have st3 : ∃ y, lp f_X10_laysGates_L106 2000 (0, x3) = some y ∧ (FrM WL hm y ∧ y 81 11 = r ∧ (∀ v, y 86 v = x3 86 v) ∧ (∀ v, v < 16 → (Rc E S nox v → y 87 v = nI (dp E S v)) ∧ (¬ Rc E S nox v → y 87 v = -1)) ∧ ∀ v, v < 16 → y 88 v = -1) := by
    refine lp_for (step := f_X10_laysGates_L106) 16 (fun j t => t.1 = nI j ∧ FrM WL hm t.2 ∧ t.2 81 11 = r ∧ (∀ v, t.2 86 v = x3 86 v) ∧ (∀ v, v < j → (Rc E S nox v → t.2 87 v = nI (dp E S v)) ∧ (¬ Rc E S nox v → t.2 87 v = -1)) ∧ ∀ v, v < j → t.2 88 v = -1) _ ?_ ?_ ⟨rfl, f3, x311, fun _ => rfl, fun v hv => by omega, fun v hv => by omega⟩ (by omega)
    · rintro j ⟨i, y⟩ hj ⟨g0, g1, g2, g3, g4, g5⟩
      simp only at g0 g1 g2 g3 g4 g5
      subst g0
      have fin : ∀ d, (Rc E S nox j → d = nI (dp E S j)) → (¬ Rc E S nox j → d = -1) → ∃ s', f_X10_laysGates_J141 y (nI j) (nI j) d = some (.inl s') ∧ (s'.1 = nI (j + 1) ∧ FrM WL hm s'.2 ∧ s'.2 81 11 = r ∧ (∀ v, s'.2 86 v = x3 86 v) ∧ (∀ v, v < j + 1 → (Rc E S nox v → s'.2 87 v = nI (dp E S v)) ∧ (¬ Rc E S nox v → s'.2 87 v = -1)) ∧ ∀ v, v < j + 1 → s'.2 88 v = -1) := by
        intro d d1 d2
        unfold f_X10_laysGates_J141
        rw [gck_ni hj (by omega), nI_clamp (by omega)]
        simp only [lt]
        rw [gck_ni hj (by omega)]
        refine ⟨_, rfl, nI_1 j, (g1.tr (FrM.s (Or.inr (Or.inr (Or.inl rfl))))).tr (FrM.s (Or.inr (Or.inr (Or.inr rfl)))), ?_, fun v => ?_, fun v hv => ?_, fun v hv => ?_⟩
        · show up2 (up2 y 87 j d) 88 j (-1) 81 11 = r
          rw [up2_at2 (Or.inl (by decide)), up2_at2 (Or.inl (by decide))]
          exact g2
        · show up2 (up2 y 87 j d) 88 j (-1) 86 v = _
          rw [up2_at2 (Or.inl (by decide)), up2_at2 (Or.inl (by decide))]
          exact g3 v
        · show (_ → up2 (up2 y 87 j d) 88 j (-1) 87 v = _) ∧ (_ → up2 (up2 y 87 j d) 88 j (-1) 87 v = _)
          rw [up2_at2 (Or.inl (by decide))]
          by_cases hvj : v = j
          · subst hvj
            rw [up2_at]
            exact ⟨d1, d2⟩
          · rw [up2_at2 (Or.inr hvj)]
            exact g4 v (by omega)
        · show up2 (up2 y 87 j d) 88 j (-1) 88 v = _
          by_cases hvj : v = j
          · subst hvj; exact up2_at
          · rw [up2_at2 (Or.inr hvj), up2_at2 (Or.inl (by decide))]
            exact g5 v (by omega)
      unfold f_X10_laysGates_L106
      rw [if_neg (by show ¬ nI 16 ≤ nI j; rw [nI_leI (by omega) (by omega)]; omega)]
      simp only [g2]
      by_cases hb : bt r j = true
      · rw [if_neg (by rw [holds0 _ (by omega), hb]; decide), gck_ni hj (by omega), nI_clamp (by omega), bits_ct]
        simp only [Option.bind_some]
        refine fin _ (fun _ => ?_) (fun z => absurd ((r3 j hj).mp hb) z)
        rw [g3, ct_dm (x3g j hj).2]
      · rw [if_pos (by rw [holds0 _ (by omega)]; simpa using hb)]
        exact fin _ (fun z => absurd ((r3 j hj).mpr z) hb) (fun _ => rfl)
    · rintro ⟨i, y⟩ ⟨g0, g1, g2, g3, g4, g5⟩
      simp only at g0 g1 g2 g3 g4 g5
      subst g0
      unfold f_X10_laysGates_L106
      rw [if_pos (by show nI 16 ≤ nI 16; exact Int32.le_refl _)]
      exact ⟨y, rfl, g1, g2, g3, g4, g5⟩
  obtain ⟨x4, e4, f4, x411, x4g, x4d, x4k⟩ := st3
  -- who is the keeper, by the depths
  have hk : ∀ n g, n < 16 → g < 16 → bt (x3 86 n) g = true → ((x4 87 g = x4 87 n - 1) ↔ IsK E S g n) := by
    intro n g hn hg hb
    have hd := ((x3g n hn).2 g hg).mp hb
    have d1 := (x4d g hg).1 hd.rg
    have d2 := (x4d n hn).1 hd.rv
    have p1 := dp_lt hg hd
    have p2 := dp_16 (E := E) (S := S) n
    rw [d1, d2, show (1 : Int32) = nI 1 from rfl, sub_n (by omega), nI_eq (by omega) (by omega)]
    constructor
    · intro q
      exact IsK.of_dp hE16 hS16 hd (by omega)
    · intro q
      have := q.dpk hE16 hS16
      omega
  have st4 : ∃ y, lp f_X10_laysGates_L157 2000 (0, x4) = some y ∧ (FrM (fun c _ => c = 88) x4 y ∧ ∀ v, v < 16 → KpI E S v (y 88 v)) := by
    refine lp_for (step := f_X10_laysGates_L157) (nN N) (fun j t => t.1 = nI j ∧ FrM (fun c _ => c = 88) x4 t.2 ∧ (∀ v, v < j → KpI E S v (t.2 88 v)) ∧ ∀ v, v < 16 → j ≤ v → t.2 88 v = -1) _ ?_ ?_ ⟨rfl, FrM.rf, fun v hv => by omega, fun v hv _ => x4k v hv⟩ (by omega)
    · rintro j ⟨i, y⟩ hj ⟨g0, g1, g2, g3⟩
      simp only at g0 g1 g2 g3
      subst g0
      have hy : MNet y 82 0 N := (h.fr f4 (fun j => by unfold WL; omega)).fr g1 (fun j => by omega)
      have inner : ∃ u, lp (f_X10_laysGates_L167 (nI j)) 2000 (0, y) = some u ∧ (FrM (fun c _ => c = 88) x4 u ∧ (∀ v, v ≠ j → u 88 v = y 88 v) ∧ KpI E S j (u 88 j)) := by
        refine lp_for (step := f_X10_laysGates_L167 (nI j)) (nN N) (fun n t => t.1 = nI n ∧ FrM (fun c _ => c = 88) x4 t.2 ∧ (∀ v, v ≠ j → t.2 88 v = y 88 v) ∧ (∀ k, k < n → IsK E S k j → t.2 88 j = nI k) ∧ ((∀ k, k < n → ¬ IsK E S k j) → t.2 88 j = -1)) _ ?_ ?_ ⟨rfl, g1, fun _ _ => rfl, fun k hk => by omega, fun _ => g3 j (by omega) (Nat.le_refl _)⟩ (by omega)
        · rintro n ⟨i, w⟩ hn ⟨k0, k1, k2, k3, k4⟩
          simp only at k0 k1 k2 k3 k4
          subst k0
          have hw : MNet w 82 0 N := (h.fr f4 (fun j => by unfold WL; omega)).fr k1 (fun j => by omega)
          have stay : ¬ IsK E S n j → (nI n + 1 = nI (n + 1) ∧ FrM (fun c _ => c = 88) x4 w ∧ (∀ v, v ≠ j → w 88 v = y 88 v) ∧ (∀ k, k < n + 1 → IsK E S k j → w 88 j = nI k) ∧ ((∀ k, k < n + 1 → ¬ IsK E S k j) → w 88 j = -1)) := by
            intro hno
            refine ⟨nI_1 n, k1, k2, fun k hk hk2 => ?_, fun z => k4 fun k hk => z k (by omega)⟩
            rcases Nat.lt_or_ge k n with o | o
            · exact k3 k o hk2
            · rw [show k = n by omega] at hk2
              exact absurd hk2 hno
          unfold f_X10_laysGates_L167
          rw [m_nodes hw]
          simp only [Option.bind_some]
          rw [if_neg (by rw [nI_leI (by omega) (by omega)]; omega), gck_ni (by omega) (by omega), nI_clamp (by omega), k1 86 j (by omega), x4g j]
          by_cases hb : bt (x3 86 j) n = true
          · rw [if_neg (by rw [holds0 _ (by omega), hb]; decide), gck_ni (by omega) (by omega), gck_ni (by omega) (by omega), nI_clamp (by omega), k1 87 n (by omega), k1 87 j (by omega)]
            by_cases hkk : x4 87 n = x4 87 j - 1
            · rw [if_pos hkk, gck_ni (by omega) (by omega)]
              simp only [lt]
              have hik := (hk j n (by omega) (by omega) hb).mp hkk
              refine ⟨_, rfl, nI_1 n, k1.tr (FrM.s rfl), fun v hv => (up2_at2 (Or.inr hv)).trans (k2 v hv), fun k hk hk2 => ?_, fun z => absurd hik (z n (by omega))⟩
              show up2 w 88 j (nI n) 88 j = nI k
              rw [up2_at, hik.uniq hk2]
            · rw [if_neg hkk]
              exact ⟨_, rfl, stay fun z => hkk ((hk j n (by omega) (by omega) hb).mpr z)⟩
          · rw [if_pos (by rw [holds0 _ (by omega)]; simpa using hb)]
            exact ⟨_, rfl, stay fun z => hb (((x3g j (by omega)).2 n (by omega)).mpr z.1)⟩
        · rintro ⟨i, w⟩ ⟨k0, k1, k2, k3, k4⟩
          simp only at k0 k1 k2 k3 k4
          subst k0
          have hw : MNet w 82 0 N := (h.fr f4 (fun j => by unfold WL; omega)).fr k1 (fun j => by omega)
          unfold f_X10_laysGates_L167
          rw [m_nodes hw]
          simp only [Option.bind_some]
          rw [if_pos (Int32.le_refl _)]
          exact ⟨w, rfl, k1, k2, fun k hk => k3 k (hRn hk.1.rg) hk, fun hno => k4 fun k _ hk => hno k hk.1⟩
      obtain ⟨u, eu, u1, u2, u3⟩ := inner
      unfold f_X10_laysGates_L157
      rw [m_nodes hy]
      simp only [Option.bind_some]
      rw [if_neg (by rw [nI_leI (by omega) (by omega)]; omega), eu]
      refine ⟨_, rfl, nI_1 j, u1, fun v hv => ?_, fun v hv hv2 => ?_⟩
      · by_cases q : v = j
        · subst q; exact u3
        · show KpI E S v (u 88 v)
          rw [u2 v q]
          exact g2 v (by omega)
      · show u 88 v = -1
        rw [u2 v (by omega)]
        exact g3 v hv (by omega)
    · rintro ⟨i, y⟩ ⟨g0, g1, g2, g3⟩
      simp only at g0 g1 g2 g3
      subst g0
      have hy : MNet y 82 0 N := (h.fr f4 (fun j => by unfold WL; omega)).fr g1 (fun j => by omega)
      unfold f_X10_laysGates_L157
      rw [m_nodes hy]
      simp only [Option.bind_some]
      rw [if_pos (Int32.le_refl _)]
      refine ⟨y, rfl, g1, fun v hv => ?_⟩
      rcases Nat.lt_or_ge v (nN N) with o | o
      · exact g2 v o
      · refine ⟨fun k hk => ?_, fun _ => g3 v hv o⟩
        have := hRn hk.1.rv
        omega
  obtain ⟨x5, e5, f5, x5k⟩ := st4
  refine ⟨x5, ?_, f4.tr (f5.mono fun c _ q => Or.inr (Or.inr (Or.inr q))), ⟨?_, ?_⟩, ?_, ?_, x5k⟩
  · unfold f_X10_laysGates
    rw [skI_none] at e1
    rw [e1]
    simp only [Option.bind_some, lt]
    rw [ex1, e2]
    simp only [Option.bind_some]
    rw [e3]
    simp only [Option.bind_some]
    rw [e4]
    simp only [Option.bind_some]
    rw [e5]
    rfl
  · rw [f5 81 11 (by omega), x411]
    exact r1
  · rw [f5 81 11 (by omega), x411]
    exact r3
  · intro v hv
    rw [f5 86 v (by omega), x4g]
    exact x3g v hv
  · intro v hv
    rw [f5 87 v (by omega)]
    exact x4d v hv
