/-! WHAT HAS CHANGED -/
noncomputable def lfS (E1 : Nat → Nat → Prop) (S1 : Nat → Prop) (E2 : Nat → Nat → Prop) (S2 : Nat → Prop) : Nat → Int32
  | 0 => 0
  | n + 1 => if cb (Rc E1 S1 nox n ∧ Rc E2 S2 nox n) = true then lfS E1 S1 E2 S2 n + (nI (dp E1 S1 n) - nI (dp E2 S2 n)) else lfS E1 S1 E2 S2 n
def MvI (E1 : Nat → Nat → Prop) (S1 : Nat → Prop) (E2 : Nat → Nat → Prop) (S2 : Nat → Prop) (v : Nat) : Prop := Rc E1 S1 nox v ∧ Rc E2 S2 nox v ∧ ∃ a b, KpI E1 S1 v a ∧ KpI E2 S2 v b ∧ a ≠ b
def ChI (E1 : Nat → Nat → Prop) (S1 : Nat → Prop) (E2 : Nat → Nat → Prop) (S2 : Nat → Prop) (g l m f : Int32) : Prop :=
  (S16 g ∧ ∀ v, v < 16 → (bt g v = true ↔ Rc E2 S2 nox v ∧ ¬ Rc E1 S1 nox v)) ∧ (S16 l ∧ ∀ v, v < 16 → (bt l v = true ↔ Rc E1 S1 nox v ∧ ¬ Rc E2 S2 nox v)) ∧ (S16 m ∧ ∀ v, v < 16 → (bt m v = true ↔ MvI E1 S1 E2 S2 v)) ∧ f = lfS E1 S1 E2 S2 16
theorem S16.same {x y : Int32} {P : Nat → Prop} (hx : S16 x) (hy : S16 y) (h1 : ∀ v, v < 16 → (bt x v = true ↔ P v)) (h2 : ∀ v, v < 16 → (bt y v = true ↔ P v)) : x = y := hx.ext hy fun v hv => Bool.eq_iff_iff.mpr ((h1 v hv).trans (h2 v hv).symm)
theorem ChI.uniq {E1 : Nat → Nat → Prop} {S1 : Nat → Prop} {E2 : Nat → Nat → Prop} {S2 : Nat → Prop} {g l m f g' l' m' f' : Int32} (h : ChI E1 S1 E2 S2 g l m f) (h' : ChI E1 S1 E2 S2 g' l' m' f') : g = g' ∧ l = l' ∧ m = m' ∧ f = f' :=
  ⟨h.1.1.same h'.1.1 h.1.2 h'.1.2, h.2.1.1.same h'.2.1.1 h.2.1.2 h'.2.1.2, h.2.2.1.1.same h'.2.2.1.1 h.2.2.1.2 h'.2.2.1.2, h.2.2.2.trans h'.2.2.2.symm⟩
section
variable {E1 : Nat → Nat → Prop} {S1 : Nat → Prop} {E2 : Nat → Nat → Prop} {S2 : Nat → Prop}
theorem mv_iff (hE1 : E16 E1) (hS1 : ∀ s, S1 s → s < 16) (hE2 : E16 E2) (hS2 : ∀ s, S2 s → s < 16) {v : Nat} {a b : Int32} (ha : KpI E1 S1 v a) (hb : KpI E2 S2 v b) : MvI E1 S1 E2 S2 v ↔ Rc E1 S1 nox v ∧ Rc E2 S2 nox v ∧ a ≠ b := by
  constructor
  · rintro ⟨h1, h2, c, d, hc, hd, hne⟩
    rw [ha.uniq hE1 hS1 hc, hb.uniq hE2 hS2 hd]
    exact ⟨h1, h2, hne⟩
  · rintro ⟨h1, h2, hne⟩
    exact ⟨h1, h2, a, b, ha, hb, hne⟩
theorem both_bt {a b : Int32} {A B : Prop} {v : Nat} (ha : bt a v = true ↔ A) (hb : bt b v = true ↔ B) : bt (a &&& b) v = true ↔ A ∧ B := by
  rw [b_and, Bool.and_eq_true, ha, hb]
theorem but_bt {a b : Int32} {A B : Prop} {v : Nat} (hv : v < 16) (ha : bt a v = true ↔ A) (hb : bt b v = true ↔ B) : bt (a &&& (b ^^^ (-1))) v = true ↔ A ∧ ¬ B := by
  rw [b_and, bt_not _ (by omega), Bool.and_eq_true, ha, ← hb]
  cases bt b v <;> simp
theorem lfS_ext {n : Nat} (h : ∀ v, n ≤ v → ¬ Rc E1 S1 nox v) : ∀ d, lfS E1 S1 E2 S2 (n + d) = lfS E1 S1 E2 S2 n
  | 0 => rfl
  | d + 1 => by
    rw [← Nat.add_assoc]
    show (if cb _ = true then _ else _) = _
    rw [if_neg (fun z => h (n + d) (by omega) (cb_t.mp z).1)]
    exact lfS_ext h d
/-- what is counted, one node -/
theorem lfS_y {n : Nat} (h1 : Rc E1 S1 nox n) (h2 : Rc E2 S2 nox n) : lfS E1 S1 E2 S2 (n + 1) = lfS E1 S1 E2 S2 n + (nI (dp E1 S1 n) - nI (dp E2 S2 n)) := by
  show (if cb _ = true then _ else _) = _
  rw [if_pos (cb_t.mpr ⟨h1, h2⟩)]
theorem lfS_n {n : Nat} (h : ¬ (Rc E1 S1 nox n ∧ Rc E2 S2 nox n)) : lfS E1 S1 E2 S2 (n + 1) = lfS E1 S1 E2 S2 n := by
  show (if cb _ = true then _ else _) = _
  rw [if_neg (fun z => h (cb_t.mp z))]
/-- one more of a set -/
theorem set_step {P : Nat → Prop} {m : Int32} {j : Nat} (hj : j < 16) (h : S16 m) (hb : ∀ v, v < 16 → (bt m v = true ↔ v < j ∧ P v)) (hp : P j) : S16 (m ||| ((1 : Int32) <<< (nI j &&& 31))) ∧ ∀ v, v < 16 → (bt (m ||| ((1 : Int32) <<< (nI j &&& 31))) v = true ↔ v < j + 1 ∧ P v) := by
  obtain ⟨b1, b2⟩ := bt_set (s := m) hj h
  refine ⟨b1, fun v hv => ?_⟩
  rw [b2, hb v hv]
  constructor
  · rintro (⟨a, b⟩ | rfl)
    · exact ⟨by omega, b⟩
    · exact ⟨by omega, hp⟩
  · rintro ⟨a, b⟩
    by_cases c : v = j
    · exact Or.inr c
    · exact Or.inl ⟨by omega, b⟩
theorem set_skip {P : Nat → Prop} {m : Int32} {j : Nat} (hb : ∀ v, v < 16 → (bt m v = true ↔ v < j ∧ P v)) (hp : ¬ P j) : ∀ v, v < 16 → (bt m v = true ↔ v < j + 1 ∧ P v) := fun v hv => by
  rw [hb v hv]
  constructor
  · rintro ⟨a, b⟩
    exact ⟨by omega, b⟩
  · rintro ⟨a, b⟩
    refine ⟨?_, b⟩
    by_cases c : v = j
    · exact absurd (by rw [← c]; exact b) hp
    · omega
theorem compare_c {g0 g1 g2 : Nat} {xc : gXH} (hE1 : E16 E1) (hS1 : ∀ s, S1 s → s < 16) (hE2 : E16 E2) (hS2 : ∀ s, S2 s → s < 16) (h1 : GF xc g1 E1 S1) (h2 : GF xc g2 E2 S2) (n1 : g0 < g1) (n2 : g0 < g2) :
    ∃ y, f_X1_compare g0 g1 g2 xc = some y ∧ Fr (fun c => c = g0) xc y ∧ ChI E1 S1 E2 S2 (y.1 g0 0) (y.1 g0 1) (y.1 g0 2) (y.1 g0 3) := by
  have w1 : ∀ c, g1 ≤ c → c ≤ g1 + 4 → ¬ c = g0 := fun c a b => by omega
  have w2 : ∀ c, g2 ≤ c → c ≤ g2 + 4 → ¬ c = g0 := fun c a b => by omega
  unfold f_X1_compare
  obtain ⟨x0, e0⟩ : ∃ x0, f_X1_clear g0 xc = x0 := ⟨_, rfl⟩
  have f0 : Fr (fun c => c = g0) xc x0 := by
    rw [← e0]
    exact (((Fr.s (W := fun c => c = g0) rfl).tr (Fr.s (W := fun c => c = g0) rfl)).tr (Fr.s (W := fun c => c = g0) rfl)).tr (Fr.s (W := fun c => c = g0) rfl)
  have x02 : x0.1 g0 2 = 0 := by
    rw [← e0]
    unfold f_X1_clear
    simp only [lt]
    rw [sI_at2 (by decide), sI_at]
  have x03 : x0.1 g0 3 = 0 := by
    rw [← e0]
    unfold f_X1_clear
    simp only [lt]
    rw [sI_at]
  rw [e0]
  simp only [lt]
  have r1 : x0.1 g1 4 = xc.1 g1 4 := by rw [f0.1 g1 (by omega)]
  have r2 : x0.1 g2 4 = xc.1 g2 4 := by rw [f0.1 g2 (by omega)]
  obtain ⟨x1, e1⟩ : ∃ x1, sI x0 g0 0 ((x0.1 g2 4) &&& ((x0.1 g1 4) ^^^ (-1 : Int32))) = x1 := ⟨_, rfl⟩
  rw [e1]
  have f1 : Fr (fun c => c = g0) x0 x1 := by rw [← e1]; exact Fr.s rfl
  obtain ⟨x2, e2⟩ : ∃ x2, sI x1 g0 1 ((x1.1 g1 4) &&& ((x1.1 g2 4) ^^^ (-1 : Int32))) = x2 := ⟨_, rfl⟩
  rw [e2]
  have f2 : Fr (fun c => c = g0) x1 x2 := by rw [← e2]; exact Fr.s rfl
  have q1 : x1.1 g1 4 = xc.1 g1 4 := by rw [f1.1 g1 (by omega), r1]
  have q2 : x1.1 g2 4 = xc.1 g2 4 := by rw [f1.1 g2 (by omega), r2]
  have fx := (f0.tr f1).tr f2
  have v0 : x2.1 g0 0 = xc.1 g2 4 &&& (xc.1 g1 4 ^^^ (-1)) := by rw [← e2, sI_at2 (by decide), ← e1, sI_at, r1, r2]
  have v1 : x2.1 g0 1 = xc.1 g1 4 &&& (xc.1 g2 4 ^^^ (-1)) := by rw [← e2, sI_at, q1, q2]
  have v2 : x2.1 g0 2 = 0 := by rw [← e2, sI_at2 (by decide), ← e1, sI_at2 (by decide), x02]
  have v3 : x2.1 g0 3 = 0 := by rw [← e2, sI_at2 (by decide), ← e1, sI_at2 (by decide), x03]
  have key : ∃ y, lp (f_X1_compare_L36 g0 g1 g2) 2000 (0, x2) = some y ∧ (Fr (fun c => c = g0) xc y ∧ y.1 g0 0 = x2.1 g0 0 ∧ y.1 g0 1 = x2.1 g0 1) ∧ (S16 (y.1 g0 2) ∧ ∀ v, v < 16 → (bt (y.1 g0 2) v = true ↔ v < 16 ∧ MvI E1 S1 E2 S2 v)) ∧ y.1 g0 3 = lfS E1 S1 E2 S2 16 := by
    refine lp_for (step := f_X1_compare_L36 g0 g1 g2) 16 (fun j s => s.1 = nI j ∧ (Fr (fun c => c = g0) xc s.2 ∧ s.2.1 g0 0 = x2.1 g0 0 ∧ s.2.1 g0 1 = x2.1 g0 1) ∧ (S16 (s.2.1 g0 2) ∧ ∀ v, v < 16 → (bt (s.2.1 g0 2) v = true ↔ v < j ∧ MvI E1 S1 E2 S2 v)) ∧ s.2.1 g0 3 = lfS E1 S1 E2 S2 j) _ ?_ ?_ ⟨rfl, ⟨fx, rfl, rfl⟩, ⟨by dsimp only; rw [v2]; exact s16_0, fun v hv => ?_⟩, v3⟩ (by omega)
    · rintro j ⟨i, x⟩ hj ⟨h0, ⟨hf, hg, hl⟩, ⟨hm1, hm2⟩, hlf⟩
      dsimp only at h0 hf hg hl hm1 hm2 hlf
      subst h0
      have g1' := h1.fr hf w1
      have g2' := h2.fr hf w2
      have hb := both_bt (g1'.1.2 j hj) (g2'.1.2 j hj)
      unfold f_X1_compare_L36
      dsimp only
      rw [if_neg (ge16 hj)]
      by_cases c : Rc E1 S1 nox j ∧ Rc E2 S2 nox j
      · rw [if_neg (by rw [has0 _ (by omega), hb.mpr c]; decide), g1'.d1 hj c.1, g2'.d1 hj c.2]
        simp only [lt]
        obtain ⟨x3, e3⟩ : ∃ x3, sI x g0 3 (x.1 g0 3 + (nI (dp E1 S1 j) - nI (dp E2 S2 j))) = x3 := ⟨_, rfl⟩
        rw [e3]
        have f3 : Fr (fun c => c = g0) x x3 := by rw [← e3]; exact Fr.s rfl
        have g1'' := g1'.fr f3 w1
        have g2'' := g2'.fr f3 w2
        have k3 : x3.1 g0 3 = lfS E1 S1 E2 S2 (j + 1) := by rw [← e3, sI_at, hlf, lfS_y c.1 c.2]
        have k2 : x3.1 g0 2 = x.1 g0 2 := by rw [← e3, sI_at2 (by decide)]
        have k1 : x3.1 g0 1 = x.1 g0 1 := by rw [← e3, sI_at2 (by decide)]
        have k0 : x3.1 g0 0 = x.1 g0 0 := by rw [← e3, sI_at2 (by decide)]
        rw [atv_n (L := 16) hj (by omega), atv_n (L := 16) hj (by omega)]
        have hmv := mv_iff hE1 hS1 hE2 hS2 (g1''.2.2.2 j hj) (g2''.2.2.2 j hj)
        by_cases c2 : x3.1 (g1 + 4) j = x3.1 (g2 + 4) j
        · rw [if_pos c2]
          refine ⟨_, rfl, nI_1 j, ⟨hf.tr f3, k0.trans hg, k1.trans hl⟩, ⟨by dsimp only; rw [k2]; exact hm1, ?_⟩, k3⟩
          dsimp only
          rw [k2]
          exact set_skip hm2 (fun z => (hmv.mp z).2.2 c2)
        · rw [if_neg c2]
          obtain ⟨s1, s2⟩ := set_step hj hm1 hm2 (hmv.mpr ⟨c.1, c.2, c2⟩)
          refine ⟨_, rfl, nI_1 j, ⟨(hf.tr f3).tr (Fr.s rfl), ?_, ?_⟩, ?_, ?_⟩
          · dsimp only
            rw [sI_at2 (by decide), k0, hg]
          · dsimp only
            rw [sI_at2 (by decide), k1, hl]
          · dsimp only
            rw [sI_at, k2]
            exact ⟨s1, s2⟩
          · dsimp only
            rw [sI_at2 (by decide), k3]
      · rw [if_pos (by rw [has0 _ (by omega), ← Bool.not_eq_true, hb]; exact c)]
        simp only [lt]
        exact ⟨_, rfl, nI_1 j, ⟨hf, hg, hl⟩, ⟨hm1, set_skip hm2 (fun z => c ⟨z.1, z.2.1⟩)⟩, by dsimp only; rw [hlf, lfS_n c]⟩
    · rintro ⟨i, x⟩ ⟨h0, hh⟩
      dsimp only at h0 hh
      subst h0
      unfold f_X1_compare_L36
      dsimp only
      rw [if_pos le16]
      exact ⟨_, rfl, hh⟩
    · dsimp only
      rw [v2, b_0]
      exact ⟨fun z => (by cases z), fun z => absurd z.1 (by omega)⟩
  obtain ⟨y, ey, ⟨y1, y2, y3⟩, ⟨y4, y5⟩, y6⟩ := key
  rw [ey]
  refine ⟨y, rfl, y1, ⟨?_, fun v hv => ?_⟩, ⟨?_, fun v hv => ?_⟩, ⟨y4, fun v hv => ?_⟩, y6⟩
  · rw [y2, v0]
    exact h2.1.1.and
  · rw [y2, v0]
    exact but_bt hv (h2.1.2 v hv) (h1.1.2 v hv)
  · rw [y3, v1]
    exact h1.1.1.and
  · rw [y3, v1]
    exact but_bt hv (h1.1.2 v hv) (h2.1.2 v hv)
  · rw [y5 v hv]
    exact ⟨fun z => z.2, fun z => ⟨hv, z⟩⟩
/-! the reference: what was, against what is -/
def MW (y : gIH) (E : Nat → Nat → Prop) (S : Nat → Prop) : Prop :=
  (S16 (y 81 15) ∧ ∀ v, v < 16 → (bt (y 81 15) v = true ↔ Rc E S nox v)) ∧ (∀ v, v < 16 → Rc E S nox v → y 89 v = nI (dp E S v)) ∧ ∀ v, v < 16 → KpI E S v (y 90 v)
theorem MW.cg {x y : gIH} {E : Nat → Nat → Prop} {S : Nat → Prop} (h : MW x E S) (h1 : y 81 15 = x 81 15) (h2 : ∀ j, y 89 j = x 89 j) (h3 : ∀ j, y 90 j = x 90 j) : MW y E S := by
  unfold MW at *
  rw [h1]
  simp only [h2, h3]
  exact h
def dfJ (cm cl : Nat) (xj : gIH) (p1 : Int32) (q1 : Int32) (q2 : Int32) : Option ((Int32 × gIH) ⊕ ((gIH))) := lt (up2 xj 81 cm (q1 ||| q2)) (fun x9 => gck 16 p1 (gck 16 p1 (lt (up2 x9 81 cl ((x9 81 cl) + ((x9 89 p1.toNatClampNeg) - (x9 87 p1.toNatClampNeg)))) (fun x10 => lt (p1 + (1 : Int32)) (fun v11 => some (.inl (v11, x10)))))))
def dfL (cm cl : Nat) (s2 : Int32 × gIH) : Option ((Int32 × gIH) ⊕ ((gIH))) := (f_X10_nodes s2.2).bind (fun y8 => if y8 ≤ s2.1 then (some (.inr s2.2)) else (if (f_X10_holds ((s2.2 81 11) &&& (s2.2 81 15)) s2.1) = (0 : Int32) then (lt (s2.1 + (1 : Int32)) (fun v12 => some (.inl (v12, s2.2)))) else (gck 16 s2.1 (gck 16 s2.1 (if (s2.2 88 s2.1.toNatClampNeg) = (s2.2 90 s2.1.toNatClampNeg) then (dfJ cm cl s2.2 s2.1 (s2.2 81 cm) (0 : Int32)) else (dfJ cm cl s2.2 s2.1 (s2.2 81 cm) ((1 : Int32) <<< (s2.1 &&& 31))))))))
theorem df_1 : f_X10_differs_L56 = dfL 38 39 := rfl
theorem df_2 : f_X10_holdsAgainst_L46 = dfL 18 19 := rfl
theorem diff_m {N : aN} (hN : aOk N) {x : gIH} {cm cl : Nat} (hE1 : E16 E1) (hS1 : ∀ s, S1 s → s < 16) (hE2 : E16 E2) (hS2 : ∀ s, S2 s → s < 16) (hn : ∀ v, Rc E1 S1 nox v → Rc E2 S2 nox v → v < nN N) (hM : MNet x 82 0 N) (hF : MF x E2 S2) (hW : MW x E1 S1) (h0 : x 81 cm = 0) (h00 : x 81 cl = 0) (hne : cm ≠ cl) (hc : cm ≠ 11 ∧ cm ≠ 15 ∧ cl ≠ 11 ∧ cl ≠ 15) :
    ∃ y, lp (dfL cm cl) 2000 (0, x) = some y ∧ FrM (fun c j => c = 81 ∧ (j = cm ∨ j = cl)) x y ∧ (S16 (y 81 cm) ∧ ∀ v, v < 16 → (bt (y 81 cm) v = true ↔ MvI E1 S1 E2 S2 v)) ∧ y 81 cl = lfS E1 S1 E2 S2 (nN N) := by
  have hn16 := hN.n16
  have key : ∃ y, lp (dfL cm cl) 2000 (0, x) = some y ∧ FrM (fun c j => c = 81 ∧ (j = cm ∨ j = cl)) x y ∧ (S16 (y 81 cm) ∧ ∀ v, v < 16 → (bt (y 81 cm) v = true ↔ v < nN N ∧ MvI E1 S1 E2 S2 v)) ∧ y 81 cl = lfS E1 S1 E2 S2 (nN N) := by
    refine lp_for (step := dfL cm cl) (nN N) (fun j s => s.1 = nI j ∧ FrM (fun c j => c = 81 ∧ (j = cm ∨ j = cl)) x s.2 ∧ (S16 (s.2 81 cm) ∧ ∀ v, v < 16 → (bt (s.2 81 cm) v = true ↔ v < j ∧ MvI E1 S1 E2 S2 v)) ∧ s.2 81 cl = lfS E1 S1 E2 S2 j) _ ?_ ?_ ⟨rfl, FrM.rf, ⟨by dsimp only; rw [h0]; exact s16_0, fun v hv => ?_⟩, h00⟩ (by omega)
    · rintro j ⟨i, w⟩ hj ⟨h0, hf, ⟨hm1, hm2⟩, hlf⟩
      dsimp only at h0 hf hm1 hm2 hlf
      subst h0
      have hj16 : j < 16 := by omega
      have a11 : w 81 11 = x 81 11 := hf 81 11 (by omega)
      have a15 : w 81 15 = x 81 15 := hf 81 15 (by omega)
      have e87 : ∀ i, w 87 i = x 87 i := fun i => hf 87 i (by omega)
      have e88 : ∀ i, w 88 i = x 88 i := fun i => hf 88 i (by omega)
      have e89 : ∀ i, w 89 i = x 89 i := fun i => hf 89 i (by omega)
      have e90 : ∀ i, w 90 i = x 90 i := fun i => hf 90 i (by omega)
      have hb : bt (w 81 11 &&& w 81 15) j = true ↔ Rc E2 S2 nox j ∧ Rc E1 S1 nox j := by
        rw [a11, a15]
        exact both_bt (hF.1.2 j hj16) (hW.1.2 j hj16)
      unfold dfL
      dsimp only
      rw [m_nodes (hM.fr hf (fun j => by omega))]
      simp only [Option.bind_some]
      rw [if_neg (nI_ge hj (by omega))]
      by_cases c : Rc E2 S2 nox j ∧ Rc E1 S1 nox j
      · rw [if_neg (by rw [holds0 _ (by omega), hb.mpr c]; decide), gck_ni hj16 (by omega), gck_ni hj16 (by omega), nI_clamp (by omega)]
        have hmv := mv_iff hE1 hS1 hE2 hS2 (hW.2.2 j hj16) (hF.2.2.2 j hj16)
        have tail : ∀ q2 m', (w 81 cm ||| q2) = m' → (S16 m' ∧ ∀ v, v < 16 → (bt m' v = true ↔ v < j + 1 ∧ MvI E1 S1 E2 S2 v)) → ∃ s', dfJ cm cl w (nI j) (w 81 cm) q2 = some (.inl s') ∧ s'.1 = nI (j + 1) ∧ FrM (fun c j => c = 81 ∧ (j = cm ∨ j = cl)) x s'.2 ∧ (S16 (s'.2 81 cm) ∧ ∀ v, v < 16 → (bt (s'.2 81 cm) v = true ↔ v < j + 1 ∧ MvI E1 S1 E2 S2 v)) ∧ s'.2 81 cl = lfS E1 S1 E2 S2 (j + 1) := fun q2 m' hq hs => by
          unfold dfJ
          simp only [lt]
          rw [gck_ni hj16 (by omega), gck_ni hj16 (by omega), nI_clamp (by omega), hq]
          refine ⟨_, rfl, nI_1 j, (hf.tr (FrM.s (by omega))).tr (FrM.s (by omega)), ?_, ?_⟩
          · dsimp only
            rw [up2_at2 (Or.inr hne), up2_at]
            exact hs
          · dsimp only
            rw [up2_at, up2_at2 (Or.inr (Ne.symm hne)), up2_at2 (Or.inl (by decide)), up2_at2 (Or.inl (by decide)), hlf, e87, e89, hW.2.1 j hj16 c.2, (hF.2.2.1 j hj16).1 c.1, lfS_y c.2 c.1]
        have e8 := e88 j
        have e9 := e90 j
        by_cases c2' : w 88 j = w 90 j
        · have c2 : x 88 j = x 90 j := e8.symm.trans (c2'.trans e9)
          rw [if_pos c2']
          refine tail 0 (w 81 cm) (or0 _) ⟨hm1, set_skip hm2 (fun z => (hmv.mp z).2.2 c2.symm)⟩
        · have c2 : ¬ x 88 j = x 90 j := fun z => c2' (e8.trans (z.trans e9.symm))
          rw [if_neg c2']
          exact tail _ _ rfl (set_step hj16 hm1 hm2 (hmv.mpr ⟨c.2, c.1, fun z => c2 z.symm⟩))
      · rw [if_pos (by rw [holds0 _ (by omega), ← Bool.not_eq_true, hb]; exact c)]
        simp only [lt]
        exact ⟨_, rfl, nI_1 j, hf, ⟨hm1, set_skip hm2 (fun z => c ⟨z.2.1, z.1⟩)⟩, by dsimp only; rw [hlf, lfS_n (fun z => c ⟨z.2, z.1⟩)]⟩
    · rintro ⟨i, w⟩ ⟨h0, hh⟩
      dsimp only at h0 hh
      subst h0
      unfold dfL
      dsimp only
      rw [m_nodes (hM.fr hh.1 (fun j => by omega))]
      simp only [Option.bind_some]
      rw [if_pos (Int32.le_refl _)]
      exact ⟨_, rfl, hh⟩
    · dsimp only
      rw [h0, b_0]
      exact ⟨fun z => (by cases z), fun z => absurd z.1 (by omega)⟩
  obtain ⟨y, ey, y1, ⟨y2, y3⟩, y4⟩ := key
  refine ⟨y, ey, y1, ⟨y2, fun v hv => ?_⟩, y4⟩
  rw [y3 v hv]
  exact ⟨fun z => z.2, fun z => ⟨hn v z.1 z.2.1, z⟩⟩
end
