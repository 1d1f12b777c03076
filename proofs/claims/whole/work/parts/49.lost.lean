/-! WHO IS LOST BY THE SHUT OF AN ARC -/
abbrev rtS (N : aN) : Nat → Prop := fun s => s = nRt N
def CQ (N : aN) (fa tr : Nat) (xc : gXH) : Prop := ((fa = 71 ∧ tr = 76) ∨ (fa = 76 ∧ tr = 71)) ∧ aOk N ∧ CNet xc 7 N ∧ NX xc (fa + 1) (Ed N 100) ∧ GF xc fa (Ed N 100) (fun s => s = nRt N) ∧ RX xc N
theorem CQ.fr {N : aN} {fa tr : Nat} {x y : gXH} (h : CQ N fa tr x) (f : Fr (WS tr) x y) : CQ N fa tr y := by
  obtain ⟨h0, h1, h2, h3, h4, h5⟩ := h
  refine ⟨h0, h1, h2.fr f (fun c a b => by unfold WS; omega), h3.cg (f.1 _ (by unfold WS; omega)), h4.fr f (fun c a b => by unfold WS; omega), NX.cg h5 (f.1 60 (by unfold WS; omega))⟩
theorem RelN.cq {N : aN} {k : Nat} {Ms : Nat → aN} {im : Option aN} {xc : gXH} {fa tr : Nat} {pm : Nat → Nat} {hm : gIH} (h : RelN N k Ms im xc fa tr pm hm) : CQ N fa tr xc := by
  obtain ⟨hN, hC, hM, hz, hX, hG, hR⟩ := h.go
  exact ⟨h.1.1.1, hN, hC, hX, hG, hR⟩
def Ls (N : aN) (a v : Nat) : Prop := nO N a = true ∧ Rc (Ed N 100) (fun s => s = nRt N) nox v ∧ ¬ Rc (Ed N a) (fun s => s = nRt N) nox v
section
variable {N : aN} {hm y : gIH} {xc : gXH} {fa tr : Nat}
theorem Rc.full {k : Nat} {S X : Nat → Prop} {v : Nat} (h : Rc (Ed N k) S X v) (hN : aOk N) : Rc (Ed N 100) S X v := h.mono (fun u w z => z.imp (fun ⟨a, b, c, d, e, f⟩ => ⟨a, b, c, by have := hN.m60; omega, e, f⟩) id) (fun _ a b => Rc.base a b) (fun _ z => z)
theorem Ed.other {a u w : Nat} (h : Ed N 100 u w) (hn : ¬ (u = nF N a ∧ w = nT N a)) : Ed N a u w := by
  rcases h with ⟨b, b1, b2, b3, b4, b5, b6⟩ | h
  · refine Or.inl ⟨b, b1, b2, fun z => ?_, b4, b5, b6⟩
    subst z
    exact hn ⟨b5.symm, b6.symm⟩
  · cases h
theorem Ed.notF {a u w : Nat} (h : Ed N 100 u w) (hn : u ≠ nF N a) : Ed N a u w := h.other (fun z => hn z.1)
theorem Ed.notT {a u w : Nat} (h : Ed N 100 u w) (hn : w ≠ nT N a) : Ed N a u w := h.other (fun z => hn z.2)
/-- reached with all arcs, not without a: its begin is reached without it, its end is not -/
theorem Ls.ends (hN : aOk N) {a v : Nat} (ha : a < nM N) (h : Ls N a v) : Rc (Ed N a) (fun s => s = nRt N) nox (nF N a) ∧ ¬ Rc (Ed N a) (fun s => s = nRt N) nox (nT N a) := by
  obtain ⟨h1, h2, h3⟩ := h
  constructor
  · have : Rc (Ed N a) (fun s => s = nRt N) nox v ∨ Rc (Ed N a) (fun s => s = nRt N) nox (nF N a) := by
      refine h2.ind (P := fun x => Rc (Ed N a) (fun s => s = nRt N) nox x ∨ Rc (Ed N a) (fun s => s = nRt N) nox (nF N a)) (fun s a b => Or.inl (Rc.base a b)) (fun u w _ p e x => ?_)
      rcases p with p | p
      · by_cases c : u = nF N a
        · right
          rw [← c]
          exact p
        · exact Or.inl (Rc.step p (e.notF c) x)
      · exact Or.inr p
    exact this.resolve_left h3
  · intro z
    apply h3
    refine h2.ind (fun s a b => Rc.base a b) (fun u w _ p e x => ?_)
    by_cases c : w = nT N a
    · rw [c]
      exact z
    · exact Rc.step p (e.notT c) x
theorem Ls.here (hN : aOk N) {a v : Nat} (ha : a < nM N) (h : Ls N a v) : Ls N a (nT N a) := by
  obtain ⟨p, r⟩ := h.ends hN ha
  have := hN.m60
  exact ⟨h.1, Rc.step (p.full hN) (Or.inl ⟨a, ha, h.1, by omega, by omega, rfl, rfl⟩) (fun z => z), r⟩
/-- ways past its end, to a reached begin: they are there without it -/
theorem Rc.noT {a v : Nat} {X : Nat → Prop} (hX : X (nT N a)) (h : Rc (Ed N 100) (fun s => s = nRt N) X v) : Rc (Ed N a) (fun s => s = nRt N) X v :=
  h.ind (fun s a b => Rc.base a b) (fun u w _ p e x => Rc.step p (e.notT (fun z => x (by rw [z]; exact hX))) x)
theorem Rc.past {E : Nat → Nat → Prop} {S : Nat → Prop} {v x : Nat} (h : Rc E S nox v) (hx : ¬ Rc E S nox x) : Rc E S (fun s => s = x) v :=
  h.ind (fun s a b => Rc.base a (fun z => hx (by have z : s = x := z; rw [← z]; exact Rc.base a b))) (fun u w h1 p e b => Rc.step p e (fun z => hx (by have z : w = x := z; rw [← z]; exact Rc.step h1 e b)))
theorem Ls.kind (hN : aOk N) {a v : Nat} (ha : a < nM N) (h : Ls N a v) : KdI N a = 3 := by
  obtain ⟨p, r⟩ := h.ends hN ha
  have h60 := hN.m60
  have hp := p.full hN
  have he : Ed N 100 (nF N a) (nT N a) := Or.inl ⟨a, ha, h.1, by omega, by omega, rfl, rfl⟩
  have hne : nF N a ≠ nT N a := fun z => r (by rw [← z]; exact p)
  have hpast : Rc (Ed N 100) (fun s => s = nRt N) (fun s => s = nT N a) (nF N a) := (p.past r).full hN
  have nb : ¬ BkA N a := fun z => z.2.2.elim hne (fun z => z.2.2 hpast)
  have hk : IsK (Ed N 100) (fun s => s = nRt N) (nF N a) (nT N a) := by
    refine ⟨⟨Rc.step hp he (fun z => z), hne, fun z => r ?_⟩, fun g hg hgu => ⟨hp, hgu, fun z => hg.2.2 (Rc.step z he (fun z => hg.2.1 z.symm))⟩⟩
    have : Rc (Ed N a) (fun s => s = nRt N) (fun s => s = nF N a) (nT N a) := z.ind (fun s a b => Rc.base a b) (fun u w h1 p e x => Rc.step p (e.notF (fun z => h1.notX z)) x)
    exact this.all
  unfold KdI
  rw [if_pos h.1, if_pos (cb_t.mpr hp), if_neg (fun z => nb (cb_t.mp z)), if_pos (cb_t.mpr hk)]
theorem root_set {r : Nat} (hr : r < 16) {E : Nat → Nat → Prop} {v : Nat} : Rc E (fun s => bt (f_X9_only (nI r)) s = true) (fun s => bt 0 s = true) v ↔ Rc E (fun s => s = r) nox v := Rc.congr (fun _ _ => Iff.rfl) (fun s => bt_one16 hr s) (fun s => by rw [b_0]; exact ⟨fun z => (by cases z), fun z => z.elim⟩)
theorem lost_c (h : CQ N fa tr xc) {a : Nat} (ha : a < nM N) : ∃ z x, f_X8_lostBy fa tr xc (nI a) = some (z, x) ∧ Fr (WS tr) xc x ∧ S16 z ∧ ∀ v, v < 16 → (bt z v = true ↔ Ls N a v) := by
  obtain ⟨h0, hN, hC, hX, hG, hR⟩ := h
  have h60 := hN.m60
  unfold f_X8_lostBy
  rw [kind_c hN hC hG ha]
  by_cases c : KdI N a = 3
  · rw [if_pos c]
    obtain ⟨x, ex, x1, x2⟩ := netfill_ok hN hC (tr + 1) (by omega) a
    rw [show skI a = nI a by unfold skI; rw [if_pos (by omega)]] at ex
    rw [ex]
    simp only [Option.bind_some]
    have e4 : x.1 7 4 = nI (nRt N) := by rw [x2.1 7 (by omega)]; exact hC.2.1
    rw [e4]
    obtain ⟨z, ez, z1, z2⟩ := spread_ok (hN.e16n (k1 := a) (k2 := 100)) x1 (f_X9_only (nI (nRt N))) 0 (s16_one hN.r16)
    rw [ez]
    simp only [Option.bind_some]
    have ef : x.1 fa 4 = xc.1 fa 4 := by rw [x2.1 fa (by omega)]
    refine ⟨_, _, rfl, x2.mono (fun c hc => by unfold WS; omega), ?_, fun v hv => ?_⟩
    · rw [ef]
      exact hG.1.1.and
    · have ho : nO N a = true := by
        unfold KdI at c
        by_cases q : nO N a = true
        · exact q
        · rw [if_neg q] at c
          exact absurd c (by decide)
      rw [ef, b_and, bt_not _ (by omega), Bool.and_eq_true, hG.1.2 v hv]
      have := z2 v hv
      rw [root_set hN.r16] at this
      have hb : (!bt z v) = true ↔ ¬ Rc (Ed N a) (fun s => s = nRt N) nox v := by
        rw [← this]
        cases bt z v <;> simp
      rw [hb]
      exact ⟨fun q => ⟨ho, q⟩, fun q => q.2⟩
  · rw [if_neg c]
    refine ⟨0, xc, rfl, Fr.rf, s16_0, fun v hv => ?_⟩
    rw [b_0]
    exact ⟨fun z => (by cases z), fun z => absurd (z.kind hN ha) c⟩
theorem bridge_c (h : CQ N fa tr xc) {a : Nat} (ha : a < nM N) : ∃ x, f_X8_isBridge fa tr xc (nI a) = some (if cb (Ls N a (nT N a)) = true then 1 else 0, x) ∧ Fr (WS tr) xc x := by
  obtain ⟨z, x, ez, x1, z1, z2⟩ := lost_c h ha
  have h60 := h.2.1.m60
  have ht := h.2.1.t16 ha
  have hx := h.fr x1
  refine ⟨x, ?_, x1⟩
  unfold f_X8_isBridge
  rw [ez]
  simp only [Option.bind_some]
  rw [atv_n (L := 60) (by omega) (by omega), hx.2.2.1.to60 ha, has_eq _ (by omega), nb01]
  by_cases c : Ls N a (nT N a)
  · rw [if_pos ((z2 _ ht).mpr c), if_pos (cb_t.mpr c)]
  · rw [if_neg (fun q => c ((z2 _ ht).mp q)), if_neg (fun q => c (cb_t.mp q))]
theorem shut_m (hN : aOk N) (q : QM N hm y) {a : Nat} (ha : a < nM N) : ∃ z, f_X10_reachedBut y 0 (nI a) = some z ∧ S16 z ∧ ∀ v, v < 16 → (bt z v = true ↔ Rc (Ed N a) (fun s => s = nRt N) nox v) := by
  have h60 := hN.m60
  obtain ⟨z, ez, z1, z2⟩ := m_reachedBut hN q.2.1 a 100 (by rw [q.2.2.2.2]; rfl) none q.2.2.2.1 0
  rw [show skI a = nI a by unfold skI; rw [if_pos (by omega)]] at ez
  refine ⟨z, ez, z1, fun v hv => ?_⟩
  rw [z2 v hv]
  exact Rc.congr (fun _ _ => Iff.rfl) (fun _ => Iff.rfl) (fun s => by rw [b_0]; exact ⟨fun z => (by cases z), fun z => z.elim⟩)
theorem bridge_m (hN : aOk N) (q : QM N hm y) {a : Nat} (ha : a < nM N) : f_X10_isBridge y (nI a) = some (if cb (Ls N a (nT N a)) = true then 1 else 0) := by
  have h60 := hN.m60
  have ht := hN.t16 ha
  have hf := hN.f16 ha
  unfold f_X10_isBridge
  rw [m_open hN q.2.1 ha]
  simp only [Option.bind_some]
  by_cases c1 : nO N a = true
  · rw [if_neg (by rw [bi01, c1]; decide), m_from hN q.2.1 ha]
    simp only [Option.bind_some]
    by_cases c2 : Rc (Ed N 100) (fun s => s = nRt N) nox (nF N a)
    · rw [if_neg (fun z => (q.2.2.1.r0 hf).mp z c2)]
      obtain ⟨z, ez, z1, z2⟩ := shut_m hN q ha
      rw [ez, m_to hN q.2.1 ha]
      simp only [Option.bind_some]
      have hr : Rc (Ed N 100) (fun s => s = nRt N) nox (nT N a) := Rc.step c2 (Or.inl ⟨a, ha, c1, by omega, by omega, rfl, rfl⟩) (fun z => z)
      by_cases c3 : Rc (Ed N a) (fun s => s = nRt N) nox (nT N a)
      · rw [if_neg (by rw [holds0 _ (by omega), (z2 _ ht).mpr c3]; decide), if_neg (fun w => (cb_t.mp w).2.2 c3)]
      · rw [if_pos (by rw [holds0 _ (by omega), ← Bool.not_eq_true, z2 _ ht]; exact c3), if_pos (cb_t.mpr ⟨c1, hr, c3⟩)]
    · rw [if_pos ((q.2.2.1.r0 hf).mpr c2), if_neg (fun z => c2 (((cb_t.mp z).ends hN ha).1.full hN))]
  · rw [if_pos (by rw [bi01]; simpa using c1), if_neg (fun z => c1 (cb_t.mp z).1)]
theorem CQ.arcs (h : CQ N fa tr xc) : xc.1 7 6 = nI (nM N) := h.2.2.1.2.2.2.1
theorem bridges_q (h : CQ N fa tr xc) (q : QM N hm y) : ∃ z x, f_X8_bridges fa tr xc = some (z, x) ∧ Fr (WS tr) xc x ∧ f_X10_manyArcs y 0 = some z := by
  have hN := h.2.1
  have h60 := hN.m60
  have h2 := lp_sum (step := f_X10_manyArcs_L4 y 0) (nM N) (fun a => if cb (Ls N a (nT N a)) = true then 1 else 0) 0 (fun j a hj => by
    unfold f_X10_manyArcs_L4
    rw [m_arcs q.2.1]
    simp only [Option.bind_some, lt]
    rw [if_neg (nI_ge hj (by omega)), if_pos trivial, bridge_m hN q hj]
    simp only [Option.bind_some]
    by_cases c : Ls N j (nT N j)
    · rw [if_neg (by rw [bi01, cb_t.mpr c]; decide), if_pos (cb_t.mpr c), nI_1, nI_1]
    · rw [if_pos (by rw [bi01]; exact cb_f.mpr c), if_neg (fun z => c (cb_t.mp z)), nI_1, show (0 : Int32) = nI 0 from rfl, nI_add]) (fun a => by
    unfold f_X10_manyArcs_L4
    rw [m_arcs q.2.1]
    simp only [Option.bind_some]
    rw [if_pos (Int32.le_refl _)]) (k := 2000) (by omega)
  rw [nI_0] at h2
  have key : ∃ z, lp (f_X8_bridges_L4 fa tr) 2000 (0, 0, xc) = some z ∧ z.1 = nI (0 + fb_sm (fun a => if cb (Ls N a (nT N a)) = true then 1 else 0) (nM N)) ∧ Fr (WS tr) xc z.2 := by
    refine lp_for (step := f_X8_bridges_L4 fa tr) (nM N) (fun j s => s.2.1 = nI j ∧ s.1 = nI (0 + fb_sm (fun a => if cb (Ls N a (nT N a)) = true then 1 else 0) j) ∧ Fr (WS tr) xc s.2.2) _ ?_ ?_ ⟨rfl, rfl, Fr.rf⟩ (by omega)
    · rintro j ⟨c, i, x⟩ hj ⟨h0, h1, h2⟩
      dsimp only at h0 h1 h2
      subst h0 h1
      have hx := h.fr h2
      unfold f_X8_bridges_L4
      dsimp only
      rw [hx.arcs, if_neg (nI_ge hj (by omega)), if_neg (show ¬ (60 : Int32) ≤ nI j from nI_ge (a := j) (b := 60) (by omega) (by omega))]
      obtain ⟨x', e', f'⟩ := bridge_c hx hj
      rw [e']
      simp only [Option.bind_some, lt]
      by_cases c : Ls N j (nT N j)
      · rw [if_neg (by rw [bi01, cb_t.mpr c]; decide)]
        refine ⟨_, rfl, nI_1 j, ?_, h2.tr f'⟩
        dsimp only
        rw [nI_1, fb_sm_succ, if_pos (cb_t.mpr c)]
        rfl
      · rw [if_pos (by rw [bi01]; exact cb_f.mpr c)]
        refine ⟨_, rfl, nI_1 j, ?_, h2.tr f'⟩
        dsimp only
        rw [fb_sm_succ, if_neg (fun z => c (cb_t.mp z))]
        rfl
    · rintro ⟨c, i, x⟩ ⟨h0, h1, h2⟩
      dsimp only at h0 h1 h2
      subst h0 h1
      unfold f_X8_bridges_L4
      dsimp only
      rw [(h.fr h2).arcs, if_pos (Int32.le_refl _)]
      exact ⟨_, rfl, rfl, h2⟩
  obtain ⟨z, ez, z1, z2⟩ := key
  refine ⟨z.1, z.2, ?_, z2, ?_⟩
  · unfold f_X8_bridges
    rw [ez]
    rfl
  · unfold f_X10_manyArcs
    rw [h2, z1]
    rfl
/-! the worst -/
noncomputable def lsN (N : aN) (a : Nat) : Nat := fb_ct (fun v => cb (Ls N a v)) 16
noncomputable def wrS (N : aN) : Nat → Int32 × Nat
  | 0 => (-1, 0)
  | j + 1 => if (wrS N j).2 < lsN N j then (nI j, lsN N j) else wrS N j
theorem ct_ls {s : Int32} {a : Nat} (h : ∀ v, v < 16 → (bt s v = true ↔ Ls N a v)) : fb_ct (bt s) 16 = lsN N a := fb_ct_cong fun v hv => by
  apply Bool.eq_iff_iff.mpr
  rw [h v hv, cb_t]
theorem lsN16 (a : Nat) : lsN N a ≤ 16 := fb_ct_le _ 16
theorem wrS_is : ∀ n, ((wrS N n).1 = -1 ∧ (wrS N n).2 = 0) ∨ ∃ j, j < n ∧ (wrS N n).1 = nI j ∧ (wrS N n).2 = lsN N j
  | 0 => Or.inl ⟨rfl, rfl⟩
  | n + 1 => by
    unfold wrS
    split
    · exact Or.inr ⟨n, by omega, rfl, rfl⟩
    · rcases wrS_is n with h | ⟨j, h1, h2⟩
      · exact Or.inl h
      · exact Or.inr ⟨j, by omega, h2⟩
theorem wrS16 (n : Nat) : (wrS N n).2 ≤ 16 := by
  rcases wrS_is (N := N) n with h | ⟨j, h1, h2, h3⟩
  · omega
  · rw [h3]; exact lsN16 j
theorem worst_c (h : CQ N fa tr xc) : ∃ x, f_X8_worstArc fa tr xc = some ((wrS N (nM N)).1, x) ∧ Fr (WS tr) xc x := by
  have hN := h.2.1
  have h60 := hN.m60
  have key : ∃ z, lp (f_X8_worstArc_L6 fa tr) 2000 (-1, 0, 0, xc) = some z ∧ z.1 = (wrS N (nM N)).1 ∧ Fr (WS tr) xc z.2 := by
    refine lp_for (step := f_X8_worstArc_L6 fa tr) (nM N) (fun j s => s.2.2.1 = nI j ∧ s.1 = (wrS N j).1 ∧ s.2.1 = nI (wrS N j).2 ∧ Fr (WS tr) xc s.2.2.2) _ ?_ ?_ ⟨rfl, rfl, rfl, Fr.rf⟩ (by omega)
    · rintro j ⟨c, m, i, x⟩ hj ⟨h0, h1, h2, h3⟩
      dsimp only at h0 h1 h2 h3
      subst h0 h1 h2
      have hx := h.fr h3
      unfold f_X8_worstArc_L6
      dsimp only
      rw [hx.arcs, if_neg (nI_ge hj (by omega)), if_neg (show ¬ (60 : Int32) ≤ nI j from nI_ge (a := j) (b := 60) (by omega) (by omega))]
      obtain ⟨z, x', ez, f', z1, z2⟩ := lost_c hx hj
      rw [ez]
      simp only [Option.bind_some, lt]
      rw [bc_ct z1, ct_ls z2]
      have b1 := lsN16 (N := N) j
      have b2 := wrS16 (N := N) j
      by_cases c : (wrS N j).2 < lsN N j
      · rw [if_neg (nI_ge c (by omega))]
        refine ⟨_, rfl, nI_1 j, ?_, ?_, h3.tr f'⟩
        · show nI j = (wrS N (j + 1)).1
          unfold wrS
          rw [if_pos c]
        · show nI (lsN N j) = nI (wrS N (j + 1)).2
          conv => rhs; unfold wrS
          rw [if_pos c]
      · rw [if_pos (nI_le (by omega) (by omega))]
        refine ⟨_, rfl, nI_1 j, ?_, ?_, h3.tr f'⟩
        · show (wrS N j).1 = (wrS N (j + 1)).1
          conv => rhs; unfold wrS
          rw [if_neg c]
        · show nI (wrS N j).2 = nI (wrS N (j + 1)).2
          conv => rhs; unfold wrS
          rw [if_neg c]
    · rintro ⟨c, m, i, x⟩ ⟨h0, h1, h2, h3⟩
      dsimp only at h0 h1 h2 h3
      subst h0 h1 h2
      unfold f_X8_worstArc_L6
      dsimp only
      rw [(h.fr h3).arcs, if_pos (Int32.le_refl _)]
      exact ⟨_, rfl, rfl, h3⟩
  obtain ⟨z, ez, z1, z2⟩ := key
  refine ⟨z.2, ?_, z2⟩
  unfold f_X8_worstArc
  rw [ez]
  simp only [Option.bind_some]
  rw [z1]
theorem left_m (hN : aOk N) (q : QM N hm y) {a : Nat} (ho : nO N a = true) {z : Int32} (z2 : ∀ v, v < 16 → (bt z v = true ↔ Rc (Ed N a) (fun s => s = nRt N) nox v)) : S16 (y 81 11 &&& (z ^^^ (-1))) ∧ ∀ v, v < 16 → (bt (y 81 11 &&& (z ^^^ (-1))) v = true ↔ Ls N a v) := by
  refine ⟨q.2.2.1.1.1.and, fun v hv => ?_⟩
  have hb : (!bt z v) = true ↔ ¬ Rc (Ed N a) (fun s => s = nRt N) nox v := by
    rw [← z2 v hv]
    cases bt z v <;> simp
  rw [b_and, bt_not _ (by omega), Bool.and_eq_true, q.2.2.1.1.2 v hv, hb]
  exact ⟨fun q => ⟨ho, q⟩, fun q => q.2⟩
theorem worst_t (y : gIH) (p : Int32) (j : Nat) : ∃ s', f_X10_worst_J79 y p (wrS N j).1 (nI (wrS N j).2) (nI j) (nI (lsN N j)) = some (.inl s') ∧ s'.2.2 = nI (j + 1) ∧ s'.1 = (wrS N (j + 1)).1 ∧ s'.2.1 = nI (wrS N (j + 1)).2 := by
  have b1 := lsN16 (N := N) j
  have b2 := wrS16 (N := N) j
  unfold f_X10_worst_J79
  by_cases c : (wrS N j).2 < lsN N j
  · rw [if_pos (nI_lt c (by omega))]
    refine ⟨_, rfl, nI_1 j, ?_, ?_⟩
    · show nI j = (wrS N (j + 1)).1
      unfold wrS
      rw [if_pos c]
    · show nI (lsN N j) = nI (wrS N (j + 1)).2
      conv => rhs; unfold wrS
      rw [if_pos c]
  · rw [if_neg (nI_nlt (by omega) (by omega))]
    refine ⟨_, rfl, nI_1 j, ?_, ?_⟩
    · show (wrS N j).1 = (wrS N (j + 1)).1
      conv => rhs; unfold wrS
      rw [if_neg c]
    · show nI (wrS N j).2 = nI (wrS N (j + 1)).2
      conv => rhs; unfold wrS
      rw [if_neg c]
theorem worst_t0 (y : gIH) (p : Int32) (j : Nat) (h0 : lsN N j = 0) : ∃ s', f_X10_worst_J79 y p (wrS N j).1 (nI (wrS N j).2) (nI j) (0 : Int32) = some (.inl s') ∧ s'.2.2 = nI (j + 1) ∧ s'.1 = (wrS N (j + 1)).1 ∧ s'.2.1 = nI (wrS N (j + 1)).2 := by
  have h := worst_t (N := N) y p j
  rw [h0, nI_0] at h
  exact h
theorem lsN0 {j : Nat} (h : ¬ nO N j = true) : lsN N j = 0 := by
  unfold lsN
  refine fb_ct_zero.mpr fun v _ => ?_
  exact cb_f.mpr fun z => h z.1
theorem worst_s (hN : aOk N) (q : QM N hm y) (p : Int32) (j : Nat) (hj : j < nM N) : ∃ s', f_X10_worst_L40 y p ((wrS N j).1, nI (wrS N j).2, nI j) = some (.inl s') ∧ s'.2.2 = nI (j + 1) ∧ s'.1 = (wrS N (j + 1)).1 ∧ s'.2.1 = nI (wrS N (j + 1)).2 := by
  have h60 := hN.m60
  unfold f_X10_worst_L40
  rw [m_arcs q.2.1]
  simp only [Option.bind_some]
  rw [if_neg (nI_ge hj (by omega)), m_open hN q.2.1 hj]
  simp only [Option.bind_some]
  by_cases c1 : nO N j = true
  · rw [if_neg (by rw [bi01, c1]; decide)]
    obtain ⟨z, ez, z1, z2⟩ := shut_m hN q hj
    rw [ez]
    have e : f_X10_bits (y 81 11 &&& (z ^^^ (-1))) = some (nI (lsN N j)) := by
      rw [bits_ct, ct_ls (left_m hN q c1 z2).2]
    have e2 : (some z).bind (fun y8 => (f_X10_bits (y 81 11 &&& (y8 ^^^ (-1)))).bind (fun y9 => f_X10_worst_J79 y p (wrS N j).1 (nI (wrS N j).2) (nI j) y9)) = f_X10_worst_J79 y p (wrS N j).1 (nI (wrS N j).2) (nI j) (nI (lsN N j)) := by
      rw [Option.bind_some, e, Option.bind_some]
    rw [e2]
    exact worst_t y p j
  · rw [if_pos (by rw [bi01]; simpa using c1)]
    exact worst_t0 (N := N) y p j (lsN0 c1)
theorem worst_m (hN : aOk N) (q : QM N hm y) (p : Int32) : lp (f_X10_worst_L40 y p) 2000 (-1, 0, 0) = some ((wrS N (nM N)).1, nI (wrS N (nM N)).2) := by
  have h60 := hN.m60
  have key : ∃ z, lp (f_X10_worst_L40 y p) 2000 (-1, 0, 0) = some z ∧ z = ((wrS N (nM N)).1, nI (wrS N (nM N)).2) := by
    refine lp_for (step := f_X10_worst_L40 y p) (nM N) (fun j s => s.2.2 = nI j ∧ s.1 = (wrS N j).1 ∧ s.2.1 = nI (wrS N j).2) _ ?_ ?_ ⟨rfl, rfl, rfl⟩ (by omega)
    · rintro j ⟨c, m, i⟩ hj ⟨h0, h1, h2⟩
      dsimp only at h0 h1 h2
      subst h0 h1 h2
      exact worst_s hN q p j hj
    · rintro ⟨c, m, i⟩ ⟨h0, h1, h2⟩
      dsimp only at h0 h1 h2
      subst h0 h1 h2
      unfold f_X10_worst_L40
      rw [m_arcs q.2.1]
      simp only [Option.bind_some]
      rw [if_pos (Int32.le_refl _)]
      exact ⟨_, rfl, rfl⟩
  obtain ⟨z, ez, hz⟩ := key
  rw [ez, hz]
/-! tied -/
theorem tied_q (h : CQ N fa tr xc) (q : QM N hm y) {v : Nat} (hv : v < 16) : ∃ z x, f_X8_tied fa tr xc (nI v) = some (z, x) ∧ Fr (WS tr) xc x ∧ f_X10_tiedTo y (nI v) = some z := by
  have hN := h.2.1
  have h60 := hN.m60
  have hG := h.2.2.2.2.1
  unfold f_X8_tied f_X10_tiedTo
  by_cases c : Rc (Ed N 100) (fun s => s = nRt N) nox v
  · rw [if_neg (fun z => (hG.r0 hv).mp z c), if_neg (fun z => (q.2.2.1.r0 hv).mp z c)]
    simp only [lt]
    obtain ⟨P, hP⟩ : ∃ P : Nat → Nat → Prop, P = fun j x => Rc (Ed N 100) (fun s => s = nRt N) nox x ∧ ∀ a, a < j → (Ls N a v ↔ Ls N a x) := ⟨_, rfl⟩
    have P0 : ∀ x, P 0 x ↔ Rc (Ed N 100) (fun s => s = nRt N) nox x := fun x => by
      rw [hP]
      exact ⟨fun z => z.1, fun z => ⟨z, fun a ha => absurd ha (by omega)⟩⟩
    have PS : ∀ j x, P (j + 1) x ↔ P j x ∧ (Ls N j v ↔ Ls N j x) := fun j x => by
      rw [hP]
      constructor
      · exact fun z => ⟨⟨z.1, fun a ha => z.2 a (by omega)⟩, z.2 j (by omega)⟩
      · rintro ⟨⟨z1, z2⟩, z3⟩
        refine ⟨z1, fun a ha => ?_⟩
        rcases Nat.lt_or_ge a j with o | o
        · exact z2 a o
        · rw [show a = j by omega]
          exact z3
    have key : ∃ z, lp (f_X8_tied_L20 fa tr (nI v)) 2000 (xc.1 fa 4, 0, xc) = some z ∧ (S16 z.1 ∧ ∀ x, x < 16 → (bt z.1 x = true ↔ P (nM N) x)) ∧ Fr (WS tr) xc z.2 := by
      refine lp_for (step := f_X8_tied_L20 fa tr (nI v)) (nM N) (fun j s => s.2.1 = nI j ∧ (S16 s.1 ∧ ∀ x, x < 16 → (bt s.1 x = true ↔ P j x)) ∧ Fr (WS tr) xc s.2.2) _ ?_ ?_ ⟨rfl, ⟨hG.1.1, fun x hx => by dsimp only; rw [P0]; exact hG.1.2 x hx⟩, Fr.rf⟩ (by omega)
      · rintro j ⟨t, i, x⟩ hj ⟨h0, ⟨h1, h2⟩, h3⟩
        dsimp only at h0 h1 h2 h3
        subst h0
        have hx := h.fr h3
        unfold f_X8_tied_L20
        dsimp only
        rw [hx.arcs, if_neg (nI_ge hj (by omega)), if_neg (show ¬ (60 : Int32) ≤ nI j from nI_ge (a := j) (b := 60) (by omega) (by omega))]
        obtain ⟨z, x', ez, f', z1, z2⟩ := lost_c hx hj
        rw [ez]
        simp only [Option.bind_some, lt]
        by_cases c2 : Ls N j v
        · rw [if_neg (by rw [has0 _ (by omega), (z2 v hv).mpr c2]; decide)]
          refine ⟨_, rfl, nI_1 j, ⟨h1.and, fun w hw => ?_⟩, h3.tr f'⟩
          dsimp only
          rw [b_and, Bool.and_eq_true, h2 w hw, z2 w hw, PS]
          exact ⟨fun z => ⟨z.1, fun _ => z.2, fun _ => c2⟩, fun z => ⟨z.1, z.2.mp c2⟩⟩
        · rw [if_pos (by rw [has0 _ (by omega), ← Bool.not_eq_true, z2 v hv]; exact c2)]
          refine ⟨_, rfl, nI_1 j, ⟨h1.and, fun w hw => ?_⟩, h3.tr f'⟩
          dsimp only
          have hb : (!bt z w) = true ↔ ¬ Ls N j w := by
            rw [← z2 w hw]
            cases bt z w <;> simp
          rw [b_and, bt_not _ (by omega), Bool.and_eq_true, h2 w hw, hb, PS]
          exact ⟨fun z => ⟨z.1, fun y => absurd y c2, fun y => absurd y z.2⟩, fun z => ⟨z.1, fun y => c2 (z.2.mpr y)⟩⟩
      · rintro ⟨t, i, x⟩ ⟨h0, h12, h3⟩
        dsimp only at h0 h12 h3
        subst h0
        unfold f_X8_tied_L20
        dsimp only
        rw [(h.fr h3).arcs, if_pos (Int32.le_refl _)]
        exact ⟨_, rfl, h12, h3⟩
    have key2 : ∃ z, lp (f_X10_tiedTo_L20 y (nI v)) 2000 (y 81 11, 0) = some z ∧ (S16 z ∧ ∀ x, x < 16 → (bt z x = true ↔ P (nM N) x)) := by
      refine lp_for (step := f_X10_tiedTo_L20 y (nI v)) (nM N) (fun j s => s.2 = nI j ∧ (S16 s.1 ∧ ∀ x, x < 16 → (bt s.1 x = true ↔ P j x))) _ ?_ ?_ ⟨rfl, q.2.2.1.1.1, fun x hx => by dsimp only; rw [P0]; exact q.2.2.1.1.2 x hx⟩ (by omega)
      · rintro j ⟨t, i⟩ hj ⟨h0, h1, h2⟩
        dsimp only at h0 h1 h2
        subst h0
        have tail : ∀ z : Int32, (∀ w, w < 16 → (Rc (Ed N 100) (fun s => s = nRt N) nox w → (bt z w = true ↔ ¬ Ls N j w))) → ∃ s', f_X10_tiedTo_J49 y (nI v) t (nI j) z = some (.inl s') ∧ s'.2 = nI (j + 1) ∧ (S16 s'.1 ∧ ∀ x, x < 16 → (bt s'.1 x = true ↔ P (j + 1) x)) := fun z hz => by
          have hPr : ∀ w, P j w → Rc (Ed N 100) (fun s => s = nRt N) nox w := fun w hw => by
            rw [hP] at hw
            exact hw.1
          unfold f_X10_tiedTo_J49
          simp only [lt]
          by_cases c2 : Ls N j v
          · rw [if_pos (by rw [holds0 _ (by omega), ← Bool.not_eq_true, hz v hv c]; exact fun w => w c2)]
            refine ⟨_, rfl, nI_1 j, h1.and, fun w hw => ?_⟩
            dsimp only
            rw [b_and, bt_not _ (by omega), Bool.and_eq_true, h2 w hw, PS]
            constructor
            · rintro ⟨a, b⟩
              have := hz w hw (hPr w a)
              refine ⟨a, fun _ => Classical.byContradiction fun no => ?_, fun _ => c2⟩
              rw [this.mpr no] at b
              cases b
            · rintro ⟨a, b⟩
              have := hz w hw (hPr w a)
              refine ⟨a, ?_⟩
              cases hb : bt z w with
              | false => rfl
              | true => exact absurd (b.mp c2) (this.mp hb)
          · rw [if_neg (by rw [holds0 _ (by omega), (hz v hv c).mpr c2]; decide)]
            refine ⟨_, rfl, nI_1 j, h1.and, fun w hw => ?_⟩
            dsimp only
            rw [b_and, Bool.and_eq_true, h2 w hw, PS]
            constructor
            · rintro ⟨a, b⟩
              exact ⟨a, fun y => absurd y c2, fun y => absurd y ((hz w hw (hPr w a)).mp b)⟩
            · rintro ⟨a, b⟩
              exact ⟨a, (hz w hw (hPr w a)).mpr fun y => c2 (b.mpr y)⟩
        unfold f_X10_tiedTo_L20
        rw [m_arcs q.2.1]
        simp only [Option.bind_some]
        rw [if_neg (nI_ge hj (by omega)), m_open hN q.2.1 hj]
        simp only [Option.bind_some]
        by_cases c1 : nO N j = true
        · rw [if_neg (by rw [bi01, c1]; decide)]
          obtain ⟨z, ez, z1, z2⟩ := shut_m hN q hj
          rw [ez]
          simp only [Option.bind_some]
          refine tail z fun w hw hr => ?_
          rw [z2 w hw]
          exact ⟨fun a b => b.2.2 a, fun a => Classical.byContradiction fun b => a ⟨c1, hr, b⟩⟩
        · rw [if_pos (by rw [bi01]; simpa using c1)]
          refine tail (y 81 11) fun w hw hr => ?_
          rw [q.2.2.1.1.2 w hw]
          exact ⟨fun _ b => c1 b.1, fun _ => hr⟩
      · rintro ⟨t, i⟩ ⟨h0, h12⟩
        dsimp only at h0 h12
        subst h0
        unfold f_X10_tiedTo_L20
        rw [m_arcs q.2.1]
        simp only [Option.bind_some]
        rw [if_pos (Int32.le_refl _)]
        exact ⟨_, rfl, h12⟩
    obtain ⟨z, ez, ⟨z1, z2⟩, z3⟩ := key
    obtain ⟨w, ew, w1, w2⟩ := key2
    rw [ez, ew]
    refine ⟨z.1, z.2, rfl, z3, ?_⟩
    simp only [Option.bind_some]
    rw [w1.ext z1 fun x hx => Bool.eq_iff_iff.mpr (by rw [w2 x hx, z2 x hx])]
  · rw [if_pos ((hG.r0 hv).mpr c), if_pos ((q.2.2.1.r0 hv).mpr c)]
    exact ⟨0, xc, rfl, Fr.rf, rfl⟩
end
