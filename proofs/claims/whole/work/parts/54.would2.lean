theorem in02 (a : Int32) : (∃ k, k ≤ 2 ∧ a = nI k) ∨ ((¬ ∃ k, k ≤ 2 ∧ a = nI k) ∧ (a < 0 ∨ (¬ a < 0 ∧ ¬ a ≤ 2))) := by
  rcases num_cases a (n := 3) (by omega) with ⟨k, hk, e⟩ | ⟨h1, h2⟩
  · exact Or.inl ⟨k, by omega, e⟩
  · refine Or.inr ⟨fun ⟨k, hk, e⟩ => h1 k (by omega) e, ?_⟩
    rcases h2 with h2 | ⟨h2, h3⟩
    · exact Or.inl h2
    · refine Or.inr ⟨h2, fun z => ?_⟩
      have e1 := Int32.le_iff_toInt_le.mp h3
      have e2 := Int32.le_iff_toInt_le.mp z
      rw [nI_toInt (by omega)] at e1
      rw [show (2 : Int32) = nI 2 from rfl, nI_toInt (by omega)] at e2
      omega
theorem M24_ok : M24 Rel := by
  rintro xc fa tr pm hm ⟨N, k, Ms, im, h⟩ a1 a2
  obtain ⟨hN, hC, hM, hz, hX, hG, hR⟩ := h.go
  have q0 := h.qn0 0
  have r0 := h.t0 0
  have t0 : up2 hm 81 0 0 81 0 = 0 := up2_at
  unfold f_X10_fall f_X9_fall
  simp only [lt]
  obtain ⟨y, ey⟩ : ∃ y, up2 hm 81 0 0 = y := ⟨_, rfl⟩
  rw [ey] at q0 r0 t0
  rw [ey, m_isArc hN q0.2.1, c_hasArc' hN hC]
  simp only [Option.bind_some]
  have thr : ∀ v : Int32, RelN N k Ms im xc fa tr pm (up2 y 81 0 v) ∧ up2 y 81 0 v 81 0 = v := fun v => ⟨r0.t0 v, up2_at⟩
  by_cases c : ∃ k, k < nM N ∧ a1 = nI k
  · obtain ⟨a, ha, rfl⟩ := id c
    rw [if_pos c, if_neg i1n0, if_neg i1n0]
    unfold f_X10_fall_J19
    simp only [lt, throws0, if_true]
    rw [show (2 : Int32) = nI 2 from rfl, m_in0 (by omega), show nI 2 = (2 : Int32) from rfl]
    rcases in02 a2 with c2 | ⟨c2, c3⟩
    · rw [if_pos c2, if_neg i1n0]
      unfold f_X10_fall_J41
      simp only [lt, throws0, if_true]
      rw [m_open hN q0.2.1 ha, c_isOpen hN hC ha]
      simp only [Option.bind_some]
      have d1 : ¬ a2 < 0 := by
        obtain ⟨j, hj, rfl⟩ := c2
        exact nI_pos (by omega)
      have d2 : a2 ≤ 2 := by
        obtain ⟨j, hj, rfl⟩ := c2
        exact nI_le (a := j) (b := 2) hj (by omega)
      rw [if_neg d1, if_pos d2]
      by_cases c4 : nO N a = true
      · rw [if_pos c4, if_neg i1n0, if_neg i1n0]
        unfold f_X10_fall_J62
        simp only [lt, throws0, if_true]
        obtain ⟨x, ex, x1, x2⟩ := shut_c h.cq ha
        obtain ⟨w, ew, w1, w2, w3⟩ := without_m hN q0 ha
        rw [ex, ew]
        simp only [Option.bind_some]
        have hr := ((h.fr x1).qn w1).rel
        have tw : w 81 0 = 0 := w2.trans t0
        obtain ⟨u0, u1, u2, u3⟩ := w3.uniq x2
        obtain ⟨j, hj, rfl⟩ := c2
        rcases (show j = 0 ∨ j = 1 ∨ j = 2 by omega) with rfl | rfl | rfl
        · exact ⟨_, if_pos rfl, _, if_pos rfl, hr, agr_L (hm := w) tw u1⟩
        · refine ⟨_, (if_neg (by decide)).trans (if_pos rfl), _, (if_neg (by decide)).trans (if_pos rfl), hr, agr_L (hm := w) tw u2⟩
        · refine ⟨_, (if_neg (by decide)).trans (if_neg (by decide)), _, (if_neg (by decide)).trans (if_neg (by decide)), hr, agr_L (hm := w) tw u3⟩
      · rw [if_neg c4, if_pos rfl, if_pos rfl]
        unfold f_X10_fall_J62
        simp only [lt, throws1]
        rw [if_neg i1n0]
        exact ⟨_, rfl, _, rfl, (thr 3).1.rel, agr_R3 (hm := up2 y 81 0 3) (thr 3).2 (by decide) (by decide)⟩
    · rw [if_neg c2, if_pos rfl]
      unfold f_X10_fall_J41
      simp only [lt, throws1]
      rw [if_neg i1n0]
      have ef : (if a2 < 0 then f_X9_fall_J31 fa tr xc else if a2 ≤ 2 then (if (if nO N a = true then (1 : Int32) else 0) = 0 then some (.inr 1, xc) else (f_X8_ifShut fa tr xc (nI a)).bind (fun y1 => if a2 = (0 : Int32) then (some (.inl (y1.1 70 1), y1)) else (if a2 = (1 : Int32) then (some (.inl (y1.1 70 2), y1)) else (some (.inl (y1.1 70 3), y1))))) else f_X9_fall_J31 fa tr xc) = some (.inr 3, xc) := by
        rcases c3 with c3 | ⟨c3, c4⟩
        · rw [if_pos c3]
          rfl
        · rw [if_neg c3, if_neg c4]
          rfl
      rw [c_isOpen hN hC ha]
      refine ⟨_, ef, _, rfl, (thr 2).1.rel, agr_R2 (hm := up2 y 81 0 2) (thr 2).2 (by decide)⟩
  · rw [if_neg c, if_pos rfl, if_pos rfl]
    unfold f_X10_fall_J19
    simp only [lt, throws1]
    rw [if_neg i1n0]
    exact ⟨_, rfl, _, rfl, (thr 1).1.rel, agr_R1 (hm := up2 y 81 0 1) (thr 1).2⟩
theorem M27_ok : M27 Rel := by
  rintro xc fa tr pm hm ⟨N, k, Ms, im, h⟩ a1 a2 a3
  obtain ⟨hN, hC, hM, hz, hX, hG, hR⟩ := h.go
  obtain ⟨y, q, hr, c⟩ := one_node h a1
  unfold f_X10_would f_X9_would
  rcases c with ⟨i, hi, hi16, rfl, e, t, c⟩ | ⟨e, t, c⟩
  · rw [e, if_neg c]
    simp only [Option.bind_some, if_true]
    obtain ⟨y2, q2, hr2, c2⟩ := one_node hr a2
    rcases c2 with ⟨j, hj, hj16, rfl, e2, t2, c2⟩ | ⟨e2, t2, c2⟩
    · rw [e2, if_neg c2]
      simp only [Option.bind_some, if_true]
      rw [show (2 : Int32) = nI 2 from rfl, m_in0 (by omega), show nI 2 = (2 : Int32) from rfl]
      rcases in02 a3 with c3 | ⟨c3, c4⟩
      · rw [if_pos c3, if_neg i1n0]
        unfold f_X10_would_J31
        simp only [lt, throws0, if_true]
        have d1 : ¬ a3 < 0 := by
          obtain ⟨j, hj, rfl⟩ := c3
          exact nI_pos (by omega)
        have d2 : a3 ≤ 2 := by
          obtain ⟨j, hj, rfl⟩ := c3
          exact nI_le (a := j) (b := 2) hj (by omega)
        rw [if_neg d1, if_pos d2]
        obtain ⟨x, ex, x1, x2⟩ := laid_c h.cq hi16 hj16
        obtain ⟨w, ew, w1, w2, w3⟩ := tries_m hN q2.n hi hj
        rw [ex, ew]
        simp only [Option.bind_some]
        have hrw := ((hr.fr x1).qn w1).rel
        have tw : w 81 0 = 0 := w2.trans t2
        obtain ⟨u0, u1, u2, u3⟩ := w3.uniq x2
        obtain ⟨j, hj, rfl⟩ := c3
        rcases (show j = 0 ∨ j = 1 ∨ j = 2 by omega) with rfl | rfl | rfl
        · exact ⟨_, if_pos rfl, _, if_pos rfl, hrw, agr_L (hm := w) tw u0⟩
        · refine ⟨_, (if_neg (by decide)).trans (if_pos rfl), _, (if_neg (by decide)).trans (if_pos rfl), hrw, agr_L (hm := w) tw u2⟩
        · refine ⟨_, (if_neg (by decide)).trans (if_neg (by decide)), _, (if_neg (by decide)).trans (if_neg (by decide)), hrw, agr_L (hm := w) tw u3⟩
      · rw [if_neg c3, if_pos rfl]
        unfold f_X10_would_J31
        simp only [lt, throws1]
        rw [if_neg i1n0]
        have tt := hr2.t0 2
        rcases c4 with c4 | ⟨c4, c5⟩
        · rw [if_pos c4]
          exact ⟨_, rfl, _, rfl, tt.rel, agr_R2 (hm := up2 y2 81 0 2) up2_at (by decide)⟩
        · rw [if_neg c4, if_neg c5]
          exact ⟨_, rfl, _, rfl, tt.rel, agr_R2 (hm := up2 y2 81 0 2) up2_at (by decide)⟩
    · rw [e2, if_pos c2]
      simp only [Option.bind_some]
      rw [if_neg i1n0]
      exact ⟨_, rfl, _, rfl, hr2.rel, agr_R1 t2⟩
  · rw [e, if_pos c]
    simp only [Option.bind_some]
    rw [if_neg i1n0]
    exact ⟨_, rfl, _, rfl, hr.rel, agr_R1 t⟩
/-! spare arcs -/
section
variable {N : aN} {hm y : gIH} {xc : gXH} {fa tr : Nat}
def SpI (N : aN) (a : Nat) : Prop := nO N a = true ∧ (∀ v, v < 16 → ¬ (Rc (Ed N 100) (fun s => s = nRt N) nox v ∧ ¬ Rc (Ed N a) (fun s => s = nRt N) nox v)) ∧ ∀ v, v < 16 → ¬ MvI (Ed N 100) (fun s => s = nRt N) (Ed N a) (fun s => s = nRt N) v
/-- without an arc that no way needs -/
theorem same_rc (hN : aOk N) {a : Nat} (h : ∀ X : Nat → Prop, Rc (Ed N a) (fun s => s = nRt N) X (nF N a) → ¬ X (nT N a) → Rc (Ed N a) (fun s => s = nRt N) X (nT N a)) (X : Nat → Prop) (v : Nat) : Rc (Ed N 100) (fun s => s = nRt N) X v ↔ Rc (Ed N a) (fun s => s = nRt N) X v := by
  refine ⟨fun z => ?_, fun z => z.full hN⟩
  refine z.ind (fun s a b => Rc.base a b) (fun u w _ p e x => ?_)
  by_cases c : u = nF N a ∧ w = nT N a
  · obtain ⟨rfl, rfl⟩ := c
    exact h X p x
  · exact Rc.step p (e.other c) x
theorem same_sp (hN : aOk N) {a : Nat} (ho : nO N a = true) (h : ∀ (X : Nat → Prop) (v : Nat), Rc (Ed N 100) (fun s => s = nRt N) X v ↔ Rc (Ed N a) (fun s => s = nRt N) X v) : SpI N a := by
  have hE : E16 (Ed N 100) := hN.e16n (k1 := 100) (k2 := 100)
  have hd : ∀ g v, Dm (Ed N 100) (fun s => s = nRt N) g v ↔ Dm (Ed N a) (fun s => s = nRt N) g v := fun g v => by
    unfold Dm
    rw [h, h]
  have hk : ∀ g v, IsK (Ed N 100) (fun s => s = nRt N) g v ↔ IsK (Ed N a) (fun s => s = nRt N) g v := fun g v => by
    unfold IsK
    simp only [hd]
  refine ⟨ho, fun v _ z => z.2 ((h _ _).mp z.1), fun v _ => ?_⟩
  rintro ⟨h1, h2, x, z, hx, hz, hne⟩
  have hz2 : KpI (Ed N 100) (fun s => s = nRt N) v z := ⟨fun k e => hz.1 k ((hk k v).mp e), fun e => hz.2 fun k w => e k ((hd k v).mpr w)⟩
  exact hne (hx.uniq hE hN.s16 hz2)
theorem kd_spare (hN : aOk N) {a : Nat} (ho : nO N a = true) (h : KdI N a = 1 ∨ KdI N a = 2) : SpI N a := by
  apply same_sp hN ho
  apply same_rc hN
  intro X hp hx
  rcases h with h | h
  · unfold KdI at h
    rw [if_pos ho] at h
    split at h
    · split at h
      · exact absurd h (by decide)
      · split at h
        · exact absurd h (by decide)
        · exact absurd h (by decide)
    · next hc => exact absurd (cb_t.mpr (hp.full hN).all) hc
  · obtain ⟨b1, b2, b3 | b3⟩ := kd_back.mp h
    · rw [← b3]
      exact hp
    · have : Rc (Ed N a) (fun s => s = nRt N) X (nT N a) ∨ Rc (Ed N 100) (fun s => s = nRt N) (fun s => s = nT N a) (nF N a) := by
        refine hp.ind (P := fun x => Rc (Ed N a) (fun s => s = nRt N) X (nT N a) ∨ Rc (Ed N 100) (fun s => s = nRt N) (fun s => s = nT N a) x) (fun s a1 b => ?_) (fun u w h1 p e x => ?_)
        · by_cases c : s = nT N a
          · left
            rw [← c]
            exact Rc.base a1 b
          · exact Or.inr (Rc.base a1 c)
        · rcases p with p | p
          · exact Or.inl p
          · by_cases c : w = nT N a
            · left
              rw [← c]
              exact Rc.step h1 e x
            · exact Or.inr (Rc.step p (e.imp (fun ⟨b, b1, b2, b3, b4, b5⟩ => ⟨b, b1, b2, by have := hN.m60; omega, b4, b5⟩) id) c)
      exact this.resolve_right b3.2.2
theorem ch_spare {a : Nat} {g l m f : Int32} (ho : nO N a = true) (h : ChI (Ed N 100) (fun s => s = nRt N) (Ed N a) (fun s => s = nRt N) g l m f) : SpI N a ↔ l = 0 ∧ m = 0 := by
  obtain ⟨-, ⟨l1, l2⟩, ⟨m1, m2⟩, -⟩ := h
  rw [l1.zero, m1.zero]
  constructor
  · rintro ⟨-, h1, h2⟩
    refine ⟨fun v hv => ?_, fun v hv => ?_⟩
    · rw [← Bool.not_eq_true, l2 v hv]
      exact h1 v hv
    · rw [← Bool.not_eq_true, m2 v hv]
      exact h2 v hv
  · rintro ⟨h1, h2⟩
    refine ⟨ho, fun v hv z => ?_, fun v hv z => ?_⟩
    · have := (l2 v hv).mpr z
      rw [h1 v hv] at this
      cases this
    · have := (m2 v hv).mpr z
      rw [h2 v hv] at this
      cases this
theorem spare_c (h : CQ N fa tr xc) {a : Nat} (ha : a < nM N) : ∃ x, f_X8_isSpare fa tr xc (nI a) = some (if cb (SpI N a) = true then 1 else 0, x) ∧ Fr (WS tr) xc x := by
  have hN := h.2.1
  unfold f_X8_isSpare
  rw [kind_c hN h.2.2.1 h.2.2.2.2.1 ha]
  simp only [lt]
  by_cases ho : nO N a = true
  · have n0 : ¬ KdI N a = 0 := fun z => by
      unfold KdI at z
      rw [if_pos ho] at z
      split at z
      · split at z
        · exact absurd z (by decide)
        · split at z
          · exact absurd z (by decide)
          · exact absurd z (by decide)
      · exact absurd z (by decide)
    rw [if_neg n0]
    by_cases c1 : KdI N a = 1
    · rw [if_pos c1, if_pos (cb_t.mpr (kd_spare hN ho (Or.inl c1)))]
      exact ⟨xc, rfl, Fr.rf⟩
    · rw [if_neg c1]
      by_cases c2 : KdI N a = 2
      · rw [if_pos c2, if_pos (cb_t.mpr (kd_spare hN ho (Or.inr c2)))]
        exact ⟨xc, rfl, Fr.rf⟩
      · rw [if_neg c2]
        obtain ⟨x, ex, x1, x2⟩ := shut_c h ha
        rw [ex]
        simp only [Option.bind_some]
        have hs := ch_spare ho x2
        refine ⟨x, ?_, x1⟩
        by_cases d1 : x.1 70 1 = 0
        · rw [if_pos d1]
          by_cases d2 : x.1 70 2 = 0
          · rw [if_pos d2, if_pos (cb_t.mpr (hs.mpr ⟨d1, d2⟩))]
          · rw [if_neg d2, if_neg (fun z => d2 (hs.mp (cb_t.mp z)).2)]
        · rw [if_neg d1, if_neg (fun z => d1 (hs.mp (cb_t.mp z)).1)]
  · have e0 : KdI N a = 0 := by
      unfold KdI
      rw [if_neg ho]
    rw [if_pos e0, if_neg (fun z => ho (cb_t.mp z).1)]
    exact ⟨xc, rfl, Fr.rf⟩
theorem spares_q (h : CQ N fa tr xc) (q : QN N hm y) : ∃ z x w, f_X8_spareArcs fa tr xc = some (z, x) ∧ Fr (WS tr) xc x ∧ f_X10_spareOnes y = some (z, w) ∧ QN N hm w := by
  have hN := h.2.1
  have h60 := hN.m60
  have key : ∃ z, lp (f_X8_spareArcs_L4 fa tr) 2000 (0, 0, xc) = some z ∧ z.1 = nI (fb_ct (fun a => cb (SpI N a)) (nM N)) ∧ Fr (WS tr) xc z.2 := by
    refine lp_for (step := f_X8_spareArcs_L4 fa tr) (nM N) (fun j s => s.2.1 = nI j ∧ s.1 = nI (fb_ct (fun a => cb (SpI N a)) j) ∧ Fr (WS tr) xc s.2.2) _ ?_ ?_ ⟨rfl, rfl, Fr.rf⟩ (by omega)
    · rintro j ⟨c, i, x⟩ hj ⟨h0, h1, h2⟩
      dsimp only at h0 h1 h2
      subst h0 h1
      have hx := h.fr h2
      unfold f_X8_spareArcs_L4
      dsimp only
      rw [hx.arcs, if_neg (nI_ge hj (by omega)), if_neg (show ¬ (60 : Int32) ≤ nI j from nI_ge (a := j) (b := 60) (by omega) (by omega))]
      obtain ⟨x', e', f'⟩ := spare_c hx hj
      rw [e']
      simp only [Option.bind_some, lt]
      by_cases c : SpI N j
      · rw [if_neg (by rw [bi01, cb_t.mpr c]; decide)]
        refine ⟨_, rfl, nI_1 j, ?_, h2.tr f'⟩
        dsimp only
        rw [nI_1, fb_ct_succ, if_pos (cb_t.mpr c)]
      · rw [if_pos (by rw [bi01]; exact cb_f.mpr c)]
        refine ⟨_, rfl, nI_1 j, ?_, h2.tr f'⟩
        dsimp only
        rw [fb_ct_succ, if_neg (fun z => c (cb_t.mp z))]
        rfl
    · rintro ⟨c, i, x⟩ ⟨h0, h1, h2⟩
      dsimp only at h0 h1 h2
      subst h0 h1
      unfold f_X8_spareArcs_L4
      dsimp only
      rw [(h.fr h2).arcs, if_pos (Int32.le_refl _)]
      exact ⟨_, rfl, rfl, h2⟩
  have key2 : ∃ z, lp f_X10_spareOnes_L4 2000 (0, 0, y) = some z ∧ z.1 = nI (fb_ct (fun a => cb (SpI N a)) (nM N)) ∧ QN N hm z.2 := by
    refine lp_for (step := f_X10_spareOnes_L4) (nM N) (fun j s => s.2.1 = nI j ∧ s.1 = nI (fb_ct (fun a => cb (SpI N a)) j) ∧ QN N hm s.2.2) _ ?_ ?_ ⟨rfl, rfl, q⟩ (by omega)
    · rintro j ⟨c, i, x⟩ hj ⟨h0, h1, h2⟩
      dsimp only at h0 h1 h2
      subst h0 h1
      unfold f_X10_spareOnes_L4
      dsimp only
      rw [m_arcs h2.2.1]
      simp only [Option.bind_some]
      rw [if_neg (nI_ge hj (by omega)), m_open hN h2.2.1 hj]
      simp only [Option.bind_some, lt]
      by_cases ho : nO N j = true
      · rw [if_neg (by rw [bi01, ho]; decide)]
        obtain ⟨w, ew, w1, w2, w3⟩ := without_m hN h2 hj
        rw [ew]
        simp only [Option.bind_some]
        have hs := ch_spare ho w3
        have no : ¬ SpI N j → nI (fb_ct (fun a => cb (SpI N a)) j) + 0 = nI (fb_ct (fun a => cb (SpI N a)) (j + 1)) := fun z => by
          rw [fb_ct_succ, if_neg (fun y => z (cb_t.mp y)), show (0 : Int32) = nI 0 from rfl, nI_add]
        by_cases d1 : w 81 37 = 0
        · rw [if_pos d1]
          by_cases d2 : w 81 38 = 0
          · rw [if_pos d2]
            refine ⟨_, rfl, nI_1 j, ?_, w1⟩
            dsimp only
            rw [nI_1, fb_ct_succ, if_pos (cb_t.mpr (hs.mpr ⟨d1, d2⟩))]
          · rw [if_neg d2]
            exact ⟨_, rfl, nI_1 j, no fun z => d2 (hs.mp z).2, w1⟩
        · rw [if_neg d1]
          exact ⟨_, rfl, nI_1 j, no fun z => d1 (hs.mp z).1, w1⟩
      · rw [if_pos (by rw [bi01]; simpa using ho)]
        refine ⟨_, rfl, nI_1 j, ?_, h2⟩
        dsimp only
        rw [fb_ct_succ, if_neg (fun z => ho (cb_t.mp z).1)]
        rfl
    · rintro ⟨c, i, x⟩ ⟨h0, h1, h2⟩
      dsimp only at h0 h1 h2
      subst h0 h1
      unfold f_X10_spareOnes_L4
      dsimp only
      rw [m_arcs h2.2.1]
      simp only [Option.bind_some]
      rw [if_pos (Int32.le_refl _)]
      exact ⟨_, rfl, rfl, h2⟩
  obtain ⟨z, ez, z1, z2⟩ := key
  obtain ⟨w, ew, w1, w2⟩ := key2
  refine ⟨z.1, z.2, w.2, ?_, z2, ?_, w2⟩
  · unfold f_X8_spareArcs
    rw [ez]
    rfl
  · unfold f_X10_spareOnes
    rw [ew]
    simp only [Option.bind_some]
    rw [w1, z1]
end
