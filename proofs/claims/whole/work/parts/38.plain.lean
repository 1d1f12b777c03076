/-! QUESTIONS, the plain ones -/
theorem RelN.t0 {N : aN} {k : Nat} {Ms : Nat → aN} {im : Option aN} {xc : gXH} {fa tr : Nat} {pm : Nat → Nat} {hm : gIH} (h : RelN N k Ms im xc fa tr pm hm) (v : Int32) : RelN N k Ms im xc fa tr pm (up2 hm 81 0 v) :=
  h.frM (FrM.s (by unfold WQ; omega)) (by rw [up2_at2 (Or.inr (by decide))]; exact h.2.2.2.2.2.2.2.2.2.1) (by rw [up2_at2 (Or.inr (by decide))]; exact h.2.2.2.2.2.2.2.2.2.2)
theorem M3_ok : M3 Rel := by
  rintro xc fa tr pm hm ⟨N, k, Ms, im, h⟩
  refine ⟨_, rfl, _, rfl, (h.t0 0).rel, ?_⟩
  show xc.1 0 10 = up2 hm 81 0 0 81 27
  rw [up2_at2 (Or.inr (by decide))]
  exact h.2.2.2.2.1.1
theorem M4_ok : M4 Rel := by
  rintro xc fa tr pm hm ⟨N, k, Ms, im, h⟩
  refine ⟨_, rfl, _, rfl, (h.t0 0).rel, ?_⟩
  show xc.1 0 11 = up2 hm 81 0 0 81 6
  rw [up2_at2 (Or.inr (by decide))]
  exact h.2.2.2.2.1.2
theorem agr_L {L : List Nat} {i r : Int32} {hm : gIH} (h1 : hm 81 0 = 0) (h2 : r = i) : Agr L (.inl i) r (f_X10_thrown hm) := agr_l h1 h2
theorem agr_R1 {L : List Nat} {k : Nat} {r : Int32} {hm : gIH} (h1 : hm 81 0 = 1) : Agr (k :: L) (.inr k) r (f_X10_thrown hm) := agr_r (h1.trans (by rw [List.idxOf_cons]; simp)) List.mem_cons_self
theorem agr_R2 {L : List Nat} {k k0 : Nat} {r : Int32} {hm : gIH} (h1 : hm 81 0 = 2) (hne : k0 ≠ k) : Agr (k0 :: k :: L) (.inr k) r (f_X10_thrown hm) := agr_r (h1.trans (by
  have e : (k0 == k) = false := beq_false_of_ne hne
  simp only [List.idxOf_cons, e, beq_self_eq_true, cond_false, cond_true]
  rfl)) (List.mem_cons_of_mem _ List.mem_cons_self)
theorem agr_R3 {L : List Nat} {k k0 k1 : Nat} {r : Int32} {hm : gIH} (h1 : hm 81 0 = 3) (hne : k0 ≠ k) (hne1 : k1 ≠ k) : Agr (k0 :: k1 :: k :: L) (.inr k) r (f_X10_thrown hm) := agr_r (h1.trans (by
  have e : (k0 == k) = false := beq_false_of_ne hne
  have e1 : (k1 == k) = false := beq_false_of_ne hne1
  simp only [List.idxOf_cons, e, e1, beq_self_eq_true, cond_false, cond_true]
  rfl)) (List.mem_cons_of_mem _ (List.mem_cons_of_mem _ List.mem_cons_self))
theorem M12_ok : M12 Rel := by
  rintro xc fa tr pm hm ⟨N, k, Ms, im, h⟩ a
  obtain ⟨l0, l1, l2, l3⟩ := h.2.2.2.2.2.1
  have e : ∀ j, j ≠ 0 → up2 hm 81 0 0 81 j = hm 81 j := fun j hj => up2_at2 (Or.inr hj)
  refine ⟨_, rfl, _, rfl, ?_⟩
  unfold f_X10_latest
  simp only [lt]
  rw [show (3 : Int32) = nI 3 from rfl, m_in0 (by omega)]
  by_cases c : ∃ k, k ≤ 3 ∧ a = nI k
  · rw [if_pos c, if_neg i1n0]
    unfold f_X10_latest_J20
    simp only [lt, throws0, if_true]
    obtain ⟨j, hj, rfl⟩ := c
    rcases (show j = 0 ∨ j = 1 ∨ j = 2 ∨ j = 3 by omega) with rfl | rfl | rfl | rfl
    · exact ⟨(h.t0 0).rel, agr_L (hm := up2 hm 81 0 0) up2_at ((e 16 (by decide)).trans l0.symm)⟩
    · exact ⟨(h.t0 0).rel, agr_L (hm := up2 hm 81 0 0) up2_at ((e 17 (by decide)).trans l1.symm)⟩
    · exact ⟨(h.t0 0).rel, agr_L (hm := up2 hm 81 0 0) up2_at ((e 18 (by decide)).trans l2.symm)⟩
    · exact ⟨(h.t0 0).rel, agr_L (hm := up2 hm 81 0 0) up2_at ((e 19 (by decide)).trans l3.symm)⟩
  · rw [if_neg c, if_pos rfl]
    unfold f_X10_latest_J20
    simp only [lt, throws1]
    rw [if_neg i1n0]
    have n0 : ¬ a = 0 := fun q => c ⟨0, by omega, q⟩
    have n1 : ¬ a = 1 := fun q => c ⟨1, by omega, q⟩
    have n2 : ¬ a = 2 := fun q => c ⟨2, by omega, q⟩
    have n3 : ¬ a = 3 := fun q => c ⟨3, by omega, q⟩
    have ef : f_X9_latest xc a = .inr 3 := by
      unfold f_X9_latest
      rw [if_neg n0, if_neg n1, if_neg n2, if_neg n3]
    rw [ef]
    exact ⟨((h.t0 0).t0 1).rel, agr_R1 (hm := up2 (up2 hm 81 0 0) 81 0 1) up2_at⟩
section
variable {xc : gXH} {g : Nat} {E : Nat → Nat → Prop} {S : Nat → Prop}
theorem GF.r0 (h : GF xc g E S) {v : Nat} (hv : v < 16) : f_X8_isReached g xc (nI v) = 0 ↔ ¬ Rc E S nox v := by
  unfold f_X8_isReached
  rw [has_eq _ (by omega), nb01, bi01, ← Bool.not_eq_true, h.1.2 v hv]
theorem GF.d1 (h : GF xc g E S) {v : Nat} (hv : v < 16) (hr : Rc E S nox v) : f_X3_depth g xc (nI v) = nI (dp E S v) := by
  unfold f_X3_depth
  rw [if_neg (by rw [has0 _ (by omega), (h.1.2 v hv).mpr hr]; decide), atv_n (L := 16) hv (by omega), bc_ct (h.2.1 v hv).1, ct_dm (h.2.1 v hv).2]
theorem GF.d0 (h : GF xc g E S) {v : Nat} (hv : v < 16) (hr : ¬ Rc E S nox v) : f_X3_depth g xc (nI v) = -1 := by
  unfold f_X3_depth
  rw [if_pos]
  rw [has0 _ (by omega), ← Bool.not_eq_true, h.1.2 v hv]
  exact hr
theorem GF.up (h : GF xc g E S) {v : Nat} (hv : v < 16) : S16 (f_X8_upTo g xc (nI v)) ∧ ∀ x, x < 16 → (bt (f_X8_upTo g xc (nI v)) x = true ↔ Rc E S nox v ∧ (Dm E S x v ∨ x = v)) := by
  unfold f_X8_upTo
  by_cases hr : Rc E S nox v
  · rw [if_neg (fun q => (h.r0 hv).mp q hr), atv_n (L := 16) hv (by omega)]
    obtain ⟨b1, b2⟩ := bt_set (s := xc.1 (g + 2) v) hv (h.2.1 v hv).1
    refine ⟨b1, fun x hx => ?_⟩
    show bt (xc.1 (g + 2) v ||| (1 : Int32) <<< (nI v &&& 31)) x = true ↔ _
    rw [b2, (h.2.1 v hv).2 x hx]
    exact ⟨fun q => ⟨hr, q⟩, fun q => q.2⟩
  · rw [if_pos ((h.r0 hv).mpr hr)]
    refine ⟨s16_0, fun x _ => ?_⟩
    rw [b_0]
    exact ⟨fun q => (by cases q), fun q => absurd q.1 hr⟩
end
section
variable {hm : gIH} {E : Nat → Nat → Prop} {S : Nat → Prop}
theorem MF.r0 (h : MF hm E S) {v : Nat} (hv : v < 16) : f_X10_holds (hm 81 11) (nI v) = 0 ↔ ¬ Rc E S nox v := by
  rw [holds0 _ (by omega), ← Bool.not_eq_true, h.1.2 v hv]
theorem MF.keeps (h : MF hm E S) {a b : Nat} (ha : a < 16) (hb : b < 16) : f_X10_keepsOne hm (nI a) (nI b) = some (if cb (Dm E S a b) = true then 1 else 0) := by
  unfold f_X10_keepsOne
  rw [gck_ni hb (by omega), nI_clamp (by omega), holds_eq _ (by omega), nb01]
  have := (h.2.1 b hb).2 a ha
  by_cases q : Dm E S a b
  · rw [if_pos (this.mpr q), if_pos (cb_t.mpr q)]
  · rw [if_neg (fun z => q (this.mp z)), if_neg (fun z => q (cb_t.mp z))]
end
theorem M14_ok : M14 Rel := by
  rintro xc fa tr pm hm ⟨N, k, Ms, im, h⟩ a1 a2
  have hN := h.2.1.1
  have hC := h.2.1.2.1
  have hG := h.2.2.2.2.2.2.2.2.1.2.1
  obtain ⟨y, e, q, t⟩ := noNode_ok hN h.2.1.2.2 h.2.2.2.2.2.2.2.2.2.1 h.2.2.2.2.2.2.2.2.2.2 a1
  refine ⟨_, rfl, ?_⟩
  unfold f_X10_keeps f_X9_keeps
  rw [e, c_hasNode hN hC, c_hasNode hN hC]
  simp only [Option.bind_some]
  by_cases c1 : ∃ k, k < nN N ∧ a1 = nI k
  · rw [if_pos c1] at t
    simp only [if_pos c1, if_neg i1n0, if_true]
    obtain ⟨y2, e2, q2, t2⟩ := noNode_ok hN q.2.1 q.2.2.2.1 q.2.2.2.2 a2
    rw [e2]
    simp only [Option.bind_some]
    by_cases c2 : ∃ k, k < nN N ∧ a2 = nI k
    · rw [if_pos c2] at t2
      simp only [if_pos c2, if_neg i1n0, if_true]
      obtain ⟨i, hi, rfl⟩ := c1
      obtain ⟨j, hj, rfl⟩ := c2
      have hi16 : i < 16 := by have := hN.n16; omega
      have hj16 : j < 16 := by have := hN.n16; omega
      rw [q2.2.2.1.keeps hi16 hj16]
      simp only [Option.bind_some]
      rw [atv_n (L := 16) hi16 (by omega), has_eq _ (by omega), nb01]
      have hb := (hG.2.2.1 i hi16).2 j hj16
      by_cases c : Dm (Ed N 100) (fun s => s = nRt N) i j
      · rw [if_pos (cb_t.mpr c), if_neg i1n0, if_pos (hb.mpr c)]
        exact ⟨_, rfl, ((h.q q).q (QM.tr FrM.rf q2)).rel, agr_L t2 rfl⟩
      · rw [if_neg (fun z => c (cb_t.mp z)), if_pos rfl, if_neg (fun z => c (hb.mp z))]
        exact ⟨_, rfl, ((h.q q).q (QM.tr FrM.rf q2)).rel, agr_L t2 rfl⟩
    · rw [if_neg c2] at t2
      simp only [if_neg c2, if_neg i1n0, if_true]
      exact ⟨_, rfl, ((h.q q).q (QM.tr FrM.rf q2)).rel, agr_R1 t2⟩
  · rw [if_neg c1] at t
    simp only [if_neg c1, if_neg i1n0, if_true]
    exact ⟨_, rfl, (h.q q).rel, agr_R1 t⟩
