/-! THE ACTS BY CALLS -/
section
variable {N N' : aN} {k : Nat} {Ms : Nat → aN} {im : Option aN} {xc : gXH} {fa tr : Nat} {pm : Nat → Nat} {hm : gIH}
theorem doneY {a1 a2 a3 : Int32} {o : Int32 × gXH × Nat × Nat × (Nat → Nat)} (hr : f_X6_refusal xc a1 a2 a3 = 0) (e : (f_X5_push fa tr pm (sI xc 0 11 0)).bind (fun y2 => gnG y2.2.1 y2.2.2.1 ((f_X6_perform y2.1 a1 a2 a3).bind (fun y4 => (f_X8_renew y2.2.1 y2.2.2.1 y2.2.2.2 y4).bind (fun y5 => gnG y5.2.1 y5.2.2.1 (some ((1 : Int32), y5.1, y5.2.1, y5.2.2.1, y5.2.2.2)))))) = some o) : f_X9_isDone fa tr pm xc a1 a2 a3 = some o := by
  unfold f_X9_isDone
  simp only [lt]
  rw [hr, if_pos sI_at]
  exact e
theorem doneN {a1 a2 a3 r : Int32} (hr : f_X6_refusal xc a1 a2 a3 = r) (h0 : r ≠ 0) : f_X9_isDone fa tr pm xc a1 a2 a3 = some (0, sI xc 0 11 r, fa, tr, pm) := by
  unfold f_X9_isDone
  simp only [lt]
  rw [hr, if_neg (by rw [sI_at]; exact h0)]
theorem refN {r : Nat} (hr : 0 < r) (hr4 : r < 100) {x : gIH} {c : Int32} : f_X10_isRefused x (nI r) c = some (1, up2 (up2 x 81 6 (nI r)) 81 0 c) := by
  unfold f_X10_isRefused
  simp only [lt]
  rw [if_neg (show ¬ nI r ≤ (0 : Int32) from nI_ge (a := 0) (b := r) hr (by omega))]
  unfold f_X10_isRefused_J15
  simp only [lt, throws1]
  rw [if_neg i1n0]
theorem refY {x y : gIH} {c : Int32} (e : f_X10_remembers (up2 x 81 6 0) = some y) : f_X10_isRefused x 0 c = some (0, y) := by
  unfold f_X10_isRefused
  simp only [lt]
  rw [if_pos (Int32.le_refl _)]
  unfold f_X10_isRefused_J15
  simp only [lt, throws0]
  rw [if_pos trivial, e]
  rfl
theorem refuse_rel (h : RelN N k Ms im xc fa tr pm hm) (r c : Int32) : RelN N k Ms im (sI xc 0 11 r) fa tr pm (up2 (up2 (up2 hm 81 0 0) 81 6 r) 81 0 c) := by
  obtain ⟨hp, ⟨hN, hC, hM⟩, ⟨k8, kc, km, hs⟩, q4, q5, q6, q7, q9, ⟨hX, hG, hR⟩, h8, h10⟩ := id h
  have f : Fr (fun c => c = 0) xc (sI xc 0 11 r) := Fr.s rfl
  obtain ⟨m, em⟩ : ∃ m, up2 (up2 (up2 hm 81 0 0) 81 6 r) 81 0 c = m := ⟨_, rfl⟩
  have g : FrM (fun c j => c = 81 ∧ (j = 0 ∨ j = 6)) hm m := by
    rw [← em]
    exact ((FrM.s (W := fun c j => c = 81 ∧ (j = 0 ∨ j = 6)) (by omega)).tr (FrM.s (by omega))).tr (FrM.s (by omega))
  have g6 : m 81 6 = r := by rw [← em, up2_at2 (Or.inr (by decide)), up2_at]
  rw [em]
  have hpl : ∀ i, i < 8 → 21 ≤ pm i ∧ pm i ≤ 49 := fun i hi => hp.1.pml hi
  have hfa : fa = 71 ∨ fa = 76 := by
    rcases hp.1.1 with h | h <;> omega
  refine h.next hp ⟨hN, hC.fr f (fun c _ _ => by omega), hM.fr g (fun j => by omega)⟩ ⟨k8, ?_, ?_, fun i hi => ⟨(hs i hi).1, ?_, ?_⟩⟩ (fun c hc => f.1 c (by omega)) rfl ⟨sI_at2 (by decide), sI_at2 (by decide)⟩ (fun c j hc => g c j (by omega)) ?_ ?_ ⟨?_, ?_, ?_⟩ ?_ ?_
  · rw [f.1 19 (by omega)]
    exact kc
  · rw [g 81 5 (by omega)]
    exact km
  · have := hpl i (by omega)
    exact (hs i hi).2.1.fr f (fun c _ _ => by omega)
  · exact (hs i hi).2.2.fr g (fun j => by omega)
  · rw [sI_at, g6]
  · rw [f.1 53 (by omega), g 81 16 (by omega), g 81 17 (by omega), g 81 18 (by omega), g 81 19 (by omega)]
    exact q6
  · exact hX.cg (f.1 _ (by omega))
  · exact hG.fr f (fun c _ _ => by omega)
  · exact NX.cg hR (f.1 60 (by omega))
  · rw [g 81 8 (by omega)]
    exact h8
  · rw [g 81 10 (by omega)]
    exact h10
theorem hasN_c (h : RelN N k Ms im xc fa tr pm hm) (a : Int32) : (∃ i, i < nN N ∧ i < 16 ∧ a = nI i ∧ ¬ f_X6_hasNode xc a = 0 ∧ f_X10_isNode (up2 hm 81 0 0) a = some 1) ∨ (f_X6_hasNode xc a = 0 ∧ f_X10_isNode (up2 hm 81 0 0) a = some 0) := by
  have hN := h.go.1
  have hC := h.go.2.1
  have hn := hN.n16
  have q := h.qn0 0
  rw [c_hasNode hN hC, m_isNode hN q.2.1]
  by_cases c : ∃ k, k < nN N ∧ a = nI k
  · rw [if_pos c]
    obtain ⟨i, hi, e⟩ := c
    exact Or.inl ⟨i, hi, by omega, e, i1n0, rfl⟩
  · rw [if_neg c]
    exact Or.inr ⟨rfl, rfl⟩
theorem nI_nz {r : Nat} (h0 : 0 < r) (h : r < 2 ^ 31) : nI r ≠ 0 := fun z => by
  have := (nI_eq (a := r) (b := 0) h (by omega)).mp z
  omega

theorem tell1_q (h : RelN N k Ms im xc fa tr pm hm) (a1 : Int32) : ∃ o, (f_X9_isDone fa tr pm xc 1 a1 (0 : Int32)).bind (fun y1 => gnG y1.2.2.1 y1.2.2.2.1 (if y1.1 = (0 : Int32) then (some ((Sum.inr 1 : Int32 ⊕ Nat), y1.2.1, y1.2.2.1, y1.2.2.2.1, y1.2.2.2.2)) else (some (.inl (xc.1 7 4), y1.2.1, y1.2.2.1, y1.2.2.2.1, y1.2.2.2.2)))) = some o ∧ ∃ z, f_X10_tell_J14 (up2 hm 81 0 0) a1 1 = some z ∧ Rel o.2.1 o.2.2.1 o.2.2.2.1 o.2.2.2.2 z.2 ∧ Agr [1] o.1 z.1 (f_X10_thrown z.2) := by
  have hN := h.go.1
  have hC := h.go.2.1
  have hM := h.go.2.2.1
  have hn := hN.n16
  have hcf := h.1.1.1
  have q := h.qn0 0
  have bad : ∀ r, 0 < r → r < 100 → f_X6_refusal xc 1 a1 0 = nI r → f_X10_whyNoTell (up2 hm 81 0 0) a1 1 = some (nI r) → ∃ o, (f_X9_isDone fa tr pm xc 1 a1 (0 : Int32)).bind (fun y1 => gnG y1.2.2.1 y1.2.2.2.1 (if y1.1 = (0 : Int32) then (some ((Sum.inr 1 : Int32 ⊕ Nat), y1.2.1, y1.2.2.1, y1.2.2.2.1, y1.2.2.2.2)) else (some (.inl (xc.1 7 4), y1.2.1, y1.2.2.1, y1.2.2.2.1, y1.2.2.2.2)))) = some o ∧ ∃ z, f_X10_tell_J14 (up2 hm 81 0 0) a1 1 = some z ∧ Rel o.2.1 o.2.2.1 o.2.2.2.1 o.2.2.2.2 z.2 ∧ Agr [1] o.1 z.1 (f_X10_thrown z.2) := fun r r0 r1 e1 e2 => by
    rw [doneN e1 (nI_nz r0 (by omega))]
    simp only [Option.bind_some]
    rw [gnG_ok hcf, if_pos trivial]
    refine ⟨_, rfl, ?_⟩
    unfold f_X10_tell_J14
    rw [e2]
    simp only [Option.bind_some]
    rw [refN r0 r1]
    simp only [Option.bind_some]
    rw [if_neg i1n0]
    exact ⟨_, rfl, (refuse_rel h (nI r) 1).rel, agr_R1 (hm := up2 (up2 (up2 hm 81 0 0) 81 6 (nI r)) 81 0 1) up2_at⟩
  have e200 : ∀ {α : Type} (t : Option α), gck 200 (1 : Int32) t = t := fun t => gck_ni (L := 200) (i := 1) (by omega) (by omega)
  have ecl : (1 : Int32).toNatClampNeg = 1 := nI_clamp (n := 1) (by omega)
  have ev : up2 hm 81 0 0 82 1 = nI (nRt N) := by
    rw [up2_at2 (Or.inl (by decide))]
    exact (MNet.z.mp hM).2.1
  have vc : xc.1 7 4 = nI (nRt N) := hC.2.1
  rcases hasN_c h a1 with ⟨i, hi, hi16, rfl, c1, c2⟩ | ⟨c1, c2⟩
  · by_cases c : nRt N = i
    · refine bad 4 (by omega) (by omega) ?_ ?_
      · unfold f_X6_refusal
        rw [if_pos rfl, if_pos (by rw [vc, c])]
        unfold f_X6_refusal_J55 f_X6_refusalOfNode
        rw [if_neg c1, if_neg i1n0]
        rfl
      · unfold f_X10_whyNoTell
        rw [c2]
        simp only [Option.bind_some]
        rw [if_neg i1n0, e200, ecl, ev, if_pos (by rw [c])]
        rfl
    · have hr : f_X6_refusal xc 1 (nI i) 0 = 0 := by
        unfold f_X6_refusal
        rw [if_pos rfl, if_neg (by rw [vc, nI_eq (by have := hN.r16; have := hN.e16'; omega) (by omega)]; exact c)]
        unfold f_X6_refusal_J55 f_X6_refusalOfNode
        rw [if_neg c1, if_pos rfl]
      obtain ⟨y, ey, hCy, m1, em1, hM1, hh⟩ := act_ok h (aRoot.ok hN hi) rfl (fun x => f_X6_perform x 1 (nI i) 0) (fun x hx => by
        refine ⟨_, ?_, root_c hx i⟩
        unfold f_X6_perform
        rw [if_neg (by decide), if_pos rfl]
        rfl)
      rw [doneY hr ey]
      simp only [Option.bind_some]
      rw [gnG_ok (show (tr = 71 ∧ fa = 76) ∨ (tr = 76 ∧ fa = 71) by omega), if_neg i1n0]
      refine ⟨_, rfl, ?_⟩
      have ew : f_X10_whyNoTell (up2 hm 81 0 0) (nI i) 1 = some 0 := by
        unfold f_X10_whyNoTell
        rw [c2]
        simp only [Option.bind_some]
        rw [if_neg i1n0, e200, ecl, ev, if_neg (by rw [nI_eq (by have := hN.r16; have := hN.e16'; omega) (by omega)]; exact c)]
      unfold f_X10_tell_J14
      rw [ew]
      simp only [Option.bind_some]
      rw [refY em1]
      simp only [Option.bind_some]
      rw [if_pos trivial, e200]
      simp only [lt]
      rw [e200, ecl]
      obtain ⟨m3, em3, r3, t3, -⟩ := hh _ (root_m hM1 i) (FrM.s rfl)
      rw [em3]
      refine ⟨_, rfl, r3.rel, agr_L (hm := m3) t3 ?_⟩
      rw [vc]
      exact (MNet.z.mp hM1).2.1
  · refine bad 1 (by omega) (by omega) ?_ ?_
    · unfold f_X6_refusal
      rw [if_pos rfl]
      have e : ∀ t, f_X6_refusalOfNode xc a1 t = nI 1 := fun t => by
        unfold f_X6_refusalOfNode
        rw [if_pos c1]
        rfl
      unfold f_X6_refusal_J55
      rw [e, e]
      split <;> rfl
    · unfold f_X10_whyNoTell
      rw [c2]
      simp only [Option.bind_some]
      rw [if_pos trivial]
      rfl

theorem tell2_q (h : RelN N k Ms im xc fa tr pm hm) (a1 : Int32) : ∃ o, (f_X9_isDone fa tr pm xc 2 a1 (0 : Int32)).bind (fun y1 => gnG y1.2.2.1 y1.2.2.2.1 (if y1.1 = (0 : Int32) then (some ((Sum.inr 1 : Int32 ⊕ Nat), y1.2.1, y1.2.2.1, y1.2.2.2.1, y1.2.2.2.2)) else (some (.inl (xc.1 7 5), y1.2.1, y1.2.2.1, y1.2.2.2.1, y1.2.2.2.2)))) = some o ∧ ∃ z, f_X10_tell_J14 (up2 hm 81 0 0) a1 2 = some z ∧ Rel o.2.1 o.2.2.1 o.2.2.2.1 o.2.2.2.2 z.2 ∧ Agr [1] o.1 z.1 (f_X10_thrown z.2) := by
  have hN := h.go.1
  have hC := h.go.2.1
  have hM := h.go.2.2.1
  have hn := hN.n16
  have hcf := h.1.1.1
  have q := h.qn0 0
  have bad : ∀ r, 0 < r → r < 100 → f_X6_refusal xc 2 a1 0 = nI r → f_X10_whyNoTell (up2 hm 81 0 0) a1 2 = some (nI r) → ∃ o, (f_X9_isDone fa tr pm xc 2 a1 (0 : Int32)).bind (fun y1 => gnG y1.2.2.1 y1.2.2.2.1 (if y1.1 = (0 : Int32) then (some ((Sum.inr 1 : Int32 ⊕ Nat), y1.2.1, y1.2.2.1, y1.2.2.2.1, y1.2.2.2.2)) else (some (.inl (xc.1 7 5), y1.2.1, y1.2.2.1, y1.2.2.2.1, y1.2.2.2.2)))) = some o ∧ ∃ z, f_X10_tell_J14 (up2 hm 81 0 0) a1 2 = some z ∧ Rel o.2.1 o.2.2.1 o.2.2.2.1 o.2.2.2.2 z.2 ∧ Agr [1] o.1 z.1 (f_X10_thrown z.2) := fun r r0 r1 e1 e2 => by
    rw [doneN e1 (nI_nz r0 (by omega))]
    simp only [Option.bind_some]
    rw [gnG_ok hcf, if_pos trivial]
    refine ⟨_, rfl, ?_⟩
    unfold f_X10_tell_J14
    rw [e2]
    simp only [Option.bind_some]
    rw [refN r0 r1]
    simp only [Option.bind_some]
    rw [if_neg i1n0]
    exact ⟨_, rfl, (refuse_rel h (nI r) 1).rel, agr_R1 (hm := up2 (up2 (up2 hm 81 0 0) 81 6 (nI r)) 81 0 1) up2_at⟩
  have e200 : ∀ {α : Type} (t : Option α), gck 200 (2 : Int32) t = t := fun t => gck_ni (L := 200) (i := 2) (by omega) (by omega)
  have ecl : (2 : Int32).toNatClampNeg = 2 := nI_clamp (n := 2) (by omega)
  have ev : up2 hm 81 0 0 82 2 = nI (nEx N) := by
    rw [up2_at2 (Or.inl (by decide))]
    exact (MNet.z.mp hM).2.2.1
  have vc : xc.1 7 5 = nI (nEx N) := hC.2.2.1
  rcases hasN_c h a1 with ⟨i, hi, hi16, rfl, c1, c2⟩ | ⟨c1, c2⟩
  · by_cases c : nEx N = i
    · refine bad 4 (by omega) (by omega) ?_ ?_
      · unfold f_X6_refusal
        rw [if_neg (by decide), if_pos rfl, if_pos (by rw [vc, c])]
        unfold f_X6_refusal_J74 f_X6_refusalOfNode
        rw [if_neg c1, if_neg i1n0]
        rfl
      · unfold f_X10_whyNoTell
        rw [c2]
        simp only [Option.bind_some]
        rw [if_neg i1n0, e200, ecl, ev, if_pos (by rw [c])]
        rfl
    · have hr : f_X6_refusal xc 2 (nI i) 0 = 0 := by
        unfold f_X6_refusal
        rw [if_neg (by decide), if_pos rfl, if_neg (by rw [vc, nI_eq (by have := hN.r16; have := hN.e16'; omega) (by omega)]; exact c)]
        unfold f_X6_refusal_J74 f_X6_refusalOfNode
        rw [if_neg c1, if_pos rfl]
      obtain ⟨y, ey, hCy, m1, em1, hM1, hh⟩ := act_ok h (aExit.ok hN hi) rfl (fun x => f_X6_perform x 2 (nI i) 0) (fun x hx => by
        refine ⟨_, ?_, exit_c hx i⟩
        unfold f_X6_perform
        rw [if_neg (by decide), if_neg (by decide), if_pos rfl]
        rfl)
      rw [doneY hr ey]
      simp only [Option.bind_some]
      rw [gnG_ok (show (tr = 71 ∧ fa = 76) ∨ (tr = 76 ∧ fa = 71) by omega), if_neg i1n0]
      refine ⟨_, rfl, ?_⟩
      have ew : f_X10_whyNoTell (up2 hm 81 0 0) (nI i) 2 = some 0 := by
        unfold f_X10_whyNoTell
        rw [c2]
        simp only [Option.bind_some]
        rw [if_neg i1n0, e200, ecl, ev, if_neg (by rw [nI_eq (by have := hN.r16; have := hN.e16'; omega) (by omega)]; exact c)]
      unfold f_X10_tell_J14
      rw [ew]
      simp only [Option.bind_some]
      rw [refY em1]
      simp only [Option.bind_some]
      rw [if_pos trivial, e200]
      simp only [lt]
      rw [e200, ecl]
      obtain ⟨m3, em3, r3, t3, -⟩ := hh _ (exit_m hM1 i) (FrM.s rfl)
      rw [em3]
      refine ⟨_, rfl, r3.rel, agr_L (hm := m3) t3 ?_⟩
      rw [vc]
      exact (MNet.z.mp hM1).2.2.1
  · refine bad 1 (by omega) (by omega) ?_ ?_
    · unfold f_X6_refusal
      rw [if_neg (by decide), if_pos rfl]
      have e : ∀ t, f_X6_refusalOfNode xc a1 t = nI 1 := fun t => by
        unfold f_X6_refusalOfNode
        rw [if_pos c1]
        rfl
      unfold f_X6_refusal_J74
      rw [e, e]
      split <;> rfl
    · unfold f_X10_whyNoTell
      rw [c2]
      simp only [Option.bind_some]
      rw [if_pos trivial]
      rfl
end
theorem M6_ok : M6 Rel := by
  rintro xc fa tr pm hm ⟨N, k, Ms, im, h⟩ a1 a2 h2
  have hcf := h.1.1.1
  unfold f_X10_tell f_X9_tell
  simp only [lt]
  rcases h2 with rfl | rfl
  · rw [if_pos rfl, if_pos rfl]
    unfold f_X9_tell_J21 f_X9_tell_J32
    rw [gnG_ok hcf, if_pos rfl, gnG_ok hcf]
    exact tell1_q h a1
  · rw [if_neg i1n0, if_neg i1n0]
    unfold f_X9_tell_J21 f_X9_tell_J32
    rw [gnG_ok hcf, if_neg i1n0, gnG_ok hcf]
    exact tell2_q h a1
