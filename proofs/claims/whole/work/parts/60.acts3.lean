theorem in99 (a : Int32) : (∃ k, k ≤ 99 ∧ a = nI k) ∨ ((¬ ∃ k, k ≤ 99 ∧ a = nI k) ∧ (a < 0 ∨ (¬ a < 0 ∧ ¬ a ≤ 99))) := by
  rcases num_cases a (n := 100) (by omega) with ⟨k, hk, e⟩ | ⟨h1, h2⟩
  · exact Or.inl ⟨k, by omega, e⟩
  · refine Or.inr ⟨fun ⟨k, hk, e⟩ => h1 k (by omega) e, ?_⟩
    rcases h2 with h2 | ⟨h2, h3⟩
    · exact Or.inl h2
    · refine Or.inr ⟨h2, fun z => ?_⟩
      have e1 := Int32.le_iff_toInt_le.mp h3
      have e2 := Int32.le_iff_toInt_le.mp z
      rw [nI_toInt (by omega)] at e1
      rw [show (99 : Int32) = nI 99 from rfl, nI_toInt (by omega)] at e2
      omega
theorem M7_ok : M7 Rel := by
  rintro xc fa tr pm hm ⟨N, k, Ms, im, h⟩ a1 a2
  have hN := h.go.1
  have hC := h.go.2.1
  have hM := h.go.2.2.1
  have hn := hN.n16
  have h60 := hN.m60
  have hcf := h.1.1.1
  have q := h.qn0 0
  have bad : ∀ r, 0 < r → r < 100 → f_X6_refusal xc 3 a1 a2 = nI r → f_X10_whyNoLay (up2 hm 81 0 0) a1 a2 = some (nI r) → ∃ o, f_X9_lay fa tr pm xc a1 a2 = some o ∧ ∃ z, f_X10_lay hm a1 a2 = some z ∧ Rel o.2.1 o.2.2.1 o.2.2.2.1 o.2.2.2.2 z.2 ∧ Agr [1] o.1 z.1 (f_X10_thrown z.2) := fun r r0 r1 e1 e2 => by
    unfold f_X9_lay
    rw [doneN e1 (nI_nz r0 (by omega))]
    simp only [Option.bind_some]
    rw [gnG_ok hcf, if_pos trivial]
    refine ⟨_, rfl, ?_⟩
    unfold f_X10_lay
    simp only [lt]
    rw [e2]
    simp only [Option.bind_some]
    rw [refN r0 r1]
    simp only [Option.bind_some]
    rw [if_neg i1n0]
    exact ⟨_, rfl, (refuse_rel h (nI r) 1).rel, agr_R1 (hm := up2 (up2 (up2 hm 81 0 0) 81 6 (nI r)) 81 0 1) up2_at⟩
  have v6 : xc.1 7 6 = nI (nM N) := hC.2.2.2.1
  rcases hasN_c h a1 with ⟨i, hi, hi16, rfl, c1, c2⟩ | ⟨c1, c2⟩
  · rcases hasN_c h a2 with ⟨j, hj, hj16, rfl, d1, d2⟩ | ⟨d1, d2⟩
    · by_cases c : nM N = 60
      · refine bad 2 (by omega) (by omega) ?_ ?_
        · unfold f_X6_refusal
          rw [if_neg (by decide), if_neg (by decide), if_pos rfl, if_neg c1, if_neg d1, v6, if_neg (show ¬ nI (nM N) < (60 : Int32) from nI_nlt (a := nM N) (b := 60) (by omega) (by omega))]
          rfl
        · unfold f_X10_whyNoLay
          rw [c2]
          simp only [Option.bind_some]
          rw [if_neg i1n0, d2]
          simp only [Option.bind_some]
          rw [if_neg i1n0, m_arcs q.2.1]
          simp only [Option.bind_some]
          rw [if_pos (show nI (nM N) = (60 : Int32) by rw [c]; rfl)]
          rfl
      · have hr : f_X6_refusal xc 3 (nI i) (nI j) = 0 := by
          unfold f_X6_refusal
          rw [if_neg (by decide), if_neg (by decide), if_pos rfl, if_neg c1, if_neg d1, v6, if_pos (show nI (nM N) < (60 : Int32) from nI_lt (a := nM N) (b := 60) (by omega) (by omega))]
        obtain ⟨y, ey, hCy, m1, em1, hM1, hh⟩ := act_ok h (aLay.ok hN hi hj (by omega)) rfl (fun x => f_X6_perform x 3 (nI i) (nI j)) (fun x hx => by
          refine ⟨_, ?_, lay_c hx (by omega) i j⟩
          unfold f_X6_perform
          rw [if_neg (by decide), if_neg (by decide), if_neg (by decide), if_pos rfl]
          rfl)
        unfold f_X9_lay
        rw [doneY hr ey]
        simp only [Option.bind_some]
        rw [gnG_ok (show (tr = 71 ∧ fa = 76) ∨ (tr = 76 ∧ fa = 71) by omega), if_neg i1n0]
        refine ⟨_, rfl, ?_⟩
        have ew : f_X10_whyNoLay (up2 hm 81 0 0) (nI i) (nI j) = some 0 := by
          unfold f_X10_whyNoLay
          rw [c2]
          simp only [Option.bind_some]
          rw [if_neg i1n0, d2]
          simp only [Option.bind_some]
          rw [if_neg i1n0, m_arcs q.2.1]
          simp only [Option.bind_some]
          rw [if_neg (show ¬ nI (nM N) = (60 : Int32) from fun z => c ((nI_eq (a := nM N) (b := 60) (by omega) (by omega)).mp z))]
        unfold f_X10_lay
        simp only [lt]
        rw [ew]
        simp only [Option.bind_some]
        rw [refY em1]
        simp only [Option.bind_some]
        rw [if_pos trivial]
        obtain ⟨m2, em2, hM2, f2⟩ := lay_m hM1 (by omega) i j
        rw [em2]
        simp only [Option.bind_some]
        obtain ⟨m3, em3, r3, t3, -⟩ := hh m2 hM2 f2
        rw [em3]
        refine ⟨_, rfl, r3.rel, agr_L (hm := m3) t3 ?_⟩
        have v := hCy.2.2.2.1
        show nI (nM N) = y.1 7 6 - 1
        rw [v]
        exact (sub_n (a := nM N + 1) (b := 1) (by omega)).symm
    · refine bad 1 (by omega) (by omega) ?_ ?_
      · unfold f_X6_refusal
        rw [if_neg (by decide), if_neg (by decide), if_pos rfl, if_neg c1, if_pos d1]
        rfl
      · unfold f_X10_whyNoLay
        rw [c2]
        simp only [Option.bind_some]
        rw [if_neg i1n0, d2]
        simp only [Option.bind_some]
        rw [if_pos trivial]
        rfl
  · refine bad 1 (by omega) (by omega) ?_ ?_
    · unfold f_X6_refusal
      rw [if_neg (by decide), if_neg (by decide), if_pos rfl, if_pos c1]
      rfl
    · unfold f_X10_whyNoLay
      rw [c2]
      simp only [Option.bind_some]
      rw [if_pos trivial]
      rfl
theorem hasA_c {N : aN} {k : Nat} {Ms : Nat → aN} {im : Option aN} {xc : gXH} {fa tr : Nat} {pm : Nat → Nat} {hm : gIH} (h : RelN N k Ms im xc fa tr pm hm) (a : Int32) : (∃ i, i < nM N ∧ i < 60 ∧ a = nI i ∧ ¬ f_X6_hasArc xc a = 0 ∧ f_X10_isArc (up2 hm 81 0 0) a = some 1) ∨ (f_X6_hasArc xc a = 0 ∧ f_X10_isArc (up2 hm 81 0 0) a = some 0) := by
  have hN := h.go.1
  have hC := h.go.2.1
  have hn := hN.m60
  have q := h.qn0 0
  rw [c_hasArc' hN hC, m_isArc hN q.2.1]
  by_cases c : ∃ k, k < nM N ∧ a = nI k
  · rw [if_pos c]
    obtain ⟨i, hi, e⟩ := c
    exact Or.inl ⟨i, hi, by omega, e, i1n0, rfl⟩
  · rw [if_neg c]
    exact Or.inr ⟨rfl, rfl⟩

theorem M8_ok : M8 Rel := by
  rintro xc fa tr pm hm ⟨N, k, Ms, im, h⟩ a1
  have hN := h.go.1
  have hC := h.go.2.1
  have hM := h.go.2.2.1
  have h60 := hN.m60
  have hcf := h.1.1.1
  have q := h.qn0 0
  have bad : ∀ r, 0 < r → r < 100 → f_X6_refusal xc 4 a1 0 = nI r → f_X10_whyNoTurn (up2 hm 81 0 0) a1 0 = some (nI r) → ∃ o, f_X9_shut fa tr pm xc a1 = some o ∧ ∃ z, f_X10_shut hm a1 = some z ∧ Rel o.2.1 o.2.2.1 o.2.2.2.1 o.2.2.2.2 z.2 ∧ Agr [1] o.1 z.1 (f_X10_thrown z.2) := fun r r0 r1 e1 e2 => by
    unfold f_X9_shut
    rw [doneN e1 (nI_nz r0 (by omega))]
    simp only [Option.bind_some]
    rw [gnG_ok hcf, if_pos trivial]
    refine ⟨_, rfl, ?_⟩
    unfold f_X10_shut
    simp only [lt]
    rw [e2]
    simp only [Option.bind_some]
    rw [refN r0 r1]
    simp only [Option.bind_some]
    rw [if_neg i1n0]
    exact ⟨_, rfl, (refuse_rel h (nI r) 1).rel, agr_R1 (hm := up2 (up2 (up2 hm 81 0 0) 81 6 (nI r)) 81 0 1) up2_at⟩
  rcases hasA_c h a1 with ⟨i, hi, hi60, rfl, c1, c2⟩ | ⟨c1, c2⟩
  · have e200 : ∀ {α : Type} (t : Option α), gck 200 ((140 : Int32) + nI i) t = t := fun t => by
      rw [show (140 : Int32) = nI 140 from rfl, nI_add]
      exact gck_ni (by omega) (by omega)
    have ecl : ((140 : Int32) + nI i).toNatClampNeg = 140 + i := by
      rw [show (140 : Int32) = nI 140 from rfl, nI_add]
      exact nI_clamp (by omega)
    have ev : up2 hm 81 0 0 82 (140 + i) = if nO N i = true then 1 else 0 := by
      rw [up2_at2 (Or.inl (by decide))]
      exact ((MNet.z.mp hM).2.2.2.2.1 i hi).2.2
    by_cases c : nO N i = false
    · refine bad 4 (by omega) (by omega) ?_ ?_
      · unfold f_X6_refusal f_X6_refusalOfArc
        rw [if_neg (by decide), if_neg (by decide), if_neg (by decide), if_pos rfl, if_neg c1, c_isOpen hN hC hi, c]
        rfl
      · unfold f_X10_whyNoTurn
        rw [c2]
        simp only [Option.bind_some]
        rw [if_neg i1n0, e200, ecl, ev, c]
        rfl
    · have c' : nO N i = true := by
        cases hb : nO N i with
        | false => first | rfl | exact absurd hb c
        | true => first | rfl | exact absurd hb c
      have hr : f_X6_refusal xc 4 (nI i) 0 = 0 := by
        unfold f_X6_refusal f_X6_refusalOfArc
        rw [if_neg (by decide), if_neg (by decide), if_neg (by decide), if_pos rfl, if_neg c1, c_isOpen hN hC hi, c']
        rfl
      obtain ⟨y, ey, hCy, m1, em1, hM1, hh⟩ := act_ok h (aTurn.ok (k := i) (o := false) hN) rfl (fun x => f_X6_perform x 4 (nI i) 0) (fun x hx => by
        refine ⟨_, ?_, shut_n hx hi h60⟩
        unfold f_X6_perform
        rw [if_neg (by decide), if_neg (by decide), if_neg (by decide), if_neg (by decide), if_pos rfl]
        rfl)
      unfold f_X9_shut
      rw [doneY hr ey]
      simp only [Option.bind_some]
      rw [gnG_ok (show (tr = 71 ∧ fa = 76) ∨ (tr = 76 ∧ fa = 71) by omega), if_neg i1n0]
      refine ⟨_, rfl, ?_⟩
      have ew : f_X10_whyNoTurn (up2 hm 81 0 0) (nI i) 0 = some 0 := by
        unfold f_X10_whyNoTurn
        rw [c2]
        simp only [Option.bind_some]
        rw [if_neg i1n0, e200, ecl, ev, c']
        rfl
      unfold f_X10_shut
      simp only [lt]
      rw [ew]
      simp only [Option.bind_some]
      rw [refY em1]
      simp only [Option.bind_some]
      rw [if_pos trivial, e200, ecl]
      obtain ⟨m3, em3, r3, t3, ⟨s0, s1⟩, ⟨s2, s3⟩⟩ := hh _ (turn_m h60 hM1 (a := i) false) (FrM.s rfl)
      have em3 : f_X10_holdsAgainst (up2 m1 82 (140 + i) 0) = some m3 := em3
      rw [em3]
      simp only [Option.bind_some]
      rw [bits_ct]
      refine ⟨_, rfl, r3.rel, agr_L (hm := m3) t3 ?_⟩
      dsimp only
      rw [s3, bc_ct s2]
  · refine bad 3 (by omega) (by omega) ?_ ?_
    · unfold f_X6_refusal f_X6_refusalOfArc
      rw [if_neg (by decide), if_neg (by decide), if_neg (by decide), if_pos rfl, if_pos c1]
      rfl
    · unfold f_X10_whyNoTurn
      rw [c2]
      simp only [Option.bind_some]
      rw [if_pos trivial]
      rfl

theorem M9_ok : M9 Rel := by
  rintro xc fa tr pm hm ⟨N, k, Ms, im, h⟩ a1
  have hN := h.go.1
  have hC := h.go.2.1
  have hM := h.go.2.2.1
  have h60 := hN.m60
  have hcf := h.1.1.1
  have q := h.qn0 0
  have bad : ∀ r, 0 < r → r < 100 → f_X6_refusal xc 5 a1 0 = nI r → f_X10_whyNoTurn (up2 hm 81 0 0) a1 1 = some (nI r) → ∃ o, f_X9_open fa tr pm xc a1 = some o ∧ ∃ z, f_X10_open hm a1 = some z ∧ Rel o.2.1 o.2.2.1 o.2.2.2.1 o.2.2.2.2 z.2 ∧ Agr [1] o.1 z.1 (f_X10_thrown z.2) := fun r r0 r1 e1 e2 => by
    unfold f_X9_open
    rw [doneN e1 (nI_nz r0 (by omega))]
    simp only [Option.bind_some]
    rw [gnG_ok hcf, if_pos trivial]
    refine ⟨_, rfl, ?_⟩
    unfold f_X10_open
    simp only [lt]
    rw [e2]
    simp only [Option.bind_some]
    rw [refN r0 r1]
    simp only [Option.bind_some]
    rw [if_neg i1n0]
    exact ⟨_, rfl, (refuse_rel h (nI r) 1).rel, agr_R1 (hm := up2 (up2 (up2 hm 81 0 0) 81 6 (nI r)) 81 0 1) up2_at⟩
  rcases hasA_c h a1 with ⟨i, hi, hi60, rfl, c1, c2⟩ | ⟨c1, c2⟩
  · have e200 : ∀ {α : Type} (t : Option α), gck 200 ((140 : Int32) + nI i) t = t := fun t => by
      rw [show (140 : Int32) = nI 140 from rfl, nI_add]
      exact gck_ni (by omega) (by omega)
    have ecl : ((140 : Int32) + nI i).toNatClampNeg = 140 + i := by
      rw [show (140 : Int32) = nI 140 from rfl, nI_add]
      exact nI_clamp (by omega)
    have ev : up2 hm 81 0 0 82 (140 + i) = if nO N i = true then 1 else 0 := by
      rw [up2_at2 (Or.inl (by decide))]
      exact ((MNet.z.mp hM).2.2.2.2.1 i hi).2.2
    by_cases c : nO N i = true
    · refine bad 4 (by omega) (by omega) ?_ ?_
      · unfold f_X6_refusal f_X6_refusalOfArc
        rw [if_neg (by decide), if_neg (by decide), if_neg (by decide), if_neg (by decide), if_pos rfl, if_neg c1, c_isOpen hN hC hi, c]
        rfl
      · unfold f_X10_whyNoTurn
        rw [c2]
        simp only [Option.bind_some]
        rw [if_neg i1n0, e200, ecl, ev, c]
        rfl
    · have c' : nO N i = false := by
        cases hb : nO N i with
        | false => first | rfl | exact absurd hb c
        | true => first | rfl | exact absurd hb c
      have hr : f_X6_refusal xc 5 (nI i) 0 = 0 := by
        unfold f_X6_refusal f_X6_refusalOfArc
        rw [if_neg (by decide), if_neg (by decide), if_neg (by decide), if_neg (by decide), if_pos rfl, if_neg c1, c_isOpen hN hC hi, c']
        rfl
      obtain ⟨y, ey, hCy, m1, em1, hM1, hh⟩ := act_ok h (aTurn.ok (k := i) (o := true) hN) rfl (fun x => f_X6_perform x 5 (nI i) 0) (fun x hx => by
        refine ⟨_, ?_, open_n hx hi h60⟩
        unfold f_X6_perform
        rw [if_neg (by decide), if_neg (by decide), if_neg (by decide), if_neg (by decide), if_neg (by decide), if_pos rfl]
        rfl)
      unfold f_X9_open
      rw [doneY hr ey]
      simp only [Option.bind_some]
      rw [gnG_ok (show (tr = 71 ∧ fa = 76) ∨ (tr = 76 ∧ fa = 71) by omega), if_neg i1n0]
      refine ⟨_, rfl, ?_⟩
      have ew : f_X10_whyNoTurn (up2 hm 81 0 0) (nI i) 1 = some 0 := by
        unfold f_X10_whyNoTurn
        rw [c2]
        simp only [Option.bind_some]
        rw [if_neg i1n0, e200, ecl, ev, c']
        rfl
      unfold f_X10_open
      simp only [lt]
      rw [ew]
      simp only [Option.bind_some]
      rw [refY em1]
      simp only [Option.bind_some]
      rw [if_pos trivial, e200, ecl]
      obtain ⟨m3, em3, r3, t3, ⟨s0, s1⟩, ⟨s2, s3⟩⟩ := hh _ (turn_m h60 hM1 (a := i) true) (FrM.s rfl)
      have em3 : f_X10_holdsAgainst (up2 m1 82 (140 + i) 1) = some m3 := em3
      rw [em3]
      simp only [Option.bind_some]
      rw [bits_ct]
      refine ⟨_, rfl, r3.rel, agr_L (hm := m3) t3 ?_⟩
      dsimp only
      rw [s1, bc_ct s0]
  · refine bad 3 (by omega) (by omega) ?_ ?_
    · unfold f_X6_refusal f_X6_refusalOfArc
      rw [if_neg (by decide), if_neg (by decide), if_neg (by decide), if_neg (by decide), if_pos rfl, if_pos c1]
      rfl
    · unfold f_X10_whyNoTurn
      rw [c2]
      simp only [Option.bind_some]
      rw [if_pos trivial]
      rfl

theorem M10_ok : M10 Rel := by
  rintro xc fa tr pm hm ⟨N, k, Ms, im, h⟩ a1 a2
  have hN := h.go.1
  have hC := h.go.2.1
  have hM := h.go.2.2.1
  have hn := hN.n16
  have hcf := h.1.1.1
  have q := h.qn0 0
  unfold f_X9_toll f_X10_toll
  simp only [lt]
  rw [show (99 : Int32) = nI 99 from rfl, m_in0 (by omega), show nI 99 = (99 : Int32) from rfl]
  rcases in99 a2 with c | ⟨c, c'⟩
  · have d1 : ¬ a2 < 0 := by
      obtain ⟨j, hj, rfl⟩ := c
      exact nI_pos (by omega)
    have d2 : a2 ≤ 99 := by
      obtain ⟨j, hj, rfl⟩ := c
      exact nI_le (a := j) (b := 99) hj (by omega)
    rw [if_pos c, if_neg i1n0, if_neg d1, if_pos d2]
    obtain ⟨t, ht, rfl⟩ := c
    unfold f_X10_toll_J21
    simp only [lt, throws0, if_true]
    have bad : ∀ r, 0 < r → r < 100 → f_X6_refusal xc 6 a1 (nI t) = nI r → f_X10_whyNoToll (up2 hm 81 0 0) a1 (nI t) = some (nI r) → ∃ o, (f_X9_isDone fa tr pm xc (6 : Int32) a1 (nI t)).bind (fun y2 => gnG y2.2.2.1 y2.2.2.2.1 (if y2.1 = (0 : Int32) then (some ((Sum.inr 1 : Int32 ⊕ Nat), y2.2.1, y2.2.2.1, y2.2.2.2.1, y2.2.2.2.2)) else (some (.inl (atv xc 10 16 a1), y2.2.1, y2.2.2.1, y2.2.2.2.1, y2.2.2.2.2)))) = some o ∧ ∃ z, (f_X10_whyNoToll (up2 hm 81 0 0) a1 (nI t)).bind (fun y3 => (f_X10_isRefused (up2 hm 81 0 0) y3 (2 : Int32)).bind (fun y4 => if y4.1 = (0 : Int32) then (gck 200 ((4 : Int32) + a1) (gck 200 ((4 : Int32) + a1) ((f_X10_holdsAgainst (up2 y4.2 82 ((4 : Int32) + a1).toNatClampNeg (nI t))).bind (fun y7 => some (y4.2 82 ((4 : Int32) + a1).toNatClampNeg, y7))))) else (some ((0 : Int32), y4.2)))) = some z ∧ Rel o.2.1 o.2.2.1 o.2.2.2.1 o.2.2.2.2 z.2 ∧ Agr [0, 1] o.1 z.1 (f_X10_thrown z.2) := fun r r0 r1 e1 e2 => by
      rw [doneN e1 (nI_nz r0 (by omega))]
      simp only [Option.bind_some]
      rw [gnG_ok hcf, if_pos trivial]
      refine ⟨_, rfl, ?_⟩
      rw [e2]
      simp only [Option.bind_some]
      rw [refN r0 r1]
      simp only [Option.bind_some]
      rw [if_neg i1n0]
      exact ⟨_, rfl, (refuse_rel h (nI r) 2).rel, agr_R2 (hm := up2 (up2 (up2 hm 81 0 0) 81 6 (nI r)) 81 0 2) up2_at (by decide)⟩
    rcases hasN_c h a1 with ⟨i, hi, hi16, rfl, c1, c2⟩ | ⟨c1, c2⟩
    · have e200 : ∀ {α : Type} (t : Option α), gck 200 ((4 : Int32) + nI i) t = t := fun t => by
        rw [show (4 : Int32) = nI 4 from rfl, nI_add]
        exact gck_ni (by omega) (by omega)
      have ecl : ((4 : Int32) + nI i).toNatClampNeg = 4 + i := by
        rw [show (4 : Int32) = nI 4 from rfl, nI_add]
        exact nI_clamp (by omega)
      have ev : up2 hm 81 0 0 82 (4 + i) = nI (nL N i) := by
        rw [up2_at2 (Or.inl (by decide))]
        exact (MNet.z.mp hM).2.2.2.2.2 i hi16
      have vc : atv xc 10 16 (nI i) = nI (nL N i) := by
        rw [atv_n (L := 16) hi16 (by omega)]
        exact hC.2.2.2.2.2.2 i hi16
      have l99 : nL N i ≤ 99 := hN.2.2.2.2.2.2 i hi16
      by_cases c : nL N i = t
      · refine bad 4 (by omega) (by omega) ?_ ?_
        · unfold f_X6_refusal f_X6_refusal_J144 f_X6_refusalOfNode
          rw [if_neg (by decide), if_neg (by decide), if_neg (by decide), if_neg (by decide), if_neg (by decide), if_pos rfl, if_pos (by rw [vc, c]), if_neg c1, if_neg i1n0]
          rfl
        · unfold f_X10_whyNoToll
          rw [c2]
          simp only [Option.bind_some]
          rw [if_neg i1n0, e200, ecl, ev, if_pos (by rw [c])]
          rfl
      · have nc : ¬ nI (nL N i) = nI t := by
          rw [nI_eq (by omega) (by omega)]
          exact c
        have hr : f_X6_refusal xc 6 (nI i) (nI t) = 0 := by
          unfold f_X6_refusal f_X6_refusal_J144 f_X6_refusalOfNode
          rw [if_neg (by decide), if_neg (by decide), if_neg (by decide), if_neg (by decide), if_neg (by decide), if_pos rfl, if_neg (by rw [vc]; exact nc), if_neg c1, if_pos rfl]
        obtain ⟨y, ey, hCy, m1, em1, hM1, hh⟩ := act_ok h (aToll.ok hN (v := i) ht) rfl (fun x => f_X6_perform x 6 (nI i) (nI t)) (fun x hx => by
          refine ⟨_, ?_, toll_c hx hi16 t⟩
          unfold f_X6_perform
          rw [if_neg (by decide), if_neg (by decide), if_neg (by decide), if_neg (by decide), if_neg (by decide), if_neg (by decide), if_pos rfl, putv_n (L := 16) hi16 (by omega)]
          rfl)
        rw [doneY hr ey]
        simp only [Option.bind_some]
        rw [gnG_ok (show (tr = 71 ∧ fa = 76) ∨ (tr = 76 ∧ fa = 71) by omega), if_neg i1n0]
        refine ⟨_, rfl, ?_⟩
        have ew : f_X10_whyNoToll (up2 hm 81 0 0) (nI i) (nI t) = some 0 := by
          unfold f_X10_whyNoToll
          rw [c2]
          simp only [Option.bind_some]
          rw [if_neg i1n0, e200, ecl, ev, if_neg nc]
        rw [ew]
        simp only [Option.bind_some]
        rw [refY em1]
        simp only [Option.bind_some]
        rw [if_pos trivial, e200, e200, ecl]
        obtain ⟨m3, em3, r3, t3, -⟩ := hh _ (toll_n hM1 hi16 t) (FrM.s rfl)
        rw [em3]
        refine ⟨_, rfl, r3.rel, agr_L (hm := m3) t3 ?_⟩
        dsimp only
        rw [vc]
        exact (MNet.z.mp hM1).2.2.2.2.2 i hi16
    · refine bad 1 (by omega) (by omega) ?_ ?_
      · unfold f_X6_refusal
        rw [if_neg (by decide), if_neg (by decide), if_neg (by decide), if_neg (by decide), if_neg (by decide), if_pos rfl]
        have e : ∀ t, f_X6_refusalOfNode xc a1 t = nI 1 := fun t => by
          unfold f_X6_refusalOfNode
          rw [if_pos c1]
          rfl
        unfold f_X6_refusal_J144
        rw [e, e]
        split <;> rfl
      · unfold f_X10_whyNoToll
        rw [c2]
        simp only [Option.bind_some]
        rw [if_pos trivial]
        rfl
  · rw [if_neg c, if_pos rfl]
    unfold f_X10_toll_J21 f_X9_toll_J10
    simp only [lt, throws1]
    rw [if_neg i1n0, gnG_ok hcf]
    rcases c' with c' | ⟨c', c''⟩
    · rw [if_pos c']
      exact ⟨_, rfl, _, rfl, ((h.t0 0).t0 1).rel, agr_R1 (hm := up2 (up2 hm 81 0 0) 81 0 1) up2_at⟩
    · rw [if_neg c', if_neg c'']
      exact ⟨_, rfl, _, rfl, ((h.t0 0).t0 1).rel, agr_R1 (hm := up2 (up2 hm 81 0 0) 81 0 1) up2_at⟩
