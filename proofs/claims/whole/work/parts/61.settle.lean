/-! SETTLED -/
section
variable {E1 : Nat → Nat → Prop} {S1 : Nat → Prop} {N : aN} {xc : gXH} {fa tr : Nat} {pm : Nat → Nat} {hm : gIH}
theorem compare_w (g0 g1 g2 : Nat) (xc : gXH) : ∃ y, f_X1_compare g0 g1 g2 xc = some y ∧ Fr (fun c => c = g0) xc y := by
  unfold f_X1_compare
  simp only [lt]
  obtain ⟨x0, e0⟩ : ∃ x0, f_X1_clear g0 xc = x0 := ⟨_, rfl⟩
  have f0 : Fr (fun c => c = g0) xc x0 := by
    rw [← e0]
    exact (((Fr.s (W := fun c => c = g0) rfl).tr (Fr.s (W := fun c => c = g0) rfl)).tr (Fr.s (W := fun c => c = g0) rfl)).tr (Fr.s (W := fun c => c = g0) rfl)
  rw [e0]
  obtain ⟨x2, e2⟩ : ∃ x2, sI (sI x0 g0 0 ((x0.1 g2 4) &&& ((x0.1 g1 4) ^^^ (-1 : Int32)))) g0 1 (((sI x0 g0 0 ((x0.1 g2 4) &&& ((x0.1 g1 4) ^^^ (-1 : Int32)))).1 g1 4) &&& (((sI x0 g0 0 ((x0.1 g2 4) &&& ((x0.1 g1 4) ^^^ (-1 : Int32)))).1 g2 4) ^^^ (-1 : Int32))) = x2 := ⟨_, rfl⟩
  rw [e2]
  have f2 : Fr (fun c => c = g0) x0 x2 := by
    rw [← e2]
    exact (Fr.s (W := fun c => c = g0) rfl).tr (Fr.s (W := fun c => c = g0) rfl)
  have key : ∃ y, lp (f_X1_compare_L36 g0 g1 g2) 2000 (0, x2) = some y ∧ Fr (fun c => c = g0) xc y := by
    refine lp_for (step := f_X1_compare_L36 g0 g1 g2) 16 (fun j s => s.1 = nI j ∧ Fr (fun c => c = g0) xc s.2) _ ?_ ?_ ⟨rfl, f0.tr f2⟩ (by omega)
    · rintro j ⟨i, x⟩ hj ⟨h0, hf⟩
      dsimp only at h0 hf
      subst h0
      unfold f_X1_compare_L36
      dsimp only
      rw [if_neg (ge16 hj)]
      simp only [lt]
      split
      · exact ⟨_, rfl, nI_1 j, hf⟩
      · split
        · exact ⟨_, rfl, nI_1 j, hf.tr (Fr.s rfl)⟩
        · exact ⟨_, rfl, nI_1 j, (hf.tr (Fr.s rfl)).tr (Fr.s rfl)⟩
    · rintro ⟨i, x⟩ ⟨h0, hf⟩
      dsimp only at h0 hf
      subst h0
      unfold f_X1_compare_L36
      dsimp only
      rw [if_pos le16]
      exact ⟨_, rfl, hf⟩
  obtain ⟨y, ey, hy⟩ := key
  rw [ey]
  exact ⟨y, rfl, hy⟩
theorem renew_w (hc : (fa = 71 ∧ tr = 76) ∨ (fa = 76 ∧ tr = 71)) (hN : aOk N) (hC : CNet xc 7 N) :
    ∃ y, f_X8_renew fa tr pm xc = some (y, tr, fa, pm) ∧ Fr (WRn tr) xc y ∧ NX y (tr + 1) (Ed N 100) ∧ GF y tr (Ed N 100) (fun s => s = nRt N) ∧ RX y N := by
  have hE2 : E16 (Ed N 100) := hN.e16n (k1 := 100) (k2 := 100)
  unfold f_X8_renew
  obtain ⟨x1, e1, a1, a2⟩ := netfill_ok hN hC (tr + 1) (by omega) 100
  rw [skI_none] at e1
  rw [e1]
  simp only [Option.bind_some]
  rw [show x1.1 7 4 = nI (nRt N) by rw [a2.1 7 (by omega)]; exact hC.2.1]
  obtain ⟨x2, e2, b1, b2⟩ := weigh_ok hE2 a1 (f_X9_only (nI (nRt N))) (s16_one hN.r16)
  rw [only_set hN.r16] at b2
  rw [e2]
  simp only [Option.bind_some]
  have X2 := a1.cg (b1.1 (tr + 1) (by unfold WG; omega))
  obtain ⟨x3, e3, c1, c2⟩ := rear_c (by omega) X2 b2
  rw [e3]
  simp only [Option.bind_some]
  have f3 : Fr (fun c => c = 60 ∨ (tr ≤ c ∧ c ≤ tr + 4)) xc x3 := ((a2.mono fun c h => by omega).tr (b1.mono fun c h => by unfold WG at h; omega)).tr (c1.mono fun c h => by omega)
  have G3 := b2.fr c1 (fun c a b => by omega)
  obtain ⟨y, ey, d1⟩ := compare_w 53 fa tr x3
  rw [ey]
  refine ⟨y, rfl, (f3.mono fun c h => by unfold WRn; omega).tr (d1.mono fun c h => by unfold WRn; omega), ?_, G3.fr d1 (fun c a b => by omega), ?_⟩
  · exact (X2.cg (c1.1 _ (by omega))).cg (d1.1 _ (by omega))
  · exact NX.cg c2 (d1.1 60 (by omega))
theorem clear_c (g : Nat) (x : gXH) : Fr (fun c => c = g) x (f_X1_clear g x) ∧ (f_X1_clear g x).1 g 0 = 0 ∧ (f_X1_clear g x).1 g 1 = 0 ∧ (f_X1_clear g x).1 g 2 = 0 ∧ (f_X1_clear g x).1 g 3 = 0 := by
  refine ⟨(((Fr.s (W := fun c => c = g) rfl).tr (Fr.s (W := fun c => c = g) rfl)).tr (Fr.s (W := fun c => c = g) rfl)).tr (Fr.s (W := fun c => c = g) rfl), ?_, ?_, ?_, ?_⟩ <;> unfold f_X1_clear <;> simp only [lt]
  · rw [sI_at2 (by decide), sI_at2 (by decide), sI_at2 (by decide), sI_at]
  · rw [sI_at2 (by decide), sI_at2 (by decide), sI_at]
  · rw [sI_at2 (by decide), sI_at]
  · rw [sI_at]
theorem noLat_m (x : gIH) : FrM (fun c j => c = 81 ∧ (16 ≤ j ∧ j ≤ 19)) x (f_X10_hasNoLatest x) ∧ f_X10_hasNoLatest x 81 16 = 0 ∧ f_X10_hasNoLatest x 81 17 = 0 ∧ f_X10_hasNoLatest x 81 18 = 0 ∧ f_X10_hasNoLatest x 81 19 = 0 := by
  refine ⟨(((FrM.s (W := fun c j => c = 81 ∧ (16 ≤ j ∧ j ≤ 19)) (by omega)).tr (FrM.s (by omega))).tr (FrM.s (by omega))).tr (FrM.s (by omega)), ?_, ?_, ?_, ?_⟩ <;> unfold f_X10_hasNoLatest <;> simp only [lt]
  · rw [up2_at2 (Or.inr (by decide)), up2_at2 (Or.inr (by decide)), up2_at2 (Or.inr (by decide)), up2_at]
  · rw [up2_at2 (Or.inr (by decide)), up2_at2 (Or.inr (by decide)), up2_at]
  · rw [up2_at2 (Or.inr (by decide)), up2_at]
  · rw [up2_at]
/-- renewed, and then no latest -/
theorem fresh_c (hc : (fa = 71 ∧ tr = 76) ∨ (fa = 76 ∧ tr = 71)) (hN : aOk N) (hC : CNet xc 7 N) :
    ∃ y, f_X8_renew fa tr pm xc = some (y, tr, fa, pm) ∧ Fr (WRn tr) xc (f_X1_clear 53 y) ∧ (NX (f_X1_clear 53 y) (tr + 1) (Ed N 100) ∧ GF (f_X1_clear 53 y) tr (Ed N 100) (fun s => s = nRt N) ∧ RX (f_X1_clear 53 y) N) ∧ CNet (f_X1_clear 53 y) 7 N := by
  obtain ⟨y, ey, y1, y2, y3, y4⟩ := renew_w (pm := pm) hc hN hC
  obtain ⟨c1, -⟩ := clear_c 53 y
  refine ⟨y, ey, y1.tr (c1.mono fun c h => by unfold WRn; omega), ⟨y2.cg (c1.1 _ (by omega)), y3.fr c1 (fun c _ _ => by omega), NX.cg y4 (c1.1 60 (by omega))⟩, (hC.fr y1 (fun c _ _ => by unfold WRn; omega)).fr c1 (fun c _ _ => by omega)⟩
end
/-- what is settled goes on: k' are remembered as before, there is no latest -/
theorem settle_rel {N N' : aN} {k k' : Nat} {Ms : Nat → aN} {im : Option aN} {xc x y : gXH} {fa tr : Nat} {pm : Nat → Nat} {hm m : gIH} (h : RelN N k Ms im xc fa tr pm hm) (hk : k' ≤ k) (hN' : aOk N')
    (fx : Fx (fun c => (7 ≤ c ∧ c ≤ 10) ∨ c = 19) xc x) (h19 : x.1 19 1 = nI k') (hM : MNet m 82 0 N') (fm : FrM (fun c j => (c = 81 ∧ (j = 0 ∨ j = 5 ∨ (16 ≤ j ∧ j ≤ 19))) ∨ c = 82) hm m) (h5 : m 81 5 = nI k') (hl : m 81 16 = 0 ∧ m 81 17 = 0 ∧ m 81 18 = 0 ∧ m 81 19 = 0)
    (fy : Fr (WRn tr) x (f_X1_clear 53 y)) (hg : NX (f_X1_clear 53 y) (tr + 1) (Ed N' 100) ∧ GF (f_X1_clear 53 y) tr (Ed N' 100) (fun s => s = nRt N') ∧ RX (f_X1_clear 53 y) N') (hC : CNet (f_X1_clear 53 y) 7 N') : RelN N' k' Ms im (f_X1_clear 53 y) tr fa pm m := by
  obtain ⟨hp, -, ⟨k8, kc, km, hs⟩, q4, q5, q6, q7, q9, -, h8, h10⟩ := id h
  have hcf := hp.1.1
  obtain ⟨c1, d0, d1, d2, d3⟩ := clear_c 53 y
  have fz : ∀ c, ¬ ((7 ≤ c ∧ c ≤ 10) ∨ c = 19 ∨ WRn tr c) → (f_X1_clear 53 y).1 c = xc.1 c ∧ (f_X1_clear 53 y).2 c = xc.2 c := fun c hc => by
    have a := fx c (fun z => hc (z.elim (fun z => Or.inl z) (fun z => Or.inr (Or.inl z))))
    have b := fy.x c (fun z => hc (Or.inr (Or.inr z)))
    exact ⟨b.1.trans a.1, b.2.trans a.2⟩
  refine h.next ⟨⟨by omega, hp.1.2⟩, hp.2⟩ ⟨hN', hC, hM⟩ ⟨by omega, ?_, h5, fun i hi => ⟨(hs i (by omega)).1, ?_, ?_⟩⟩ (fun c hc => (fz c (by unfold WRn; omega)).1) (fz 15 (by unfold WRn; omega)).2 ?_ (fun c j hc => fm c j (by omega)) ?_ ⟨by rw [d0, hl.1], by rw [d1, hl.2.1], by rw [d2, hl.2.2.1], by rw [d3, hl.2.2.2]⟩ hg ?_ ?_
  · rw [fy.1 19 (by unfold WRn; omega)]
    exact h19
  · have hl := hp.1.pml (show i < 8 by omega)
    exact ((hs i (by omega)).2.1.fx fx (fun c _ _ => by omega)).fr fy (fun c _ _ => by unfold WRn; omega)
  · exact (hs i (by omega)).2.2.fr fm (fun j => by omega)
  · rw [(fz 0 (by unfold WRn; omega)).1]
    exact ⟨rfl, rfl⟩
  · rw [(fz 0 (by unfold WRn; omega)).1, fm 81 6 (by omega)]
    exact q5.2
  · rw [fm 81 8 (by omega)]
    exact h8
  · rw [fm 81 10 (by omega)]
    exact h10
theorem M11_ok : M11 Rel := by
  rintro xc fa tr pm hm ⟨N, k, Ms, im, h⟩
  obtain ⟨hp, ⟨hN, hC, hM⟩, ⟨k8, kc, km, hs⟩, q4, q5, q6, q7, q9, ⟨hX, hG, hR⟩, h8, h10⟩ := id h
  have hcf := hp.1.1
  unfold f_X9_undo f_X10_undo
  simp only [lt]
  have m5 : up2 hm 81 0 0 81 5 = nI k := by
    rw [up2_at2 (Or.inr (by decide))]
    exact km
  rw [kc, m5]
  by_cases c : k = 0
  · subst c
    rw [nI_0, if_pos rfl, if_pos rfl]
    refine ⟨_, rfl, ?_⟩
    unfold f_X10_undo_J18
    simp only [lt, throws1]
    rw [if_neg i1n0]
    exact ⟨_, rfl, ((h.t0 0).t0 1).rel, agr_R1 (hm := up2 (up2 hm 81 0 0) 81 0 1) up2_at⟩
  · rw [if_neg (nI_nz (by omega) (by omega)), if_neg (nI_nz (by omega) (by omega))]
    obtain ⟨j, rfl⟩ : ∃ j, k = j + 1 := ⟨k - 1, by omega⟩
    obtain ⟨sN, sC, sM⟩ := hs j (by omega)
    have hl := hp.1.pml (show j < 8 by omega)
    unfold f_X5_pop
    simp only [lt]
    rw [kc, show nI (j + 1) - (1 : Int32) = nI j from sub_n (a := j + 1) (b := 1) (by omega), if_neg (nI_pos (by omega)), if_neg (show ¬ (8 : Int32) ≤ nI j from nI_ge (a := j) (b := 8) (by omega) (by omega)), gck_ni (by omega) (by omega), nI_clamp (by omega), gnN_ok hp.1 (by omega), gck_ni (by omega) (by omega), gnN_ok hp.1 (by omega)]
    simp only [Option.bind_some]
    obtain ⟨c1, c2⟩ := copy_ok (g0 := 7) (g1 := pm j) sN sC (by omega)
    obtain ⟨x0, ex0⟩ : ∃ x0, f_X6_copy 7 (pm j) xc = x0 := ⟨_, rfl⟩
    rw [ex0] at c1 c2
    rw [ex0]
    have f1 : Fr (fun c => c = 19) x0 (sI x0 19 1 (nI j)) := Fr.s rfl
    have C1 := c1.fr f1 (fun c _ _ => by omega)
    obtain ⟨y, ey, y1, y2, y3⟩ := fresh_c (pm := pm) hcf sN C1
    rw [ey]
    simp only [Option.bind_some]
    rw [gnG_ok (show (tr = 71 ∧ fa = 76) ∨ (tr = 76 ∧ fa = 71) by omega)]
    refine ⟨_, rfl, ?_⟩
    unfold f_X10_undo_J18
    simp only [lt, throws0, if_true]
    rw [m5, show nI (j + 1) - (1 : Int32) = nI j from sub_n (a := j + 1) (b := 1) (by omega)]
    obtain ⟨m0, em0⟩ : ∃ m0, up2 (up2 hm 81 0 0) 81 5 (nI j) = m0 := ⟨_, rfl⟩
    have g0 : FrM (fun c j => c = 81 ∧ (j = 0 ∨ j = 5)) hm m0 := by
      rw [← em0]
      exact (FrM.s (W := fun c j => c = 81 ∧ (j = 0 ∨ j = 5)) (by omega)).tr (FrM.s (by omega))
    have t0 : m0 81 0 = 0 := by rw [← em0, up2_at2 (Or.inr (by decide)), up2_at]
    have t5 : m0 81 5 = nI j := by rw [← em0, up2_at]
    rw [em0, t5, show (200 : Int32) * nI j = nI (200 * j) by rw [show (200 : Int32) = nI 200 from rfl, nI_mul], show (0 : Int32) = nI 0 from rfl]
    obtain ⟨m1, em1, a1, a2⟩ := copies_ok (c0 := 85) (L0 := 1600) (c2 := 82) (L2 := 200) (a := 200 * j) (b := 0) (by omega) (by omega) (by omega) (by omega) (Or.inl (by decide)) m0
    rw [em1]
    simp only [Option.bind_some]
    obtain ⟨b1, b2⟩ := noLat_m m1
    have M1 : MNet m1 82 0 (Ms j) := (sM.fr g0 (fun j => by omega)).copy sN a1
    have fm : FrM (fun c j => (c = 81 ∧ (j = 0 ∨ j = 5 ∨ (16 ≤ j ∧ j ≤ 19))) ∨ c = 82) hm (f_X10_hasNoLatest m1) := ((g0.mono fun c j h => by omega).tr (a2.mono fun c j h => by omega)).tr (b1.mono fun c j h => by omega)
    have v5 : f_X10_hasNoLatest m1 81 5 = nI j := by rw [b1 81 5 (by omega), a2 81 5 (by omega), t5]
    have hrel := settle_rel (k' := j) h (by omega) sN ((c2.mono fun c h => by omega).tr ((f1.x).mono fun c h => by omega)) sI_at (M1.fr b1 (fun j => by omega)) fm v5 b2 y1 y2 y3
    refine ⟨_, rfl, hrel.rel, agr_L (hm := f_X10_hasNoLatest m1) ?_ ?_⟩
    · rw [b1 81 0 (by omega), a2 81 0 (by omega), t0]
    · rw [v5]
      show nI j = (f_X1_clear 53 y).1 19 1
      rw [y1.1 19 (by unfold WRn; omega), sI_at]
theorem M31_ok : M31 Rel := by
  rintro xc fa tr pm hm ⟨N, k, Ms, im, h⟩
  obtain ⟨hp, ⟨hN, hC, hM⟩, ⟨k8, kc, km, hs⟩, q4, q5, q6, q7, q9, ⟨hX, hG, hR⟩, h8, h10⟩ := id h
  have hcf := hp.1.1
  refine ⟨_, rfl, ?_⟩
  unfold f_X9_image f_X10_image
  simp only [lt]
  obtain ⟨c1, c2⟩ := copy_ok (g0 := 15) (g1 := 7) hN hC (by omega)
  obtain ⟨x0, ex0⟩ : ∃ x0, f_X6_copy 15 7 xc = x0 := ⟨_, rfl⟩
  rw [ex0] at c1 c2
  rw [ex0]
  have f1 : Fr (fun c => c = 0) x0 (sI x0 0 9 1) := Fr.s rfl
  have fx : Fx (fun c => c = 0 ∨ (15 ≤ c ∧ c ≤ 18)) xc (sI x0 0 9 1) := (c2.mono fun c h => by omega).tr ((f1.x).mono fun c h => by omega)
  have r0 : x0.1 0 = xc.1 0 := (c2 0 (by omega)).1
  obtain ⟨x, ex⟩ : ∃ x, sI x0 0 9 1 = x := ⟨_, rfl⟩
  have v9 : x.1 0 9 = 1 := by rw [← ex, sI_at]
  have v10 : x.1 0 10 = xc.1 0 10 := by rw [← ex, sI_at2 (by decide), r0]
  have v11 : x.1 0 11 = xc.1 0 11 := by rw [← ex, sI_at2 (by decide), r0]
  rw [ex] at f1 fx
  rw [ex]
  obtain ⟨m1, em1, a1, a2⟩ := copies_ok (c0 := 82) (L0 := 200) (c2 := 83) (L2 := 200) (a := 0) (b := 0) (by omega) (by omega) (by omega) (by omega) (Or.inl (by decide)) (up2 hm 81 0 0)
  rw [nI_0] at em1
  rw [em1]
  simp only [Option.bind_some]
  have g0 : FrM (fun c j => c = 81 ∧ j = 0) hm (up2 hm 81 0 0) := FrM.s ⟨rfl, rfl⟩
  have g2 : FrM (fun c j => c = 81 ∧ j = 7) m1 (up2 m1 81 7 1) := FrM.s ⟨rfl, rfl⟩
  have gm : FrM (fun c j => (c = 81 ∧ (j = 0 ∨ j = 7)) ∨ c = 83) hm (up2 m1 81 7 1) := ((g0.mono fun c j h => by omega).tr (a2.mono fun c j h => by omega)).tr (g2.mono fun c j h => by omega)
  obtain ⟨m, em⟩ : ∃ m, up2 m1 81 7 1 = m := ⟨_, rfl⟩
  have w7 : m 81 7 = 1 := by rw [← em, up2_at]
  rw [em] at g2 gm
  rw [em]
  have I1 : MNet m 83 0 N := ((hM.fr g0 (fun j => by omega)).copy hN a1).fr g2 (fun j => by omega)
  refine ⟨_, rfl, ⟨N, k, Ms, some N, hp, ⟨hN, hC.fx fx (fun c _ _ => by omega), hM.fr gm (fun j => by omega)⟩, ⟨k8, ?_, ?_, fun i hi => ⟨(hs i hi).1, ?_, ?_⟩⟩, ⟨v9, w7, hN, c1.fr f1 (fun c _ _ => by omega), I1⟩, ⟨?_, ?_⟩, ?_, ?_, ?_, ⟨hX.cg (fx _ (by omega)).1, hG.fx fx (fun c _ _ => by omega), NX.cg hR (fx 60 (by omega)).1⟩, ?_, ?_⟩, trivial⟩
  · rw [(fx 19 (by omega)).1]
    exact kc
  · rw [gm 81 5 (by omega)]
    exact km
  · have hl := hp.1.pml (show i < 8 by omega)
    exact (hs i hi).2.1.fx fx (fun c _ _ => by omega)
  · exact (hs i hi).2.2.fr gm (fun j => by omega)
  · rw [v10, gm 81 27 (by omega)]
    exact q5.1
  · rw [v11, gm 81 6 (by omega)]
    exact q5.2
  · rw [(fx 53 (by omega)).1, gm 81 16 (by omega), gm 81 17 (by omega), gm 81 18 (by omega), gm 81 19 (by omega)]
    exact q6
  · obtain ⟨t, a1, a2, a3, a4⟩ := q7
    refine ⟨t, a1, by rw [(fx 1 (by omega)).1]; exact a2, by rw [gm 81 23 (by omega)]; exact a3, fun i hi => ?_⟩
    rw [(fx 2 (by omega)).1, gm 91 i (by omega)]
    exact a4 i hi
  · obtain ⟨t, a1, a2, a3, a4⟩ := q9
    refine ⟨t, a1, by rw [(fx 3 (by omega)).1]; exact a2, by rw [gm 81 41 (by omega)]; exact a3, fun i hi => ?_⟩
    rw [(fx 4 (by omega)).1, gm 98 i (by omega)]
    exact a4 i hi
  · rw [gm 81 8 (by omega)]
    exact h8
  · rw [gm 81 10 (by omega)]
    exact h10
theorem settle_c {N : aN} {xc : gXH} {fa tr : Nat} {pm : Nat → Nat} (hc : (fa = 71 ∧ tr = 76) ∨ (fa = 76 ∧ tr = 71)) (hN : aOk N) (hC : CNet xc 7 N) :
    ∃ y, f_X9_settle fa tr pm xc = some (f_X1_clear 53 y, tr, fa, pm) ∧ Fr (WRn tr) (sI xc 19 1 (nI 0)) (f_X1_clear 53 y) ∧ (NX (f_X1_clear 53 y) (tr + 1) (Ed N 100) ∧ GF (f_X1_clear 53 y) tr (Ed N 100) (fun s => s = nRt N) ∧ RX (f_X1_clear 53 y) N) ∧ CNet (f_X1_clear 53 y) 7 N := by
  unfold f_X9_settle
  simp only [lt]
  have f1 : Fr (fun c => c = 19) xc (sI xc 19 1 (nI 0)) := Fr.s rfl
  obtain ⟨y, ey, y1, y2, y3⟩ := fresh_c (pm := pm) hc hN (hC.fr f1 (fun c _ _ => by omega))
  rw [nI_0] at ey
  rw [ey]
  simp only [Option.bind_some]
  rw [gnG_ok (show (tr = 71 ∧ fa = 76) ∨ (tr = 76 ∧ fa = 71) by omega)]
  exact ⟨y, rfl, y1, y2, y3⟩
theorem M32_ok : M32 Rel := by
  rintro xc fa tr pm hm ⟨N, k, Ms, im, h⟩
  obtain ⟨hp, ⟨hN, hC, hM⟩, ⟨k8, kc, km, hs⟩, q4, q5, q6, q7, q9, ⟨hX, hG, hR⟩, h8, h10⟩ := id h
  have hcf := hp.1.1
  unfold f_X9_back f_X10_back
  simp only [lt]
  have m7 : up2 hm 81 0 0 81 7 = hm 81 7 := up2_at2 (Or.inr (by decide))
  rw [m7]
  cases im with
  | none =>
    rw [q4.1, q4.2, if_pos rfl, if_pos rfl]
    exact ⟨_, rfl, _, rfl, (h.t0 0).rel, rfl⟩
  | some I =>
    obtain ⟨i1, i2, iN, iC, iM⟩ := q4
    rw [i1, i2, if_neg i1n0, if_neg i1n0]
    obtain ⟨c1, c2⟩ := copy_ok (g0 := 7) (g1 := 15) iN iC (by omega)
    obtain ⟨x0, ex0⟩ : ∃ x0, f_X6_copy 7 15 xc = x0 := ⟨_, rfl⟩
    rw [ex0] at c1 c2
    rw [ex0]
    obtain ⟨y, ey, y1, y2, y3⟩ := settle_c (pm := pm) hcf iN c1
    rw [ey]
    simp only [Option.bind_some]
    rw [gnG_ok (show (tr = 71 ∧ fa = 76) ∨ (tr = 76 ∧ fa = 71) by omega)]
    refine ⟨_, rfl, ?_⟩
    obtain ⟨m1, em1, a1, a2⟩ := copies_ok (c0 := 83) (L0 := 200) (c2 := 82) (L2 := 200) (a := 0) (b := 0) (by omega) (by omega) (by omega) (by omega) (Or.inl (by decide)) (up2 hm 81 0 0)
    rw [nI_0] at em1
    rw [em1]
    simp only [Option.bind_some]
    have g0 : FrM (fun c j => c = 81 ∧ j = 0) hm (up2 hm 81 0 0) := FrM.s ⟨rfl, rfl⟩
    have g2 : FrM (fun c j => c = 81 ∧ j = 5) m1 (up2 m1 81 5 0) := FrM.s ⟨rfl, rfl⟩
    obtain ⟨b1, b2⟩ := noLat_m (up2 m1 81 5 0)
    have M1 : MNet m1 82 0 I := (iM.fr g0 (fun j => by omega)).copy iN a1
    have fm : FrM (fun c j => (c = 81 ∧ (j = 0 ∨ j = 5 ∨ (16 ≤ j ∧ j ≤ 19))) ∨ c = 82) hm (f_X10_hasNoLatest (up2 m1 81 5 0)) := (((g0.mono fun c j h => by omega).tr (a2.mono fun c j h => by omega)).tr (g2.mono fun c j h => by omega)).tr (b1.mono fun c j h => by omega)
    have hrel := settle_rel (k' := 0) h (by omega) iN ((c2.mono fun c h => by omega).tr ((Fr.s (W := fun c => c = 19) rfl).x.mono fun c h => by omega)) sI_at ((M1.fr g2 (fun j => by omega)).fr b1 (fun j => by omega)) fm (by rw [b1 81 5 (by omega), up2_at]; rfl) b2 y1 y2 y3
    exact ⟨_, rfl, hrel.rel, rfl⟩
