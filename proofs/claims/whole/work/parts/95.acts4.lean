/-! ACTS OF A TEXT: both -/
/-- all stands as before, but for the text, fault, why -/
theorem RelN.tx {N : aN} {k : Nat} {Ms : Nat → aN} {im : Option aN} {xc x : gXH} {fa tr : Nat} {pm : Nat → Nat} {hm m : gIH} (h : RelN N k Ms im xc fa tr pm hm)
    (fx : Fx (fun c => c = 0 ∨ c = 1 ∨ c = 5 ∨ c = 6 ∨ (7 ≤ c ∧ c ≤ 14)) xc x) (hC : CNet x 7 N) (fm : FrM (fun c j => (c = 81 ∧ (j = 0 ∨ j = 6 ∨ (23 ≤ j ∧ j ≤ 28) ∨ j = 31)) ∨ c = 82 ∨ c = 84 ∨ c = 93) hm m) (hM : MNet m 82 0 N)
    (h9 : x.1 0 9 = xc.1 0 9) (h10 : x.1 0 10 = m 81 27) (h11 : x.1 0 11 = m 81 6) (ht : x.1 1 1 = 0) (ht2 : m 81 23 = 0) : RelN N k Ms im x fa tr pm m := by
  obtain ⟨hp, ⟨hN, -, -⟩, ⟨k8, kc, km, hs⟩, q4, q5, q6, q7, q9, ⟨hX, hG, hR⟩, h8, h1'⟩ := h
  have hcf := hp.1.1
  refine ⟨hp, ⟨hN, hC, hM⟩, ⟨k8, ?_, ?_, fun i hi => ⟨(hs i hi).1, ?_, ?_⟩⟩, ?_, ⟨h10, h11⟩, ?_, ?_, ?_, ⟨hX.cg (fx _ (by omega)).1, hG.fx fx (fun c _ _ => by omega), NX.cg hR (fx 60 (by omega)).1⟩, ?_, ?_⟩
  · rw [(fx 19 (by omega)).1]
    exact kc
  · rw [fm 81 5 (by omega)]
    exact km
  · have hl := hp.1.pml (show i < 8 by omega)
    exact (hs i hi).2.1.fx fx (fun c _ _ => by omega)
  · exact (hs i hi).2.2.fr fm (fun j => by omega)
  · cases im with
    | none => exact ⟨h9.trans q4.1, (fm 81 7 (by omega)).trans q4.2⟩
    | some I => exact ⟨h9.trans q4.1, (fm 81 7 (by omega)).trans q4.2.1, q4.2.2.1, q4.2.2.2.1.fx fx (fun c _ _ => by omega), q4.2.2.2.2.fr fm (fun j => by omega)⟩
  · rw [(fx 53 (by omega)).1, fm 81 16 (by omega), fm 81 17 (by omega), fm 81 18 (by omega), fm 81 19 (by omega)]
    exact q6
  · exact ⟨0, by omega, by rw [ht]; exact nI_0.symm, by rw [ht2]; exact nI_0.symm, fun i hi => absurd hi (by omega)⟩
  · obtain ⟨t, a1, a2, a3, a4⟩ := q9
    refine ⟨t, a1, by rw [(fx 3 (by omega)).1]; exact a2, by rw [fm 81 41 (by omega)]; exact a3, fun i hi => ?_⟩
    rw [(fx 4 (by omega)).1, fm 98 i (by omega)]
    exact a4 i hi
  · rw [fm 81 8 (by omega)]
    exact h8
  · rw [fm 81 10 (by omega)]
    exact h1'
theorem noLat_w (x : gIH) (v : Int32) : f_X10_hasNoLatest (up2 (up2 x 81 6 0) 81 5 0) = up2 (f_X10_hasNoLatest (up2 (up2 x 81 6 v) 81 5 0)) 81 6 0 := by
  unfold f_X10_hasNoLatest
  simp only [lt]
  funext c j
  by_cases q : c = 81 ∧ j = 6
  · obtain ⟨rfl, rfl⟩ := q
    rw [up2_at, up2_at2 (Or.inr (by decide)), up2_at2 (Or.inr (by decide)), up2_at2 (Or.inr (by decide)), up2_at2 (Or.inr (by decide)), up2_at2 (Or.inr (by decide)), up2_at]
  · simp only [up2, if_neg q]
theorem acts_cw {fa tr : Nat} {pm : Nat → Nat} {xc x1 xr xt x7 : gXH} (h1 : f_X6_copy 11 7 xc = x1) (h2 : f_X9_doText x1 = some (-1, xr)) (h3 : sI xr 1 1 (0 : Int32) = xt) (h4 : f_X6_copy 7 11 xt = x7) : f_X9_acts fa tr pm xc = some (.inr 0, x7, fa, tr, pm) := by
  unfold f_X9_acts
  simp only [lt]
  rw [h1, h2]
  simp only [Option.bind_some]
  rw [h3, h4, if_pos trivial]
theorem acts_cd {fa tr : Nat} {pm : Nat → Nat} {xc x1 xr xt y : gXH} {d : Nat} (hc : (fa = 71 ∧ tr = 76) ∨ (fa = 76 ∧ tr = 71)) (hd : d < 100) (h1 : f_X6_copy 11 7 xc = x1) (h2 : f_X9_doText x1 = some (nI d, xr)) (h3 : sI xr 1 1 (0 : Int32) = xt) (h4 : f_X9_settle fa tr pm xt = some (y, tr, fa, pm)) : f_X9_acts fa tr pm xc = some (.inl (nI d), (if d = 0 then y else sI y 0 11 0), tr, fa, pm) := by
  unfold f_X9_acts
  simp only [lt]
  rw [h1, h2]
  simp only [Option.bind_some]
  rw [h3, if_neg (nI_ne_m1 (by omega)), h4]
  simp only [Option.bind_some]
  rw [gnG_ok (show (tr = 71 ∧ fa = 76) ∨ (tr = 76 ∧ fa = 71) by omega)]
  by_cases c : d = 0
  · rw [if_pos c, if_pos (show nI d ≤ 0 by rw [c]; exact Int32.le_refl _)]
  · rw [if_neg c, if_neg (show ¬ nI d ≤ 0 from nI_nle (by omega) (by omega))]
theorem acts_mr {hm m0 m1 mr : gIH} {z : Int32} (h1 : up2 (up2 (up2 (up2 hm 81 0 (0 : Int32)) 81 25 (up2 hm 81 0 (0 : Int32) 81 23)) 81 23 (0 : Int32)) 81 24 (0 : Int32) = m0) (h2 : f_X10_copies 82 200 84 200 m0 0 0 = some m1) (h3 : f_X10_readActs m1 = some (z, mr)) : f_X10_acts hm = if z = 0 then f_X10_acts_J54 mr z (mr 81 26) else f_X10_acts_J54 mr z (-1) := by
  unfold f_X10_acts
  simp only [lt]
  rw [h1, h2]
  simp only [Option.bind_some]
  rw [h3]
  rfl
theorem j67_w {x m3 m4 : gIH} (h1 : up2 x 81 0 (1 : Int32) = m3) (h2 : f_X10_copies 84 200 82 200 m3 0 0 = some m4) : f_X10_acts_J67 x 1 = if (m4 81 28) ≤ (0 : Int32) then f_X10_acts_J106 m4 (m4 81 6) else f_X10_acts_J106 m4 (m4 81 28) := by
  unfold f_X10_acts_J67
  simp only [lt, throws1]
  rw [if_neg i1n0, h1, h2]
  simp only [Option.bind_some]
theorem j54_e (x : gIH) (p q : Int32) (h : p = 0) : f_X10_acts_J54 x p q = f_X10_acts_J67 (up2 x 81 27 q) 1 := by
  unfold f_X10_acts_J54
  simp only [lt]
  rw [if_pos h]
theorem j54_w {mr m3 m4 : gIH} (h1 : up2 (up2 mr 81 27 (mr 81 26)) 81 0 (1 : Int32) = m3) (h2 : f_X10_copies 84 200 82 200 m3 0 0 = some m4) : f_X10_acts_J54 mr 0 (mr 81 26) = if (m4 81 28) ≤ (0 : Int32) then f_X10_acts_J106 m4 (m4 81 6) else f_X10_acts_J106 m4 (m4 81 28) := (j54_e mr 0 (mr 81 26) rfl).trans (j67_w h1 h2)
theorem j54_d {mr m3 : gIH} (h1 : up2 mr 81 27 (-1 : Int32) = m3) : f_X10_acts_J54 mr 1 (-1) = if (m3 81 31) ≤ (0 : Int32) then f_X10_acts_J127 m3 (m3 81 6) else f_X10_acts_J127 m3 0 := by
  unfold f_X10_acts_J54 f_X10_acts_J67
  simp only [lt]
  rw [if_neg i1n0, throws0]
  simp only
  rw [if_pos trivial, h1]
theorem M2_ok : M2 Rel := by
  rintro xc fa tr pm hm ⟨N, k, Ms, im, h⟩
  obtain ⟨hp, ⟨hN, hC, hM⟩, ⟨k8, kc, km, hs⟩, q4, q5, q6, ⟨t, t1, t2, t3, t4⟩, q9, ⟨hX, hG, hR⟩, h8, h1'⟩ := id h
  have hcf := hp.1.1
  -- the tape
  obtain ⟨T, hT⟩ : ∃ T : Nat → Nat, ∀ i, i < t → T i < 256 ∧ xc.1 2 i = nI (T i) ∧ hm 91 i = (nI (T i)).toInt8.toInt32 := ⟨fun i => (xc.1 2 i).toNatClampNeg, fun i hi => by
    obtain ⟨b, b1, b2, b3⟩ := t4 i hi
    dsimp only
    rw [b2, nI_clamp (by omega)]
    exact ⟨b1, rfl, b3⟩⟩
  -- the class
  obtain ⟨c1, c2⟩ := copy_ok (g0 := 11) (g1 := 7) hN hC (by omega)
  obtain ⟨x1, ex1⟩ : ∃ x1, f_X6_copy 11 7 xc = x1 := ⟨_, rfl⟩
  rw [ex1] at c1 c2
  have T1 : TC x1 T t := ⟨t1, by rw [(c2 1 (by omega)).1]; exact t2, fun i hi => by
    rw [(c2 2 (by omega)).1]
    exact ⟨(hT i hi).1, (hT i hi).2.1⟩⟩
  have C1 : CNet x1 7 N := hC.fx c2 (fun c _ _ => by omega)
  -- the reference
  obtain ⟨m0, em0⟩ : ∃ m0, up2 (up2 (up2 (up2 hm 81 0 (0 : Int32)) 81 25 (up2 hm 81 0 (0 : Int32) 81 23)) 81 23 (0 : Int32)) 81 24 (0 : Int32) = m0 := ⟨_, rfl⟩
  have f0 : FrM (fun c j => c = 81 ∧ (j = 0 ∨ (23 ≤ j ∧ j ≤ 25))) hm m0 := by
    rw [← em0]
    exact (((FrM.s (W := fun c j => c = 81 ∧ (j = 0 ∨ (23 ≤ j ∧ j ≤ 25))) (by omega)).tr (FrM.s (by omega))).tr (FrM.s (by omega))).tr (FrM.s (by omega))
  have v0 : m0 81 0 = 0 := by rw [← em0, up2_at2 (Or.inr (by decide)), up2_at2 (Or.inr (by decide)), up2_at2 (Or.inr (by decide)), up2_at]
  have v25 : m0 81 25 = nI t := by rw [← em0, up2_at2 (Or.inr (by decide)), up2_at2 (Or.inr (by decide)), up2_at, up2_at2 (Or.inr (by decide))]; exact t3
  have v23 : m0 81 23 = 0 := by rw [← em0, up2_at2 (Or.inr (by decide)), up2_at]
  have v24 : m0 81 24 = 0 := by rw [← em0, up2_at]
  obtain ⟨m1, em1, a1, a2⟩ := copies_ok (c0 := 82) (L0 := 200) (c2 := 84) (L2 := 200) (a := 0) (b := 0) (by omega) (by omega) (by omega) (by omega) (Or.inl (by decide)) m0
  rw [nI_0] at em1
  have M0' : MNet m0 82 0 N := hM.fr f0 (fun j => by omega)
  have D1 : MNet m1 84 0 N := M0'.copy hN a1
  have M1 : MNet m1 82 0 N := M0'.fr a2 (fun j => by omega)
  have Tm1 : TM m1 T t := ⟨t1, by rw [a2 81 25 (by omega)]; exact v25, fun i hi => by
    rw [a2 91 i (by omega), f0 91 i (by omega)]
    exact ⟨(hT i hi).1, (hT i hi).2.2⟩⟩
  obtain ⟨dn, xr, z, mr, ed, er, Fxr, r9, Fmr, hh⟩ := text_ok T1 Tm1 (by rw [a2 81 24 (by omega)]; exact v24) hN C1 M1
  have F1 : FrM (fun c j => (c = 81 ∧ (j = 0 ∨ (23 ≤ j ∧ j ≤ 26) ∨ j = 28 ∨ j = 31)) ∨ c = 82 ∨ c = 84 ∨ c = 93) hm mr := ((f0.mono fun c j q => by omega).tr (a2.mono fun c j q => by omega)).tr (Fmr.mono fun c j q => by unfold WAd at q; omega)
  have w0 : mr 81 0 = 0 := by rw [Fmr 81 0 (by unfold WAd; omega), a2 81 0 (by omega)]; exact v0
  have w23 : mr 81 23 = 0 := by rw [Fmr 81 23 (by unfold WAd; omega), a2 81 23 (by omega)]; exact v23
  have w6 : mr 81 6 = hm 81 6 := F1 81 6 (by omega)
  have FX : Fx (fun c => c = 0 ∨ c = 5 ∨ c = 6 ∨ (7 ≤ c ∧ c ≤ 14)) xc xr := (c2.mono fun c q => by omega).tr (Fxr.mono fun c q => by unfold W5A at q; omega)
  have z9 : xr.1 0 9 = xc.1 0 9 := r9.trans (by rw [(c2 0 (by omega)).1])
  have z11 : x1.1 0 11 = hm 81 6 := (by rw [(c2 0 (by omega)).1]; exact q5.2)
  obtain ⟨xt, ext⟩ : ∃ xt, sI xr 1 1 (0 : Int32) = xt := ⟨_, rfl⟩
  have ft : Fx (fun c => c = 1) xr xt := by
    rw [← ext]
    exact (Fr.s (W := fun c => c = 1) rfl).x
  have xt1 : xt.1 1 1 = 0 := by rw [← ext, sI_at]
  have xt0 : xt.1 0 = xr.1 0 := (ft 0 (by decide)).1
  have FT : Fx (fun c => c = 0 ∨ c = 1 ∨ c = 5 ∨ c = 6 ∨ (7 ≤ c ∧ c ≤ 14)) xc xt := (FX.mono fun c q => by omega).tr (ft.mono fun c q => Or.inr (Or.inl q))
  rw [acts_mr em0 em1 er]
  rcases hh with ⟨rfl, rfl, g10, hw⟩ | ⟨d, N', hd, rfl, rfl, g10, g11, g31, n1, n2, n3⟩
  · -- wrong
    have CA : CNet xt 11 N := (c1.fx Fxr (fun c _ _ => by unfold W5A; omega)).fx ft (fun c _ _ => by omega)
    obtain ⟨e1, e2⟩ := copy_ok (g0 := 7) (g1 := 11) hN CA (by omega)
    obtain ⟨x7, ex7⟩ : ∃ x7, f_X6_copy 7 11 xt = x7 := ⟨_, rfl⟩
    rw [ex7] at e1 e2
    refine ⟨_, acts_cw ex1 ed ext ex7, ?_⟩
    obtain ⟨m3, em3⟩ : ∃ m3, up2 (up2 mr 81 27 (mr 81 26)) 81 0 (1 : Int32) = m3 := ⟨_, rfl⟩
    have f3 : FrM (fun c j => c = 81 ∧ (j = 0 ∨ j = 27)) mr m3 := by
      rw [← em3]
      exact (FrM.s (W := fun c j => c = 81 ∧ (j = 0 ∨ j = 27)) (by omega)).tr (FrM.s (by omega))
    have u0 : m3 81 0 = 1 := by rw [← em3, up2_at]
    have u27 : m3 81 27 = mr 81 26 := by rw [← em3, up2_at2 (Or.inr (by decide)), up2_at]
    obtain ⟨m4, em4, b1, b2⟩ := copies_ok (c0 := 84) (L0 := 200) (c2 := 82) (L2 := 200) (a := 0) (b := 0) (by omega) (by omega) (by omega) (by omega) (Or.inl (by decide)) m3
    rw [nI_0] at em4
    rw [if_pos rfl, j54_w em3 em4]
    have D4 : MNet m4 82 0 N := (((D1.fr Fmr (fun j => by unfold WAd; omega)).fr f3 (fun j => by omega))).copy hN b1
    have F4 : FrM (fun c j => (c = 81 ∧ (j = 0 ∨ (23 ≤ j ∧ j ≤ 28) ∨ j = 31)) ∨ c = 82 ∨ c = 84 ∨ c = 93) hm m4 := ((F1.mono fun c j q => by omega).tr (f3.mono fun c j q => by omega)).tr (b2.mono fun c j q => by omega)
    have y28 : m4 81 28 = mr 81 28 := by rw [b2 81 28 (by omega), f3 81 28 (by omega)]
    have y6 : m4 81 6 = hm 81 6 := F4 81 6 (by omega)
    have X0 : x7.1 0 = xr.1 0 := by rw [(e2 0 (by omega)).1]; exact xt0
    have FX7 : Fx (fun c => c = 0 ∨ c = 1 ∨ c = 5 ∨ c = 6 ∨ (7 ≤ c ∧ c ≤ 14)) xc x7 := FT.tr (e2.mono fun c q => by omega)
    have fin : ∀ v : Int32, xr.1 0 11 = v → Rel x7 fa tr pm (up2 m4 81 6 v) ∧ Agr [0] (.inr 0) (0 : Int32) (f_X10_thrown (up2 m4 81 6 v)) := fun v hv => by
      have g : FrM (fun c j => c = 81 ∧ j = 6) m4 (up2 m4 81 6 v) := FrM.s ⟨rfl, rfl⟩
      refine ⟨(h.tx FX7 e1 ((F4.mono fun c j q => by omega).tr (g.mono fun c j q => by omega)) (D4.fr g (fun j => by omega)) ?_ ?_ ?_ ?_ ?_).rel, agr_R1 (hm := up2 m4 81 6 v) ?_⟩
      · rw [X0]
        exact z9
      · rw [X0, g10, g 81 27 (by omega), b2 81 27 (by omega)]
        exact u27.symm
      · rw [X0, hv, up2_at]
      · rw [(e2 1 (by omega)).1]
        exact xt1
      · rw [g 81 23 (by omega), b2 81 23 (by omega), f3 81 23 (by omega)]
        exact w23
      · rw [g 81 0 (by omega), b2 81 0 (by omega)]
        exact u0
    unfold f_X10_acts_J106
    simp only [lt]
    rcases hw with ⟨k1, k2⟩ | ⟨c, k1, k2, k3, k4⟩
    · rw [if_pos (show m4 81 28 ≤ 0 by rw [y28, k1]; exact Int32.le_refl _)]
      exact ⟨_, rfl, fin _ (by rw [k2, z11, y6])⟩
    · rw [if_neg (show ¬ m4 81 28 ≤ 0 by rw [y28, k3]; exact nI_nle k1 (by omega))]
      exact ⟨_, rfl, fin _ (by rw [k4, y28, k3])⟩
  · -- done
    obtain ⟨m3, em3⟩ : ∃ m3, up2 mr 81 27 (-1 : Int32) = m3 := ⟨_, rfl⟩
    have f3 : FrM (fun c j => c = 81 ∧ j = 27) mr m3 := by
      rw [← em3]
      exact FrM.s ⟨rfl, rfl⟩
    have u27 : m3 81 27 = -1 := by rw [← em3, up2_at]
    have C' : CNet xt 7 N' := n2.fx ft (fun c _ _ => by omega)
    obtain ⟨y, ey, y1, y2, y3⟩ := settle_c (pm := pm) hcf n1 C'
    refine ⟨_, acts_cd hcf (by omega) ex1 ed ext ey, ?_⟩
    rw [if_neg i1n0, j54_d em3]
    -- ahead of the settling: the old net, all else as now
    have v31 : m3 81 31 = nI d := by rw [f3 81 31 (by omega)]; exact g31
    have main : ∀ v : Int32, xt.1 0 11 = v → ∃ zz, f_X10_acts_J127 m3 v = some (nI d, zz) ∧ zz = f_X10_hasNoLatest (up2 (up2 m3 81 6 v) 81 5 0) ∧ (∃ Ms', RelN N' 0 Ms' im (f_X1_clear 53 y) tr fa pm zz) ∧ zz 81 0 = 0 := fun v s11 => by
      unfold f_X10_acts_J127
      simp only [lt]
      obtain ⟨m5, em5⟩ : ∃ m5, up2 (up2 m3 81 6 v) 81 5 (0 : Int32) = m5 := ⟨_, rfl⟩
      have f5 : FrM (fun c j => c = 81 ∧ (j = 5 ∨ j = 6)) m3 m5 := by
        rw [← em5]
        exact (FrM.s (W := fun c j => c = 81 ∧ (j = 5 ∨ j = 6)) (by omega)).tr (FrM.s (by omega))
      have u5 : m5 81 5 = 0 := by rw [← em5, up2_at]
      have u6 : m5 81 6 = v := by rw [← em5, up2_at2 (Or.inr (by decide)), up2_at]
      rw [em5]
      obtain ⟨l1, l2⟩ := noLat_m m5
      obtain ⟨zz, ez⟩ : ∃ zz, f_X10_hasNoLatest m5 = zz := ⟨_, rfl⟩
      rw [ez] at l1 l2
      rw [ez]
      have e31 : zz 81 31 = nI d := by rw [l1 81 31 (by omega), f5 81 31 (by omega)]; exact v31
      refine ⟨zz, by rw [e31], by rw [← ez, ← em5], ⟨Ms, ?_⟩, ?_⟩
      · -- virtual: before the nets changed
        have hv : RelN N k Ms im ((fun c => if 7 ≤ c ∧ c ≤ 10 then xc.1 c else xt.1 c), (fun c => if 7 ≤ c ∧ c ≤ 10 then xc.2 c else xt.2 c)) fa tr pm (fun c j => if c = 82 ∨ (c = 81 ∧ (j = 5 ∨ (16 ≤ j ∧ j ≤ 19))) then hm c j else zz c j) := by
          refine h.tx ?_ ?_ ?_ ?_ ?_ ?_ ?_ ?_ ?_
          · intro c hc
            have a := FT c hc
            dsimp only
            by_cases q : 7 ≤ c ∧ c ≤ 10
            · rw [if_pos q, if_pos q]
              exact ⟨rfl, rfl⟩
            · rw [if_neg q, if_neg q]
              exact a
          · exact hC.fx (W := fun c => ¬ (7 ≤ c ∧ c ≤ 10)) (fun c hc => by
              have q : 7 ≤ c ∧ c ≤ 10 := Classical.byContradiction hc
              dsimp only
              rw [if_pos q, if_pos q]
              exact ⟨rfl, rfl⟩) (fun c q1 q2 q3 => q3 ⟨q1, by omega⟩)
          · intro c j hc
            dsimp only
            by_cases q : c = 82 ∨ (c = 81 ∧ (j = 5 ∨ (16 ≤ j ∧ j ≤ 19)))
            · rw [if_pos q]
            · rw [if_neg q, l1 c j (by omega), f5 c j (by omega), f3 c j (by omega), F1 c j (by omega)]
          · exact hM.fr (W := fun c _ => ¬ c = 82) (fun c j hc => by
              have q : c = 82 := Classical.byContradiction hc
              skip
              rw [if_pos (Or.inl q)]) (fun j q => q rfl)
          · dsimp only
            rw [if_neg (by omega), xt0]
            exact z9
          · dsimp only
            rw [if_neg (by omega), if_neg (by omega), xt0, g10, l1 81 27 (by omega), f5 81 27 (by omega)]
            exact u27.symm
          · dsimp only
            rw [if_neg (by omega), if_neg (by omega), s11, l1 81 6 (by omega)]
            exact u6.symm
          · dsimp only
            rw [if_neg (by omega)]
            exact xt1
          · skip
            rw [if_neg (by omega), l1 81 23 (by omega), f5 81 23 (by omega), f3 81 23 (by omega)]
            exact w23
        refine settle_rel (k' := 0) (x := sI xt 19 1 (nI 0)) hv (by omega) n1 ?_ sI_at ?_ ?_ ?_ l2 y1 y2 y3
        · intro c hc
          have hc7 : ¬ (7 ≤ c ∧ c ≤ 10) := fun q => hc (Or.inl q)
          have hc19 : c ≠ 19 := fun q => hc (Or.inr q)
          dsimp only
          rw [if_neg hc7, if_neg hc7]
          exact ⟨sI_row hc19, rfl⟩
        · exact ((n3.fr f3 (fun j => by omega)).fr f5 (fun j => by omega)).fr l1 (fun j => by omega)
        · intro c j hc
          dsimp only
          rw [if_neg (by omega)]
        · rw [l1 81 5 (by omega), u5]
          exact nI_0.symm
      · rw [l1 81 0 (by omega), f5 81 0 (by omega), f3 81 0 (by omega)]
        exact w0
    have z11t : xt.1 0 11 = hm 81 6 := by rw [xt0, g11]; exact z11
    have u6' : m3 81 6 = hm 81 6 := by rw [f3 81 6 (by omega)]; exact w6
    by_cases c : d = 0
    · rw [if_pos c, if_pos (show m3 81 31 ≤ 0 by rw [v31, c]; exact Int32.le_refl _)]
      obtain ⟨zz, e1, -, ⟨Ms', e2⟩, e3⟩ := main (m3 81 6) (by rw [z11t, u6'])
      exact ⟨_, e1, e2.rel, agr_L (hm := zz) e3 rfl⟩
    · rw [if_neg c, if_neg (show ¬ m3 81 31 ≤ 0 by rw [v31]; exact nI_nle (by omega) (by omega))]
      obtain ⟨zz, e1, ez, ⟨Ms', e2⟩, e3⟩ := main (m3 81 6) (by rw [z11t, u6'])
      have e4 : f_X10_hasNoLatest (up2 (up2 m3 81 6 0) 81 5 0) = up2 zz 81 6 0 := by rw [ez]; exact noLat_w m3 (m3 81 6)
      refine ⟨(nI d, up2 zz 81 6 0), ?_, (why_rel e2 0).rel, agr_L (hm := up2 zz 81 6 0) ?_ rfl⟩
      · unfold f_X10_acts_J127 at e1 ⊢
        simp only [lt] at e1 ⊢
        rw [e4]
        rw [← ez] at e1
        rw [up2_at2 (Or.inr (by decide))]
        have e5 : zz 81 31 = nI d := (Prod.mk.inj (Option.some.inj e1)).1
        rw [e5]
      · rw [up2_at2 (Or.inr (by decide))]
        exact e3
