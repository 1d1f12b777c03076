/-! WEIGHED ANEW -/
section
variable {E1 : Nat → Nat → Prop} {S1 : Nat → Prop} {N : aN} {xc : gXH} {fa tr : Nat} {pm : Nat → Nat} {hm : gIH}
theorem rear_c {E : Nat → Nat → Prop} {S : Nat → Prop} {g : Nat} (hg : 60 < g) (hX : NX xc (g + 1) E) (hG : GF xc g E S) : ∃ y, f_X8_fillRear g xc = some y ∧ Fr (fun c => c = 60) xc y ∧ NX y 60 (fun v u => Rc E S nox u ∧ E u v) := by
  have key : ∃ y, lp (f_X8_fillRear_L2 g) 2000 (0, xc) = some y ∧ Fr (fun c => c = 60) xc y ∧ NX y 60 (fun v u => Rc E S nox u ∧ E u v) := by
    refine lp_for (step := f_X8_fillRear_L2 g) 16 (fun j s => s.1 = nI j ∧ Fr (fun c => c = 60) xc s.2 ∧ ∀ v, v < j → S16 (s.2.1 60 v) ∧ ∀ u, u < 16 → (bt (s.2.1 60 v) u = true ↔ Rc E S nox u ∧ E u v)) _ ?_ ?_ ⟨rfl, Fr.rf, fun v hv => absurd hv (by omega)⟩ (by omega)
    · rintro j ⟨i, x⟩ hj ⟨h0, hf, hh⟩
      dsimp only at h0 hf hh
      subst h0
      have gX := hX.cg (hf.1 (g + 1) (by omega))
      have gG := hG.fr hf (fun c a b => by omega)
      unfold f_X8_fillRear_L2
      dsimp only
      rw [if_neg (ge16 hj)]
      obtain ⟨z, ez, z1, z2⟩ := lp_set (step := f_X8_fillRear_L12 g x (nI j)) 16 (by omega) (fun u => Rc E S nox u ∧ E u j) 0 s16_0 (fun u s hu hp => by
        unfold f_X8_fillRear_L12
        rw [if_neg (ge16 hu), if_neg (fun z => (gG.r0 hu).mp z hp.1)]
        dsimp only
        rw [atv_n (L := 16) hu (by omega), if_neg (by rw [has0 _ (by omega), ((gX u hu).2 j hj).mpr hp.2]; decide)]
        simp only [lt]
        rw [nI_1]
        rfl) (fun u s hu hp => by
        unfold f_X8_fillRear_L12
        rw [if_neg (ge16 hu)]
        dsimp only
        simp only [lt, nI_1]
        by_cases c : Rc E S nox u
        · rw [if_neg (fun z => (gG.r0 hu).mp z c), atv_n (L := 16) hu (by omega), if_pos (by rw [has0 _ (by omega), ← Bool.not_eq_true, (gX u hu).2 j hj]; exact fun z => hp ⟨c, z⟩)]
        · rw [if_pos ((gG.r0 hu).mpr c)]) (fun s => by
        unfold f_X8_fillRear_L12
        rw [if_pos le16]) (k := 2000) (by omega)
      rw [ez]
      simp only [Option.bind_some, lt]
      rw [putv_n (L := 16) hj (by omega)]
      refine ⟨_, rfl, nI_1 j, hf.tr (Fr.s rfl), fun v hv => ?_⟩
      dsimp only
      by_cases c : v = j
      · subst c
        rw [sI_at]
        refine ⟨z1, fun u hu => ?_⟩
        rw [z2 u hu, b_0]
        exact ⟨fun w => w.elim (fun y => by cases y) (fun y => y.2), fun w => Or.inr ⟨hu, w⟩⟩
      · rw [sI_at2 c]
        exact hh v (by omega)
    · rintro ⟨i, x⟩ ⟨h0, hf, hh⟩
      dsimp only at h0 hf hh
      subst h0
      unfold f_X8_fillRear_L2
      dsimp only
      rw [if_pos le16]
      exact ⟨_, rfl, hf, hh⟩
  obtain ⟨y, ey, hy⟩ := key
  refine ⟨y, ?_, hy⟩
  unfold f_X8_fillRear
  rw [ey]
  rfl
def WRn (tr : Nat) : Nat → Prop := fun c => c = 53 ∨ c = 60 ∨ (tr ≤ c ∧ c ≤ tr + 4)
theorem renew_c (hc : (fa = 71 ∧ tr = 76) ∨ (fa = 76 ∧ tr = 71)) (hN : aOk N) (hC : CNet xc 7 N) (hE1 : E16 E1) (hS1 : ∀ s, S1 s → s < 16) (hG : GF xc fa E1 S1) :
    ∃ y, f_X8_renew fa tr pm xc = some (y, tr, fa, pm) ∧ Fr (WRn tr) xc y ∧ NX y (tr + 1) (Ed N 100) ∧ GF y tr (Ed N 100) (fun s => s = nRt N) ∧ RX y N ∧ ChI E1 S1 (Ed N 100) (fun s => s = nRt N) (y.1 53 0) (y.1 53 1) (y.1 53 2) (y.1 53 3) := by
  have hE2 : E16 (Ed N 100) := hN.e16n (k1 := 100) (k2 := 100)
  unfold f_X8_renew
  obtain ⟨x1, e1, a1, a2⟩ := netfill_ok hN hC (tr + 1) (by omega) 100
  rw [skI_none] at e1
  rw [e1]
  simp only [Option.bind_some]
  rw [show x1.1 7 4 = nI (nRt N) by rw [a2.1 7 (by omega)]; exact hC.2.1]
  obtain ⟨x2, e2, b1, b2⟩ := weigh_ok hE2 a1 (f_X9_only (nI (nRt N))) (s16_one hN.r16)
  rw [only_set hN.r16] at b2
  rw [e2]
  simp only [Option.bind_some]
  have X2 := a1.cg (b1.1 (tr + 1) (by unfold WG; omega))
  obtain ⟨x3, e3, c1, c2⟩ := rear_c (by omega) X2 b2
  rw [e3]
  simp only [Option.bind_some]
  have f3 : Fr (fun c => c = 60 ∨ (tr ≤ c ∧ c ≤ tr + 4)) xc x3 := ((a2.mono fun c h => by omega).tr (b1.mono fun c h => by unfold WG at h; omega)).tr (c1.mono fun c h => by omega)
  have G3 := b2.fr c1 (fun c a b => by omega)
  obtain ⟨y, ey, d1, d2⟩ := compare_c (g0 := 53) hE1 hS1 hE2 hN.s16 (hG.fr f3 (fun c a b => by omega)) G3 (by omega) (by omega)
  rw [ey]
  refine ⟨y, rfl, (f3.mono fun c h => by unfold WRn; omega).tr (d1.mono fun c h => by unfold WRn; omega), ?_, G3.fr d1 (fun c a b => by omega), ?_, d2⟩
  · exact (X2.cg (c1.1 _ (by omega))).cg (d1.1 _ (by omega))
  · exact NX.cg c2 (d1.1 60 (by omega))
def WHd : Nat → Nat → Prop := fun c j => (c = 81 ∧ (j = 11 ∨ (16 ≤ j ∧ j ≤ 19))) ∨ (86 ≤ c ∧ c ≤ 88)
theorem holds_m (hN : aOk N) {x : gIH} (hM : MNet x 82 0 N) (h8 : x 81 8 = -1) (h10 : x 81 10 = -1) (hE1 : E16 E1) (hS1 : ∀ s, S1 s → s < 16) (hn1 : ∀ v, Rc E1 S1 nox v → v < nN N) (hW : MW x E1 S1) :
    ∃ y, f_X10_holdsAgainst x = some y ∧ FrM WHd x y ∧ ChI E1 S1 (Ed N 100) (fun s => s = nRt N) (y 81 16) (y 81 17) (y 81 18) (y 81 19) := by
  have hn16 := hN.n16
  obtain ⟨w, ew, w1, w2⟩ := lays_ok hN hM 100 (by rw [h10]; rfl) none h8 (fun p q => by cases q)
  have hWw : MW w E1 S1 := hW.cg (w1 _ _ (by unfold WL; omega)) (fun j => w1 _ _ (by unfold WL; omega)) (fun j => w1 _ _ (by unfold WL; omega))
  have hMw : MNet w 82 0 N := hM.fr w1 (fun j => by unfold WL; omega)
  unfold f_X10_holdsAgainst
  rw [ew]
  simp only [Option.bind_some, lt]
  obtain ⟨x2, e2⟩ : ∃ x2, up2 w 81 16 ((w 81 11) &&& ((w 81 15) ^^^ (-1 : Int32))) = x2 := ⟨_, rfl⟩
  rw [e2]
  obtain ⟨x3, e3⟩ : ∃ x3, up2 x2 81 17 ((x2 81 15) &&& ((x2 81 11) ^^^ (-1 : Int32))) = x3 := ⟨_, rfl⟩
  rw [e3]
  obtain ⟨x4, e4⟩ : ∃ x4, up2 (up2 x3 81 18 (0 : Int32)) 81 19 (0 : Int32) = x4 := ⟨_, rfl⟩
  rw [e4]
  have f2 : FrM (fun c j => c = 81 ∧ (16 ≤ j ∧ j ≤ 19)) w x2 := by rw [← e2]; exact FrM.s (by omega)
  have f3 : FrM (fun c j => c = 81 ∧ (16 ≤ j ∧ j ≤ 19)) x2 x3 := by rw [← e3]; exact FrM.s (by omega)
  have f4 : FrM (fun c j => c = 81 ∧ (16 ≤ j ∧ j ≤ 19)) x3 x4 := by
    rw [← e4]
    exact (FrM.s (W := fun c j => c = 81 ∧ (16 ≤ j ∧ j ≤ 19)) (by omega)).tr (FrM.s (by omega))
  have ff := (f2.tr f3).tr f4
  have v16 : x4 81 16 = w 81 11 &&& (w 81 15 ^^^ (-1)) := by rw [← e4, up2_at2 (Or.inr (by decide)), up2_at2 (Or.inr (by decide)), ← e3, up2_at2 (Or.inr (by decide)), ← e2, up2_at]
  have v17 : x4 81 17 = w 81 15 &&& (w 81 11 ^^^ (-1)) := by rw [← e4, up2_at2 (Or.inr (by decide)), up2_at2 (Or.inr (by decide)), ← e3, up2_at, f2 81 15 (by omega), f2 81 11 (by omega)]
  have v18 : x4 81 18 = 0 := by rw [← e4, up2_at2 (Or.inr (by decide)), up2_at]
  have v19 : x4 81 19 = 0 := by rw [← e4, up2_at]
  have hF4 : MF x4 (Ed N 100) (fun s => s = nRt N) := w2.cg (ff _ _ (by omega)) (fun j => ff _ _ (by omega)) (fun j => ff _ _ (by omega)) (fun j => ff _ _ (by omega))
  have hW4 : MW x4 E1 S1 := hWw.cg (ff _ _ (by omega)) (fun j => ff _ _ (by omega)) (fun j => ff _ _ (by omega))
  obtain ⟨z, ez, z1, ⟨z2, z3⟩, z4⟩ := diff_m hN (cm := 18) (cl := 19) hE1 hS1 (hN.e16n (k1 := 100) (k2 := 100)) hN.s16 (fun v h _ => hn1 v h) (hMw.fr ff (fun j => by omega)) hF4 hW4 v18 v19 (by decide) (by decide)
  rw [df_2, ez]
  refine ⟨z, rfl, ?_, ⟨?_, fun v hv => ?_⟩, ⟨?_, fun v hv => ?_⟩, ⟨z2, z3⟩, ?_⟩
  · exact (w1.mono fun c j h => by unfold WL at h; unfold WHd; omega).tr ((ff.mono fun c j h => by unfold WHd; omega).tr (z1.mono fun c j h => by unfold WHd; omega))
  · rw [z1 81 16 (by omega), v16]
    exact w2.1.1.and
  · rw [z1 81 16 (by omega), v16]
    exact but_bt hv (w2.1.2 v hv) (hWw.1.2 v hv)
  · rw [z1 81 17 (by omega), v17]
    exact hWw.1.1.and
  · rw [z1 81 17 (by omega), v17]
    exact but_bt hv (hWw.1.2 v hv) (w2.1.2 v hv)
  · rw [z4]
    obtain ⟨d, hd⟩ : ∃ d, 16 = nN N + d := ⟨16 - nN N, by omega⟩
    rw [hd]
    exact (lfS_ext (fun v hv h => by have := hn1 v h; omega) d).symm
end
/-- what holds goes on -/
theorem RelN.next {N N' : aN} {k k' : Nat} {Ms Ms' : Nat → aN} {im : Option aN} {xc xc' : gXH} {fa tr fa' tr' : Nat} {pm pm' : Nat → Nat} {hm hm' : gIH} (h : RelN N k Ms im xc fa tr pm hm)
    (hp : pmK fa' tr' pm') (hn : aOk N' ∧ CNet xc' 7 N' ∧ MNet hm' 82 0 N')
    (hk : k' ≤ 8 ∧ xc'.1 19 1 = nI k' ∧ hm' 81 5 = nI k' ∧ ∀ i, i < k' → aOk (Ms' i) ∧ CNet xc' (pm' i) (Ms' i) ∧ MNet hm' 85 (200 * i) (Ms' i))
    (fx : ∀ c, (1 ≤ c ∧ c ≤ 4) ∨ (15 ≤ c ∧ c ≤ 18) → xc'.1 c = xc.1 c) (fl : xc'.2 15 = xc.2 15) (f0 : xc'.1 0 9 = xc.1 0 9 ∧ xc'.1 0 10 = xc.1 0 10)
    (fm : ∀ c j, c = 83 ∨ c = 91 ∨ c = 98 ∨ (c = 81 ∧ (j = 7 ∨ j = 23 ∨ j = 27 ∨ j = 41)) → hm' c j = hm c j) (hw : xc'.1 0 11 = hm' 81 6)
    (hl : xc'.1 53 0 = hm' 81 16 ∧ xc'.1 53 1 = hm' 81 17 ∧ xc'.1 53 2 = hm' 81 18 ∧ xc'.1 53 3 = hm' 81 19)
    (hg : NX xc' (fa' + 1) (Ed N' 100) ∧ GF xc' fa' (Ed N' 100) (fun s => s = nRt N') ∧ RX xc' N') (h8 : hm' 81 8 = -1) (h10 : hm' 81 10 = -1) : RelN N' k' Ms' im xc' fa' tr' pm' hm' := by
  obtain ⟨-, -, -, q4, q5, -, q7, q9, -⟩ := h
  refine ⟨hp, hn, hk, ?_, ⟨?_, hw⟩, hl, ?_, ?_, hg, h8, h10⟩
  · cases im with
    | none => exact ⟨f0.1.trans q4.1, (fm 81 7 (by omega)).trans q4.2⟩
    | some I =>
      refine ⟨f0.1.trans q4.1, (fm 81 7 (by omega)).trans q4.2.1, q4.2.2.1, q4.2.2.2.1.cg (fx 15 (by omega)) (fx 16 (by omega)) (fx 17 (by omega)) (fx 18 (by omega)) fl, ?_⟩
      exact q4.2.2.2.2.copy q4.2.2.1 (fun t _ => fm 83 _ (by omega))
  · rw [f0.2, fm 81 27 (by omega)]
    exact q5.1
  · obtain ⟨t, a1, a2, a3, a4⟩ := q7
    refine ⟨t, a1, by rw [fx 1 (by omega)]; exact a2, by rw [fm 81 23 (by omega)]; exact a3, fun i hi => ?_⟩
    rw [fx 2 (by omega), fm 91 i (by omega)]
    exact a4 i hi
  · obtain ⟨t, a1, a2, a3, a4⟩ := q9
    refine ⟨t, a1, by rw [fx 3 (by omega)]; exact a2, by rw [fm 81 41 (by omega)]; exact a3, fun i hi => ?_⟩
    rw [fx 4 (by omega), fm 98 i (by omega)]
    exact a4 i hi
/-- an act that is not refused -/
theorem act_ok {N N' : aN} {k : Nat} {Ms : Nat → aN} {im : Option aN} {xc : gXH} {fa tr : Nat} {pm : Nat → Nat} {hm : gIH} (h : RelN N k Ms im xc fa tr pm hm) (hN' : aOk N') (hnn : nN N' = nN N) (P : gXH → Option gXH) (hP : ∀ x, CNet x 7 N → ∃ z, P x = some z ∧ CNet z 7 N' ∧ Fx W7 x z) :
    ∃ y, (f_X5_push fa tr pm (sI xc 0 11 0)).bind (fun y2 => gnG y2.2.1 y2.2.2.1 ((P y2.1).bind (fun y4 => (f_X8_renew y2.2.1 y2.2.2.1 y2.2.2.2 y4).bind (fun y5 => gnG y5.2.1 y5.2.2.1 (some ((1 : Int32), y5.1, y5.2.1, y5.2.2.1, y5.2.2.2)))))) = some (1, y, tr, fa, rot k pm) ∧ CNet y 7 N' ∧ ∃ y1, f_X10_remembers (up2 (up2 hm 81 0 0) 81 6 0) = some y1 ∧ MNet y1 82 0 N ∧ ∀ y2, MNet y2 82 0 N' → FrM W82 y1 y2 → ∃ y3, f_X10_holdsAgainst y2 = some y3 ∧ RelN N' (kk k) (Mk k Ms N) im y tr fa (rot k pm) y3 ∧ y3 81 0 = 0 ∧ (S16 (y3 81 16) ∧ y.1 53 0 = y3 81 16) ∧ (S16 (y3 81 17) ∧ y.1 53 1 = y3 81 17) := by
  obtain ⟨hp, ⟨hN, hC, hM⟩, ⟨k8, kc, km, hs⟩, q4, q5, q6, q7, q9, ⟨hX, hG, hR⟩, h8, h10⟩ := id h
  have hE : E16 (Ed N 100) := hN.e16n (k1 := 100) (k2 := 100)
  have f0 : Fx (fun c => c = 0) xc (sI xc 0 11 0) := (Fr.s (W := fun c => c = 0) rfl).x
  obtain ⟨x1, ex1⟩ : ∃ x1, sI xc 0 11 0 = x1 := ⟨_, rfl⟩
  have v9 : x1.1 0 9 = xc.1 0 9 := by rw [← ex1, sI_at2 (by decide)]
  have v10 : x1.1 0 10 = xc.1 0 10 := by rw [← ex1, sI_at2 (by decide)]
  have v11 : x1.1 0 11 = 0 := by rw [← ex1, sI_at]
  rw [ex1] at f0
  rw [ex1]
  have hpl : ∀ i, i < 8 → 21 ≤ pm i ∧ pm i ≤ 49 := fun i hi => hp.1.pml hi
  obtain ⟨x2, e2, f2, v2, s2⟩ := push_c hp hN (hC.fx f0 (fun c _ _ => by omega)) k8 (by rw [(f0 19 (by omega)).1]; exact kc) (fun i hi => (hs i hi).2.1.fx f0 (fun c _ _ => by have := hpl i (by omega); omega))
  rw [e2]
  simp only [Option.bind_some]
  rw [gnG_ok hp.1.1]
  have C2 := (hC.fx f0 (fun c _ _ => by omega)).fx f2 (fun c _ _ => by unfold WPm; omega)
  obtain ⟨x3, e3, c3, f3⟩ := hP x2 C2
  rw [e3]
  simp only [Option.bind_some]
  have cf := hp.1.1
  have G3 := ((hG.fx f0 (fun c _ _ => by omega)).fx f2 (fun c _ _ => by unfold WPm; omega)).fx f3 (fun c _ _ => by omega)
  obtain ⟨y, ey, f4, X4, G4, R4, ch⟩ := renew_c (pm := rot k pm) cf hN' c3 hE hN.s16 G3
  rw [ey]
  simp only [Option.bind_some]
  rw [gnG_ok (show (tr = 71 ∧ fa = 76) ∨ (tr = 76 ∧ fa = 71) by omega)]
  have C4 := c3.fr f4 (fun c _ _ => by unfold WRn; omega)
  refine ⟨y, rfl, C4, ?_⟩
  -- the reference
  obtain ⟨m0, em0⟩ : ∃ m0, up2 (up2 hm 81 0 0) 81 6 0 = m0 := ⟨_, rfl⟩
  have g0 : FrM (fun c j => c = 81 ∧ (j = 0 ∨ j = 6)) hm m0 := by
    rw [← em0]
    exact (FrM.s (W := fun c j => c = 81 ∧ (j = 0 ∨ j = 6)) (by omega)).tr (FrM.s (by omega))
  have t0 : m0 81 0 = 0 := by rw [← em0, up2_at2 (Or.inr (by decide)), up2_at]
  have t6 : m0 81 6 = 0 := by rw [← em0, up2_at]
  rw [em0]
  obtain ⟨m1, em1, g1, w1, s1, F1, W1⟩ := rem_m hN (hM.fr g0 (fun j => by omega)) (by rw [g0 81 8 (by omega)]; exact h8) (by rw [g0 81 10 (by omega)]; exact h10) k8 (by rw [g0 81 5 (by omega)]; exact km) (fun i hi => ⟨(hs i hi).1, (hs i hi).2.2.fr g0 (fun j => by omega)⟩)
  rw [em1]
  have M1 : MNet m1 82 0 N := (hM.fr g0 (fun j => by omega)).fr g1 (fun j => by unfold WRm; omega)
  refine ⟨m1, rfl, M1, fun m2 hM2 g2 => ?_⟩
  have e8 : m2 81 8 = -1 := by rw [g2 81 8 (by omega), g1 81 8 (by unfold WRm; omega), g0 81 8 (by omega)]; exact h8
  have e10 : m2 81 10 = -1 := by rw [g2 81 10 (by omega), g1 81 10 (by unfold WRm; omega), g0 81 10 (by omega)]; exact h10
  obtain ⟨m3, em3, g3, ch3⟩ := holds_m hN' hM2 e8 e10 hE hN.s16 (fun v hv => by rw [hnn]; exact hN.rn hv) (W1.cg (g2 _ _ (by omega)) (fun j => g2 _ _ (by omega)) (fun j => g2 _ _ (by omega)))
  have gall : ∀ c j, ¬ ((c = 81 ∧ (j = 0 ∨ j = 5 ∨ j = 6 ∨ j = 11 ∨ (15 ≤ j ∧ j ≤ 19))) ∨ c = 82 ∨ c = 85 ∨ (86 ≤ c ∧ c ≤ 90)) → m3 c j = hm c j := fun c j hc => by
    rw [g3 c j (by unfold WHd; omega), g2 c j (by omega), g1 c j (by unfold WRm; omega), g0 c j (by omega)]
  have fall : ∀ c, c = 0 ∨ (1 ≤ c ∧ c ≤ 4) ∨ (15 ≤ c ∧ c ≤ 18) → y.1 c = x1.1 c ∧ y.2 c = x1.2 c := fun c hc => by
    have a := f2 c (by unfold WPm; omega)
    have b := f3 c (by omega)
    have d := f4.x c (by unfold WRn; omega)
    exact ⟨d.1.trans (b.1.trans a.1), d.2.trans (b.2.trans a.2)⟩
  obtain ⟨u0, u1, u2, u3⟩ := ch.uniq ch3
  refine ⟨m3, em3, h.next ⟨⟨by omega, (rot_ok (k := k) hp).1.2⟩, (rot_ok (k := k) hp).2⟩ ⟨hN', C4, hM2.fr g3 (fun j => by unfold WHd; omega)⟩ ⟨?_, ?_, ?_, fun i hi => ⟨(s1 i hi).1, ?_, ?_⟩⟩ (fun c hc => ?_) ?_ ?_ (fun c j hc => gall c j (by omega)) ?_ ⟨u0, u1, u2, u3⟩ ⟨X4, G4, R4⟩ ?_ ?_, ?_, ⟨ch3.1.1, u0⟩, ⟨ch3.2.1.1, u1⟩⟩
  · unfold kk
    split <;> omega
  · rw [(f4.x 19 (by unfold WRn; omega)).1, (f3 19 (by omega)).1]
    exact v2
  · rw [g3 81 5 (by unfold WHd; omega), g2 81 5 (by omega)]
    exact w1
  · have hl := (rot_ok (k := k) hp).1.pml (show i < 8 by unfold kk at hi; split at hi <;> omega)
    exact ((s2 i hi).fx f3 (fun c _ _ => by omega)).fr f4 (fun c _ _ => by unfold WRn; omega)
  · exact (((s1 i hi).2.fr g2 (fun j => by omega)).fr g3 (fun j => by unfold WHd; omega))
  · rw [(fall c (by omega)).1, (f0 c (by omega)).1]
  · rw [(fall 15 (by omega)).2, (f0 15 (by omega)).2]
  · rw [(fall 0 (by omega)).1]
    exact ⟨v9, v10⟩
  · rw [(fall 0 (by omega)).1, v11, g3 81 6 (by unfold WHd; omega), g2 81 6 (by omega), g1 81 6 (by unfold WRm; omega), t6]
  · rw [g3 81 8 (by unfold WHd; omega)]
    exact e8
  · rw [g3 81 10 (by unfold WHd; omega)]
    exact e10
  · rw [g3 81 0 (by unfold WHd; omega), g2 81 0 (by omega), g1 81 0 (by unfold WRm; omega), t0]
