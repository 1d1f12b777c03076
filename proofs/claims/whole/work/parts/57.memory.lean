/-! REMEMBERED -/
theorem nI_mul (a b : Nat) : nI a * nI b = nI (a * b) := (Int32.ofNat_mul a b).symm
def Mk (k : Nat) (Ms : Nat → aN) (N : aN) (i : Nat) : aN := if k = 8 then (if i = 7 then N else Ms (i + 1)) else (if i = k then N else Ms i)
def kk (k : Nat) : Nat := if k = 8 then 8 else k + 1
def WRm : Nat → Nat → Prop := fun c j => (c = 81 ∧ (j = 5 ∨ j = 11 ∨ j = 15)) ∨ c = 85 ∨ (86 ≤ c ∧ c ≤ 90)
section
variable {N : aN} {hm : gIH} {k : Nat} {Ms : Nat → aN}
theorem remJ_m (hN : aOk N) (hM : MNet hm 82 0 N) (h8 : hm 81 8 = -1) (h10 : hm 81 10 = -1) (hk : k < 8) (h5 : hm 81 5 = nI k) (hs : ∀ i, i < k → aOk (Ms i) ∧ MNet hm 85 (200 * i) (Ms i)) :
    ∃ y, f_X10_remembers_J56 hm = some y ∧ FrM WRm hm y ∧ y 81 5 = nI (k + 1) ∧ (∀ i, i < k + 1 → aOk (if i = k then N else Ms i) ∧ MNet y 85 (200 * i) (if i = k then N else Ms i)) ∧ MF y (Ed N 100) (fun s => s = nRt N) ∧ MW y (Ed N 100) (fun s => s = nRt N) := by
  unfold f_X10_remembers_J56
  rw [h5, show (200 : Int32) * nI k = nI (200 * k) by rw [show (200 : Int32) = nI 200 from rfl, nI_mul], show (0 : Int32) = nI 0 from rfl]
  obtain ⟨x, ex, x1, x2⟩ := copies_ok (c0 := 82) (L0 := 200) (c2 := 85) (L2 := 1600) (a := 0) (b := 200 * k) (by omega) (by omega) (by omega) (by omega) (Or.inl (by decide)) hm
  rw [ex]
  simp only [Option.bind_some, lt]
  rw [x2 81 5 (by omega), h5, nI_1]
  have f1 : FrM (fun c j => (c = 81 ∧ j = 5) ∨ (c = 85 ∧ 200 * k ≤ j ∧ j < 200 * k + 200)) hm (up2 x 81 5 (nI (k + 1))) := (x2.mono fun c j h => Or.inr h).tr (FrM.s (Or.inl ⟨rfl, rfl⟩))
  obtain ⟨y, ey, y1, y2, y3⟩ := notes_m hN (hM.fr f1 (fun j => by omega)) (by rw [f1 81 8 (by omega)]; exact h8) (by rw [f1 81 10 (by omega)]; exact h10)
  rw [ey]
  refine ⟨y, rfl, ?_, ?_, fun i hi => ?_, y2, y3⟩
  · exact (f1.mono fun c j h => by unfold WRm; omega).tr (y1.mono fun c j h => by unfold WNt at h; unfold WRm; omega)
  · rw [y1 81 5 (by unfold WNt; omega), up2_at]
  · by_cases c : i = k
    · rw [if_pos c, c]
      refine ⟨hN, hM.copy hN fun t ht => ?_⟩
      rw [y1 85 _ (by unfold WNt; omega), up2_at2 (Or.inl (by decide)), x1 t ht]
    · rw [if_neg c]
      obtain ⟨s1, s2⟩ := hs i (by omega)
      refine ⟨s1, s2.part s1 fun j j1 j2 => ?_⟩
      rw [y1 85 _ (by unfold WNt; omega), f1 85 j (by omega)]
theorem rem_m (hN : aOk N) (hM : MNet hm 82 0 N) (h8 : hm 81 8 = -1) (h10 : hm 81 10 = -1) (hk : k ≤ 8) (h5 : hm 81 5 = nI k) (hs : ∀ i, i < k → aOk (Ms i) ∧ MNet hm 85 (200 * i) (Ms i)) :
    ∃ y, f_X10_remembers hm = some y ∧ FrM WRm hm y ∧ y 81 5 = nI (kk k) ∧ (∀ i, i < kk k → aOk (Mk k Ms N i) ∧ MNet y 85 (200 * i) (Mk k Ms N i)) ∧ MF y (Ed N 100) (fun s => s = nRt N) ∧ MW y (Ed N 100) (fun s => s = nRt N) := by
  unfold f_X10_remembers
  by_cases c : k = 8
  · subst c
    rw [if_pos (show hm 81 5 = (8 : Int32) by rw [h5]; rfl)]
    have key : ∃ x, lp f_X10_remembers_L11 2000 (1, hm) = some x ∧ FrM (fun c _ => c = 85) hm x ∧ ∀ i, i < 7 → MNet x 85 (200 * i) (Ms (i + 1)) := by
      refine lp_for (step := f_X10_remembers_L11) 7 (fun j s => s.1 = nI (j + 1) ∧ FrM (fun c _ => c = 85) hm s.2 ∧ (∀ i, i < j → MNet s.2 85 (200 * i) (Ms (i + 1))) ∧ ∀ i, j ≤ i → i < 8 → MNet s.2 85 (200 * i) (Ms i)) _ ?_ ?_ ⟨rfl, FrM.rf, fun i hi => absurd hi (by omega), fun i _ hi => (hs i hi).2⟩ (by omega)
      · rintro j ⟨i, x⟩ hj ⟨h0, hf, h1, h2⟩
        dsimp only at h0 hf h1 h2
        subst h0
        unfold f_X10_remembers_L11
        dsimp only
        rw [if_neg (show ¬ (8 : Int32) ≤ nI (j + 1) from nI_ge (a := j + 1) (b := 8) (by omega) (by omega)), show (200 : Int32) * nI (j + 1) = nI (200 * (j + 1)) by rw [show (200 : Int32) = nI 200 from rfl, nI_mul], show nI (j + 1) - (1 : Int32) = nI j from sub_n (a := j + 1) (b := 1) (by omega), show (200 : Int32) * nI j = nI (200 * j) by rw [show (200 : Int32) = nI 200 from rfl, nI_mul]]
        obtain ⟨y, ey, y1, y2⟩ := copies_ok (c0 := 85) (L0 := 1600) (c2 := 85) (L2 := 1600) (a := 200 * (j + 1)) (b := 200 * j) (by omega) (by omega) (by omega) (by omega) (by omega) x
        rw [ey]
        simp only [Option.bind_some, lt]
        refine ⟨_, rfl, nI_1 _, hf.tr (y2.mono fun c j h => h.1), fun i hi => ?_, fun i i1 i2 => ?_⟩
        · dsimp only
          by_cases c : i = j
          · rw [c]
            exact (h2 (j + 1) (by omega) (by omega)).copy (hs (j + 1) (by omega)).1 y1
          · exact (h1 i (by omega)).part (hs (i + 1) (by omega)).1 fun t t1 t2 => y2 85 t (by omega)
        · dsimp only
          exact (h2 i (by omega) i2).part (hs i i2).1 fun t t1 t2 => y2 85 t (by omega)
      · rintro ⟨i, x⟩ ⟨h0, hf, h1, h2⟩
        dsimp only at h0 hf h1 h2
        subst h0
        unfold f_X10_remembers_L11
        dsimp only
        rw [if_pos (show (8 : Int32) ≤ nI (7 + 1) from Int32.le_refl _)]
        exact ⟨_, rfl, hf, h1⟩
    obtain ⟨x, ex, x1, x2⟩ := key
    rw [ex]
    simp only [Option.bind_some, lt]
    rw [x1 81 5 (by omega), h5, show nI 8 - (1 : Int32) = nI 7 from sub_n (a := 8) (b := 1) (by omega)]
    have f2 : FrM (fun c j => (c = 81 ∧ j = 5) ∨ c = 85) hm (up2 x 81 5 (nI 7)) := (x1.mono fun c j h => Or.inr h).tr (FrM.s (Or.inl ⟨rfl, rfl⟩))
    obtain ⟨y, ey, y1, y2, y3, y4, y5⟩ := remJ_m (k := 7) (Ms := fun i => Ms (i + 1)) hN (hM.fr f2 (fun j => by omega)) (by rw [f2 81 8 (by omega)]; exact h8) (by rw [f2 81 10 (by omega)]; exact h10) (by omega) up2_at (fun i hi => ⟨(hs (i + 1) (by omega)).1, (x2 i hi).fr (W := fun c j => c = 81) (FrM.s rfl) (fun j => by omega)⟩)
    rw [ey]
    refine ⟨y, rfl, (f2.mono fun c j h => by unfold WRm; omega).tr y1, y2, fun i hi => ?_, y4, y5⟩
    have hi : i < 8 := hi
    exact y3 i (by omega)
  · have hc : ¬ hm 81 5 = (8 : Int32) := fun z => c ((nI_eq (a := k) (b := 8) (by omega) (by omega)).mp (h5.symm.trans z))
    rw [if_neg hc]
    obtain ⟨y, ey, y1, y2, y3, y4, y5⟩ := remJ_m hN hM h8 h10 (by omega) h5 hs
    refine ⟨y, ey, y1, ?_, fun i hi => ?_, y4, y5⟩
    · unfold kk
      rw [if_neg c]
      exact y2
    · unfold kk at hi
      rw [if_neg c] at hi
      unfold Mk
      rw [if_neg c]
      exact y3 i hi
end
/-! the class's memory -/
section
variable {N : aN} {xc : gXH} {fa tr k : Nat} {pm : Nat → Nat} {Ms : Nat → aN}
def pmK (fa tr : Nat) (pm : Nat → Nat) : Prop := CfgOk fa tr pm ∧ ∀ i j, i < 8 → j < 8 → pm i = pm j → i = j
theorem gnN_ok {α : Type} (h : CfgOk fa tr pm) {i : Nat} (hi : i < 8) (t : Option α) : gnN (pm i) t = t := by
  obtain ⟨j, hj, e⟩ := h.2 i hi
  unfold gnN
  rw [if_pos]
  rw [e]
  rcases (show j = 0 ∨ j = 1 ∨ j = 2 ∨ j = 3 ∨ j = 4 ∨ j = 5 ∨ j = 6 ∨ j = 7 by omega) with rfl | rfl | rfl | rfl | rfl | rfl | rfl | rfl <;> decide
theorem gnG_ok {α : Type} (h : (fa = 71 ∧ tr = 76) ∨ (fa = 76 ∧ tr = 71)) (t : Option α) : gnG fa tr t = t := by
  unfold gnG
  rw [if_pos h]
def rot (k : Nat) (pm : Nat → Nat) (i : Nat) : Nat := if k = 8 then (if i = 7 then pm 0 else if i + 1 < 8 then pm (i + 1) else pm i) else pm i
theorem rot_ok (h : pmK fa tr pm) : pmK fa tr (rot k pm) := by
  obtain ⟨⟨h1, h2⟩, h3⟩ := h
  by_cases c : k = 8
  · have e : ∀ i, i < 8 → ∃ j, j < 8 ∧ rot k pm i = pm j ∧ ((i = 7 ∧ j = 0) ∨ (i < 7 ∧ j = i + 1)) := fun i hi => by
      unfold rot
      rw [if_pos c]
      by_cases d : i = 7
      · rw [if_pos d]
        exact ⟨0, by omega, rfl, Or.inl ⟨d, rfl⟩⟩
      · rw [if_neg d, if_pos (by omega)]
        exact ⟨i + 1, by omega, rfl, Or.inr ⟨by omega, rfl⟩⟩
    refine ⟨⟨h1, fun i hi => ?_⟩, fun i j hi hj hh => ?_⟩
    · obtain ⟨j, j1, j2, -⟩ := e i hi
      rw [j2]
      exact h2 j j1
    · obtain ⟨a, a1, a2, a3⟩ := e i hi
      obtain ⟨b, b1, b2, b3⟩ := e j hj
      have := h3 a b a1 b1 (by rw [← a2, ← b2, hh])
      omega
  · have e : rot k pm = pm := by
      funext i
      unfold rot
      rw [if_neg c]
    rw [e]
    exact ⟨⟨h1, h2⟩, h3⟩
def WPm : Nat → Prop := fun c => c = 19 ∨ (21 ≤ c ∧ c ≤ 52)
theorem CfgOk.pm4 (h : CfgOk fa tr pm) {i : Nat} (hi : i < 8) : ∃ j, j < 8 ∧ pm i = 21 + 4 * j := h.2 i hi
/-- two rows of the memory are apart -/
theorem pm_apart (h : pmK fa tr pm) {i j : Nat} (hi : i < 8) (hj : j < 8) (hne : i ≠ j) : pm i + 3 < pm j ∨ pm j + 3 < pm i := by
  obtain ⟨a, a1, a2⟩ := h.1.2 i hi
  obtain ⟨b, b1, b2⟩ := h.1.2 j hj
  have : a ≠ b := fun z => hne (h.2 i j hi hj (by rw [a2, b2, z]))
  omega
theorem pushJ_c (hp : pmK fa tr pm) (hN : aOk N) (hC : CNet xc 7 N) (hk : k < 8) (h1 : xc.1 19 1 = nI k) (hs : ∀ i, i < k → CNet xc (pm i) (Ms i)) :
    ∃ y, f_X5_push_J16 xc fa tr pm = some (y, fa, tr, pm) ∧ Fx WPm xc y ∧ y.1 19 1 = nI (k + 1) ∧ ∀ i, i < k + 1 → CNet y (pm i) (if i = k then N else Ms i) := by
  unfold f_X5_push_J16
  rw [gnG_ok hp.1.1, h1, if_neg (nI_pos (by omega)), if_neg (show ¬ (8 : Int32) ≤ nI k from nI_ge (a := k) (b := 8) hk (by omega)), gck_ni hk (by omega), nI_clamp (by omega), gnN_ok hp.1 hk, gck_ni hk (by omega), gnN_ok hp.1 hk]
  simp only [lt]
  have hl := hp.1.pml hk
  obtain ⟨c1, c2⟩ := copy_ok (g0 := pm k) (g1 := 7) hN hC (by omega)
  obtain ⟨y, ey⟩ : ∃ y, f_X6_copy (pm k) 7 xc = y := ⟨_, rfl⟩
  rw [ey] at c1 c2
  rw [ey]
  have r19 : y.1 19 = xc.1 19 := (c2 19 (by omega)).1
  rw [r19, h1, nI_1]
  have f2 : Fx (fun c => c = 19) y (sI y 19 1 (nI (k + 1))) := (Fr.s (W := fun c => c = 19) rfl).x
  refine ⟨_, rfl, ?_, sI_at, fun i hi => ?_⟩
  · exact (c2.mono fun c h => by unfold WPm; omega).tr (f2.mono fun c h => by unfold WPm; omega)
  · by_cases c : i = k
    · rw [if_pos c, c]
      exact c1.fx f2 (fun c _ _ => by omega)
    · rw [if_neg c]
      have hl2 := hp.1.pml (show i < 8 by omega)
      have ap := pm_apart hp (show i < 8 by omega) hk c
      exact ((hs i (by omega)).fx c2 (fun c _ _ => by omega)).fx f2 (fun c _ _ => by omega)
theorem push_c (hp : pmK fa tr pm) (hN : aOk N) (hC : CNet xc 7 N) (hk : k ≤ 8) (h1 : xc.1 19 1 = nI k) (hs : ∀ i, i < k → CNet xc (pm i) (Ms i)) :
    ∃ y, f_X5_push fa tr pm xc = some (y, fa, tr, rot k pm) ∧ Fx WPm xc y ∧ y.1 19 1 = nI (kk k) ∧ ∀ i, i < kk k → CNet y (rot k pm i) (Mk k Ms N i) := by
  unfold f_X5_push
  rw [h1]
  by_cases c : k = 8
  · subst c
    rw [if_neg (show ¬ nI 8 < (8 : Int32) from nI_nlt (a := 8) (b := 8) (by omega) (by omega))]
    unfold f_X5_forgetFirst
    rw [show (0 : Int32) = nI 0 from rfl, gck_ni (by omega) (by omega), nI_clamp (by omega), gnN_ok hp.1 (by omega)]
    have key : ∃ z, lp (f_X5_forgetFirst_L17 xc) 2000 (1, fa, tr, pm) = some z ∧ z = (fa, tr, fun i => if i + 1 < 8 then pm (i + 1) else pm i) := by
      refine lp_for (step := f_X5_forgetFirst_L17 xc) 7 (fun j s => s.1 = nI (j + 1) ∧ s.2 = (fa, tr, fun i => if i < j then pm (i + 1) else pm i)) _ ?_ ?_ ⟨rfl, ?_⟩ (by omega)
      · rintro j ⟨i, s⟩ hj ⟨h0, h2⟩
        dsimp only at h0 h2
        subst h0 h2
        unfold f_X5_forgetFirst_L17
        dsimp only
        rw [if_neg (show ¬ (8 : Int32) ≤ nI (j + 1) from nI_ge (a := j + 1) (b := 8) (by omega) (by omega)), gck_ni (by omega) (by omega), nI_clamp (by omega), if_neg (show ¬ j + 1 < j by omega), gnN_ok hp.1 (by omega), show nI (j + 1) - (1 : Int32) = nI j from sub_n (a := j + 1) (b := 1) (by omega), gck_ni (by omega) (by omega), nI_clamp (by omega)]
        simp only [lt]
        refine ⟨_, rfl, nI_1 _, ?_⟩
        dsimp only
        congr 2
        funext i
        unfold pmu
        by_cases d : i = j
        · rw [if_pos d, if_pos (by omega), d]
        · rw [if_neg d]
          show (if i < j then pm (i + 1) else pm i) = _
          by_cases d2 : i < j
          · rw [if_pos d2, if_pos (by omega)]
          · rw [if_neg d2, if_neg (by omega)]
      · rintro ⟨i, s⟩ ⟨h0, h2⟩
        dsimp only at h0 h2
        subst h0 h2
        unfold f_X5_forgetFirst_L17
        dsimp only
        rw [if_pos (show (8 : Int32) ≤ nI (7 + 1) from Int32.le_refl _)]
        refine ⟨_, rfl, ?_⟩
        congr 2
        funext i
        by_cases d : i < 7
        · rw [if_pos d, if_pos (by omega)]
        · rw [if_neg d, if_neg (by omega)]
      · congr 2
    obtain ⟨z, ez, hz⟩ := key
    rw [ez, hz]
    simp only [Option.bind_some, lt]
    rw [show (8 : Int32) - (1 : Int32) = nI 7 from rfl, gck_ni (by omega) (by omega), nI_clamp (by omega)]
    have er : pmu (fun i => if i + 1 < 8 then pm (i + 1) else pm i) 7 (pm 0) = rot 8 pm := by
      funext i
      unfold pmu rot
      rw [if_pos rfl]
    rw [er]
    simp only [Option.bind_some]
    rw [gnG_ok hp.1.1]
    have hp2 := rot_ok (k := 8) hp
    have f2 : Fx (fun c => c = 19) xc (sI xc 19 1 (nI 7)) := (Fr.s (W := fun c => c = 19) rfl).x
    obtain ⟨y, ey, y1, y2, y3⟩ := pushJ_c (k := 7) (Ms := fun i => Ms (i + 1)) hp2 hN (hC.fx f2 (fun c _ _ => by omega)) (by omega) sI_at (fun i hi => by
      have e : rot 8 pm i = pm (i + 1) := by
        unfold rot
        rw [if_pos rfl, if_neg (by omega), if_pos (by omega)]
      rw [e]
      have hl := hp.1.pml (show i + 1 < 8 by omega)
      exact (hs (i + 1) (by omega)).fx f2 (fun c _ _ => by omega))
    rw [ey]
    exact ⟨y, rfl, (f2.mono fun c h => by unfold WPm; omega).tr y1, y2, fun i hi => y3 i hi⟩
  · rw [if_pos (show nI k < (8 : Int32) from nI_lt (a := k) (b := 8) (by omega) (by omega))]
    have e : rot k pm = pm := by
      funext i
      unfold rot
      rw [if_neg c]
    obtain ⟨y, ey, y1, y2, y3⟩ := pushJ_c hp hN hC (by omega) h1 hs
    rw [e]
    refine ⟨y, ey, y1, ?_, fun i hi => ?_⟩
    · unfold kk
      rw [if_neg c]
      exact y2
    · unfold kk at hi
      rw [if_neg c] at hi
      unfold Mk
      rw [if_neg c]
      exact y3 i hi
end
