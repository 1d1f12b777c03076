/-! WHAT WOULD BE -/
section
variable {N : aN} {hm y : gIH} {xc : gXH} {fa tr : Nat}
theorem only_set {r : Nat} (hr : r < 16) : (fun s => bt (f_X9_only (nI r)) s = true) = (fun s => s = r) := funext fun s => propext (bt_one16 hr s)
theorem wg_ws (h : (fa = 71 ∧ tr = 76) ∨ (fa = 76 ∧ tr = 71)) : ∀ c, WG tr c → WS tr c := fun c z => by unfold WG at z; unfold WS; omega
/-- trial weighed over E, then against what stands -/
theorem trial_c {E : Nat → Nat → Prop} {x : gXH} (h : CQ N fa tr x) (hE : E16 E) (hX : NX x (tr + 1) E) : ∃ z, ((f_X3_weigh tr x (f_X9_only (x.1 7 4))).bind (fun y2 => (f_X1_compare 70 fa tr y2).bind (fun y3 => some y3))) = some z ∧ Fr (WS tr) x z ∧ ChI (Ed N 100) (fun s => s = nRt N) E (fun s => s = nRt N) (z.1 70 0) (z.1 70 1) (z.1 70 2) (z.1 70 3) := by
  have h0 := h.1
  have hN := h.2.1
  have hC := h.2.2.1
  rw [hC.2.1]
  obtain ⟨w, ew, w1, w2⟩ := weigh_ok hE hX (f_X9_only (nI (nRt N))) (s16_one hN.r16)
  rw [only_set hN.r16] at w2
  rw [ew]
  simp only [Option.bind_some]
  have f1 := w1.mono (wg_ws h0)
  have hw := h.fr f1
  obtain ⟨z, ez, z1, z2⟩ := compare_c (g0 := 70) (hN.e16n (k1 := 100) (k2 := 100)) hN.s16 hE hN.s16 hw.2.2.2.2.1 w2 (by omega) (by omega)
  rw [ez]
  exact ⟨z, rfl, f1.tr (z1.mono fun c hc => by unfold WS; omega), z2⟩
theorem shut_c (h : CQ N fa tr xc) {a : Nat} (ha : a < nM N) : ∃ z, f_X8_ifShut fa tr xc (nI a) = some z ∧ Fr (WS tr) xc z ∧ ChI (Ed N 100) (fun s => s = nRt N) (Ed N a) (fun s => s = nRt N) (z.1 70 0) (z.1 70 1) (z.1 70 2) (z.1 70 3) := by
  have h0 := h.1
  have hN := h.2.1
  have h60 := hN.m60
  obtain ⟨x, ex, x1, x2⟩ := netfill_ok hN h.2.2.1 (tr + 1) (by omega) a
  rw [show skI a = nI a by unfold skI; rw [if_pos (by omega)]] at ex
  have f1 : Fr (WS tr) xc x := x2.mono fun c hc => by unfold WS; omega
  obtain ⟨z, ez, z1, z2⟩ := trial_c (h.fr f1) (hN.e16n (k1 := a) (k2 := 100)) x1
  refine ⟨z, ?_, f1.tr z1, z2⟩
  unfold f_X8_ifShut
  rw [ex]
  exact ez
theorem laid_c (h : CQ N fa tr xc) {i j : Nat} (hi : i < 16) (hj : j < 16) : ∃ z, f_X8_ifLaid fa tr xc (nI i) (nI j) = some z ∧ Fr (WS tr) xc z ∧ ChI (Ed N 100) (fun s => s = nRt N) (EdX N 100 100 (some (i, j))) (fun s => s = nRt N) (z.1 70 0) (z.1 70 1) (z.1 70 2) (z.1 70 3) := by
  have h0 := h.1
  have hN := h.2.1
  obtain ⟨x, ex, x1, x2⟩ := netfill_ok hN h.2.2.1 (tr + 1) (by omega) 100
  rw [skI_none] at ex
  have f1 : Fr (WS tr) xc x := x2.mono fun c hc => by unfold WS; omega
  have f2 : Fr (WS tr) x (sI x (tr + 1) i (x.1 (tr + 1) i ||| f_X9_only (nI j))) := Fr.s (by unfold WS; omega)
  have hE : E16 (EdX N 100 100 (some (i, j))) := hN.e16 fun p q => by cases q; exact ⟨hi, hj⟩
  have hx : NX (sI x (tr + 1) i (x.1 (tr + 1) i ||| f_X9_only (nI j))) (tr + 1) (EdX N 100 100 (some (i, j))) := fun u hu => by
    by_cases c : u = i
    · subst c
      rw [sI_at]
      obtain ⟨b1, b2⟩ := bt_set (s := x.1 (tr + 1) u) hj (x1 u hu).1
      refine ⟨b1, fun v hv => ?_⟩
      show bt (x.1 (tr + 1) u ||| (1 : Int32) <<< (nI j &&& 31)) v = true ↔ _
      rw [b2, (x1 u hu).2 v hv]
      constructor
      · rintro ((z | z) | rfl)
        · exact Or.inl z
        · cases z
        · exact Or.inr rfl
      · rintro (z | z)
        · exact Or.inl (Or.inl z)
        · cases z
          exact Or.inr rfl
    · rw [sI_at2 c]
      refine ⟨(x1 u hu).1, fun v hv => ?_⟩
      rw [(x1 u hu).2 v hv]
      constructor
      · rintro (z | z)
        · exact Or.inl z
        · cases z
      · rintro (z | z)
        · exact Or.inl z
        · cases z
          exact absurd rfl c
  obtain ⟨z, ez, z1, z2⟩ := trial_c ((h.fr f1).fr f2) hE hx
  refine ⟨z, ?_, (f1.tr f2).tr z1, z2⟩
  unfold f_X8_ifLaid
  rw [ex]
  simp only [Option.bind_some, lt]
  rw [putv_n (L := 16) hi (by omega), atv_n (L := 16) hi (by omega)]
  exact ez
/-! the reference -/
def QN (N : aN) (hm hm' : gIH) : Prop := FrM WQ hm hm' ∧ MNet hm' 82 0 N ∧ hm' 81 8 = -1 ∧ hm' 81 10 = -1
theorem QM.n (q : QM N hm y) : QN N hm y := ⟨q.1, q.2.1, q.2.2.2⟩
def WNt : Nat → Nat → Prop := fun c j => (c = 81 ∧ (j = 11 ∨ j = 15)) ∨ (86 ≤ c ∧ c ≤ 90)
theorem notes_m (hN : aOk N) {x : gIH} (hM : MNet x 82 0 N) (h8 : x 81 8 = -1) (h10 : x 81 10 = -1) : ∃ y, f_X10_notes x = some y ∧ FrM WNt x y ∧ MF y (Ed N 100) (fun s => s = nRt N) ∧ MW y (Ed N 100) (fun s => s = nRt N) := by
  obtain ⟨w, ew, w1, w2⟩ := lays_ok hN hM 100 (by rw [h10]; rfl) none h8 (fun p q => by cases q)
  unfold f_X10_notes
  rw [ew]
  simp only [Option.bind_some, lt]
  have key : ∃ y, lp f_X10_notes_L14 2000 (0, up2 w 81 15 (w 81 11)) = some y ∧ FrM (fun c _ => c = 89 ∨ c = 90) (up2 w 81 15 (w 81 11)) y ∧ ∀ v, v < 16 → y 89 v = w 87 v ∧ y 90 v = w 88 v := by
    refine lp_for (step := f_X10_notes_L14) 16 (fun j s => s.1 = nI j ∧ FrM (fun c _ => c = 89 ∨ c = 90) (up2 w 81 15 (w 81 11)) s.2 ∧ ∀ v, v < j → s.2 89 v = w 87 v ∧ s.2 90 v = w 88 v) _ ?_ ?_ ⟨rfl, FrM.rf, fun v hv => absurd hv (by omega)⟩ (by omega)
    · rintro j ⟨i, t⟩ hj ⟨h0, hf, hh⟩
      dsimp only at h0 hf hh
      subst h0
      have e87 : t 87 j = w 87 j := by rw [hf 87 j (by omega), up2_at2 (Or.inl (by decide))]
      have e88 : t 88 j = w 88 j := by rw [hf 88 j (by omega), up2_at2 (Or.inl (by decide))]
      unfold f_X10_notes_L14
      dsimp only
      rw [if_neg (ge16 hj), gck_ni hj (by omega), gck_ni hj (by omega), nI_clamp (by omega)]
      simp only [lt]
      rw [gck_ni hj (by omega), gck_ni hj (by omega)]
      refine ⟨_, rfl, nI_1 j, (hf.tr (FrM.s (Or.inl rfl))).tr (FrM.s (Or.inr rfl)), fun v hv => ?_⟩
      dsimp only
      by_cases c : v = j
      · subst c
        refine ⟨?_, ?_⟩
        · rw [up2_at2 (Or.inl (by decide)), up2_at, e87]
        · rw [up2_at, up2_at2 (Or.inl (by decide)), e88]
      · have := hh v (by omega)
        refine ⟨?_, ?_⟩
        · rw [up2_at2 (Or.inl (by decide)), up2_at2 (Or.inr c)]
          exact this.1
        · rw [up2_at2 (Or.inr c), up2_at2 (Or.inl (by decide))]
          exact this.2
    · rintro ⟨i, t⟩ ⟨h0, hf, hh⟩
      dsimp only at h0 hf hh
      subst h0
      unfold f_X10_notes_L14
      dsimp only
      rw [if_pos le16]
      exact ⟨_, rfl, hf, hh⟩
  obtain ⟨z, ez, z1, z2⟩ := key
  rw [ez]
  have e15 : z 81 15 = w 81 11 := by rw [z1 81 15 (by omega), up2_at]
  have e11 : z 81 11 = w 81 11 := by rw [z1 81 11 (by omega), up2_at2 (Or.inr (by decide))]
  have e8 : ∀ c j, 86 ≤ c → c ≤ 88 → z c j = w c j := fun c j a b => by rw [z1 c j (by omega), up2_at2 (Or.inl (by omega))]
  refine ⟨z, rfl, ?_, w2.cg e11 (fun j => e8 _ _ (by omega) (by omega)) (fun j => e8 _ _ (by omega) (by omega)) (fun j => e8 _ _ (by omega) (by omega)), ⟨⟨by rw [e15]; exact w2.1.1, fun v hv => by rw [e15]; exact w2.1.2 v hv⟩, fun v hv hr => by rw [(z2 v hv).1]; exact (w2.2.2.1 v hv).1 hr, fun v hv => by rw [(z2 v hv).2]; exact w2.2.2.2 v hv⟩⟩
  exact (w1.mono fun c j h => by unfold WL at h; unfold WNt; omega).tr ((FrM.s (by unfold WNt; omega)).tr (z1.mono fun c j h => by unfold WNt; omega))
def WDf : Nat → Nat → Prop := fun c j => (c = 81 ∧ (j = 8 ∨ j = 10 ∨ j = 11 ∨ (36 ≤ j ∧ j ≤ 39))) ∨ (86 ≤ c ∧ c ≤ 88)
theorem differs_m (hN : aOk N) {x : gIH} (hM : MNet x 82 0 N) (k2 : Nat) (h2 : x 81 10 = skI k2) (xt : Option (Nat × Nat)) (hx : XT xt x) (hxn : ∀ p, xt = some p → p.1 < nN N ∧ p.2 < nN N) (hW : MW x (Ed N 100) (fun s => s = nRt N)) :
    ∃ y, f_X10_differs x = some y ∧ FrM WDf x y ∧ (y 81 8 = -1 ∧ y 81 10 = -1) ∧ ChI (Ed N 100) (fun s => s = nRt N) (EdX N k2 100 xt) (fun s => s = nRt N) (y 81 36) (y 81 37) (y 81 38) (y 81 39) := by
  have hn16 := hN.n16
  obtain ⟨w, ew, w1, w2⟩ := lays_ok hN hM k2 h2 xt hx hxn
  have hWw : MW w (Ed N 100) (fun s => s = nRt N) := hW.cg (w1 _ _ (by unfold WL; omega)) (fun j => w1 _ _ (by unfold WL; omega)) (fun j => w1 _ _ (by unfold WL; omega))
  have hMw : MNet w 82 0 N := hM.fr w1 (fun j => by unfold WL; omega)
  unfold f_X10_differs
  rw [ew]
  simp only [Option.bind_some, lt]
  obtain ⟨x1, e1⟩ : ∃ x1, up2 (up2 w 81 8 (-1)) 81 10 (-1) = x1 := ⟨_, rfl⟩
  rw [e1]
  have f1 : FrM (fun c j => c = 81 ∧ (j = 8 ∨ j = 10)) w x1 := by
    rw [← e1]
    exact (FrM.s (W := fun c j => c = 81 ∧ (j = 8 ∨ j = 10)) (by omega)).tr (FrM.s (by omega))
  have a8 : x1 81 8 = -1 := by rw [← e1, up2_at2 (Or.inr (by decide)), up2_at]
  have a10 : x1 81 10 = -1 := by rw [← e1, up2_at]
  have r11 : x1 81 11 = w 81 11 := f1 _ _ (by omega)
  have r15 : x1 81 15 = w 81 15 := f1 _ _ (by omega)
  obtain ⟨x2, e2⟩ : ∃ x2, up2 x1 81 36 ((x1 81 11) &&& ((x1 81 15) ^^^ (-1 : Int32))) = x2 := ⟨_, rfl⟩
  rw [e2]
  obtain ⟨x3, e3⟩ : ∃ x3, up2 x2 81 37 ((x2 81 15) &&& ((x2 81 11) ^^^ (-1 : Int32))) = x3 := ⟨_, rfl⟩
  rw [e3]
  obtain ⟨x4, e4⟩ : ∃ x4, up2 (up2 x3 81 38 (0 : Int32)) 81 39 (0 : Int32) = x4 := ⟨_, rfl⟩
  rw [e4]
  have f2 : FrM (fun c j => c = 81 ∧ (36 ≤ j ∧ j ≤ 39)) x1 x2 := by rw [← e2]; exact FrM.s (by omega)
  have f3 : FrM (fun c j => c = 81 ∧ (36 ≤ j ∧ j ≤ 39)) x2 x3 := by rw [← e3]; exact FrM.s (by omega)
  have f4 : FrM (fun c j => c = 81 ∧ (36 ≤ j ∧ j ≤ 39)) x3 x4 := by
    rw [← e4]
    exact (FrM.s (W := fun c j => c = 81 ∧ (36 ≤ j ∧ j ≤ 39)) (by omega)).tr (FrM.s (by omega))
  have ff := (f2.tr f3).tr f4
  have v36 : x4 81 36 = w 81 11 &&& (w 81 15 ^^^ (-1)) := by rw [← e4, up2_at2 (Or.inr (by decide)), up2_at2 (Or.inr (by decide)), ← e3, up2_at2 (Or.inr (by decide)), ← e2, up2_at, r11, r15]
  have v37 : x4 81 37 = w 81 15 &&& (w 81 11 ^^^ (-1)) := by rw [← e4, up2_at2 (Or.inr (by decide)), up2_at2 (Or.inr (by decide)), ← e3, up2_at, f2 81 15 (by omega), f2 81 11 (by omega), r11, r15]
  have v38 : x4 81 38 = 0 := by rw [← e4, up2_at2 (Or.inr (by decide)), up2_at]
  have v39 : x4 81 39 = 0 := by rw [← e4, up2_at]
  have fw := (f1.mono (W' := fun c j => c = 81 ∧ (j = 8 ∨ j = 10 ∨ (36 ≤ j ∧ j ≤ 39))) (fun c j h => by omega)).tr (ff.mono fun c j h => by omega)
  have hF4 : MF x4 (EdX N k2 100 xt) (fun s => s = nRt N) := w2.cg (fw _ _ (by omega)) (fun j => fw _ _ (by omega)) (fun j => fw _ _ (by omega)) (fun j => fw _ _ (by omega))
  have hW4 : MW x4 (Ed N 100) (fun s => s = nRt N) := hWw.cg (fw _ _ (by omega)) (fun j => fw _ _ (by omega)) (fun j => fw _ _ (by omega))
  have hE2 : E16 (EdX N k2 100 xt) := hN.e16 fun p q => by have := hxn p q; omega
  obtain ⟨z, ez, z1, ⟨z2, z3⟩, z4⟩ := diff_m hN (cm := 38) (cl := 39) (hN.e16n (k1 := 100) (k2 := 100)) hN.s16 hE2 hN.s16 (fun v h _ => hN.rn h) (hMw.fr fw (fun j => by omega)) hF4 hW4 v38 v39 (by decide) (by decide)
  rw [df_1, ez]
  refine ⟨z, rfl, ?_, ⟨?_, ?_⟩, ⟨?_, fun v hv => ?_⟩, ⟨?_, fun v hv => ?_⟩, ⟨z2, z3⟩, ?_⟩
  · exact (w1.mono fun c j h => by unfold WL at h; unfold WDf; omega).tr ((fw.mono fun c j h => by unfold WDf; omega).tr (z1.mono fun c j h => by unfold WDf; omega))
  · rw [z1 81 8 (by omega), ff 81 8 (by omega), a8]
  · rw [z1 81 10 (by omega), ff 81 10 (by omega), a10]
  · rw [z1 81 36 (by omega), v36]
    exact w2.1.1.and
  · rw [z1 81 36 (by omega), v36]
    exact but_bt hv (w2.1.2 v hv) (hWw.1.2 v hv)
  · rw [z1 81 37 (by omega), v37]
    exact hWw.1.1.and
  · rw [z1 81 37 (by omega), v37]
    exact but_bt hv (hWw.1.2 v hv) (w2.1.2 v hv)
  · rw [z4]
    obtain ⟨d, hd⟩ : ∃ d, 16 = nN N + d := ⟨16 - nN N, by omega⟩
    rw [hd]
    exact (lfS_ext (fun v hv h => by have := hN.rn h; omega) d).symm
theorem QN.nt (q : QN N hm y) {z : gIH} (f : FrM WNt y z) : QN N hm z := ⟨q.1.tr (f.mono fun c j h => by unfold WNt at h; unfold WQ; omega), q.2.1.fr f (fun j => by unfold WNt; omega), by rw [f 81 8 (by unfold WNt; omega)]; exact q.2.2.1, by rw [f 81 10 (by unfold WNt; omega)]; exact q.2.2.2⟩
theorem without_m (hN : aOk N) (q : QN N hm y) {a : Nat} (ha : a < nM N) : ∃ z, f_X10_triesWithout y (nI a) = some z ∧ QN N hm z ∧ z 81 0 = y 81 0 ∧ ChI (Ed N 100) (fun s => s = nRt N) (Ed N a) (fun s => s = nRt N) (z 81 36) (z 81 37) (z 81 38) (z 81 39) := by
  have h60 := hN.m60
  obtain ⟨w, ew, w1, w2, w3⟩ := notes_m hN q.2.1 q.2.2.1 q.2.2.2
  have qw := q.nt w1
  unfold f_X10_triesWithout
  rw [ew]
  simp only [Option.bind_some, lt]
  have f1 : FrM (fun c j => c = 81 ∧ j = 10) w (up2 w 81 10 (nI a)) := FrM.s ⟨rfl, rfl⟩
  obtain ⟨z, ez, z1, z2, z3⟩ := differs_m hN (x := up2 w 81 10 (nI a)) (qw.2.1.fr f1 (fun j => by omega)) a (by rw [up2_at]; unfold skI; rw [if_pos (by omega)]) none (by show up2 w 81 10 (nI a) 81 8 = -1; rw [up2_at2 (Or.inr (by decide))]; exact qw.2.2.1) (fun p q => by cases q) (w3.cg (f1 _ _ (by omega)) (fun j => f1 _ _ (by omega)) (fun j => f1 _ _ (by omega)))
  rw [ez]
  refine ⟨z, rfl, ⟨qw.1.tr ((f1.mono fun c j h => by unfold WQ; omega).tr (z1.mono fun c j h => by unfold WDf at h; unfold WQ; omega)), (qw.2.1.fr f1 (fun j => by omega)).fr z1 (fun j => by unfold WDf; omega), z2⟩, ?_, z3⟩
  rw [z1 81 0 (by unfold WDf; omega), f1 81 0 (by omega), w1 81 0 (by unfold WNt; omega)]
theorem tries_m (hN : aOk N) (q : QN N hm y) {i j : Nat} (hi : i < nN N) (hj : j < nN N) : ∃ z, f_X10_tries y (nI i) (nI j) = some z ∧ QN N hm z ∧ z 81 0 = y 81 0 ∧ ChI (Ed N 100) (fun s => s = nRt N) (EdX N 100 100 (some (i, j))) (fun s => s = nRt N) (z 81 36) (z 81 37) (z 81 38) (z 81 39) := by
  have hn := hN.n16
  obtain ⟨w, ew, w1, w2, w3⟩ := notes_m hN q.2.1 q.2.2.1 q.2.2.2
  have qw := q.nt w1
  unfold f_X10_tries
  rw [ew]
  simp only [Option.bind_some, lt]
  obtain ⟨t, et⟩ : ∃ t, up2 (up2 w 81 8 (nI i)) 81 9 (nI j) = t := ⟨_, rfl⟩
  rw [et]
  have f1 : FrM (fun c j => c = 81 ∧ (j = 8 ∨ j = 9)) w t := by
    rw [← et]
    exact (FrM.s (W := fun c j => c = 81 ∧ (j = 8 ∨ j = 9)) (by omega)).tr (FrM.s (by omega))
  have t8 : t 81 8 = nI i := by rw [← et, up2_at2 (Or.inr (by decide)), up2_at]
  have t9 : t 81 9 = nI j := by rw [← et, up2_at]
  obtain ⟨z, ez, z1, z2, z3⟩ := differs_m hN (x := t) (qw.2.1.fr f1 (fun j => by omega)) 100 (by rw [f1 81 10 (by omega), qw.2.2.2]; rfl) (some (i, j)) ⟨by dsimp only; omega, by dsimp only; omega, t8, t9⟩ (fun p q => by cases q; exact ⟨hi, hj⟩) (w3.cg (f1 _ _ (by omega)) (fun j => f1 _ _ (by omega)) (fun j => f1 _ _ (by omega)))
  rw [ez]
  refine ⟨z, rfl, ⟨qw.1.tr ((f1.mono fun c j h => by unfold WQ; omega).tr (z1.mono fun c j h => by unfold WDf at h; unfold WQ; omega)), (qw.2.1.fr f1 (fun j => by omega)).fr z1 (fun j => by unfold WDf; omega), z2⟩, ?_, z3⟩
  rw [z1 81 0 (by unfold WDf; omega), f1 81 0 (by omega), w1 81 0 (by unfold WNt; omega)]
end
theorem RelN.qn {N : aN} {k : Nat} {Ms : Nat → aN} {im : Option aN} {xc : gXH} {fa tr : Nat} {pm : Nat → Nat} {hm hm' : gIH} (h : RelN N k Ms im xc fa tr pm hm) (q : QN N hm hm') : RelN N k Ms im xc fa tr pm hm' := h.frM q.1 q.2.2.1 q.2.2.2
theorem RelN.qn0 {N : aN} {k : Nat} {Ms : Nat → aN} {im : Option aN} {xc : gXH} {fa tr : Nat} {pm : Nat → Nat} {hm : gIH} (h : RelN N k Ms im xc fa tr pm hm) (v : Int32) : QN N hm (up2 hm 81 0 v) := by
  have f : FrM (fun c j => c = 81 ∧ j = 0) hm (up2 hm 81 0 v) := FrM.s ⟨rfl, rfl⟩
  obtain ⟨hN, hC, hM, hz, hX, hG, hR⟩ := h.go
  exact ⟨f.mono fun c j h => by unfold WQ; omega, hM.fr f (fun j => by omega), by rw [f 81 8 (by omega)]; exact hz.1, by rw [f 81 10 (by omega)]; exact hz.2⟩
