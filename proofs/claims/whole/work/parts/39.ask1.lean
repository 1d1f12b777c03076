/-! QUESTIONS about gates -/
theorem RelN.go {N : aN} {k : Nat} {Ms : Nat → aN} {im : Option aN} {xc : gXH} {fa tr : Nat} {pm : Nat → Nat} {hm : gIH} (h : RelN N k Ms im xc fa tr pm hm) :
    aOk N ∧ CNet xc 7 N ∧ MNet hm 82 0 N ∧ (hm 81 8 = -1 ∧ hm 81 10 = -1) ∧ NX xc (fa + 1) (Ed N 100) ∧ GF xc fa (Ed N 100) (fun s => s = nRt N) ∧ RX xc N :=
  ⟨h.2.1.1, h.2.1.2.1, h.2.1.2.2, h.2.2.2.2.2.2.2.2.2, h.2.2.2.2.2.2.2.2.1⟩
theorem aOk.s16 {N : aN} (h : aOk N) : ∀ s, (fun s => s = nRt N) s → s < 16 := fun s q => by
  have q : s = nRt N := q
  rw [q]; exact h.r16
theorem aOk.rn {N : aN} (h : aOk N) {X : Nat → Prop} {v : Nat} (q : Rc (Ed N 100) (fun s => s = nRt N) X v) : v < nN N :=
  q.ltn (h.en (fun p z => by cases z)) (fun s z => by have z : s = nRt N := z; rw [z]; exact h.2.2.1)
/-- a question about one node: the frame of both sides -/
theorem one_node {N : aN} {k : Nat} {Ms : Nat → aN} {im : Option aN} {xc : gXH} {fa tr : Nat} {pm : Nat → Nat} {hm : gIH} (h : RelN N k Ms im xc fa tr pm hm) (a : Int32) :
    ∃ y, QM N hm y ∧ RelN N k Ms im xc fa tr pm y ∧ ((∃ i, i < nN N ∧ i < 16 ∧ a = nI i ∧ f_X10_noNode hm a = some (0, y) ∧ y 81 0 = 0 ∧ ¬ f_X6_hasNode xc a = 0) ∨ (f_X10_noNode hm a = some (1, y) ∧ y 81 0 = 1 ∧ f_X6_hasNode xc a = 0)) := by
  obtain ⟨hN, hC, hM, hz, -⟩ := h.go
  obtain ⟨y, e, q, t⟩ := noNode_ok hN hM hz.1 hz.2 a
  refine ⟨y, q, h.q q, ?_⟩
  by_cases c : ∃ k, k < nN N ∧ a = nI k
  · rw [if_pos c] at e t
    obtain ⟨i, hi, ei⟩ := id c
    refine Or.inl ⟨i, hi, Nat.lt_of_lt_of_le hi hN.n16, ei, e, t, ?_⟩
    rw [c_hasNode hN hC, if_pos c]
    exact i1n0
  · rw [if_neg c] at e t
    refine Or.inr ⟨e, t, ?_⟩
    rw [c_hasNode hN hC, if_neg c]
theorem m_sealed {N : aN} (hN : aOk N) {hm hm' : gIH} (q : QM N hm hm') (b : Int32) : ∃ y, f_X10_sealedBy hm' b = some y ∧ S16 y ∧ ∀ v, v < 16 → (bt y v = true ↔ Rc (Ed N 100) (fun s => s = nRt N) nox v ∧ ¬ bt b v = true ∧ ¬ Rc (Ed N 100) (fun s => s = nRt N) (fun s => bt b s = true) v) := by
  obtain ⟨-, hM, hF, h8, h10⟩ := q
  obtain ⟨y, e, y1, y2⟩ := m_reachedBut hN hM 100 100 (by rw [h10]; rfl) none h8 b
  rw [skI_none] at e
  refine ⟨(hm' 81 11 &&& (y ^^^ (-1))) &&& (b ^^^ (-1)), ?_, ?_, fun v hv => ?_⟩
  · unfold f_X10_sealedBy
    rw [e]
    rfl
  · exact (hF.1.1.and).and
  · have e1 := hF.1.2 v hv
    have e2 := y2 v hv
    rw [b_and, b_and, bt_not _ (by omega), bt_not _ (by omega), ← e1, ← e2]
    cases bt (hm' 81 11) v <;> cases bt y v <;> cases bt b v <;> simp
theorem M18_ok : M18 Rel := by
  rintro xc fa tr pm hm ⟨N, k, Ms, im, h⟩ a1
  obtain ⟨hN, hC, hM, hz, hX, hG, hR⟩ := h.go
  obtain ⟨y, q, hr, c⟩ := one_node h a1
  refine ⟨_, rfl, ?_⟩
  unfold f_X10_without f_X9_without
  rcases c with ⟨i, hi, hi16, rfl, e, t, c⟩ | ⟨e, t, c⟩
  · rw [e, if_neg c]
    simp only [Option.bind_some, if_true]
    obtain ⟨z, ez, z1, z2⟩ := m_sealed hN q ((1 : Int32) <<< (nI i &&& 31))
    rw [ez]
    refine ⟨_, rfl, hr.rel, agr_L t ?_⟩
    rw [atv_n (L := 16) hi16 (by omega)]
    refine z1.ext (hG.2.2.1 i hi16).1 fun v hv => ?_
    apply Bool.eq_iff_iff.mpr
    rw [z2 v hv, (hG.2.2.1 i hi16).2 v hv, bt_one16 hi16]
    have e5 : Rc (Ed N 100) (fun s => s = nRt N) (fun s => bt ((1 : Int32) <<< (nI i &&& 31)) s = true) v ↔ Rc (Ed N 100) (fun s => s = nRt N) (fun s => s = i) v := Rc.congr (fun _ _ => Iff.rfl) (fun _ => Iff.rfl) (fun s => bt_one16 hi16 s)
    rw [e5]
    exact ⟨fun z => ⟨z.1, fun w => z.2.1 w.symm, z.2.2⟩, fun z => ⟨z.1, fun w => z.2.1 w.symm, z.2.2⟩⟩
  · rw [e, if_pos c]
    simp only [Option.bind_some, if_neg i1n0]
    exact ⟨_, rfl, hr.rel, agr_R1 t⟩
theorem bt_all (n : Nat) (hn : n < 32) {i : Nat} (hi : i < 32) : bt (f_X9_only (nI n) - 1) i = decide (i < n) := by
  have h := bt_pred (t := f_X9_only (nI n)) (k := n) (by rw [bt_only hn hn]; simp) (fun j hj => by rw [bt_only hn (by omega)]; simp; omega) hi
  rw [h]
  by_cases a1 : i < n
  · rw [if_pos a1, decide_eq_true a1]
  · rw [if_neg a1, decide_eq_false a1]
    by_cases a2 : i = n
    · rw [if_pos a2]
    · rw [if_neg a2, bt_only hn hi, decide_eq_false a2]
theorem neg_bt (a : Int32) : a < 0 ↔ bt a 31 = true := by
  rw [Int32.lt_iff_toInt_lt]
  show a.toBitVec.toInt < 0 ↔ _
  rw [BitVec.toInt_neg_iff]
  have h : bt a 31 = a.toBitVec.msb := by rw [BitVec.msb_eq_getLsbD_last]; rfl
  rw [h, BitVec.msb_eq_decide]
  simp
  omega
theorem M19_ok : M19 Rel := by
  rintro xc fa tr pm hm ⟨N, k, Ms, im, h⟩ a1
  obtain ⟨hN, hC, hM, hz, hX, hG, hR⟩ := h.go
  have hn16 := hN.n16
  obtain ⟨y, e, q, t⟩ := lays_q hN hM hz.1 hz.2 0
  have hr := h.q q
  have call : (a1 &&& (f_X6_all xc ^^^ (-1)) = 0) ↔ ∀ i, i < 32 → bt a1 i = true → i < nN N := by
    rw [b_zero]
    have ee : ∀ i, i < 32 → (bt (a1 &&& (f_X6_all xc ^^^ (-1))) i = false ↔ (bt a1 i = true → i < nN N)) := by
      intro i hi
      unfold f_X6_all
      rw [b_and, bt_not _ hi, hC.1, bt_all _ (by omega) hi]
      by_cases c : i < nN N
      · simp [c]
      · simp [c]
    exact ⟨fun z i hi => (ee i hi).mp (z i hi), fun z i hi => (ee i hi).mpr (z i hi)⟩
  have mall : (¬ a1 < 0 ∧ a1 >>> (nI (nN N) &&& 31) = 0) ↔ ∀ i, i < 32 → bt a1 i = true → i < nN N := by
    rw [neg_bt, b_zero]
    constructor
    · rintro ⟨z1, z2⟩ i hi hb
      apply Classical.byContradiction
      intro w
      have z := z2 (i - nN N) (by omega)
      rw [b_sshr _ (by omega) _ (by omega), if_pos (by omega), show nN N + (i - nN N) = i by omega, hb] at z
      cases z
    · intro z
      refine ⟨fun w => by have := z 31 (by omega) w; omega, fun i hi => ?_⟩
      rw [b_sshr _ (by omega) _ hi]
      have hf : ∀ j, j < 32 → nN N ≤ j → bt a1 j = false := fun j hj hj2 => by
        cases hb : bt a1 j with
        | false => rfl
        | true => have := z j hj hb; omega
      split
      · exact hf _ (by omega) (by omega)
      · exact hf 31 (by omega) (by omega)
  unfold f_X9_seal f_X10_seal
  simp only [lt]
  rw [e]
  simp only [Option.bind_some]
  by_cases c : ∀ i, i < 32 → bt a1 i = true → i < nN N
  · rw [if_pos (call.mpr c)]
    have c2 := mall.mpr c
    rw [if_neg c2.1, m_nodes q.2.1]
    simp only [Option.bind_some]
    rw [if_pos c2.2]
    unfold f_X10_seal_J28 f_X8_sealed
    simp only [lt, throws0, if_true]
    have s0 : S16 (f_X9_only (nI (nRt N))) := s16_one hN.r16
    obtain ⟨w, ew, w1, w2⟩ := spread_ok (hN.e16n (k1 := 100) (k2 := 100)) hX (f_X9_only (nI (nRt N))) a1 s0
    obtain ⟨z, ez, z1, z2⟩ := m_sealed hN q a1
    rw [hC.2.1, ew]
    simp only [Option.bind_some]
    refine ⟨_, rfl, ?_⟩
    rw [ez]
    refine ⟨_, rfl, hr.rel, agr_L t ?_⟩
    refine z1.ext ((hG.1.1.and).and) fun v hv => ?_
    apply Bool.eq_iff_iff.mpr
    have e1 := hG.1.2 v hv
    have e2 : bt w v = true ↔ Rc (Ed N 100) (fun s => s = nRt N) (fun s => bt a1 s = true) v := by
      rw [w2 v hv]
      exact Rc.congr (fun _ _ => Iff.rfl) (fun s => bt_one16 hN.r16 s) (fun _ => Iff.rfl)
    rw [z2 v hv, b_and, b_and, bt_not _ (by omega), bt_not _ (by omega), ← e1, ← e2]
    cases bt (xc.1 fa 4) v <;> cases bt w v <;> cases bt a1 v <;> simp
  · rw [if_neg (fun z => c (call.mp z))]
    refine ⟨_, rfl, up2 y 81 0 1 |> fun y' => (0, y'), ?_⟩
    have fin : f_X10_seal_J28 y a1 1 = some (0, up2 y 81 0 1) := by
      unfold f_X10_seal_J28
      simp only [lt, throws1]
      rw [if_neg i1n0]
    refine ⟨?_, (hr.t0 1).rel, agr_R1 (hm := up2 y 81 0 1) up2_at⟩
    by_cases c3 : a1 < 0
    · rw [if_pos c3]
      exact fin
    · rw [if_neg c3, m_nodes q.2.1]
      simp only [Option.bind_some]
      rw [if_neg (fun z => c (mall.mp ⟨c3, z⟩))]
      exact fin
theorem M21_ok : M21 Rel := by
  rintro xc fa tr pm hm ⟨N, k, Ms, im, h⟩ a1
  obtain ⟨hN, hC, hM, hz, hX, hG, hR⟩ := h.go
  have hn16 := hN.n16
  obtain ⟨y, e, q, t⟩ := lays_q hN hM hz.1 hz.2 0
  obtain ⟨-, qM, qF, q8, q10⟩ := id q
  obtain ⟨P, hP⟩ : ∃ P : Nat → Prop, (fun v => Rc (Ed N 100) (fun s => s = nRt N) nox v ∧ nI (dp (Ed N 100) (fun s => s = nRt N) v) = a1) = P := ⟨_, rfl⟩
  have hPe : ∀ v, P v ↔ Rc (Ed N 100) (fun s => s = nRt N) nox v ∧ nI (dp (Ed N 100) (fun s => s = nRt N) v) = a1 := fun v => by rw [← hP]
  obtain ⟨c, ec, c1, c2⟩ := lp_set (step := f_X8_atDepth_L4 fa xc a1) 16 (by omega) P 0 s16_0 (fun j s hj hp => by
      obtain ⟨p1, p2⟩ := (hPe j).mp hp
      unfold f_X8_atDepth_L4
      rw [if_neg (by show ¬ nI 16 ≤ nI j; rw [nI_leI (by omega) (by omega)]; omega), if_neg (fun z => (hG.r0 hj).mp z p1), if_pos (by rw [hG.d1 hj p1]; exact p2)]
      simp only [lt]
      rw [nI_1]
      rfl) (fun j s hj hp => by
      unfold f_X8_atDepth_L4
      rw [if_neg (by show ¬ nI 16 ≤ nI j; rw [nI_leI (by omega) (by omega)]; omega)]
      simp only [lt]
      by_cases p1 : Rc (Ed N 100) (fun s => s = nRt N) nox j
      · rw [if_neg (fun z => (hG.r0 hj).mp z p1), if_neg (by rw [hG.d1 hj p1]; exact fun z => hp ((hPe j).mpr ⟨p1, z⟩)), nI_1]
      · rw [if_pos ((hG.r0 hj).mpr p1), nI_1]) (fun s => by
      unfold f_X8_atDepth_L4
      rw [if_pos (by show nI 16 ≤ nI 16; exact Int32.le_refl _)]) (k := 2000) (by omega)
  obtain ⟨m, em, m1, m2⟩ := lp_set (step := f_X10_levelOf_L4 y a1) (nN N) hn16 P 0 s16_0 (fun j s hj hp => by
      obtain ⟨p1, p2⟩ := (hPe j).mp hp
      unfold f_X10_levelOf_L4
      rw [m_nodes qM]
      simp only [Option.bind_some, lt]
      rw [if_neg (by rw [nI_leI (by omega) (by omega)]; omega), if_neg (by rw [← p2]; exact nI_pos (by have := dp_16 (E := Ed N 100) (S := fun s => s = nRt N) j; omega)), gck_ni (by omega) (by omega), nI_clamp (by omega), if_pos (by rw [(qF.2.2.1 j (by omega)).1 p1]; exact p2), nI_1]) (fun j s hj hp => by
      unfold f_X10_levelOf_L4
      rw [m_nodes qM]
      simp only [Option.bind_some, lt]
      rw [if_neg (by rw [nI_leI (by omega) (by omega)]; omega)]
      have eo : s ||| (0 : Int32) = s := by
        refine b_ext fun i _ => ?_
        rw [b_or, b_0, Bool.or_false]
      rw [eo, nI_1]
      by_cases c3 : a1 < 0
      · rw [if_pos c3]
      · rw [if_neg c3, gck_ni (by omega) (by omega), nI_clamp (by omega), if_neg]
        intro z
        by_cases p1 : Rc (Ed N 100) (fun s => s = nRt N) nox j
        · rw [(qF.2.2.1 j (by omega)).1 p1] at z
          exact hp ((hPe j).mpr ⟨p1, z⟩)
        · rw [(qF.2.2.1 j (by omega)).2 p1] at z
          rw [← z] at c3
          exact c3 (by decide)) (fun s => by
      unfold f_X10_levelOf_L4
      rw [m_nodes qM]
      simp only [Option.bind_some]
      rw [if_pos (Int32.le_refl _)]) (k := 2000) (by omega)
  refine ⟨c, ?_, (m, y), ?_, (h.q q).rel, ?_⟩
  · unfold f_X9_level f_X8_atDepth
    rw [ec]
    rfl
  · unfold f_X10_level f_X10_levelOf
    simp only [lt]
    rw [e]
    simp only [Option.bind_some]
    rw [em]
    rfl
  · show c = m
    refine c1.ext m1 fun v hv => ?_
    apply Bool.eq_iff_iff.mpr
    rw [c2 v hv, m2 v hv, b_0]
    constructor
    · rintro (z | z)
      · cases z
      · exact Or.inr ⟨hN.rn ((hPe v).mp z.2).1, z.2⟩
    · rintro (z | z)
      · cases z
      · exact Or.inr ⟨hv, z.2⟩
