/-! THE TAPE FED -/
def by4 (a : Int32) (k : Nat) : Int32 := (if k = 0 then iush a 24 else if k = 1 then iush a 16 else if k = 2 then iush a 8 else a) &&& 255
def bm4 (a : Int32) (k : Nat) : Int32 := vp_nar .byte ((a >>> (nI (24 - 8 * k) &&& 31)).toInt8.toInt32)
theorem i8_and (x : Int32) : x.toInt8 = (x &&& 255).toInt8 := by
  apply Int8.toBitVec_inj.mp
  apply BitVec.eq_of_getLsbD_eq
  intro i hi
  rw [Int32.toBitVec_toInt8, Int32.toBitVec_toInt8, BitVec.getLsbD_signExtend, BitVec.getLsbD_signExtend]
  have := b_and x 255 i
  unfold bt at this
  rw [this]
  have h255 := b_255 i
  unfold bt at h255
  rw [h255, decide_eq_true hi, Bool.and_true, if_pos (show i < 32 by omega), if_pos (show i < 32 by omega)]
theorem nar8 (x : Int32) : vp_nar .byte (x.toInt8.toInt32) = x.toInt8.toInt32 := by
  show (x.toInt8.toInt32).toInt8.toInt32 = _
  rw [Int8.toInt8_toInt32]
theorem by_bt (a : Int32) {k : Nat} (hk : k < 4) {i : Nat} (hi : i < 32) : bt (by4 a k) i = (bt a (24 - 8 * k + i) && decide (i < 8)) := by
  unfold by4
  rw [b_and, b_255]
  congr 1
  rcases (show k = 0 ∨ k = 1 ∨ k = 2 ∨ k = 3 by omega) with rfl | rfl | rfl | rfl
  · exact b_ushr 24 (by omega) a i
  · exact b_ushr 16 (by omega) a i
  · exact b_ushr 8 (by omega) a i
  · show bt a i = bt a (24 - 8 * 3 + i)
    rw [show 24 - 8 * 3 + i = i by omega]
theorem by_ok (a : Int32) {k : Nat} (hk : k < 4) : ∃ b, b < 256 ∧ by4 a k = nI b ∧ bm4 a k = (nI b).toInt8.toInt32 := by
  refine ⟨(by4 a k).toBitVec.toNat, ?_, of_bv _, ?_⟩
  · refine Nat.lt_pow_two_of_testBit (n := 8) _ fun i hi => ?_
    rw [← bt_tn]
    rcases Nat.lt_or_ge i 32 with o | o
    · rw [by_bt a hk o, decide_eq_false (by omega), Bool.and_false]
    · exact b_big o
  · rw [← of_bv]
    unfold bm4
    rw [nar8, i8_and]
    congr 2
    refine b_ext fun i hi => ?_
    rw [b_and, b_255, b_sshr _ (by omega) _ hi, by_bt a hk hi]
    by_cases c : i < 8
    · rw [if_pos (by omega)]
    · rw [decide_eq_false c, Bool.and_false, Bool.and_false]
abbrev WTp : Nat → Prop := fun c => c = 1 ∨ c = 2
theorem add1_ok {x : gXH} {t : Nat} (h : x.1 1 1 = nI t) (ht : t < 400) (v : Int32) : ∃ x', f_X0_add_1 x v = some x' ∧ x'.1 1 1 = nI (t + 1) ∧ x'.1 2 t = v &&& 255 ∧ (∀ i, i < t → x'.1 2 i = x.1 2 i) ∧ Fr WTp x x' := by
  unfold f_X0_add_1
  rw [h, if_neg (nI_pos (by omega)), if_neg (show ¬ (400 : Int32) ≤ nI t from nI_ge (a := t) (b := 400) ht (by omega)), gck_ni (by omega) (by omega), nI_clamp (by omega)]
  simp only [lt]
  have e1 : (sI x 2 t (v &&& 255)).1 1 1 = nI t := by rw [sI_row (by decide)]; exact h
  rw [e1]
  refine ⟨_, rfl, by rw [sI_at]; exact nI_1 t, by rw [sI_row (by decide), sI_at], fun i hi => by rw [sI_row (by decide), sI_at2 (by omega)], (Fr.s (W := WTp) (Or.inr rfl)).tr (Fr.s (Or.inl rfl))⟩
theorem num_ok {x : gXH} {t : Nat} (h : x.1 1 1 = nI t) (ht : t + 4 ≤ 400) (a : Int32) : ∃ x', f_X0_addNumber_1 x a = some x' ∧ x'.1 1 1 = nI (t + 4) ∧ (∀ k, k < 4 → x'.1 2 (t + k) = by4 a k) ∧ (∀ i, i < t → x'.1 2 i = x.1 2 i) ∧ Fr WTp x x' := by
  unfold f_X0_addNumber_1
  obtain ⟨x1, e1, n1, v1, s1, f1⟩ := add1_ok h (by omega) (iush a 24)
  obtain ⟨x2, e2, n2, v2, s2, f2⟩ := add1_ok n1 (by omega) (iush a 16)
  obtain ⟨x3, e3, n3, v3, s3, f3⟩ := add1_ok n2 (by omega) (iush a 8)
  obtain ⟨x4, e4, n4, v4, s4, f4⟩ := add1_ok n3 (by omega) a
  rw [e1, Option.bind_some, e2, Option.bind_some, e3, Option.bind_some, e4]
  refine ⟨x4, rfl, n4, fun k hk => ?_, fun i hi => ?_, ((f1.tr f2).tr f3).tr f4⟩
  · unfold by4
    rcases (show k = 0 ∨ k = 1 ∨ k = 2 ∨ k = 3 by omega) with rfl | rfl | rfl | rfl
    · rw [s4 _ (by omega), s3 _ (by omega), s2 _ (by omega)]
      exact v1
    · rw [s4 _ (by omega), s3 _ (by omega)]
      exact v2
    · rw [s4 _ (by omega)]
      exact v3
    · exact v4
  · rw [s4 i (by omega), s3 i (by omega), s2 i (by omega), s1 i hi]
theorem fd_n : ∀ k, k < 20 → nI k / (4 : Int32) = nI (k / 4) ∧ ((24 : Int32) - ((8 : Int32) * (irm (nI k) (4 : Int32)))) = nI (24 - 8 * (k % 4)) := by decide +kernel
theorem RelN.tp {N : aN} {k : Nat} {Ms : Nat → aN} {im : Option aN} {xc x : gXH} {fa tr : Nat} {pm : Nat → Nat} {hm m : gIH} (h : RelN N k Ms im xc fa tr pm hm) (f : Fr WTp xc x) (g : FrM (fun c j => (c = 81 ∧ (j = 0 ∨ j = 23)) ∨ c = 91 ∨ c = 92) hm m) (t : ∃ t, t ≤ 400 ∧ x.1 1 1 = nI t ∧ m 81 23 = nI t ∧ ∀ i, i < t → ∃ b, b < 256 ∧ x.1 2 i = nI b ∧ m 91 i = (nI b).toInt8.toInt32) : RelN N k Ms im x fa tr pm m := by
  obtain ⟨hp, ⟨hN, hC, hM⟩, ⟨k8, kc, km, hs⟩, q4, q5, q6, q7, q9, ⟨hX, hG, hR⟩, h8, h10⟩ := id h
  have hpl : ∀ i, i < 8 → 21 ≤ pm i ∧ pm i ≤ 49 := fun i hi => hp.1.pml hi
  have hfa : fa = 71 ∨ fa = 76 := by
    rcases hp.1.1 with h | h <;> omega
  refine ⟨hp, ⟨hN, hC.fr f (fun c _ _ => by omega), hM.fr g (fun j => by omega)⟩, ⟨k8, ?_, ?_, fun i hi => ⟨(hs i hi).1, ?_, ?_⟩⟩, ?_, ⟨?_, ?_⟩, ?_, t, ?_, ⟨hX.cg (f.1 _ (by omega)), hG.fr f (fun c _ _ => by omega), NX.cg hR (f.1 60 (by omega))⟩, ?_, ?_⟩
  · rw [f.1 19 (by omega)]
    exact kc
  · rw [g 81 5 (by omega)]
    exact km
  · have := hpl i (by omega)
    exact (hs i hi).2.1.fr f (fun c _ _ => by omega)
  · exact (hs i hi).2.2.fr g (fun j => by omega)
  · cases im with
    | none => exact ⟨by rw [f.1 0 (by omega)]; exact q4.1, by rw [g 81 7 (by omega)]; exact q4.2⟩
    | some I => exact ⟨by rw [f.1 0 (by omega)]; exact q4.1, by rw [g 81 7 (by omega)]; exact q4.2.1, q4.2.2.1, q4.2.2.2.1.fr f (fun c _ _ => by omega), q4.2.2.2.2.fr g (fun j => by omega)⟩
  · rw [f.1 0 (by omega), g 81 27 (by omega)]
    exact q5.1
  · rw [f.1 0 (by omega), g 81 6 (by omega)]
    exact q5.2
  · rw [f.1 53 (by omega), g 81 16 (by omega), g 81 17 (by omega), g 81 18 (by omega), g 81 19 (by omega)]
    exact q6
  · obtain ⟨t, a1, a2, a3, a4⟩ := q9
    refine ⟨t, a1, by rw [f.1 3 (by omega)]; exact a2, by rw [g 81 41 (by omega)]; exact a3, fun i hi => ?_⟩
    rw [f.1 4 (by omega), g 98 i (by omega)]
    exact a4 i hi
  · rw [g 81 8 (by omega)]
    exact h8
  · rw [g 81 10 (by omega)]
    exact h10
def A5 (a1 a2 a3 a4 a5 : Int32) (j : Nat) : Int32 := if j = 0 then a1 else if j = 1 then a2 else if j = 2 then a3 else if j = 3 then a4 else a5
theorem feed_c {xc : gXH} {t : Nat} (h : xc.1 1 1 = nI t) (ht : t ≤ 380) (a1 a2 a3 a4 a5 : Int32) : ∃ x, f_X9_feed xc a1 a2 a3 a4 a5 = some (nI (t + 20), x) ∧ x.1 1 1 = nI (t + 20) ∧ (∀ k, k < 20 → x.1 2 (t + k) = by4 (A5 a1 a2 a3 a4 a5 (k / 4)) (k % 4)) ∧ (∀ i, i < t → x.1 2 i = xc.1 2 i) ∧ Fr WTp xc x := by
  unfold f_X9_feed
  rw [h, if_pos (show nI t ≤ (380 : Int32) from nI_le (a := t) (b := 380) ht (by omega))]
  obtain ⟨x1, e1, n1, v1, s1, f1⟩ := num_ok h (by omega) a1
  obtain ⟨x2, e2, n2, v2, s2, f2⟩ := num_ok n1 (by omega) a2
  obtain ⟨x3, e3, n3, v3, s3, f3⟩ := num_ok n2 (by omega) a3
  obtain ⟨x4, e4, n4, v4, s4, f4⟩ := num_ok n3 (by omega) a4
  obtain ⟨x5, e5, n5, v5, s5, f5⟩ := num_ok n4 (by omega) a5
  rw [e1, Option.bind_some, e2, Option.bind_some, e3, Option.bind_some, e4, Option.bind_some, e5, Option.bind_some]
  have n5 : x5.1 1 1 = nI (t + 20) := n5
  refine ⟨x5, by rw [n5], n5, fun k hk => ?_, fun i hi => by rw [s5 i (by omega), s4 i (by omega), s3 i (by omega), s2 i (by omega), s1 i hi], (((f1.tr f2).tr f3).tr f4).tr f5⟩
  obtain ⟨r, hr⟩ : ∃ r, k % 4 = r := ⟨_, rfl⟩
  have hr4 : r < 4 := by omega
  rw [hr]
  unfold A5
  rcases (show k / 4 = 0 ∨ k / 4 = 1 ∨ k / 4 = 2 ∨ k / 4 = 3 ∨ k / 4 = 4 by omega) with q | q | q | q | q
  · rw [q, if_pos rfl, show t + k = t + r by omega, s5 _ (by omega), s4 _ (by omega), s3 _ (by omega), s2 _ (by omega)]
    exact v1 r hr4
  · rw [q, if_neg (by decide), if_pos rfl, show t + k = t + 4 + r by omega, s5 _ (by omega), s4 _ (by omega), s3 _ (by omega)]
    exact v2 r hr4
  · rw [q, if_neg (by decide), if_neg (by decide), if_pos rfl, show t + k = t + 4 + 4 + r by omega, s5 _ (by omega), s4 _ (by omega)]
    exact v3 r hr4
  · rw [q, if_neg (by decide), if_neg (by decide), if_neg (by decide), if_pos rfl, show t + k = t + 4 + 4 + 4 + r by omega, s5 _ (by omega)]
    exact v4 r hr4
  · rw [q, if_neg (by decide), if_neg (by decide), if_neg (by decide), if_neg (by decide), show t + k = t + 4 + 4 + 4 + 4 + r by omega]
    exact v5 r hr4
theorem feed_m {x : gIH} {t : Nat} (h : x 81 23 = nI t) (ht : t ≤ 380) (A : Nat → Int32) (hA : ∀ j, j < 5 → x 92 j = A j) : ∃ y, lp f_X10_feed_L60 2000 (0, x) = some y ∧ y 81 23 = nI t ∧ (∀ k, k < 20 → y 91 (t + k) = bm4 (A (k / 4)) (k % 4)) ∧ (∀ i, i < t → y 91 i = x 91 i) ∧ FrM (fun c _ => c = 91) x y := by
  refine lp_for (step := f_X10_feed_L60) 20 (fun j s => s.1 = nI j ∧ (∀ k, k < j → s.2 91 (t + k) = bm4 (A (k / 4)) (k % 4)) ∧ (∀ i, i < t → s.2 91 i = x 91 i) ∧ FrM (fun c _ => c = 91) x s.2) _ ?_ ?_ ⟨rfl, fun k hk => absurd hk (by omega), fun _ _ => rfl, FrM.rf⟩ (by omega)
  · rintro j ⟨i, y⟩ hj ⟨h0, h1, h2, hf⟩
    dsimp only at h0 h1 h2 hf
    subst h0
    obtain ⟨d1, d2⟩ := fd_n j hj
    have e23 : y 81 23 = nI t := (hf 81 23 (by omega)).trans h
    have e92 : y 92 (j / 4) = A (j / 4) := (hf 92 _ (by omega)).trans (hA _ (by omega))
    unfold f_X10_feed_L60
    dsimp only
    rw [if_neg (show ¬ (20 : Int32) ≤ nI j from nI_ge (a := j) (b := 20) hj (by omega)), d1, d2, gck_ni (by omega) (by omega), e23, nI_add, gck_ni (by omega) (by omega), nI_clamp (by omega), nI_clamp (by omega), e92]
    simp only [lt]
    refine ⟨_, rfl, nI_1 j, fun k hk => ?_, fun i hi => ?_, hf.tr (FrM.s rfl)⟩
    · dsimp only
      by_cases c : k = j
      · rw [c, up2_at]
        rfl
      · rw [up2_at2 (Or.inr (by omega))]
        exact h1 k (by omega)
    · dsimp only
      rw [up2_at2 (Or.inr (by omega))]
      exact h2 i hi
  · rintro ⟨i, y⟩ ⟨h0, h1, h2, hf⟩
    dsimp only at h0 h1 h2 hf
    subst h0
    unfold f_X10_feed_L60
    dsimp only
    rw [if_pos (show (20 : Int32) ≤ nI 20 from Int32.le_refl _)]
    exact ⟨_, rfl, (hf 81 23 (by omega)).trans h, h1, h2, hf⟩
theorem M0_ok : M0 Rel := by
  rintro xc fa tr pm hm ⟨N, k, Ms, im, h⟩ a1 a2 a3 a4 a5
  obtain ⟨t, t1, t2, t3, t4⟩ := h.2.2.2.2.2.2.1
  unfold f_X10_feed
  simp only [lt]
  have e23 : up2 hm 81 0 0 81 23 = nI t := by rw [up2_at2 (Or.inr (by decide))]; exact t3
  rw [e23, show nI t + (20 : Int32) = nI (t + 20) by rw [show (20 : Int32) = nI 20 from rfl, nI_add]]
  by_cases c : t ≤ 380
  · obtain ⟨x, ex, x1, x2, x3, fx⟩ := feed_c t2 c a1 a2 a3 a4 a5
    refine ⟨_, ex, ?_⟩
    rw [if_pos (show nI (t + 20) ≤ (400 : Int32) from nI_le (a := t + 20) (b := 400) (by omega) (by omega))]
    rw [show (0 : Int32) = nI 0 from rfl, show (1 : Int32) = nI 1 from rfl, show (2 : Int32) = nI 2 from rfl, show (3 : Int32) = nI 3 from rfl, show (4 : Int32) = nI 4 from rfl, gck_ni (by omega) (by omega), gck_ni (by omega) (by omega), gck_ni (by omega) (by omega), gck_ni (by omega) (by omega), gck_ni (by omega) (by omega), nI_clamp (by omega), nI_clamp (by omega), nI_clamp (by omega), nI_clamp (by omega), nI_clamp (by omega)]
    obtain ⟨m0, em0⟩ : ∃ m0, up2 (up2 (up2 (up2 (up2 (up2 hm 81 0 (nI 0)) 92 0 a1) 92 1 a2) 92 2 a3) 92 3 a4) 92 4 a5 = m0 := ⟨_, rfl⟩
    rw [em0]
    have g0 : FrM (fun c j => (c = 81 ∧ j = 0) ∨ c = 92) hm m0 := by
      rw [← em0]
      exact (((((FrM.s (W := fun c j => (c = 81 ∧ j = 0) ∨ c = 92) (by omega)).tr (FrM.s (by omega))).tr (FrM.s (by omega))).tr (FrM.s (by omega))).tr (FrM.s (by omega))).tr (FrM.s (by omega))
    have A : ∀ j, j < 5 → m0 92 j = A5 a1 a2 a3 a4 a5 j := fun j hj => by
      rw [← em0]
      unfold A5
      rcases (show j = 0 ∨ j = 1 ∨ j = 2 ∨ j = 3 ∨ j = 4 by omega) with rfl | rfl | rfl | rfl | rfl
      · rw [up2_at2 (Or.inr (by decide)), up2_at2 (Or.inr (by decide)), up2_at2 (Or.inr (by decide)), up2_at2 (Or.inr (by decide)), up2_at]
        rfl
      · rw [up2_at2 (Or.inr (by decide)), up2_at2 (Or.inr (by decide)), up2_at2 (Or.inr (by decide)), up2_at]
        rfl
      · rw [up2_at2 (Or.inr (by decide)), up2_at2 (Or.inr (by decide)), up2_at]
        rfl
      · rw [up2_at2 (Or.inr (by decide)), up2_at]
        rfl
      · rw [up2_at]
        rfl
    obtain ⟨y, ey, y1, y2, y3, fy⟩ := feed_m (t := t) (by rw [g0 81 23 (by omega)]; exact t3) c (A5 a1 a2 a3 a4 a5) A
    rw [nI_0, ey]
    simp only [Option.bind_some]
    rw [y1, show nI t + (20 : Int32) = nI (t + 20) by rw [show (20 : Int32) = nI 20 from rfl, nI_add], up2_at]
    refine ⟨_, rfl, (h.tp fx ((g0.mono fun c j h => by omega).tr ((fy.mono fun c j h => by omega).tr (FrM.s (by omega)))) ⟨t + 20, by omega, x1, up2_at, fun i hi => ?_⟩).rel, rfl⟩
    rw [up2_at2 (Or.inl (by decide))]
    rcases Nat.lt_or_ge i t with o | o
    · rw [x3 i o, y3 i o, g0 91 i (by omega)]
      exact t4 i o
    · obtain ⟨k, rfl⟩ : ∃ k, i = t + k := ⟨i - t, by omega⟩
      rw [x2 k (by omega), y2 k (by omega)]
      exact by_ok _ (by omega)
  · rw [if_neg (show ¬ nI (t + 20) ≤ (400 : Int32) from nI_ge (a := 400) (b := t + 20) (by omega) (by omega))]
    unfold f_X9_feed
    rw [t2, if_neg (show ¬ nI t ≤ (380 : Int32) from nI_ge (a := 380) (b := t) (by omega) (by omega))]
    exact ⟨_, rfl, _, rfl, (h.t0 0).rel, rfl⟩
