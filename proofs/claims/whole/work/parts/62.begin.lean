theorem why_rel {N : aN} {k : Nat} {Ms : Nat → aN} {im : Option aN} {xc : gXH} {fa tr : Nat} {pm : Nat → Nat} {hm : gIH} (h : RelN N k Ms im xc fa tr pm hm) (r : Int32) : RelN N k Ms im (sI xc 0 11 r) fa tr pm (up2 hm 81 6 r) := by
  obtain ⟨hp, ⟨hN, hC, hM⟩, ⟨k8, kc, km, hs⟩, q4, q5, q6, q7, q9, ⟨hX, hG, hR⟩, h8, h10⟩ := id h
  have f : Fr (fun c => c = 0) xc (sI xc 0 11 r) := Fr.s rfl
  obtain ⟨m, em⟩ : ∃ m, up2 hm 81 6 r = m := ⟨_, rfl⟩
  have g : FrM (fun c j => c = 81 ∧ j = 6) hm m := by
    rw [← em]
    exact FrM.s ⟨rfl, rfl⟩
  have g6 : m 81 6 = r := by rw [← em, up2_at]
  rw [em]
  have hpl : ∀ i, i < 8 → 21 ≤ pm i ∧ pm i ≤ 49 := fun i hi => hp.1.pml hi
  have hfa : fa = 71 ∨ fa = 76 := by
    rcases hp.1.1 with h | h <;> omega
  refine h.next hp ⟨hN, hC.fr f (fun c _ _ => by omega), hM.fr g (fun j => by omega)⟩ ⟨k8, ?_, ?_, fun i hi => ⟨(hs i hi).1, ?_, ?_⟩⟩ (fun c hc => f.1 c (by omega)) rfl ⟨sI_at2 (by decide), sI_at2 (by decide)⟩ (fun c j hc => g c j (by omega)) ?_ ?_ ⟨?_, ?_, ?_⟩ ?_ ?_
  · rw [f.1 19 (by omega)]
    exact kc
  · rw [g 81 5 (by omega)]
    exact km
  · have := hpl i (by omega)
    exact (hs i hi).2.1.fr f (fun c _ _ => by omega)
  · exact (hs i hi).2.2.fr g (fun j => by omega)
  · rw [sI_at, g6]
  · rw [f.1 53 (by omega), g 81 16 (by omega), g 81 17 (by omega), g 81 18 (by omega), g 81 19 (by omega)]
    exact q6
  · exact hX.cg (f.1 _ (by omega))
  · exact hG.fr f (fun c _ _ => by omega)
  · exact NX.cg hR (f.1 60 (by omega))
  · rw [g 81 8 (by omega)]
    exact h8
  · rw [g 81 10 (by omega)]
    exact h10
theorem up2_comm {α : Type} {h : Nat → Nat → α} {c j j' : Nat} {v v' : α} (hne : j ≠ j') : up2 (up2 h c j v) c j' v' = up2 (up2 h c j' v') c j v := by
  funext a b
  unfold up2
  by_cases h1 : a = c ∧ b = j
  · rw [if_neg (fun z => hne (h1.2.symm.trans z.2)), if_pos h1, if_pos h1]
  · by_cases h2 : a = c ∧ b = j'
    · rw [if_pos h2, if_neg h1, if_pos h2]
    · rw [if_neg h2, if_neg h1, if_neg h1, if_neg h2]
theorem noLat_6 (x : gIH) : f_X10_hasNoLatest (up2 x 81 6 0) = up2 (f_X10_hasNoLatest x) 81 6 0 := by
  unfold f_X10_hasNoLatest
  simp only [lt]
  rw [up2_comm (j := 6) (j' := 16) (by decide), up2_comm (j := 6) (j' := 17) (by decide), up2_comm (j := 6) (j' := 18) (by decide), up2_comm (j := 6) (j' := 19) (by decide)]
theorem in216 (a : Int32) : (∃ n, 2 ≤ n ∧ n ≤ 16 ∧ a = nI n ∧ ¬ a < 2 ∧ a ≤ 16 ∧ f_X10_in a 2 16 = 1) ∨ (f_X10_in a 2 16 = 0 ∧ (a < 2 ∨ (¬ a < 2 ∧ ¬ a ≤ 16))) := by
  unfold f_X10_in
  rcases num_cases a (n := 17) (by omega) with ⟨k, hk, e⟩ | ⟨h1, h2⟩
  · rcases Nat.lt_or_ge k 2 with o | o
    · have c : a < 2 := by rw [e]; exact nI_lt (a := k) (b := 2) o (by omega)
      exact Or.inr ⟨by rw [if_pos c], Or.inl c⟩
    · have c : ¬ a < 2 := by rw [e]; exact nI_nlt (a := k) (b := 2) o (by omega)
      have d : a ≤ 16 := by rw [e]; exact nI_le (a := k) (b := 16) (by omega) (by omega)
      have d2 : ¬ 16 < a := by rw [e]; exact nI_nlt (a := 16) (b := k) (by omega) (by omega)
      exact Or.inl ⟨k, o, by omega, e, c, d, by rw [if_neg c, if_neg d2]⟩
  · right
    rcases h2 with h2 | ⟨h2, h3⟩
    · have c : a < 2 := by
        have e1 := Int32.lt_iff_toInt_lt.mp h2
        apply Int32.lt_iff_toInt_lt.mpr
        have e2 : (0 : Int32).toInt = 0 := by decide +kernel
        have e3 : (2 : Int32).toInt = 2 := by decide +kernel
        omega
      exact ⟨by rw [if_pos c], Or.inl c⟩
    · have e1 := Int32.le_iff_toInt_le.mp h3
      rw [nI_toInt (by omega)] at e1
      have e3 : (2 : Int32).toInt = 2 := by decide +kernel
      have e4 : (16 : Int32).toInt = 16 := by decide +kernel
      have c : ¬ a < 2 := fun z => by
        have := Int32.lt_iff_toInt_lt.mp z
        omega
      have d : (16 : Int32) < a := Int32.lt_iff_toInt_lt.mpr (by omega)
      have d2 : ¬ a ≤ 16 := fun z => by
        have := Int32.le_iff_toInt_le.mp z
        omega
      exact ⟨by rw [if_neg c, if_pos d], Or.inr ⟨c, d2⟩⟩
theorem M5_ok : M5 Rel := by
  rintro xc fa tr pm hm ⟨N, k, Ms, im, h⟩ a1
  obtain ⟨hp, ⟨hN, hC, hM⟩, ⟨k8, kc, km, hs⟩, q4, q5, q6, q7, q9, ⟨hX, hG, hR⟩, h8, h10⟩ := id h
  have hcf := hp.1.1
  unfold f_X9_net f_X10_net
  simp only [lt]
  rcases in216 a1 with ⟨n, n1, n2, rfl, c1, c2, e⟩ | ⟨e, c⟩
  · rw [e, if_neg c1, if_pos c2, if_neg i1n0]
    obtain ⟨x0, ex0, x1, x2⟩ := new_c (xc := xc) n (by omega)
    rw [ex0]
    simp only [Option.bind_some]
    obtain ⟨y, ey, y1, y2, y3⟩ := settle_c (pm := pm) hcf (aNew.ok n1 n2) x1
    rw [ey]
    simp only [Option.bind_some]
    rw [gnG_ok (show (tr = 71 ∧ fa = 76) ∨ (tr = 76 ∧ fa = 71) by omega)]
    refine ⟨_, rfl, ?_⟩
    unfold f_X10_net_J21
    simp only [lt, throws0, if_true]
    obtain ⟨m1, em1, a1, a2⟩ := new_m (hm := up2 hm 81 0 0) n n1 n2
    rw [em1]
    simp only [Option.bind_some]
    rw [noLat_6]
    have g0 : FrM (fun c j => c = 81 ∧ j = 0) hm (up2 hm 81 0 0) := FrM.s ⟨rfl, rfl⟩
    have g2 : FrM (fun c j => c = 81 ∧ j = 5) m1 (up2 m1 81 5 0) := FrM.s ⟨rfl, rfl⟩
    obtain ⟨b1, b2⟩ := noLat_m (up2 m1 81 5 0)
    have fm : FrM (fun c j => (c = 81 ∧ (j = 0 ∨ j = 5 ∨ (16 ≤ j ∧ j ≤ 19))) ∨ c = 82) hm (f_X10_hasNoLatest (up2 m1 81 5 0)) := (((g0.mono fun c j h => by omega).tr (a2.mono fun c j h => by omega)).tr (g2.mono fun c j h => by omega)).tr (b1.mono fun c j h => by omega)
    have hrel := settle_rel (k' := 0) h (by omega) (aNew.ok n1 n2) ((x2.mono fun c h => by omega).tr ((Fr.s (W := fun c => c = 19) rfl).x.mono fun c h => by omega)) sI_at ((a1.fr g2 (fun j => by omega)).fr b1 (fun j => by omega)) fm (by rw [b1 81 5 (by omega), up2_at]; rfl) b2 y1 y2 y3
    refine ⟨_, rfl, (why_rel hrel 0).rel, ?_, fun k z => (by cases z)⟩
    show up2 (f_X10_hasNoLatest (up2 m1 81 5 0)) 81 6 0 81 0 = 0
    rw [up2_at2 (Or.inr (by decide)), b1 81 0 (by omega), g2 81 0 (by omega), a2 81 0 (by omega), up2_at]
  · rw [e, if_pos rfl]
    unfold f_X10_net_J21 f_X9_net_J11
    simp only [lt, throws1]
    rw [if_neg i1n0, gnG_ok hcf]
    have ag : AgU [0] (.inr 0) (f_X10_thrown (up2 (up2 hm 81 0 0) 81 0 1)) := by
      refine ⟨?_, fun k z => (by cases z; exact List.mem_cons_self)⟩
      show up2 (up2 hm 81 0 0) 81 0 1 81 0 = _
      rw [up2_at]
      rfl
    rcases c with c | ⟨c, c'⟩
    · rw [if_pos c]
      exact ⟨_, rfl, _, rfl, ((h.t0 0).t0 1).rel, ag⟩
    · rw [if_neg c, if_neg c']
      exact ⟨_, rfl, _, rfl, ((h.t0 0).t0 1).rel, ag⟩
/-! the beginning -/
theorem reset_w (g : Nat) (a : Int32) (xc : gXH) : ∃ y, f_X6_reset g xc a = some y ∧ Fx (fun c => g ≤ c ∧ c ≤ g + 3) xc y := by
  unfold f_X6_reset
  simp only [lt]
  obtain ⟨x1, e1⟩ : ∃ x1, sL (sI (sI (sI (sI xc g 3 a) g 4 0) g 5 (a - 1)) g 6 0) g 7 0 = x1 := ⟨_, rfl⟩
  rw [e1]
  have f1 : Fx (fun c => g ≤ c ∧ c ≤ g + 3) xc x1 := by
    rw [← e1]
    exact ((((Fr.s (W := fun c => g ≤ c ∧ c ≤ g + 3) (by omega)).tr (Fr.s (W := fun c => g ≤ c ∧ c ≤ g + 3) (by omega))).tr (Fr.s (W := fun c => g ≤ c ∧ c ≤ g + 3) (by omega))).tr (Fr.s (W := fun c => g ≤ c ∧ c ≤ g + 3) (by omega))).x.tr (Fx.l (by omega))
  obtain ⟨y, ey, y1, y2⟩ := fill_ok (g + 3) 16 (by omega) x1 1
  rw [ey]
  exact ⟨y, rfl, f1.tr (y2.x.mono fun c hc => by omega)⟩
theorem mem_w (xc : gXH) : ∃ y, f_n5_19 xc = some y ∧ Fx (fun c => 21 ≤ c ∧ c ≤ 52) xc y := by
  unfold f_n5_19 f_n6_21 f_n6_25 f_n6_29 f_n6_33 f_n6_37 f_n6_41 f_n6_45 f_n6_49
  obtain ⟨y1, e1, f1⟩ := reset_w 21 8 xc
  obtain ⟨y2, e2, f2⟩ := reset_w 25 8 y1
  obtain ⟨y3, e3, f3⟩ := reset_w 29 8 y2
  obtain ⟨y4, e4, f4⟩ := reset_w 33 8 y3
  obtain ⟨y5, e5, f5⟩ := reset_w 37 8 y4
  obtain ⟨y6, e6, f6⟩ := reset_w 41 8 y5
  obtain ⟨y7, e7, f7⟩ := reset_w 45 8 y6
  obtain ⟨y8, e8, f8⟩ := reset_w 49 8 y7
  rw [e1, Option.bind_some, e2, Option.bind_some, e3, Option.bind_some, e4, Option.bind_some, e5, Option.bind_some, e6, Option.bind_some, e7, Option.bind_some, e8]
  exact ⟨y8, rfl, (((((((f1.mono fun c h => by omega).tr (f2.mono fun c h => by omega)).tr (f3.mono fun c h => by omega)).tr (f4.mono fun c h => by omega)).tr (f5.mono fun c h => by omega)).tr (f6.mono fun c h => by omega)).tr (f7.mono fun c h => by omega)).tr (f8.mono fun c h => by omega)⟩
theorem pm0_ok : pmK 76 71 pm0 := ⟨⟨Or.inr ⟨rfl, rfl⟩, fun k hk => ⟨k, hk, rfl⟩⟩, fun i j hi hj z => by
  have z : 21 + 4 * i = 21 + 4 * j := z
  omega⟩
theorem MI_ok : MI Rel := by
  unfold MI f_n9_0 f_n6_7 f_n6_11 f_n6_15 f_n10_81
  obtain ⟨x1, e1, c1, f1⟩ := new_c (xc := x00) 8 (by omega)
  obtain ⟨x2, e2, f2⟩ := reset_w 11 8 x1
  obtain ⟨x3, e3, f3⟩ := reset_w 15 8 x2
  obtain ⟨x4, e4, f4⟩ := mem_w x3
  have hN : aOk (aNew 8) := aNew.ok (by omega) (by omega)
  have f234 : Fx (fun c => 11 ≤ c ∧ c ≤ 52) x1 x4 := ((f2.mono fun c h => by omega).tr (f3.mono fun c h => by omega)).tr (f4.mono fun c h => by omega)
  have c4 := c1.fx f234 (fun c _ _ => by omega)
  obtain ⟨y, ey, y1, ⟨yX, yG, yR⟩, y3⟩ := fresh_c (fa := 71) (tr := 76) (pm := pm0) (Or.inl ⟨rfl, rfl⟩) hN c4
  rw [show f_X6_reset 7 x00 8 = some x1 from e1, Option.bind_some, e2, Option.bind_some, e3, Option.bind_some, e4, Option.bind_some, ey, Option.bind_some]
  refine ⟨_, rfl, ?_⟩
  obtain ⟨m0, em0⟩ : ∃ m0, up2 (up2 (up2 m00 81 8 (-1 : Int32)) 81 10 (-1 : Int32)) 81 27 (-1 : Int32) = m0 := ⟨_, rfl⟩
  rw [em0]
  have g0 : FrM (fun c j => c = 81 ∧ (j = 8 ∨ j = 10 ∨ j = 27)) m00 m0 := by
    rw [← em0]
    exact ((FrM.s (W := fun c j => c = 81 ∧ (j = 8 ∨ j = 10 ∨ j = 27)) (by omega)).tr (FrM.s (by omega))).tr (FrM.s (by omega))
  have v8 : m0 81 8 = -1 := by rw [← em0, up2_at2 (Or.inr (by decide)), up2_at2 (Or.inr (by decide)), up2_at]
  have v10 : m0 81 10 = -1 := by rw [← em0, up2_at2 (Or.inr (by decide)), up2_at]
  have v27 : m0 81 27 = -1 := by rw [← em0, up2_at]
  obtain ⟨m, em, m1, m2⟩ := new_m (hm := m0) 8 (by omega) (by omega)
  have em : f_X10_isFresh m0 8 = some m := em
  rw [em]
  refine ⟨m, rfl, aNew 8, 0, fun _ => aNew 8, none, ?_⟩
  dsimp only
  obtain ⟨cl, d0, d1, d2, d3⟩ := clear_c 53 y
  obtain ⟨w, ew⟩ : ∃ w, f_X1_clear 53 y = w := ⟨_, rfl⟩
  rw [ew] at y1 yX yG yR y3 cl d0 d1 d2 d3
  rw [ew]
  have hz : ∀ c, ¬ ((7 ≤ c ∧ c ≤ 52) ∨ WRn 76 c) → w.1 c = x00.1 c := fun c hc => by
    rw [y1.1 c (fun z => hc (Or.inr z)), (f234 c (by omega)).1, (f1 c (by omega)).1]
  have h19 : w.1 19 = x00.1 19 := by
    rw [y1.1 19 (by unfold WRn; omega), (f4 19 (by omega)).1, (f3 19 (by omega)).1, (f2 19 (by omega)).1, (f1 19 (by omega)).1]
  have fs : Fr (fun c => c = 0) w (sI (sI w 0 10 (-1)) 0 11 0) := (Fr.s (W := fun c => c = 0) rfl).tr (Fr.s rfl)
  have s9 : (sI (sI w 0 10 (-1)) 0 11 0).1 0 9 = 0 := by rw [sI_at2 (by decide), sI_at2 (by decide), hz 0 (by unfold WRn; omega)]; rfl
  have s10 : (sI (sI w 0 10 (-1)) 0 11 0).1 0 10 = -1 := by rw [sI_at2 (by decide), sI_at]
  have s11 : (sI (sI w 0 10 (-1)) 0 11 0).1 0 11 = 0 := sI_at
  obtain ⟨u, eu⟩ : ∃ u, sI (sI w 0 10 (-1)) 0 11 0 = u := ⟨_, rfl⟩
  rw [eu] at fs s9 s10 s11
  rw [eu]
  have mz : ∀ j, j ≠ 8 → j ≠ 10 → j ≠ 27 → m 81 j = 0 := fun j j1 j2 j3 => by
    rw [m2 81 j (by omega), g0 81 j (by omega)]
    rfl
  have gz : ∀ c, c = 1 ∨ c = 3 → u.1 c 1 = 0 := fun c hc => by
    rw [fs.1 c (by omega), hz c (by unfold WRn; omega)]
    rfl
  refine ⟨pm0_ok, ⟨hN, y3.fr fs (fun c _ _ => by omega), m1⟩, ⟨by omega, ?_, mz 5 (by decide) (by decide) (by decide), fun i hi => absurd hi (by omega)⟩, ⟨s9, mz 7 (by decide) (by decide) (by decide)⟩, ⟨?_, ?_⟩, ⟨?_, ?_, ?_, ?_⟩, ⟨0, by omega, gz 1 (by omega), mz 23 (by decide) (by decide) (by decide), fun i hi => absurd hi (by omega)⟩, ⟨0, by omega, gz 3 (by omega), mz 41 (by decide) (by decide) (by decide), fun i hi => absurd hi (by omega)⟩, ⟨yX.cg (fs.1 _ (by omega)), yG.fr fs (fun c _ _ => by omega), NX.cg yR (fs.1 60 (by omega))⟩, ?_, ?_⟩
  · rw [fs.1 19 (by omega), h19]
    rfl
  · rw [s10, m2 81 27 (by omega), v27]
  · rw [s11, mz 6 (by decide) (by decide) (by decide)]
  · rw [fs.1 53 (by omega), d0, mz 16 (by decide) (by decide) (by decide)]
  · rw [fs.1 53 (by omega), d1, mz 17 (by decide) (by decide) (by decide)]
  · rw [fs.1 53 (by omega), d2, mz 18 (by decide) (by decide) (by decide)]
  · rw [fs.1 53 (by omega), d3, mz 19 (by decide) (by decide) (by decide)]
  · rw [m2 81 8 (by omega), v8]
  · rw [m2 81 10 (by omega), v10]
