def FaI (N : aN) (v : Nat) (z : Int32) : Prop := (∀ c, LtN N v c → z = nI c) ∧ (¬ RN N v → z = -1)
theorem FaI.uniq {N : aN} {v : Nat} {y z : Int32} (h1 : FaI N v y) (h2 : FaI N v z) : y = z := by
  by_cases c : RN N v
  · obtain ⟨d, hd⟩ := Lt.ex (L := nL N) c
    rw [h1.1 d hd, h2.1 d hd]
  · rw [h1.2 c, h2.2 c]
theorem fare_c {N : aN} {xc : gXH} {fa tr : Nat} (h : CQ N fa tr xc) {a : Nat} (ha : a < 16) : ∃ z y, f_X8_fare fa xc (nI a) = some (z, y) ∧ Fr (fun c => c = 62) xc y ∧ FaI N a z := by
  obtain ⟨h0, hN, hC, hX, hG, hR⟩ := h
  have hfa : 70 < fa := by omega
  have hE : E16 (Ed N 100) := hN.e16n (k1 := 100) (k2 := 100)
  have hr16 := hN.r16
  have lt99 := hN.2.2.2.2.2.2
  obtain ⟨x0, e0, a0, f0⟩ := fill_ok 62 16 (by omega) xc (-1)
  have v4 : x0.1 7 4 = nI (nRt N) := by rw [f0.1 7 (by decide)]; exact hC.2.1
  have v10 : x0.1 10 (nRt N) = nI (nL N (nRt N)) := by rw [f0.1 10 (by decide)]; exact hC.2.2.2.2.2.2 _ hr16
  have f1 : Fr (fun c => c = 62) xc (sI x0 62 (nRt N) (nI (nL N (nRt N)))) := f0.tr (Fr.s rfl)
  obtain ⟨x1, e1⟩ : ∃ x1, sI x0 62 (nRt N) (nI (nL N (nRt N))) = x1 := ⟨_, rfl⟩
  rw [e1] at f1
  have vfa : x1.1 fa 4 = xc.1 fa 4 := by rw [f1.1 fa (by omega)]
  obtain ⟨F0, hF0⟩ : ∃ F0 : Nat → Option Nat, (fun w => if w = nRt N then some (nL N (nRt N)) else none) = F0 := ⟨_, rfl⟩
  have hF0e : ∀ w, F0 w = if w = nRt N then some (nL N (nRt N)) else none := fun w => by rw [← hF0]
  have FR0 : FR x1 F0 := fun v hv => by
    rw [hF0e, ← e1]
    by_cases c : v = nRt N
    · rw [if_pos c, c, sI_at]
      exact ⟨rfl, fun d hd => by cases hd; have := lt99 _ hr16; omega⟩
    · rw [if_neg c, sI_at2 c]
      exact ⟨a0 v hv, fun d hd => by cases hd⟩
  have Dj0 : Dj N F0 (xc.1 fa 4) := by
    refine ⟨hG.1.1, fun v hv => (hG.1.2 v (hG.1.1.of_bt hv)).mp hv, by rw [hF0e, if_pos rfl], fun v hr hv => absurd ((hG.1.2 v (hr.lt hE hN.s16)).mpr hr) hv, fun v c hc => ?_, fun v c hr hv => absurd ((hG.1.2 v (hr.lt hE hN.s16)).mpr hr) hv⟩
    rw [hF0e] at hc
    by_cases d : v = nRt N
    · rw [if_pos d] at hc
      cases hc
      exact ⟨0, d, rfl⟩
    · rw [if_neg d] at hc
      cases hc
  have key : ∃ y, lp (f_X8_fare_L49 fa (nI a)) 2000 (xc.1 fa 4, 0, x1) = some y ∧ ∃ x F, Sum.elim id id y = x ∧ Fr (fun c => c = 62) xc x ∧ FR x F ∧ (∀ v, RN N v → ∃ c, F v = some c ∧ LtN N v c) ∧ ∀ v c, F v = some c → RN N v := by
    refine lp_forx (step := f_X8_fare_L49 fa (nI a)) 16 (fun j s => s.2.1 = nI j ∧ Fr (fun c => c = 62) xc s.2.2 ∧ ∃ F, FR s.2.2 F ∧ Dj N F s.1 ∧ fb_ct (bt s.1) 16 + j ≤ 16) _ ?_ ?_ ⟨rfl, f1, F0, FR0, Dj0, (by dsimp only; rw [Nat.add_zero]; exact fb_ct_le _ 16)⟩ (by omega)
    · rintro j ⟨u, i, x⟩ hj ⟨h0, hf, F, hFR, hD, hct⟩
      dsimp only at h0 hf hFR hD hct
      subst h0
      unfold f_X8_fare_L49
      dsimp only
      rw [if_neg (ge16 hj)]
      obtain ⟨z, ez, hz⟩ := cheap_c hFR u
      rw [ez]
      simp only [Option.bind_some]
      rcases hz with ⟨v, c, v1, rfl, v3, v4, v5⟩ | ⟨rfl, v2⟩
      · rw [if_neg (nI_ne_m1 (by omega))]
        simp only [lt]
        have hl : LtN N v c := hD.best v3 v4 v5
        have hc : c ≤ 1584 := hl.bound lt99 hE hr16
        obtain ⟨u', eu⟩ : ∃ u', u &&& (f_X9_only (nI v) ^^^ (-1)) = u' := ⟨_, rfl⟩
        have hu : ∀ w, w < 16 → (bt u' w = true ↔ bt u w = true ∧ w ≠ v) := fun w hw => by
          rw [← eu, b_and, bt_not _ (by omega), bt_only (by omega) (by omega)]
          cases bt u w <;> simp
        have hs : S16 u' := by rw [← eu]; exact hD.1.and
        have hvu : bt u' v = false := by
          rw [← Bool.not_eq_true, hu v v1]
          exact fun w => w.2 rfl
        rw [eu]
        obtain ⟨y, ey, y1, y2⟩ := pay_c hN hfa (hC.fr hf (fun c _ _ => by omega)) hFR v1 v4 hc u' hvu
        rw [ey]
        simp only [Option.bind_some]
        have hXx := hX.cg (hf.1 (fa + 1) (by omega))
        have hD' := Dj.next hN hD v3 v4 hl hu hs (T := fun w => bt (x.1 (fa + 1) v &&& u') w) (fun w hw => both_bt ((hXx v v1).2 w hw) Iff.rfl) (fun w hw => (S16.and (y := u') (hXx v v1).1).of_bt hw)
        left
        refine ⟨_, rfl, nI_1 j, hf.tr y1, _, y2, hD', ?_⟩
        have := ct_lt (s := u') (t := u) (fun w hw hb => ((hu w hw).mp hb).1) v1 v3 hvu
        dsimp only
        omega
      · rw [if_pos rfl]
        right
        refine ⟨_, rfl, x, F, rfl, hf, hFR, fun v hr => ?_, fun v c hc => ?_⟩
        · exact hD.2.2.2.1 v hr (fun z => hD.done v2 v z)
        · obtain ⟨i, hi⟩ := hD.2.2.2.2.1 v c hc
          exact hi.rc
    · rintro ⟨u, i, x⟩ ⟨h0, hf, F, hFR, hD, hct⟩
      dsimp only at h0 hf hFR hD hct
      subst h0
      unfold f_X8_fare_L49
      dsimp only
      rw [if_pos le16]
      have hz := fb_ct_zero.mp (show fb_ct (bt u) 16 = 0 by omega)
      refine ⟨_, rfl, x, F, rfl, hf, hFR, fun v hr => ?_, fun v c hc => ?_⟩
      · exact hD.2.2.2.1 v hr (fun z => by rw [hz v (hD.1.of_bt z)] at z; cases z)
      · obtain ⟨i, hi⟩ := hD.2.2.2.2.1 v c hc
        exact hi.rc
  obtain ⟨y, ey, x, F, hx, hf, hFR, q1, q2⟩ := key
  refine ⟨x.1 62 a, x, ?_, hf, fun c hc => ?_, fun hr => ?_⟩
  · unfold f_X8_fare
    rw [e0]
    simp only [Option.bind_some, lt]
    rw [v4, putv_n (L := 16) hr16 (by omega), atv_n (L := 16) hr16 (by omega), v10, e1, vfa, ey]
    simp only [Option.bind_some]
    cases y with
    | inl w =>
      have hw : w = x := hx
      subst hw
      show f_X8_fare_J94 fa w (nI a) = _
      unfold f_X8_fare_J94
      rw [atv_n (L := 16) ha (by omega)]
    | inr w =>
      have hw : w = x := hx
      subst hw
      show f_X8_fare_J94 fa w (nI a) = _
      unfold f_X8_fare_J94
      rw [atv_n (L := 16) ha (by omega)]
  · obtain ⟨d, d1, d2⟩ := q1 a hc.rc
    rw [(hFR a ha).1, d1, hc.uniq d2]
    rfl
  · rw [(hFR a ha).1]
    cases hF : F a with
    | none => rfl
    | some c => exact absurd (q2 a c hF) hr
