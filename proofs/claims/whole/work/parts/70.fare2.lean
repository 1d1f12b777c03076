def pay (F : Nat → Option Nat) (L : Nat → Nat) (a : Nat) (T : Nat → Bool) (w : Nat) : Option Nat := if T w = true then (match F w with
  | none => some (a + L w)
  | some b => if a + L w < b then some (a + L w) else some b) else F w
theorem pay_c {N : aN} {x : gXH} {fa : Nat} (hN : aOk N) (hfa : 70 < fa) (hC : CNet x 7 N) {F : Nat → Option Nat} (h : FR x F) {v a : Nat} (hv : v < 16) (hF : F v = some a) (ha : a ≤ 1584) (s : Int32) (hs : bt s v = false) :
    ∃ y, f_X8_payFrom fa x (nI v) s = some y ∧ Fr (fun c => c = 62) x y ∧ FR y (pay F (nL N) a (fun w => bt (x.1 (fa + 1) v &&& s) w)) := by
  obtain ⟨T, hT⟩ : ∃ T : Nat → Bool, (fun w => bt (x.1 (fa + 1) v &&& s) w) = T := ⟨_, rfl⟩
  have hTe : ∀ w, bt (x.1 (fa + 1) v &&& s) w = T w := fun w => by rw [← hT]
  rw [hT]
  have hTv : T v = false := by rw [← hTe, b_and, hs, Bool.and_false]
  have hpv : pay F (nL N) a T v = some a := by
    unfold pay
    rw [hTv, if_neg (by decide), hF]
  have key : ∃ y, lp (f_X8_payFrom_L17 fa (nI v) (x.1 (fa + 1) v &&& s)) 2000 (0, x) = some y ∧ Fr (fun c => c = 62) x y ∧ FR y (pay F (nL N) a T) := by
    refine lp_for (step := f_X8_payFrom_L17 fa (nI v) (x.1 (fa + 1) v &&& s)) 16 (fun j t => t.1 = nI j ∧ Fr (fun c => c = 62) x t.2 ∧ FR t.2 (fun w => if w < j then pay F (nL N) a T w else F w)) _ ?_ ?_ ⟨rfl, Fr.rf, fun w hw => by dsimp only; rw [if_neg (by omega)]; exact h w hw⟩ (by omega)
    · rintro j ⟨i, y⟩ hj ⟨h0, hf, hr⟩
      dsimp only at h0 hf hr
      subst h0
      have hl := hN.2.2.2.2.2.2 j hj
      have ev : y.1 62 v = nI a := by
        rw [(hr v hv).1]
        show fI (if v < j then pay F (nL N) a T v else F v) = nI a
        rw [hpv, hF]
        split <;> rfl
      have ej : y.1 62 j = fI (F j) := by
        rw [(hr j hj).1]
        show fI (if j < j then _ else F j) = _
        rw [if_neg (by omega)]
      have et : y.1 10 j = nI (nL N j) := by
        rw [hf.1 10 (by decide)]
        exact hC.2.2.2.2.2.2 j hj
      -- j stays
      have stay : pay F (nL N) a T j = F j → FR y (fun w => if w < j + 1 then pay F (nL N) a T w else F w) := fun hp w hw => by
        have := hr w hw
        dsimp only at this
        by_cases c : w < j
        · rw [if_pos c] at this
          dsimp only
          rw [if_pos (by omega)]
          exact this
        · rw [if_neg c] at this
          dsimp only
          by_cases c2 : w = j
          · rw [c2, if_pos (by omega), hp, ← c2]
            exact this
          · rw [if_neg (by omega)]
            exact this
      -- j is put
      have put : pay F (nL N) a T j = some (a + nL N j) → FR (sI y 62 j (nI (a + nL N j))) (fun w => if w < j + 1 then pay F (nL N) a T w else F w) := fun hp w hw => by
        dsimp only
        by_cases c2 : w = j
        · rw [c2, sI_at, if_pos (by omega), hp]
          exact ⟨rfl, fun c hc => by cases hc; omega⟩
        · rw [sI_at2 c2]
          have := hr w hw
          dsimp only at this
          by_cases c : w < j
          · rw [if_pos c] at this
            rw [if_pos (by omega)]
            exact this
          · rw [if_neg c] at this
            rw [if_neg (by omega)]
            exact this
      unfold f_X8_payFrom_L17 f_X8_payFrom_J74
      dsimp only
      rw [if_neg (ge16 hj), atv_n (L := 16) hv (by omega), atv_n (L := 16) hj (by omega), atv_n (L := 16) hj (by omega), ev, et, nI_add]
      simp only [lt]
      have tail1 : (T j = true → pay F (nL N) a T j = some (a + nL N j)) → ∃ s', f_X8_payFrom_J79 fa y (nI v) (x.1 (fa + 1) v &&& s) (nI j) (nI (a + nL N j)) (1 : Int32) = some (.inl s') ∧ s'.1 = nI (j + 1) ∧ Fr (fun c => c = 62) x s'.2 ∧ FR s'.2 (fun w => if w < j + 1 then pay F (nL N) a T w else F w) := fun hp => by
        unfold f_X8_payFrom_J79
        by_cases c : T j = true
        · rw [if_neg (by rw [has0 _ (by omega), hTe, c]; decide), if_neg i1n0, putv_n (L := 16) hj (by omega)]
          exact ⟨_, rfl, nI_1 j, hf.tr (Fr.s rfl), put (hp c)⟩
        · rw [if_pos (by rw [has0 _ (by omega), hTe]; simpa using c)]
          exact ⟨_, rfl, nI_1 j, hf, stay (by unfold pay; rw [if_neg c])⟩
      cases hFj : F j with
      | none =>
        have e : y.1 62 j = -1 := by rw [ej, hFj]; rfl
        rw [if_pos e]
        exact tail1 fun c => by unfold pay; rw [if_pos c, hFj]
      | some b =>
        have hb := (h j hj).2 b hFj
        have e : y.1 62 j = nI b := by rw [ej, hFj]; rfl
        have ne : ¬ y.1 62 j = -1 := by rw [e]; exact nI_ne_m1 (by omega)
        rw [if_neg ne]
        by_cases c : b ≤ a + nL N j
        · have le : y.1 62 j ≤ nI (a + nL N j) := by rw [e]; exact nI_le c (by omega)
          rw [if_pos le]
          have hp : pay F (nL N) a T j = F j := by
            unfold pay
            rw [hFj]
            dsimp only
            rw [if_neg (show ¬ a + nL N j < b by omega)]
            split <;> rfl
          unfold f_X8_payFrom_J79
          split
          · exact ⟨_, rfl, nI_1 j, hf, stay hp⟩
          · rw [if_pos rfl]
            exact ⟨_, rfl, nI_1 j, hf, stay hp⟩
        · have nle : ¬ y.1 62 j ≤ nI (a + nL N j) := by rw [e]; exact nI_ge (by omega) (by omega)
          rw [if_neg nle]
          exact tail1 fun c' => by
            unfold pay
            rw [if_pos c', hFj]
            dsimp only
            rw [if_pos (by omega)]
    · rintro ⟨i, y⟩ ⟨h0, hf, hr⟩
      dsimp only at h0 hf hr
      subst h0
      unfold f_X8_payFrom_L17
      dsimp only
      rw [if_pos le16]
      refine ⟨_, rfl, hf, fun w hw => ?_⟩
      have := hr w hw
      dsimp only at this
      rw [if_pos hw] at this
      exact this
  obtain ⟨y, ey, hy⟩ := key
  refine ⟨y, ?_, hy⟩
  unfold f_X8_payFrom
  rw [atv_n (L := 16) hv (by omega)]
  simp only [lt]
  rw [ey]
  rfl
