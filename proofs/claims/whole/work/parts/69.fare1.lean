/-! THE CLASS'S FARES -/
def fI : Option Nat → Int32
  | none => -1
  | some c => nI c
def FR (x : gXH) (F : Nat → Option Nat) : Prop := ∀ v, v < 16 → x.1 62 v = fI (F v) ∧ ∀ c, F v = some c → c ≤ 4000
theorem cheap_c {x : gXH} {F : Nat → Option Nat} (h : FR x F) (s : Int32) : ∃ z, f_X8_cheapest x s = some z ∧ ((∃ v c, v < 16 ∧ z = nI v ∧ bt s v = true ∧ F v = some c ∧ ∀ u c', u < 16 → bt s u = true → F u = some c' → c ≤ c') ∨ (z = -1 ∧ ∀ u, u < 16 → bt s u = true → F u = none)) := by
  have key : ∃ z, lp (f_X8_cheapest_L4 x s) 2000 (-1, 0) = some z ∧ ((∃ v c, v < 16 ∧ z = nI v ∧ bt s v = true ∧ F v = some c ∧ ∀ u c', u < 16 → bt s u = true → F u = some c' → c ≤ c') ∨ (z = -1 ∧ ∀ u, u < 16 → bt s u = true → F u = none)) := by
    refine lp_for (step := f_X8_cheapest_L4 x s) 16 (fun j t => t.2 = nI j ∧ ((∃ v c, v < 16 ∧ t.1 = nI v ∧ bt s v = true ∧ F v = some c ∧ ∀ u c', u < j → bt s u = true → F u = some c' → c ≤ c') ∨ (t.1 = -1 ∧ ∀ u, u < j → bt s u = true → F u = none))) _ ?_ ?_ ⟨rfl, Or.inr ⟨rfl, fun u hu => absurd hu (by omega)⟩⟩ (by omega)
    · rintro j ⟨z, i⟩ hj ⟨h0, h1⟩
      dsimp only at h0 h1
      subst h0
      have hx := h j hj
      have ex : x.1 62 j = fI (F j) := hx.1
      have skip : (bt s j = true → F j = none) → ((∃ v c, v < 16 ∧ z = nI v ∧ bt s v = true ∧ F v = some c ∧ ∀ u c', u < j + 1 → bt s u = true → F u = some c' → c ≤ c') ∨ (z = -1 ∧ ∀ u, u < j + 1 → bt s u = true → F u = none)) := fun hn => by
        rcases h1 with ⟨v, c, v1, v2, v3, v4, v5⟩ | ⟨v1, v2⟩
        · refine Or.inl ⟨v, c, v1, v2, v3, v4, fun u c' hu hb hf => ?_⟩
          rcases Nat.lt_or_ge u j with o | o
          · exact v5 u c' o hb hf
          · rw [show u = j by omega] at hb hf
            rw [hn hb] at hf
            cases hf
        · refine Or.inr ⟨v1, fun u hu hb => ?_⟩
          rcases Nat.lt_or_ge u j with o | o
          · exact v2 u o hb
          · rw [show u = j by omega] at hb ⊢
            exact hn hb
      unfold f_X8_cheapest_L4 f_X8_cheapest_J34 f_X8_cheapest_J35
      dsimp only
      rw [if_neg (ge16 hj), atv_n (L := 16) hj (by omega)]
      simp only [lt, if_true]
      by_cases c1 : bt s j = true
      · rw [if_neg (by rw [has0 _ (by omega), c1]; decide)]
        cases hF : F j with
        | none =>
          rw [if_pos (by rw [ex, hF]; rfl)]
          exact ⟨_, rfl, nI_1 j, skip fun _ => hF⟩
        | some d =>
          have hd := hx.2 d hF
          have exd : x.1 62 j = nI d := by rw [ex, hF]; rfl
          rw [if_neg (by rw [exd]; exact nI_ne_m1 (by omega)), if_neg i1n0]
          rcases h1 with ⟨v, c, v1, v2, v3, v4, v5⟩ | ⟨v1, v2⟩
          · subst v2
            have hc := (h v v1).2 c v4
            have exc : x.1 62 v = nI c := by rw [(h v v1).1, v4]; rfl
            rw [if_neg (nI_ne_m1 (by omega)), atv_n (L := 16) v1 (by omega)]
            by_cases c2 : c ≤ d
            · rw [if_pos (by rw [exc, exd]; exact nI_le c2 (by omega))]
              refine ⟨_, rfl, nI_1 j, Or.inl ⟨v, c, v1, rfl, v3, v4, fun u c' hu hb hf => ?_⟩⟩
              rcases Nat.lt_or_ge u j with o | o
              · exact v5 u c' o hb hf
              · rw [show u = j by omega, hF] at hf
                cases hf
                exact c2
            · rw [if_neg (by rw [exc, exd]; exact nI_ge (by omega) (by omega))]
              refine ⟨_, rfl, nI_1 j, Or.inl ⟨j, d, hj, rfl, c1, hF, fun u c' hu hb hf => ?_⟩⟩
              rcases Nat.lt_or_ge u j with o | o
              · have := v5 u c' o hb hf
                omega
              · rw [show u = j by omega, hF] at hf
                cases hf
                exact Nat.le_refl _
          · rw [if_pos v1]
            refine ⟨_, rfl, nI_1 j, Or.inl ⟨j, d, hj, rfl, c1, hF, fun u c' hu hb hf => ?_⟩⟩
            rcases Nat.lt_or_ge u j with o | o
            · rw [v2 u o hb] at hf
              cases hf
            · rw [show u = j by omega, hF] at hf
              cases hf
              exact Nat.le_refl _
      · rw [if_pos (by rw [has0 _ (by omega)]; simpa using c1)]
        exact ⟨_, rfl, nI_1 j, skip fun z => absurd z c1⟩
    · rintro ⟨z, i⟩ ⟨h0, h1⟩
      dsimp only at h0 h1
      subst h0
      unfold f_X8_cheapest_L4
      dsimp only
      rw [if_pos le16]
      exact ⟨_, rfl, h1⟩
  obtain ⟨z, ez, hz⟩ := key
  refine ⟨z, ?_, hz⟩
  unfold f_X8_cheapest
  rw [ez]
  rfl
