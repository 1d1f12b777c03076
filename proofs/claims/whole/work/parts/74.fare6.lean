section
variable {N : aN} {hm y : gIH}
/-- one arc looked at -/
theorem relax_m (hN : aOk N) (q : QM N hm y) {F : Nat → Option Nat} {B : Nat} (hB : B ≤ 1000000) (h : FM N y F B) (hA : FA N F) (hr : F (nRt N) = some (nL N (nRt N))) {j : Nat} (hj : j < nM N) (b1 more : Int32) :
    ∃ m' y' F', f_X10_fareOf_L52 b1 (more, nI j, y) = some (.inl (m', nI (j + 1), y')) ∧ FrM (fun c _ => 94 ≤ c ∧ c ≤ 97) y y' ∧ FM N y' F' (B + 99) ∧ FA N F' ∧ F' (nRt N) = some (nL N (nRt N)) ∧ (∀ v c, F v = some c → ∃ b, F' v = some b ∧ b ≤ c) ∧ ((m' = more ∧ F' = F ∧ (nO N j = true → ∀ c, F (nF N j) = some c → ∃ b, F (nT N j) = some b ∧ b ≤ c + nL N (nT N j))) ∨ (m' = 1 ∧ nO N j = true ∧ ∃ c, F (nF N j) = some c ∧ F' = upF F (nT N j) (c + nL N (nT N j)) ∧ ∀ b, F (nT N j) = some b → c + nL N (nT N j) < b)) := by
  have h60 := hN.m60
  have hf := hN.f16 hj
  have ht := hN.t16 hj
  have hfn := (hN.2.2.2.2.2.1 j hj).1
  have htn := (hN.2.2.2.2.2.1 j hj).2
  have hl := hN.2.2.2.2.2.2 _ ht
  have ef := (h _ hf hfn).1
  have et := (h _ ht htn).1
  have keep : (nO N j = true → ∀ c, F (nF N j) = some c → ∃ b, F (nT N j) = some b ∧ b ≤ c + nL N (nT N j)) → f_X10_fareOf_L52 b1 (more, nI j, y) = some (.inl (more, nI (j + 1), y)) → ∃ m' y' F', f_X10_fareOf_L52 b1 (more, nI j, y) = some (.inl (m', nI (j + 1), y')) ∧ FrM (fun c _ => 94 ≤ c ∧ c ≤ 97) y y' ∧ FM N y' F' (B + 99) ∧ FA N F' ∧ F' (nRt N) = some (nL N (nRt N)) ∧ (∀ v c, F v = some c → ∃ b, F' v = some b ∧ b ≤ c) ∧ ((m' = more ∧ F' = F ∧ (nO N j = true → ∀ c, F (nF N j) = some c → ∃ b, F (nT N j) = some b ∧ b ≤ c + nL N (nT N j))) ∨ (m' = 1 ∧ nO N j = true ∧ ∃ c, F (nF N j) = some c ∧ F' = upF F (nT N j) (c + nL N (nT N j)) ∧ ∀ b, F (nT N j) = some b → c + nL N (nT N j) < b)) := fun hc he =>
    ⟨more, y, F, he, FrM.rf, fun v v1 v2 => ⟨(h v v1 v2).1, fun c hc => by have := (h v v1 v2).2 c hc; omega⟩, hA, hr, fun v c hv => ⟨c, hv, Nat.le_refl _⟩, Or.inl ⟨rfl, rfl, hc⟩⟩
  have m52 : f_X10_fareOf_L52 b1 (more, nI j, y) = (if nO N j = true then (if y 96 (nF N j) = (-1 : Int32) then some (.inl (more, nI (j + 1), y)) else (if y 96 (nT N j) = (-1 : Int32) then f_X10_fareOf_J142 y b1 (nI j) (y 96 (nF N j) + nI (nL N (nT N j))) else (if y 96 (nF N j) + nI (nL N (nT N j)) < y 96 (nT N j) then f_X10_fareOf_J142 y b1 (nI j) (y 96 (nF N j) + nI (nL N (nT N j))) else some (.inl (more, nI (j + 1), y))))) else some (.inl (more, nI (j + 1), y))) := by
    unfold f_X10_fareOf_L52
    dsimp only
    rw [m_arcs q.2.1]
    simp only [Option.bind_some]
    rw [if_neg (nI_ge hj (by omega)), m_open hN q.2.1 hj]
    simp only [Option.bind_some, lt, nI_1]
    by_cases c1 : nO N j = true
    · rw [if_neg (by rw [bi01, c1]; decide), if_pos c1, m_from hN q.2.1 hj, m_to hN q.2.1 hj]
      simp only [Option.bind_some]
      have et4 : (4 : Int32) + nI (nT N j) = nI (4 + nT N j) := by rw [show (4 : Int32) = nI 4 from rfl, nI_add]
      have v4 : y 82 (4 + nT N j) = nI (nL N (nT N j)) := m_toll q.2.1 ht
      rw [gck_ni hf (by omega), gck_ni hf (by omega), gck_ni ht (by omega), gck_ni ht (by omega), et4, gck_ni (by omega) (by omega), nI_clamp (by omega), nI_clamp (by omega), nI_clamp (by omega), v4]
    · rw [if_pos (by rw [bi01]; simpa using c1), if_neg c1]
  by_cases c1 : nO N j = true
  · rw [if_pos c1] at m52
    obtain ⟨oF, hF⟩ : ∃ o, F (nF N j) = o := ⟨_, rfl⟩
    cases oF with
    | none =>
      have e : y 96 (nF N j) = -1 := by rw [ef, hF]; rfl
      rw [if_pos e] at m52
      exact keep (fun _ c hc => by rw [hF] at hc; cases hc) m52
    | some c =>
      have e : y 96 (nF N j) = nI c := by rw [ef, hF]; rfl
      have hcB := (h _ hf hfn).2 c hF
      rw [if_neg (by rw [e]; exact nI_ne_m1 (by omega))] at m52
      have up : (∀ b, F (nT N j) = some b → c + nL N (nT N j) < b) → f_X10_fareOf_L52 b1 (more, nI j, y) = f_X10_fareOf_J142 y b1 (nI j) (y 96 (nF N j) + nI (nL N (nT N j))) → ∃ m' y' F', f_X10_fareOf_L52 b1 (more, nI j, y) = some (.inl (m', nI (j + 1), y')) ∧ FrM (fun c _ => 94 ≤ c ∧ c ≤ 97) y y' ∧ FM N y' F' (B + 99) ∧ FA N F' ∧ F' (nRt N) = some (nL N (nRt N)) ∧ (∀ v c, F v = some c → ∃ b, F' v = some b ∧ b ≤ c) ∧ ((m' = more ∧ F' = F ∧ (nO N j = true → ∀ c, F (nF N j) = some c → ∃ b, F (nT N j) = some b ∧ b ≤ c + nL N (nT N j))) ∨ (m' = 1 ∧ nO N j = true ∧ ∃ c, F (nF N j) = some c ∧ F' = upF F (nT N j) (c + nL N (nT N j)) ∧ ∀ b, F (nT N j) = some b → c + nL N (nT N j) < b)) := fun hlt he => by
        rw [he]
        unfold f_X10_fareOf_J142
        rw [m_to hN q.2.1 hj]
        simp only [Option.bind_some]
        rw [gck_ni ht (by omega), nI_clamp (by omega), e, nI_add]
        simp only [lt]
        have hrt : nT N j ≠ nRt N := fun z => by
          rw [z] at hlt
          have := hlt _ hr
          omega
        refine ⟨1, _, upF F (nT N j) (c + nL N (nT N j)), by rw [nI_1], FrM.s (by omega), fun v v1 v2 => ?_, fun v d hd => ?_, ?_, fun v d hd => ?_, Or.inr ⟨rfl, c1, c, hF, rfl, hlt⟩⟩
        · unfold upF
          by_cases d : v = nT N j
          · rw [if_pos d, d, up2_at]
            exact ⟨rfl, fun c' hc' => by cases hc'; omega⟩
          · rw [if_neg d, up2_at2 (Or.inr d)]
            exact ⟨(h v v1 v2).1, fun c' hc' => by have := (h v v1 v2).2 c' hc'; omega⟩
        · unfold upF at hd
          by_cases d' : v = nT N j
          · rw [if_pos d'] at hd
            cases hd
            obtain ⟨i, hi⟩ := hA _ c hF
            exact ⟨i + 1, Or.inr ⟨nF N j, c, hi, Or.inl ⟨j, hj, c1, by omega, by omega, rfl, d'.symm⟩, by rw [d']⟩⟩
          · rw [if_neg d'] at hd
            exact hA v d hd
        · unfold upF
          rw [if_neg (Ne.symm hrt)]
          exact hr
        · unfold upF
          by_cases d' : v = nT N j
          · rw [if_pos d']
            rw [d'] at hd
            exact ⟨_, rfl, Nat.le_of_lt (hlt d hd)⟩
          · rw [if_neg d']
            exact ⟨d, hd, Nat.le_refl _⟩
      obtain ⟨oT, hT⟩ : ∃ o, F (nT N j) = o := ⟨_, rfl⟩
      cases oT with
      | none =>
        have e2 : y 96 (nT N j) = -1 := by rw [et, hT]; rfl
        rw [if_pos e2] at m52
        exact up (fun b hb => by rw [hT] at hb; cases hb) m52
      | some b =>
        have e2 : y 96 (nT N j) = nI b := by rw [et, hT]; rfl
        have hbB := (h _ ht htn).2 b hT
        have ne2 : ¬ y 96 (nT N j) = -1 := by rw [e2]; exact nI_ne_m1 (by omega)
        rw [if_neg ne2] at m52
        by_cases c2 : c + nL N (nT N j) < b
        · have lt2 : y 96 (nF N j) + nI (nL N (nT N j)) < y 96 (nT N j) := by rw [e, e2, nI_add]; exact nI_lt c2 (by omega)
          rw [if_pos lt2] at m52
          exact up (fun b' hb' => by rw [hT] at hb'; cases hb'; exact c2) m52
        · have lt2 : ¬ y 96 (nF N j) + nI (nL N (nT N j)) < y 96 (nT N j) := by rw [e, e2, nI_add]; exact nI_nlt (by omega) (by omega)
          rw [if_neg lt2] at m52
          exact keep (fun _ c' hc' => by rw [hF] at hc'; cases hc'; exact ⟨b, hT, by omega⟩) m52
  · rw [if_neg c1] at m52
    exact keep (fun z => absurd z c1) m52
end
