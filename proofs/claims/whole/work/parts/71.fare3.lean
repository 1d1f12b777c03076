section
variable {N : aN} {F : Nat → Option Nat} {u : Int32}
abbrev LtN (N : aN) : Nat → Nat → Prop := Lt (Ed N 100) (nL N) (nRt N)
def RN (N : aN) (v : Nat) : Prop := Rc (Ed N 100) (fun s => s = nRt N) nox v
/-- settled ones have their least toll -/
def Dj (N : aN) (F : Nat → Option Nat) (u : Int32) : Prop :=
  S16 u ∧ (∀ v, bt u v = true → RN N v) ∧ F (nRt N) = some (nL N (nRt N)) ∧ (∀ v, RN N v → ¬ bt u v = true → ∃ c, F v = some c ∧ LtN N v c) ∧
  (∀ v c, F v = some c → ∃ i, Wk (Ed N 100) (nL N) (nRt N) i v c) ∧
  ∀ v c, RN N v → ¬ bt u v = true → LtN N v c → ∀ w, bt u w = true → Ed N 100 v w → ∃ b, F w = some b ∧ b ≤ c + nL N w
theorem Dj.ahead (h : Dj N F u) : ∀ i w d, LtN N w d → Wk (Ed N 100) (nL N) (nRt N) i w d → bt u w = true → ∃ x b, bt u x = true ∧ F x = some b ∧ b ≤ d
  | 0, w, d, _, hw, hu => by
    obtain ⟨e1, e2⟩ := hw
    subst e1
    exact ⟨_, _, hu, h.2.2.1, Nat.le_of_eq e2.symm⟩
  | i + 1, w, d, hl, hw, hu => by
    rcases hl.pred hw with z | ⟨p, c', l, z, e, hc⟩
    · exact Dj.ahead h i w d hl z hu
    · by_cases hp : bt u p = true
      · obtain ⟨x, b, x1, x2, x3⟩ := Dj.ahead h i p c' l z hp
        exact ⟨x, b, x1, x2, by omega⟩
      · obtain ⟨b, b1, b2⟩ := h.2.2.2.2.2 p c' l.rc hp l w hu e
        exact ⟨w, b, hu, b1, by omega⟩
theorem Dj.best (h : Dj N F u) {v c : Nat} (hv : bt u v = true) (hF : F v = some c) (hm : ∀ w c', w < 16 → bt u w = true → F w = some c' → c ≤ c') : LtN N v c := by
  obtain ⟨d, hd⟩ := Lt.ex (L := nL N) (h.2.1 v hv)
  obtain ⟨i, hi⟩ := hd.1
  obtain ⟨x, b, x1, x2, x3⟩ := h.ahead i v d hd hi hv
  have h1 := hm x b (h.1.of_bt x1) x1 x2
  obtain ⟨j, hj⟩ := h.2.2.2.2.1 v c hF
  have h2 := hd.2 j c hj
  rw [show c = d by omega]
  exact hd
theorem Dj.done (h : Dj N F u) (hm : ∀ w, w < 16 → bt u w = true → F w = none) : ∀ v, bt u v = true → False := fun v hv => by
  obtain ⟨d, hd⟩ := Lt.ex (L := nL N) (h.2.1 v hv)
  obtain ⟨i, hi⟩ := hd.1
  obtain ⟨x, b, x1, x2, x3⟩ := h.ahead i v d hd hi hv
  rw [hm x (h.1.of_bt x1) x1] at x2
  cases x2
theorem pay_le {L : Nat → Nat} {a : Nat} {T : Nat → Bool} {w b : Nat} (h : F w = some b) : ∃ b', pay F L a T w = some b' ∧ b' ≤ b := by
  unfold pay
  split
  · rw [h]
    dsimp only
    split
    · exact ⟨_, rfl, by omega⟩
    · exact ⟨_, rfl, Nat.le_refl _⟩
  · exact ⟨b, h, Nat.le_refl _⟩
theorem pay_new {L : Nat → Nat} {a : Nat} {T : Nat → Bool} {w : Nat} (h : T w = true) : ∃ b', pay F L a T w = some b' ∧ b' ≤ a + L w := by
  unfold pay
  rw [if_pos h]
  cases F w with
  | none => exact ⟨_, rfl, Nat.le_refl _⟩
  | some b =>
    dsimp only
    split
    · exact ⟨_, rfl, Nat.le_refl _⟩
    · exact ⟨_, rfl, by omega⟩
theorem pay_is {L : Nat → Nat} {a : Nat} {T : Nat → Bool} {w b : Nat} (h : pay F L a T w = some b) : F w = some b ∨ (T w = true ∧ b = a + L w) := by
  unfold pay at h
  split at h
  · next ht =>
    cases hF : F w with
    | none =>
      rw [hF] at h
      cases h
      exact Or.inr ⟨ht, rfl⟩
    | some d =>
      rw [hF] at h
      dsimp only at h
      split at h
      · cases h
        exact Or.inr ⟨ht, rfl⟩
      · exact Or.inl h
  · exact Or.inl h
theorem Dj.next (hN : aOk N) (h : Dj N F u) {v c : Nat} (hv : bt u v = true) (hF : F v = some c) (hl : LtN N v c) {T : Nat → Bool} {u' : Int32} (hu : ∀ w, w < 16 → (bt u' w = true ↔ bt u w = true ∧ w ≠ v)) (hs : S16 u') (hT : ∀ w, w < 16 → (T w = true ↔ Ed N 100 v w ∧ bt u' w = true)) (hT16 : ∀ w, T w = true → w < 16) : Dj N (pay F (nL N) c T) u' := by
  obtain ⟨h1, h2, h3, h4, h5, h6⟩ := id h
  have hE : E16 (Ed N 100) := hN.e16n (k1 := 100) (k2 := 100)
  have r16 : ∀ w, RN N w → w < 16 := fun w hw => hw.lt hE hN.s16
  have same : ∀ w, T w = false → pay F (nL N) c T w = F w := fun w hw => by
    unfold pay
    rw [hw, if_neg (by decide)]
  refine ⟨hs, fun w hw => h2 w ((hu w (hs.of_bt hw)).mp hw).1, ?_, fun w hr hw => ?_, fun w b hb => ?_, fun p d hr hp hd w hw he => ?_⟩
  · unfold pay
    split
    · rw [h3]
      dsimp only
      rw [if_neg (by omega)]
    · exact h3
  · have hTw : T w = false := by
      cases ht : T w with
      | false => rfl
      | true => exact absurd ((hT w (hT16 w ht)).mp ht).2 hw
    rw [same w hTw]
    by_cases e : w = v
    · rw [e]
      exact ⟨c, hF, hl⟩
    · exact h4 w hr (fun z => hw ((hu w (r16 w hr)).mpr ⟨z, e⟩))
  · rcases pay_is hb with z | ⟨z1, z2⟩
    · exact h5 w b z
    · obtain ⟨i, hi⟩ := hl.1
      exact ⟨i + 1, Or.inr ⟨v, c, hi, ((hT w (hT16 w z1)).mp z1).1, z2⟩⟩
  · have hw16 := hs.of_bt hw
    by_cases e : p = v
    · subst e
      have := hl.uniq hd
      subst this
      exact pay_new ((hT w hw16).mpr ⟨he, hw⟩)
    · obtain ⟨b, b1, b2⟩ := h6 p d hr (fun z => hp ((hu p (r16 p hr)).mpr ⟨z, e⟩)) hd w ((hu w hw16).mp hw).1 he
      obtain ⟨b', c1, c2⟩ := pay_le (L := nL N) (a := c) (T := T) b1
      exact ⟨b', c1, by omega⟩
end
