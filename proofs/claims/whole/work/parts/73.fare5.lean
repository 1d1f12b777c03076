/-! THE REFERENCE'S FARES -/
section
variable {N : aN} {hm y : gIH}
def FM (N : aN) (y : gIH) (F : Nat → Option Nat) (B : Nat) : Prop := ∀ v, v < 16 → v < nN N → y 96 v = fI (F v) ∧ ∀ c, F v = some c → c ≤ B
def FA (N : aN) (F : Nat → Option Nat) : Prop := ∀ v c, F v = some c → ∃ i, Wk (Ed N 100) (nL N) (nRt N) i v c
def FB (N : aN) (F : Nat → Option Nat) (i : Nat) : Prop := ∀ v c, Wk (Ed N 100) (nL N) (nRt N) i v c → ∃ b, F v = some b ∧ b ≤ c
def upF (F : Nat → Option Nat) (w d : Nat) : Nat → Option Nat := fun x => if x = w then some d else F x
theorem FB.fin (hN : aOk N) {F : Nat → Option Nat} (hA : FA N F) (hB : FB N F 15) {v c : Nat} (h : LtN N v c) : F v = some c := by
  have hE : E16 (Ed N 100) := hN.e16n (k1 := 100) (k2 := 100)
  obtain ⟨b, b1, b2⟩ := hB v c (At.all hE hN.r16 h)
  obtain ⟨i, hi⟩ := hA v b b1
  have := h.2 i b hi
  rw [b1, show b = c by omega]
/-- closed by arcs: the least -/
theorem FC.fin {F : Nat → Option Nat} (hA : FA N F) (hr : F (nRt N) = some (nL N (nRt N))) (hC : ∀ u w c, Ed N 100 u w → F u = some c → ∃ b, F w = some b ∧ b ≤ c + nL N w) : ∀ i v c, Wk (Ed N 100) (nL N) (nRt N) i v c → ∃ b, F v = some b ∧ b ≤ c
  | 0, v, c, h => by
    rw [h.1, h.2]
    exact ⟨_, hr, Nat.le_refl _⟩
  | i + 1, v, c, h => by
    rcases h with h | ⟨u, c', h1, h2, h3⟩
    · exact FC.fin hA hr hC i v c h
    · obtain ⟨b, b1, b2⟩ := FC.fin hA hr hC i u c' h1
      obtain ⟨b', b3, b4⟩ := hC u v b h2 b1
      exact ⟨b', b3, by omega⟩
theorem FC.fai {F : Nat → Option Nat} {z : Int32} {v : Nat} (hA : FA N F) (hr : F (nRt N) = some (nL N (nRt N))) (hC : ∀ u w c, Ed N 100 u w → F u = some c → ∃ b, F w = some b ∧ b ≤ c + nL N w) (hz : z = fI (F v)) : FaI N v z := by
  refine ⟨fun c hc => ?_, fun hn => ?_⟩
  · obtain ⟨i, hi⟩ := hc.1
    obtain ⟨b, b1, b2⟩ := FC.fin hA hr hC i v c hi
    obtain ⟨j, hj⟩ := hA v b b1
    have := hc.2 j b hj
    rw [hz, b1, show b = c by omega]
    rfl
  · cases hF : F v with
    | none => rw [hz, hF]; rfl
    | some c =>
      obtain ⟨i, hi⟩ := hA v c hF
      exact absurd hi.rc hn
end
