/-! ACTS OF A TEXT: refused, done -/
def aRf (k : Nat) (N : aN) (a b : Nat) : Nat :=
  if k = 1 then (if a < nN N then (if nRt N = a then 4 else 0) else 1)
  else if k = 2 then (if a < nN N then (if nEx N = a then 4 else 0) else 1)
  else if k = 3 then (if a < nN N then (if b < nN N then (if nM N = 60 then 2 else 0) else 1) else 1)
  else if k = 4 then (if a < nM N then (if nO N a = true then 0 else 4) else 3)
  else if k = 5 then (if a < nM N then (if nO N a = true then 4 else 0) else 3)
  else if k = 6 then (if a < nN N then (if nL N a = b then 4 else 0) else 1)
  else 0
def aPf (k : Nat) (N : aN) (a b : Nat) : aN :=
  if k = 0 then aNew a else if k = 1 then aRoot N a else if k = 2 then aExit N a else if k = 3 then aLay N a b else if k = 4 then aTurn N a false else if k = 5 then aTurn N a true else aToll N a b
theorem aRf_4 (k : Nat) (N : aN) (a b : Nat) : aRf k N a b ≤ 4 := by
  unfold aRf
  repeat' split
  all_goals omega
theorem aPf.ok {k : Nat} {N : aN} {a b : Nat} (h : aOk N) (hk : k < 7) (hr : aRf k N a b = 0) (h0 : k = 0 → 2 ≤ a ∧ a ≤ 16) (h6 : k = 6 → b ≤ 99) : aOk (aPf k N a b) := by
  have hm := h.m60
  rcases (show k = 0 ∨ k = 1 ∨ k = 2 ∨ k = 3 ∨ k = 4 ∨ k = 5 ∨ k = 6 by omega) with rfl | rfl | rfl | rfl | rfl | rfl | rfl
  · exact aNew.ok (h0 rfl).1 (h0 rfl).2
  · have hr : (if a < nN N then (if nRt N = a then 4 else 0) else 1) = 0 := hr
    by_cases c : a < nN N
    · exact aRoot.ok h c
    · rw [if_neg c] at hr
      omega
  · have hr : (if a < nN N then (if nEx N = a then 4 else 0) else 1) = 0 := hr
    by_cases c : a < nN N
    · exact aExit.ok h c
    · rw [if_neg c] at hr
      omega
  · have hr : (if a < nN N then (if b < nN N then (if nM N = 60 then 2 else 0) else 1) else 1) = 0 := hr
    by_cases c : a < nN N
    · rw [if_pos c] at hr
      by_cases d : b < nN N
      · rw [if_pos d] at hr
        by_cases e : nM N = 60
        · rw [if_pos e] at hr
          omega
        · exact aLay.ok h c d (by omega)
      · rw [if_neg d] at hr
        omega
    · rw [if_neg c] at hr
      omega
  · exact aTurn.ok h
  · exact aTurn.ok h
  · exact aToll.ok h (h6 rfl)
section
variable {N : aN} {x : gXH} {m : gIH}
theorem hasNn (hN : aOk N) (hC : CNet x 7 N) {a : Nat} (ha : a < 2 ^ 31) : f_X6_hasNode x (nI a) = if a < nN N then 1 else 0 := by
  have hn := hN.n16
  rw [c_hasNode hN hC]
  by_cases c : a < nN N
  · rw [if_pos c, if_pos ⟨a, c, rfl⟩]
  · rw [if_neg c, if_neg (fun ⟨k, hk, e⟩ => c (by rw [(nI_eq ha (by omega)).mp e]; exact hk))]
theorem hasAn (hN : aOk N) (hC : CNet x 7 N) {a : Nat} (ha : a < 2 ^ 31) : f_X6_hasArc x (nI a) = if a < nM N then 1 else 0 := by
  have hn := hN.m60
  rw [c_hasArc' hN hC]
  by_cases c : a < nM N
  · rw [if_pos c, if_pos ⟨a, c, rfl⟩]
  · rw [if_neg c, if_neg (fun ⟨k, hk, e⟩ => c (by rw [(nI_eq ha (by omega)).mp e]; exact hk))]
theorem isNn (hN : aOk N) (hM : MNet m 82 0 N) {a : Nat} (ha : a < 2 ^ 31) : f_X10_isNode m (nI a) = some (if a < nN N then 1 else 0) := by
  have hn := hN.n16
  rw [m_isNode hN hM]
  by_cases c : a < nN N
  · rw [if_pos c, if_pos ⟨a, c, rfl⟩]
  · rw [if_neg c, if_neg (fun ⟨k, hk, e⟩ => c (by rw [(nI_eq ha (by omega)).mp e]; exact hk))]
theorem isAn (hN : aOk N) (hM : MNet m 82 0 N) {a : Nat} (ha : a < 2 ^ 31) : f_X10_isArc m (nI a) = some (if a < nM N then 1 else 0) := by
  have hn := hN.m60
  rw [m_isArc hN hM]
  by_cases c : a < nM N
  · rw [if_pos c, if_pos ⟨a, c, rfl⟩]
  · rw [if_neg c, if_neg (fun ⟨k, hk, e⟩ => c (by rw [(nI_eq ha (by omega)).mp e]; exact hk))]
theorem ref_c (hN : aOk N) (hC : CNet x 7 N) {k a b : Nat} {v : Int32} (hk : k < 7) (ha : a < 2 ^ 31) (hb : b < 2 ^ 31) (hv : k = 3 ∨ k = 6 → v = nI b) : f_X6_refusal x (nI k) (nI a) v = nI (aRf k N a b) := by
  have hn := hN.n16
  have hm := hN.m60
  have hr16 := hN.r16
  have he16 := hN.e16'
  have node : ∀ f : Int32, f_X6_refusalOfNode x (nI a) f = nI (if a < nN N then (if f = 0 then 0 else 4) else 1) := fun f => by
    unfold f_X6_refusalOfNode
    rw [hasNn hN hC ha]
    by_cases c : a < nN N
    · rw [if_pos c, if_pos c, if_neg i1n0]
      split <;> rfl
    · rw [if_neg c, if_neg c, if_pos rfl]
      rfl
  rcases (show k = 0 ∨ k = 1 ∨ k = 2 ∨ k = 3 ∨ k = 4 ∨ k = 5 ∨ k = 6 by omega) with rfl | rfl | rfl | rfl | rfl | rfl | rfl
  · unfold f_X6_refusal
    rw [if_neg (by decide), if_neg (by decide), if_neg (by decide), if_neg (by decide), if_neg (by decide), if_neg (by decide)]
    rfl
  · unfold f_X6_refusal
    rw [if_pos (by decide), hC.2.1]
    show _ = nI (if a < nN N then (if nRt N = a then 4 else 0) else 1)
    by_cases c : nRt N = a
    · rw [if_pos (by rw [c])]
      unfold f_X6_refusal_J55
      rw [node, if_neg i1n0, if_pos c]
    · rw [if_neg (fun z => c ((nI_eq (by omega) ha).mp z))]
      unfold f_X6_refusal_J55
      rw [node, if_pos rfl, if_neg c]
  · unfold f_X6_refusal
    rw [if_neg (by decide), if_pos (by decide), hC.2.2.1]
    show _ = nI (if a < nN N then (if nEx N = a then 4 else 0) else 1)
    by_cases c : nEx N = a
    · rw [if_pos (by rw [c])]
      unfold f_X6_refusal_J74
      rw [node, if_neg i1n0, if_pos c]
    · rw [if_neg (fun z => c ((nI_eq (by omega) ha).mp z))]
      unfold f_X6_refusal_J74
      rw [node, if_pos rfl, if_neg c]
  · rw [hv (Or.inl rfl)]
    unfold f_X6_refusal
    rw [if_neg (by decide), if_neg (by decide), if_pos (by decide), hasNn hN hC ha, hasNn hN hC hb, hC.2.2.2.1]
    show _ = nI (if a < nN N then (if b < nN N then (if nM N = 60 then 2 else 0) else 1) else 1)
    by_cases c : a < nN N
    · rw [if_pos c, if_pos c, if_neg i1n0]
      by_cases d : b < nN N
      · rw [if_pos d, if_pos d, if_neg i1n0]
        by_cases e : nM N = 60
        · rw [if_pos e, if_neg (show ¬ nI (nM N) < (60 : Int32) from nI_nlt (b := 60) (by omega) (by omega))]
          rfl
        · rw [if_neg e, if_pos (show nI (nM N) < (60 : Int32) from nI_lt (b := 60) (by omega) (by omega))]
          rfl
      · rw [if_neg d, if_neg d, if_pos rfl]
        rfl
    · rw [if_neg c, if_neg c, if_pos rfl]
      rfl
  · unfold f_X6_refusal f_X6_refusalOfArc
    rw [if_neg (by decide), if_neg (by decide), if_neg (by decide), if_pos (by decide), hasAn hN hC ha]
    show _ = nI (if a < nM N then (if nO N a = true then 0 else 4) else 3)
    by_cases c : a < nM N
    · rw [if_pos c, if_pos c, if_neg i1n0, c_isOpen hN hC c]
      by_cases d : nO N a = true
      · rw [if_pos d, if_pos d, if_neg i1n0]
        rfl
      · rw [if_neg d, if_neg d, if_pos rfl]
        rfl
    · rw [if_neg c, if_neg c, if_pos rfl]
      rfl
  · unfold f_X6_refusal f_X6_refusalOfArc
    rw [if_neg (by decide), if_neg (by decide), if_neg (by decide), if_neg (by decide), if_pos (by decide), hasAn hN hC ha]
    show _ = nI (if a < nM N then (if nO N a = true then 4 else 0) else 3)
    by_cases c : a < nM N
    · rw [if_pos c, if_pos c, if_neg i1n0, c_isOpen hN hC c]
      by_cases d : nO N a = true
      · rw [if_pos d, if_pos d, if_pos rfl]
        rfl
      · rw [if_neg d, if_neg d, if_neg (by decide)]
        rfl
    · rw [if_neg c, if_neg c, if_pos rfl]
      rfl
  · rw [hv (Or.inr rfl)]
    unfold f_X6_refusal
    rw [if_neg (by decide), if_neg (by decide), if_neg (by decide), if_neg (by decide), if_neg (by decide), if_pos (by decide)]
    show _ = nI (if a < nN N then (if nL N a = b then 4 else 0) else 1)
    by_cases c : a < nN N
    · have hl := hN.2.2.2.2.2.2 a (by omega)
      have e : atv x 10 16 (nI a) = nI (nL N a) := by
        rw [atv_n (L := 16) (by omega) (by omega)]
        exact hC.2.2.2.2.2.2 a (by omega)
      rw [e, if_pos c]
      by_cases d : nL N a = b
      · rw [if_pos (by rw [d]), if_pos d]
        unfold f_X6_refusal_J144
        rw [node, if_pos c, if_neg i1n0]
      · rw [if_neg (fun z => d ((nI_eq (by omega) hb).mp z)), if_neg d]
        unfold f_X6_refusal_J144
        rw [node, if_pos c, if_pos rfl]
    · rw [if_neg c]
      have e : ∀ f, f_X6_refusal_J144 x (nI a) f = nI 1 := fun f => by
        unfold f_X6_refusal_J144
        rw [node, if_neg c]
      rw [e, e]
      split <;> rfl
theorem prf_c (hN : aOk N) (hC : CNet x 7 N) {k a b : Nat} {v : Int32} (hk : k < 7) (hr : aRf k N a b = 0) (h0 : k = 0 → 2 ≤ a) (hv : k = 3 ∨ k = 6 → v = nI b) : ∃ y, f_X6_perform x (nI k) (nI a) v = some y ∧ CNet y 7 (aPf k N a b) ∧ Fx W7 x y := by
  have hn := hN.n16
  have hm := hN.m60
  rcases (show k = 0 ∨ k = 1 ∨ k = 2 ∨ k = 3 ∨ k = 4 ∨ k = 5 ∨ k = 6 by omega) with rfl | rfl | rfl | rfl | rfl | rfl | rfl
  · obtain ⟨y, ey, h1, h2⟩ := new_c (xc := x) a (by have := h0 rfl; omega)
    refine ⟨y, ?_, h1, h2⟩
    unfold f_X6_perform
    rw [if_pos (by decide), ey]
    rfl
  · refine ⟨_, ?_, root_c hC a⟩
    unfold f_X6_perform
    rw [if_neg (by decide), if_pos (by decide)]
    rfl
  · refine ⟨_, ?_, exit_c hC a⟩
    unfold f_X6_perform
    rw [if_neg (by decide), if_neg (by decide), if_pos (by decide)]
    rfl
  · rw [hv (Or.inl rfl)]
    have hr : (if a < nN N then (if b < nN N then (if nM N = 60 then 2 else 0) else 1) else 1) = 0 := hr
    have h60 : nM N < 60 := by
      by_cases c : nM N = 60
      · rw [if_pos c] at hr
        split at hr
        · split at hr <;> omega
        · omega
      · omega
    refine ⟨_, ?_, lay_c hC h60 a b⟩
    unfold f_X6_perform
    rw [if_neg (by decide), if_neg (by decide), if_neg (by decide), if_pos (by decide)]
    rfl
  · have hr : (if a < nM N then (if nO N a = true then 0 else 4) else 3) = 0 := hr
    have c : a < nM N := by
      apply Classical.byContradiction
      intro c
      rw [if_neg c] at hr
      omega
    refine ⟨_, ?_, shut_n hC c hm⟩
    unfold f_X6_perform
    rw [if_neg (by decide), if_neg (by decide), if_neg (by decide), if_neg (by decide), if_pos (by decide)]
    rfl
  · have hr : (if a < nM N then (if nO N a = true then 4 else 0) else 3) = 0 := hr
    have c : a < nM N := by
      apply Classical.byContradiction
      intro c
      rw [if_neg c] at hr
      omega
    refine ⟨_, ?_, open_n hC c hm⟩
    unfold f_X6_perform
    rw [if_neg (by decide), if_neg (by decide), if_neg (by decide), if_neg (by decide), if_neg (by decide), if_pos (by decide)]
    rfl
  · rw [hv (Or.inr rfl)]
    have hr : (if a < nN N then (if nL N a = b then 4 else 0) else 1) = 0 := hr
    have c : a < nN N := by
      apply Classical.byContradiction
      intro c
      rw [if_neg c] at hr
      omega
    refine ⟨_, ?_, toll_c hC (show a < 16 by omega) b⟩
    unfold f_X6_perform
    rw [if_neg (by decide), if_neg (by decide), if_neg (by decide), if_neg (by decide), if_neg (by decide), if_neg (by decide), if_pos (by decide), putv_n (L := 16) (by omega) (by omega)]
    rfl
end
/-! one by one -/
def rnA (k w : Nat) (f : Nat → Nat) (N : aN) : Nat → Nat × aN
  | 0 => (0, N)
  | j + 1 => if (rnA k w f N j).1 = 0 then (if aRf k (rnA k w f N j).2 (f (w * j)) (f (w * j + 1)) = 0 then (0, aPf k (rnA k w f N j).2 (f (w * j)) (f (w * j + 1))) else (aRf k (rnA k w f N j).2 (f (w * j)) (f (w * j + 1)), (rnA k w f N j).2)) else rnA k w f N j
section
variable {k w : Nat} {f : Nat → Nat} {N : aN}
theorem rnA_y {j : Nat} (h : (rnA k w f N j).1 = 0) (h2 : aRf k (rnA k w f N j).2 (f (w * j)) (f (w * j + 1)) = 0) : rnA k w f N (j + 1) = (0, aPf k (rnA k w f N j).2 (f (w * j)) (f (w * j + 1))) := by
  rw [rnA, if_pos h, if_pos h2]
theorem rnA_r {j : Nat} (h : (rnA k w f N j).1 = 0) (h2 : ¬ aRf k (rnA k w f N j).2 (f (w * j)) (f (w * j + 1)) = 0) : rnA k w f N (j + 1) = (aRf k (rnA k w f N j).2 (f (w * j)) (f (w * j + 1)), (rnA k w f N j).2) := by
  rw [rnA, if_pos h, if_neg h2]
theorem rnA_n {j : Nat} (h : ¬ (rnA k w f N j).1 = 0) : rnA k w f N (j + 1) = rnA k w f N j := by
  rw [rnA, if_neg h]
theorem rnA_d {j : Nat} (h : ¬ (rnA k w f N j).1 = 0) : ∀ d, rnA k w f N (j + d) = rnA k w f N j
  | 0 => rfl
  | d + 1 => by
    have ih := rnA_d h d
    rw [← Nat.add_assoc, rnA_n (by rw [ih]; exact h), ih]
theorem rnA_J {j J : Nat} (h : ¬ (rnA k w f N j).1 = 0) (hj : j ≤ J) : rnA k w f N J = rnA k w f N j := by
  obtain ⟨d, rfl⟩ : ∃ d, J = j + d := ⟨J - j, by omega⟩
  exact rnA_d h d
theorem rnA_4 : ∀ j, (rnA k w f N j).1 ≤ 4
  | 0 => Nat.zero_le _
  | j + 1 => by
    by_cases h : (rnA k w f N j).1 = 0
    · by_cases h2 : aRf k (rnA k w f N j).2 (f (w * j)) (f (w * j + 1)) = 0
      · rw [rnA_y h h2]
        exact Nat.zero_le _
      · rw [rnA_r h h2]
        exact aRf_4 _ _ _ _
    · rw [rnA_n h]
      exact rnA_4 j
/-- the bounds of what was read -/
def fB (k w : Nat) (f : Nat → Nat) (J : Nat) : Prop := ∀ j, j < J → f (w * j) < 2 ^ 31 ∧ (k = 0 → 2 ≤ f (w * j) ∧ f (w * j) ≤ 16) ∧ (k = 3 ∨ k = 6 → f (w * j + 1) ≤ 99)
theorem rnA_ok (hN : aOk N) (hk : k < 7) {J : Nat} (hB : fB k w f J) : ∀ j, j ≤ J → (rnA k w f N j).1 = 0 → aOk (rnA k w f N j).2
  | 0, _, _ => hN
  | j + 1, hj, h => by
    by_cases h1 : (rnA k w f N j).1 = 0
    · have ih := rnA_ok hN hk hB j (by omega) h1
      by_cases h2 : aRf k (rnA k w f N j).2 (f (w * j)) (f (w * j + 1)) = 0
      · rw [rnA_y h1 h2]
        have hb := hB j (by omega)
        exact aPf.ok ih hk h2 hb.2.1 (fun z => hb.2.2 (Or.inr z))
      · rw [rnA_r h1 h2] at h
        exact absurd h h2
    · rw [rnA_n h1] at h
      exact absurd h h1
end
theorem told_c {x : gXH} {N : aN} {k w J : Nat} {f : Nat → Nat} (hN : aOk N) (hC : CNet x 7 N) (hk : k < 7) (hw : (k = 3 ∨ k = 6) ∧ w = 2 ∨ ¬ (k = 3 ∨ k = 6) ∧ w = 1) (hJ : w * J ≤ 400) (h2 : x.1 5 2 = nI (w * J)) (h6 : ∀ i, i < w * J → x.1 6 i = nI (f i)) (hB : fB k w f J) :
    ∃ y, f_X9_doTold x (nI k) = some (nI (rnA k w f N J).1, y) ∧ Fx W7 x y ∧ ((rnA k w f N J).1 = 0 → CNet y 7 (rnA k w f N J).2) := by
  have ew : f_X7_width (nI k) = nI w := by
    rcases (show k = 0 ∨ k = 1 ∨ k = 2 ∨ k = 3 ∨ k = 4 ∨ k = 5 ∨ k = 6 by omega) with rfl | rfl | rfl | rfl | rfl | rfl | rfl
    · rw [show w = 1 by omega]
      decide
    · rw [show w = 1 by omega]
      decide
    · rw [show w = 1 by omega]
      decide
    · rw [show w = 2 by omega]
      decide
    · rw [show w = 1 by omega]
      decide
    · rw [show w = 1 by omega]
      decide
    · rw [show w = 2 by omega]
      decide
  have hw1 : w = 1 ∨ w = 2 := by omega
  have wj : ∀ j, j < J → w * j + w ≤ w * J := fun j hj => by
    rcases hw1 with rfl | rfl <;> omega
  have key : ∃ r, lp (f_X9_doTold_L11 (nI k) (nI w)) 2000 ((0 : Int32), x) = some r ∧ ∃ y, Fx W7 x y ∧ ((r = .inl (nI (rnA k w f N J).1, y) ∧ ¬ (rnA k w f N J).1 = 0) ∨ (r = .inr y ∧ (rnA k w f N J).1 = 0 ∧ CNet y 7 (rnA k w f N J).2)) := by
    refine lp_forx (step := f_X9_doTold_L11 (nI k) (nI w)) J (fun j s => s.1 = nI (w * j) ∧ Fx W7 x s.2 ∧ (rnA k w f N j).1 = 0 ∧ CNet s.2 7 (rnA k w f N j).2) _ ?_ ?_ ⟨by
      show (0 : Int32) = nI (w * 0)
      simp only [Nat.mul_zero]
      exact nI_0.symm, Fx.rf, rfl, hC⟩ (by rcases hw1 with rfl | rfl <;> omega)
    · rintro j ⟨i, y⟩ hj ⟨h0, hf, h3, h4⟩
      dsimp only at h0 hf h3 h4
      subst h0
      have hwj := wj j hj
      have hb := hB j hj
      have hNj := rnA_ok hN hk hB j (by omega) h3
      have r5 : y.1 5 = x.1 5 := (hf 5 (by omega)).1
      have r6 : y.1 6 = x.1 6 := (hf 6 (by omega)).1
      unfold f_X9_doTold_L11
      dsimp only
      have lt1 : w * j < w * J := by omega
      rw [r5, h2, if_neg (nI_ge lt1 (by omega)), if_neg (show ¬ (400 : Int32) ≤ nI (w * j) from nI_ge (b := 400) (by omega) (by omega)), atv_n (L := 400) (show w * j < 400 by omega) (by omega), r6, h6 _ lt1, nI_1]
      simp only [lt]
      have hv : k = 3 ∨ k = 6 → atv y 6 400 (nI (w * j + 1)) = nI (f (w * j + 1)) := fun z => by
        have e2 : w = 2 := by omega
        rw [atv_n (L := 400) (show w * j + 1 < 400 by omega) (by omega), r6]
        exact h6 _ (by omega)
      have hb31 : k = 3 ∨ k = 6 → f (w * j + 1) < 2 ^ 31 := fun z => by
        have := hb.2.2 z
        omega
      obtain ⟨v, ev⟩ : ∃ v, atv y 6 400 (nI (w * j + 1)) = v := ⟨_, rfl⟩
      rw [ev] at hv ⊢
      have er : f_X6_refusal y (nI k) (nI (f (w * j))) v = nI (aRf k (rnA k w f N j).2 (f (w * j)) (f (w * j + 1))) := by
        by_cases z : k = 3 ∨ k = 6
        · exact ref_c hNj h4 hk hb.1 (hb31 z) hv
        · rw [ref_c hNj h4 hk hb.1 (b := 0) (by omega) (fun q => absurd q z)]
          have e : ∀ u u', aRf k (rnA k w f N j).2 (f (w * j)) u = aRf k (rnA k w f N j).2 (f (w * j)) u' := fun u u' => by
            unfold aRf
            rw [if_neg (show ¬ k = 3 from fun q => z (Or.inl q)), if_neg (show ¬ k = 6 from fun q => z (Or.inr q)), if_neg (show ¬ k = 3 from fun q => z (Or.inl q)), if_neg (show ¬ k = 6 from fun q => z (Or.inr q))]
          rw [e 0 (f (w * j + 1))]
      rw [er]
      have h4c := aRf_4 k (rnA k w f N j).2 (f (w * j)) (f (w * j + 1))
      by_cases c : aRf k (rnA k w f N j).2 (f (w * j)) (f (w * j + 1)) = 0
      · left
        rw [c, if_pos nI_0]
        obtain ⟨y2, ey2, g1, g2⟩ := prf_c hNj h4 hk c (fun z => (hb.2.1 z).1) hv
        rw [ey2]
        simp only [Option.bind_some]
        refine ⟨_, rfl, ?_, hf.tr g2, ?_, ?_⟩
        · dsimp only
          rw [nI_add, Nat.mul_succ]
        · rw [rnA_y h3 c]
        · rw [rnA_y h3 c]
          exact g1
      · right
        rw [if_neg (nI_nz (by omega) (by omega))]
        have e := rnA_r h3 c
        have eJ := rnA_J (k := k) (w := w) (f := f) (N := N) (j := j + 1) (J := J) (by rw [e]; exact c) (by omega)
        rw [eJ, e]
        exact ⟨_, rfl, y, hf, Or.inl ⟨rfl, c⟩⟩
    · rintro ⟨i, y⟩ ⟨h0, hf, h3, h4⟩
      dsimp only at h0 hf h3 h4
      subst h0
      have r5 : y.1 5 = x.1 5 := (hf 5 (by omega)).1
      unfold f_X9_doTold_L11
      dsimp only
      rw [r5, h2, if_pos (nI_le (Nat.le_refl _) (by omega))]
      exact ⟨_, rfl, y, hf, Or.inr ⟨rfl, h3, h4⟩⟩
  obtain ⟨r, er, y, fy, hr⟩ := key
  refine ⟨y, ?_, fy, ?_⟩
  · unfold f_X9_doTold
    simp only [lt]
    rw [ew, er]
    rcases hr with ⟨rfl, -⟩ | ⟨rfl, e, -⟩
    · rfl
    · rw [e]
      rfl
  · intro e
    rcases hr with ⟨-, c⟩ | ⟨-, -, c⟩
    · exact absurd e c
    · exact c
