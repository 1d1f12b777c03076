/-! ACTS ON THE NETS -/
def aRoot (N : aN) (v : Nat) : aN := (nN N, v, nEx N, nM N, nF N, nT N, nO N, nL N)
def aExit (N : aN) (v : Nat) : aN := (nN N, nRt N, v, nM N, nF N, nT N, nO N, nL N)
def aLay (N : aN) (a b : Nat) : aN := (nN N, nRt N, nEx N, nM N + 1, (fun i => if i = nM N then a else nF N i), (fun i => if i = nM N then b else nT N i), (fun i => if i = nM N then true else nO N i), nL N)
def aTurn (N : aN) (k : Nat) (o : Bool) : aN := (nN N, nRt N, nEx N, nM N, nF N, nT N, (fun i => if i = k then o else nO N i), nL N)
def aToll (N : aN) (v t : Nat) : aN := (nN N, nRt N, nEx N, nM N, nF N, nT N, nO N, (fun i => if i = v then t else nL N i))
def aNew (n : Nat) : aN := (n, 0, n - 1, 0, (fun _ => 0), (fun _ => 0), (fun _ => false), (fun _ => 1))
theorem aRoot.ok {N : aN} (h : aOk N) {v : Nat} (hv : v < nN N) : aOk (aRoot N v) := ⟨h.1, h.2.1, hv, h.2.2.2⟩
theorem aExit.ok {N : aN} (h : aOk N) {v : Nat} (hv : v < nN N) : aOk (aExit N v) := ⟨h.1, h.2.1, h.2.2.1, hv, h.2.2.2.2⟩
theorem aLay.ok {N : aN} (h : aOk N) {a b : Nat} (ha : a < nN N) (hb : b < nN N) (hm : nM N < 60) : aOk (aLay N a b) := ⟨h.1, h.2.1, h.2.2.1, h.2.2.2.1, hm, fun i hi => by
  have hi : i < nM N + 1 := hi
  show (if i = nM N then a else nF N i) < nN N ∧ (if i = nM N then b else nT N i) < nN N
  by_cases c : i = nM N
  · rw [if_pos c, if_pos c]
    exact ⟨ha, hb⟩
  · rw [if_neg c, if_neg c]
    exact h.2.2.2.2.2.1 i (by omega), h.2.2.2.2.2.2⟩
theorem aTurn.ok {N : aN} (h : aOk N) {k : Nat} {o : Bool} : aOk (aTurn N k o) := h
theorem aToll.ok {N : aN} (h : aOk N) {v t : Nat} (ht : t ≤ 99) : aOk (aToll N v t) := ⟨h.1, h.2.1, h.2.2.1, h.2.2.2.1, h.2.2.2.2.1, h.2.2.2.2.2.1, fun i hi => by
  show (if i = v then t else nL N i) ≤ 99
  split
  · exact ht
  · exact h.2.2.2.2.2.2 i hi⟩
theorem aNew.ok {n : Nat} (h2 : 2 ≤ n) (h16 : n ≤ 16) : aOk (aNew n) := ⟨h2, h16, (by show 0 < n; omega), (by show n - 1 < n; omega), (by show 0 ≤ 60; omega), fun i hi => absurd hi (by show ¬ i < 0; omega), fun _ _ => (by show 1 ≤ 99; omega)⟩
/-! frames with the longs -/
def Fx (W : Nat → Prop) (x y : gXH) : Prop := ∀ c, ¬ W c → y.1 c = x.1 c ∧ y.2 c = x.2 c
theorem Fx.rf {W : Nat → Prop} {x : gXH} : Fx W x x := fun _ _ => ⟨rfl, rfl⟩
theorem Fx.tr {W : Nat → Prop} {x y z : gXH} (h1 : Fx W x y) (h2 : Fx W y z) : Fx W x z := fun c hc => ⟨(h2 c hc).1.trans (h1 c hc).1, (h2 c hc).2.trans (h1 c hc).2⟩
theorem Fx.mono {W W' : Nat → Prop} {x y : gXH} (h : Fx W x y) (hw : ∀ c, W c → W' c) : Fx W' x y := fun c hc => h c (fun q => hc (hw c q))
theorem Fr.x {W : Nat → Prop} {x y : gXH} (h : Fr W x y) : Fx W x y := fun c hc => ⟨h.1 c hc, by rw [h.2]⟩
theorem Fx.l {W : Nat → Prop} {x : gXH} {c j : Nat} {v : Int64} (h : W c) : Fx W x (sL x c j v) := fun c' hc => ⟨rfl, by
  funext j'
  show up2 x.2 c j v c' j' = x.2 c' j'
  unfold up2
  rw [if_neg (fun q => hc (by rw [q.1]; exact h))]⟩
theorem sL_at {x : gXH} {c j : Nat} {v : Int64} : (sL x c j v).2 c j = v := by simp [sL, up2]
theorem sL_1 {x : gXH} {c j : Nat} {v : Int64} : (sL x c j v).1 = x.1 := rfl
theorem CNet.fx {W : Nat → Prop} {x y : gXH} {g : Nat} {N : aN} (h : CNet x g N) (hf : Fx W x y) (hw : ∀ c, g ≤ c → c ≤ g + 3 → ¬ W c) : CNet y g N :=
  h.cg (hf g (hw g (by omega) (by omega))).1 (hf _ (hw _ (by omega) (by omega))).1 (hf _ (hw _ (by omega) (by omega))).1 (hf _ (hw _ (by omega) (by omega))).1 (hf g (hw g (by omega) (by omega))).2
theorem GF.fx {W : Nat → Prop} {x y : gXH} {g : Nat} {E : Nat → Nat → Prop} {S : Nat → Prop} (h : GF x g E S) (hf : Fx W x y) (hw : ∀ c, g ≤ c → c ≤ g + 4 → ¬ W c) : GF y g E S :=
  h.cg (by rw [(hf g (hw g (by omega) (by omega))).1]) (hf _ (hw _ (by omega) (by omega))).1 (hf _ (hw _ (by omega) (by omega))).1 (hf _ (hw _ (by omega) (by omega))).1
theorem lb_one : ∀ k, k < 64 → ∀ i, i < 64 → ((1 : Int64) <<< ((nI k).toInt64 &&& 63)).toBitVec.getLsbD i = decide (i = k) := by decide +kernel
theorem lb_and (x y : Int64) (i : Nat) : (x &&& y).toBitVec.getLsbD i = (x.toBitVec.getLsbD i && y.toBitVec.getLsbD i) := by rw [Int64.toBitVec_and, BitVec.getLsbD_and]
theorem lb_or (x y : Int64) (i : Nat) : (x ||| y).toBitVec.getLsbD i = (x.toBitVec.getLsbD i || y.toBitVec.getLsbD i) := by rw [Int64.toBitVec_or, BitVec.getLsbD_or]
theorem lb_xor (x y : Int64) (i : Nat) : (x ^^^ y).toBitVec.getLsbD i = (x.toBitVec.getLsbD i ^^ y.toBitVec.getLsbD i) := by rw [Int64.toBitVec_xor, BitVec.getLsbD_xor]
theorem lb_m1 : ∀ i, i < 64 → (-1 : Int64).toBitVec.getLsbD i = true := by decide +kernel
theorem lb_0 (i : Nat) : (0 : Int64).toBitVec.getLsbD i = false := BitVec.getLsbD_zero
/-- a net copied -/
theorem copy_ok {g0 g1 : Nat} {xc : gXH} {N : aN} (hN : aOk N) (h : CNet xc g1 N) (ha : g0 + 3 < g1 ∨ g1 + 3 < g0) : CNet (f_X6_copy g0 g1 xc) g0 N ∧ Fx (fun c => g0 ≤ c ∧ c ≤ g0 + 3) xc (f_X6_copy g0 g1 xc) := by
  have h60 := hN.m60
  obtain ⟨W, hW⟩ : ∃ W : Nat → Prop, (fun c => g0 ≤ c ∧ c ≤ g0 + 3) = W := ⟨_, rfl⟩
  have hWe : ∀ c, W c ↔ g0 ≤ c ∧ c ≤ g0 + 3 := fun c => by rw [← hW]
  rw [hW]
  unfold f_X6_copy
  simp only [lt]
  obtain ⟨x1, e1⟩ : ∃ x1, crow xc (g1 + 1) 60 (g0 + 1) 60 = x1 := ⟨_, rfl⟩
  obtain ⟨x2, e2⟩ : ∃ x2, crow x1 (g1 + 2) 60 (g0 + 2) 60 = x2 := ⟨_, rfl⟩
  obtain ⟨x3, e3⟩ : ∃ x3, crow x2 (g1 + 3) 16 (g0 + 3) 16 = x3 := ⟨_, rfl⟩
  rw [e1, e2, e3]
  have f1 : Fx W xc x1 := by rw [← e1]; exact (crow_fr.x).mono (fun c hc => (hWe c).mpr (by omega))
  have f2 : Fx W x1 x2 := by rw [← e2]; exact (crow_fr.x).mono (fun c hc => (hWe c).mpr (by omega))
  have f3 : Fx W x2 x3 := by rw [← e3]; exact (crow_fr.x).mono (fun c hc => (hWe c).mpr (by omega))
  have p1 : ∀ i, i < 60 → x3.1 (g0 + 1) i = xc.1 (g1 + 1) i := fun i hi => by
    rw [← e3, crow_ne (by omega), ← e2, crow_ne (by omega), ← e1, crow_row, if_pos ⟨rfl, by omega⟩]
  have p2 : ∀ i, i < 60 → x3.1 (g0 + 2) i = xc.1 (g1 + 2) i := fun i hi => by
    rw [← e3, crow_ne (by omega), ← e2, crow_row, if_pos ⟨rfl, by omega⟩, ← e1, crow_ne (by omega)]
  have p3 : ∀ i, i < 16 → x3.1 (g0 + 3) i = xc.1 (g1 + 3) i := fun i hi => by
    rw [← e3, crow_row, if_pos ⟨rfl, by omega⟩, ← e2, crow_ne (by omega), ← e1, crow_ne (by omega)]
  have fg := (f1.tr f2).tr f3
  have hn1 : ¬ W g1 := fun z => by rw [hWe] at z; omega
  have q1 := (fg g1 hn1).1
  have q2 := (fg g1 hn1).2
  obtain ⟨x4, e4⟩ : ∃ x4, sI x3 g0 3 (x3.1 g1 3) = x4 := ⟨_, rfl⟩
  rw [e4]
  have r4 : ∀ c, c ≠ g0 → x4.1 c = x3.1 c := fun c hc => by rw [← e4]; exact sI_row hc
  obtain ⟨x5, e5⟩ : ∃ x5, sI x4 g0 4 (x4.1 g1 4) = x5 := ⟨_, rfl⟩
  rw [e5]
  have r5 : ∀ c, c ≠ g0 → x5.1 c = x4.1 c := fun c hc => by rw [← e5]; exact sI_row hc
  obtain ⟨x6, e6⟩ : ∃ x6, sI x5 g0 5 (x5.1 g1 5) = x6 := ⟨_, rfl⟩
  rw [e6]
  have r6 : ∀ c, c ≠ g0 → x6.1 c = x5.1 c := fun c hc => by rw [← e6]; exact sI_row hc
  obtain ⟨x7, e7⟩ : ∃ x7, sI x6 g0 6 (x6.1 g1 6) = x7 := ⟨_, rfl⟩
  rw [e7]
  have r7 : ∀ c, c ≠ g0 → x7.1 c = x6.1 c := fun c hc => by rw [← e7]; exact sI_row hc
  have l7 : x7.2 = x3.2 := by rw [← e7, sI_2, ← e6, sI_2, ← e5, sI_2, ← e4, sI_2]
  have hne : g1 ≠ g0 := by omega
  have rr : ∀ c, c ≠ g0 → x7.1 c = x3.1 c := fun c hc => by rw [r7 c hc, r6 c hc, r5 c hc, r4 c hc]
  have fI : Fx W x3 x7 := fun c hc => ⟨rr c (fun z => hc ((hWe c).mpr (by omega))), by rw [l7]⟩
  have v3 : x7.1 g0 3 = xc.1 g1 3 := by rw [← e7, sI_at2 (by decide), ← e6, sI_at2 (by decide), ← e5, sI_at2 (by decide), ← e4, sI_at, q1]
  have v4 : x7.1 g0 4 = xc.1 g1 4 := by rw [← e7, sI_at2 (by decide), ← e6, sI_at2 (by decide), ← e5, sI_at, r4 g1 hne, q1]
  have v5 : x7.1 g0 5 = xc.1 g1 5 := by rw [← e7, sI_at2 (by decide), ← e6, sI_at, r5 g1 hne, r4 g1 hne, q1]
  have v6 : x7.1 g0 6 = xc.1 g1 6 := by rw [← e7, sI_at, r6 g1 hne, r5 g1 hne, r4 g1 hne, q1]
  obtain ⟨h1, h2, h3, h4, h5, h6, h7⟩ := h
  refine ⟨⟨?_, ?_, ?_, ?_, fun i hi => ⟨?_, ?_⟩, fun i hi => ?_, fun v hv => ?_⟩, (fg.tr fI).tr (Fx.l ((hWe g0).mpr (by omega)))⟩
  · rw [sL_1, v3, h1]
  · rw [sL_1, v4, h2]
  · rw [sL_1, v5, h3]
  · rw [sL_1, v6, h4]
  · rw [sL_1, rr _ (by omega), p1 i (by omega)]
    exact (h5 i hi).1
  · rw [sL_1, rr _ (by omega), p2 i (by omega)]
    exact (h5 i hi).2
  · rw [sL_at, l7, q2]
    exact h6 i hi
  · rw [sL_1, rr _ (by omega), p3 v hv]
    exact h7 v hv
/-! each act -/
section
variable {N : aN} {xc : gXH}
abbrev W7 : Nat → Prop := fun c => 7 ≤ c ∧ c ≤ 10
theorem root_c (h : CNet xc 7 N) (v : Nat) : CNet (sI xc 7 4 (nI v)) 7 (aRoot N v) ∧ Fx W7 xc (sI xc 7 4 (nI v)) := by
  obtain ⟨h1, h2, h3, h4, h5, h6, h7⟩ := h
  refine ⟨⟨?_, sI_at, ?_, ?_, fun i hi => ?_, h6, fun v hv => ?_⟩, (Fr.s (W := W7) (by omega)).x⟩
  · rw [sI_at2 (by decide)]; exact h1
  · rw [sI_at2 (by decide)]; exact h3
  · rw [sI_at2 (by decide)]; exact h4
  · rw [sI_row (by decide), sI_row (by decide)]; exact h5 i hi
  · rw [sI_row (by decide)]; exact h7 v hv
theorem exit_c (h : CNet xc 7 N) (v : Nat) : CNet (sI xc 7 5 (nI v)) 7 (aExit N v) ∧ Fx W7 xc (sI xc 7 5 (nI v)) := by
  obtain ⟨h1, h2, h3, h4, h5, h6, h7⟩ := h
  refine ⟨⟨?_, ?_, sI_at, ?_, fun i hi => ?_, h6, fun v hv => ?_⟩, (Fr.s (W := W7) (by omega)).x⟩
  · rw [sI_at2 (by decide)]; exact h1
  · rw [sI_at2 (by decide)]; exact h2
  · rw [sI_at2 (by decide)]; exact h4
  · rw [sI_row (by decide), sI_row (by decide)]; exact h5 i hi
  · rw [sI_row (by decide)]; exact h7 v hv
theorem toll_c (h : CNet xc 7 N) {v : Nat} (hv : v < 16) (t : Nat) : CNet (sI xc 10 v (nI t)) 7 (aToll N v t) ∧ Fx W7 xc (sI xc 10 v (nI t)) := by
  obtain ⟨h1, h2, h3, h4, h5, h6, h7⟩ := h
  refine ⟨⟨?_, ?_, ?_, ?_, fun i hi => ?_, h6, fun w hw => ?_⟩, (Fr.s (W := W7) (by omega)).x⟩
  · rw [sI_row (by decide)]; exact h1
  · rw [sI_row (by decide)]; exact h2
  · rw [sI_row (by decide)]; exact h3
  · rw [sI_row (by decide)]; exact h4
  · rw [sI_row (by decide), sI_row (by decide)]; exact h5 i hi
  · show (sI xc 10 v (nI t)).1 10 w = nI (if w = v then t else nL N w)
    by_cases c : w = v
    · rw [c, sI_at, if_pos rfl]
    · rw [sI_at2 c, if_neg c]; exact h7 w hw
theorem shut_n (h : CNet xc 7 N) {a : Nat} (ha : a < nM N) (h60 : nM N ≤ 60) : CNet (sL xc 7 7 ((xc.2 7 7) &&& (((1 : Int64) <<< ((nI a).toInt64 &&& 63)) ^^^ (-1 : Int64)))) 7 (aTurn N a false) ∧ Fx W7 xc (sL xc 7 7 ((xc.2 7 7) &&& (((1 : Int64) <<< ((nI a).toInt64 &&& 63)) ^^^ (-1 : Int64)))) := by
  obtain ⟨h1, h2, h3, h4, h5, h6, h7⟩ := h
  refine ⟨⟨h1, h2, h3, h4, h5, fun i hi => ?_, h7⟩, Fx.l (by omega)⟩
  rw [sL_at, lb_and, lb_xor, lb_m1 i hi, lb_one a (by omega) i hi, h6 i hi]
  show _ = (decide (i < nM N) && (if i = a then false else nO N i))
  by_cases c : i = a
  · rw [if_pos c, decide_eq_true c]
    simp
  · rw [if_neg c, decide_eq_false c]
    simp
theorem open_n (h : CNet xc 7 N) {a : Nat} (ha : a < nM N) (h60 : nM N ≤ 60) : CNet (sL xc 7 7 ((xc.2 7 7) ||| ((1 : Int64) <<< ((nI a).toInt64 &&& 63)))) 7 (aTurn N a true) ∧ Fx W7 xc (sL xc 7 7 ((xc.2 7 7) ||| ((1 : Int64) <<< ((nI a).toInt64 &&& 63)))) := by
  obtain ⟨h1, h2, h3, h4, h5, h6, h7⟩ := h
  refine ⟨⟨h1, h2, h3, h4, h5, fun i hi => ?_, h7⟩, Fx.l (by omega)⟩
  rw [sL_at, lb_or, lb_one a (by omega) i hi, h6 i hi]
  show _ = (decide (i < nM N) && (if i = a then true else nO N i))
  by_cases c : i = a
  · rw [if_pos c, decide_eq_true c, c, decide_eq_true ha]
    simp
  · rw [if_neg c, decide_eq_false c]
    simp
theorem lay_c (h : CNet xc 7 N) (h60 : nM N < 60) (a b : Nat) : CNet (f_X6_addArc xc (nI a) (nI b)) 7 (aLay N a b) ∧ Fx W7 xc (f_X6_addArc xc (nI a) (nI b)) := by
  obtain ⟨h1, h2, h3, h4, h5, h6, h7⟩ := h
  unfold f_X6_addArc
  rw [h4, putv_n (L := 60) h60 (by omega)]
  simp only [lt]
  rw [show (sI xc 8 (nM N) (nI a)).1 7 6 = nI (nM N) by rw [sI_row (by decide)]; exact h4, putv_n (L := 60) h60 (by omega)]
  obtain ⟨x1, e1⟩ : ∃ x1, sI (sI xc 8 (nM N) (nI a)) 9 (nM N) (nI b) = x1 := ⟨_, rfl⟩
  rw [e1]
  have r7 : x1.1 7 = xc.1 7 := by rw [← e1, sI_row (by decide), sI_row (by decide)]
  have r10 : x1.1 10 = xc.1 10 := by rw [← e1, sI_row (by decide), sI_row (by decide)]
  have l1 : x1.2 = xc.2 := by rw [← e1, sI_2, sI_2]
  have r8 : ∀ i, x1.1 8 i = if i = nM N then nI a else xc.1 8 i := fun i => by
    rw [← e1, sI_row (by decide)]
    by_cases c : i = nM N
    · rw [c, sI_at, if_pos rfl]
    · rw [sI_at2 c, if_neg c]
  have r9 : ∀ i, x1.1 9 i = if i = nM N then nI b else xc.1 9 i := fun i => by
    rw [← e1]
    by_cases c : i = nM N
    · rw [c, sI_at, if_pos rfl]
    · rw [sI_at2 c, if_neg c, sI_row (by decide)]
  have f1 : Fx W7 xc x1 := by rw [← e1]; exact ((Fr.s (W := W7) (by omega)).tr (Fr.s (W := W7) (by omega))).x
  rw [r7, h4, l1]
  refine ⟨⟨?_, ?_, ?_, ?_, fun i hi => ?_, fun i hi => ?_, fun v hv => ?_⟩, (f1.tr (Fx.l (by omega))).tr (Fr.s (W := W7) (by omega)).x⟩
  · rw [sI_at2 (by decide), sL_1, r7]; exact h1
  · rw [sI_at2 (by decide), sL_1, r7]; exact h2
  · rw [sI_at2 (by decide), sL_1, r7]; exact h3
  · rw [sI_at, sL_1, r7, h4]
    exact nI_1 _
  · rw [sI_row (by decide), sI_row (by decide), sL_1, r8, r9]
    have hi : i < nM N + 1 := hi
    show _ = nI (if i = nM N then a else nF N i) ∧ _ = nI (if i = nM N then b else nT N i)
    by_cases c : i = nM N
    · rw [if_pos c, if_pos c, if_pos c, if_pos c]
      exact ⟨rfl, rfl⟩
    · rw [if_neg c, if_neg c, if_neg c, if_neg c]
      exact h5 i (by omega)
  · rw [sI_2, sL_at, lb_or, lb_one _ (by omega) i hi, h6 i hi]
    show _ = (decide (i < nM N + 1) && (if i = nM N then true else nO N i))
    by_cases c : i = nM N
    · rw [if_pos c, decide_eq_true c, decide_eq_true (show i < nM N + 1 by omega)]
      simp
    · rw [if_neg c, decide_eq_false c]
      by_cases c2 : i < nM N
      · rw [decide_eq_true c2, decide_eq_true (show i < nM N + 1 by omega)]
        simp
      · rw [decide_eq_false c2, decide_eq_false (show ¬ i < nM N + 1 by omega)]
        simp
  · rw [sI_row (by decide), sL_1, r10]
    exact h7 v hv
theorem new_c (n : Nat) (hn : 1 ≤ n) : ∃ y, f_X6_reset 7 xc (nI n) = some y ∧ CNet y 7 (aNew n) ∧ Fx W7 xc y := by
  unfold f_X6_reset
  simp only [lt]
  obtain ⟨x1, e1⟩ : ∃ x1, sL (sI (sI (sI (sI xc 7 3 (nI n)) 7 4 0) 7 5 (nI n - 1)) 7 6 0) 7 7 0 = x1 := ⟨_, rfl⟩
  rw [e1]
  have f1 : Fx W7 xc x1 := by
    rw [← e1]
    exact ((((Fr.s (W := W7) (by omega)).tr (Fr.s (W := W7) (by omega))).tr (Fr.s (W := W7) (by omega))).tr (Fr.s (W := W7) (by omega))).x.tr (Fx.l (by omega))
  obtain ⟨y, ey, y1, y2⟩ := fill_ok 10 16 (by omega) x1 1
  rw [show 7 + 3 = 10 from rfl, ey]
  refine ⟨y, rfl, ⟨?_, ?_, ?_, ?_, fun i hi => absurd hi (by show ¬ i < 0; omega), fun i hi => ?_, fun v hv => y1 v hv⟩, f1.tr (y2.x.mono fun c hc => by omega)⟩
  · rw [y2.1 7 (by omega), ← e1, sL_1, sI_at2 (by decide), sI_at2 (by decide), sI_at2 (by decide), sI_at]
    rfl
  · rw [y2.1 7 (by omega), ← e1, sL_1, sI_at2 (by decide), sI_at2 (by decide), sI_at]
    rfl
  · rw [y2.1 7 (by omega), ← e1, sL_1, sI_at2 (by decide), sI_at]
    exact sub_n (b := 1) hn
  · rw [y2.1 7 (by omega), ← e1, sL_1, sI_at]
    rfl
  · rw [y2.2, ← e1, sL_at, lb_0]
    show false = (decide (i < 0) && false)
    simp
end
