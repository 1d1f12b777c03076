/-! WHAT HOLDS BETWEEN THE CALLS -/
def RX (xc : gXH) (N : aN) : Prop := NX xc 60 (fun v u => Rc (Ed N 100) (fun s => s = nRt N) nox u ∧ Ed N 100 u v)
def RelN (N : aN) (k : Nat) (Ms : Nat → aN) (im : Option aN) (xc : gXH) (fa tr : Nat) (pm : Nat → Nat) (hm : gIH) : Prop :=
  (CfgOk fa tr pm ∧ ∀ i j, i < 8 → j < 8 → pm i = pm j → i = j) ∧ (aOk N ∧ CNet xc 7 N ∧ MNet hm 82 0 N) ∧
  (k ≤ 8 ∧ xc.1 19 1 = nI k ∧ hm 81 5 = nI k ∧ ∀ i, i < k → aOk (Ms i) ∧ CNet xc (pm i) (Ms i) ∧ MNet hm 85 (200 * i) (Ms i)) ∧
  (match im with
    | none => xc.1 0 9 = 0 ∧ hm 81 7 = 0
    | some I => xc.1 0 9 = 1 ∧ hm 81 7 = 1 ∧ aOk I ∧ CNet xc 15 I ∧ MNet hm 83 0 I) ∧
  (xc.1 0 10 = hm 81 27 ∧ xc.1 0 11 = hm 81 6) ∧
  (xc.1 53 0 = hm 81 16 ∧ xc.1 53 1 = hm 81 17 ∧ xc.1 53 2 = hm 81 18 ∧ xc.1 53 3 = hm 81 19) ∧
  (∃ t, t ≤ 400 ∧ xc.1 1 1 = nI t ∧ hm 81 23 = nI t ∧ ∀ i, i < t → ∃ b, b < 256 ∧ xc.1 2 i = nI b ∧ hm 91 i = (nI b).toInt8.toInt32) ∧
  (∃ w, w ≤ 64 ∧ xc.1 3 1 = nI w ∧ hm 81 41 = nI w ∧ ∀ i, i < w → xc.1 4 i = hm 98 i) ∧
  (NX xc (fa + 1) (Ed N 100) ∧ GF xc fa (Ed N 100) (fun s => s = nRt N) ∧ RX xc N) ∧
  hm 81 8 = -1 ∧ hm 81 10 = -1
def Rel : gRel := fun xc fa tr pm hm => ∃ N k Ms im, RelN N k Ms im xc fa tr pm hm
/-- the reference's own scratch: what a question may write -/
def WQ : Nat → Nat → Prop := fun c j => (c = 81 ∧ (j = 0 ∨ j = 8 ∨ j = 9 ∨ j = 10 ∨ j = 11 ∨ j = 15 ∨ j = 36 ∨ j = 37 ∨ j = 38 ∨ j = 39)) ∨ (86 ≤ c ∧ c ≤ 90) ∨ (94 ≤ c ∧ c ≤ 97)
/-- the class's own scratch -/
def WS (tr : Nat) : Nat → Prop := fun c => (55 ≤ c ∧ c ≤ 59) ∨ (61 ≤ c ∧ c ≤ 70) ∨ (tr ≤ c ∧ c ≤ tr + 4)
theorem RelN.frM {N : aN} {k : Nat} {Ms : Nat → aN} {im : Option aN} {xc : gXH} {fa tr : Nat} {pm : Nat → Nat} {hm hm' : gIH} (h : RelN N k Ms im xc fa tr pm hm) (hf : FrM WQ hm hm') (h8 : hm' 81 8 = -1) (h10 : hm' 81 10 = -1) : RelN N k Ms im xc fa tr pm hm' := by
  obtain ⟨h1, h2, h3, h4, h5, h6, h7, h9, h11, h12, h13⟩ := h
  have e : ∀ j, ¬ (j = 0 ∨ j = 8 ∨ j = 9 ∨ j = 10 ∨ j = 11 ∨ j = 15 ∨ j = 36 ∨ j = 37 ∨ j = 38 ∨ j = 39) → hm' 81 j = hm 81 j := fun j hj => hf 81 j (by unfold WQ; omega)
  refine ⟨h1, ⟨h2.1, h2.2.1, h2.2.2.fr hf (fun j => by unfold WQ; omega)⟩, ⟨h3.1, h3.2.1, by rw [e 5 (by omega)]; exact h3.2.2.1, fun i hi => ⟨(h3.2.2.2 i hi).1, (h3.2.2.2 i hi).2.1, (h3.2.2.2 i hi).2.2.fr hf (fun j => by unfold WQ; omega)⟩⟩, ?_, ?_, ?_, ?_, ?_, h11, h8, h10⟩
  · cases im with
    | none => exact ⟨h4.1, by rw [e 7 (by omega)]; exact h4.2⟩
    | some I => exact ⟨h4.1, by rw [e 7 (by omega)]; exact h4.2.1, h4.2.2.1, h4.2.2.2.1, h4.2.2.2.2.fr hf (fun j => by unfold WQ; omega)⟩
  · rw [e 27 (by omega), e 6 (by omega)]; exact h5
  · rw [e 16 (by omega), e 17 (by omega), e 18 (by omega), e 19 (by omega)]; exact h6
  · obtain ⟨t, a1, a2, a3, a4⟩ := h7
    refine ⟨t, a1, a2, by rw [e 23 (by omega)]; exact a3, fun i hi => ?_⟩
    rw [hf 91 i (by unfold WQ; omega)]
    exact a4 i hi
  · obtain ⟨t, a1, a2, a3, a4⟩ := h9
    refine ⟨t, a1, a2, by rw [e 41 (by omega)]; exact a3, fun i hi => ?_⟩
    rw [hf 98 i (by unfold WQ; omega)]
    exact a4 i hi
theorem CfgOk.frs {fa tr : Nat} {pm : Nat → Nat} (h : CfgOk fa tr pm) {c : Nat} (hc : c < 55 ∨ c = 60 ∨ (fa ≤ c ∧ c ≤ fa + 4)) : ¬ WS tr c := by
  unfold WS
  rcases h.1 with q | q <;> omega
theorem CfgOk.pml {fa tr : Nat} {pm : Nat → Nat} (h : CfgOk fa tr pm) {i : Nat} (hi : i < 8) : 21 ≤ pm i ∧ pm i ≤ 49 := by
  obtain ⟨j, hj, he⟩ := h.2 i hi
  omega
theorem RelN.fr {N : aN} {k : Nat} {Ms : Nat → aN} {im : Option aN} {xc xc' : gXH} {fa tr : Nat} {pm : Nat → Nat} {hm : gIH} (h : RelN N k Ms im xc fa tr pm hm) (hf : Fr (WS tr) xc xc') : RelN N k Ms im xc' fa tr pm hm := by
  obtain ⟨h1, h2, h3, h4, h5, h6, h7, h9, h11, h12⟩ := h
  have e : ∀ c, c < 55 ∨ c = 60 ∨ (fa ≤ c ∧ c ≤ fa + 4) → xc'.1 c = xc.1 c := fun c hc => hf.1 c (h1.1.frs hc)
  refine ⟨h1, ⟨h2.1, h2.2.1.fr hf (fun c _ _ => h1.1.frs (by omega)), h2.2.2⟩, ⟨h3.1, by rw [e 19 (by omega)]; exact h3.2.1, h3.2.2.1, fun i hi => ⟨(h3.2.2.2 i hi).1, (h3.2.2.2 i hi).2.1.fr hf (fun c a b => h1.1.frs (by have := h1.1.pml (show i < 8 by omega); omega)), (h3.2.2.2 i hi).2.2⟩⟩, ?_, ?_, ?_, ?_, ?_, ?_, h12⟩
  · cases im with
    | none => exact ⟨by rw [e 0 (by omega)]; exact h4.1, h4.2⟩
    | some I => exact ⟨by rw [e 0 (by omega)]; exact h4.1, h4.2.1, h4.2.2.1, h4.2.2.2.1.fr hf (fun c _ _ => h1.1.frs (by omega)), h4.2.2.2.2⟩
  · rw [e 0 (by omega)]; exact h5
  · rw [e 53 (by omega)]; exact h6
  · obtain ⟨t, a1, a2, a3, a4⟩ := h7
    refine ⟨t, a1, by rw [e 1 (by omega)]; exact a2, a3, fun i hi => ?_⟩
    rw [e 2 (by omega)]
    exact a4 i hi
  · obtain ⟨t, a1, a2, a3, a4⟩ := h9
    refine ⟨t, a1, by rw [e 3 (by omega)]; exact a2, a3, fun i hi => ?_⟩
    rw [e 4 (by omega)]
    exact a4 i hi
  · exact ⟨h11.1.cg (e _ (by omega)), h11.2.1.fr hf (fun c a b => h1.1.frs (by omega)), NX.cg h11.2.2 (e 60 (by omega))⟩
theorem RelN.rel {N : aN} {k : Nat} {Ms : Nat → aN} {im : Option aN} {xc : gXH} {fa tr : Nat} {pm : Nat → Nat} {hm : gIH} (h : RelN N k Ms im xc fa tr pm hm) : Rel xc fa tr pm hm := ⟨N, k, Ms, im, h⟩
theorem rel_MG : MG Rel := fun _ _ _ _ _ ⟨_, _, _, _, h⟩ => ⟨h.1.1.fa, h.1.1.tr⟩
/-! numbers told: nodes, arcs -/
theorem nb0 : nb 0 = 0 := by decide +kernel
theorem nb1 : nb 1 = 1 := by decide +kernel
theorem nb01 {b : Prop} [Decidable b] : nb (if b then 1 else 0) = if b then 1 else 0 := by split <;> first | exact nb1 | exact nb0
/-- an int is a number below n, or not one -/
theorem num_cases (a : Int32) {n : Nat} (hn : n < 2 ^ 31) : (∃ k, k < n ∧ a = nI k) ∨ (∀ k, k < n → a ≠ nI k) ∧ (a < 0 ∨ (¬ a < 0 ∧ nI n ≤ a)) := by
  by_cases h0 : a < 0
  · exact Or.inr ⟨fun k hk e => by rw [e] at h0; exact nI_pos (by omega) h0, Or.inl h0⟩
  · obtain ⟨j, hj, e⟩ := nI_of h0
    rcases Nat.lt_or_ge j n with q | q
    · exact Or.inl ⟨j, q, e⟩
    · refine Or.inr ⟨fun k hk e2 => ?_, Or.inr ⟨h0, by rw [e]; exact nI_le q hj⟩⟩
      rw [e, nI_eq (by omega) (by omega)] at e2
      omega
theorem m_in {a : Int32} {n : Nat} (hn : 0 < n) (hn2 : n < 2 ^ 31) : f_X10_in a 0 (nI n - 1) = if ∃ k, k < n ∧ a = nI k then 1 else 0 := by
  unfold f_X10_in
  have e1 : nI n - 1 = nI (n - 1) := sub_n (b := 1) (by omega)
  rw [e1]
  rcases num_cases a hn2 with ⟨k, hk, e⟩ | ⟨h1, h2⟩
  · have hc : ∃ k, k < n ∧ a = nI k := ⟨k, hk, e⟩
    rw [if_pos hc, if_neg (by rw [e]; exact nI_pos (by omega)), if_neg (by rw [e]; exact nI_nlt (by omega) (by omega))]
  · have hc : ¬ ∃ k, k < n ∧ a = nI k := fun ⟨k, hk, e⟩ => h1 k hk e
    rw [if_neg hc]
    rcases h2 with h2 | ⟨h2, h3⟩
    · rw [if_pos h2]
    · rw [if_neg h2, if_pos]
      have e1 := Int32.le_iff_toInt_le.mp h3
      rw [nI_toInt (by omega)] at e1
      apply Int32.lt_iff_toInt_lt.mpr
      rw [nI_toInt (by omega)]
      omega
theorem m_isNode {hm : gIH} {N : aN} (hN : aOk N) (h : MNet hm 82 0 N) (a : Int32) : f_X10_isNode hm a = some (if ∃ k, k < nN N ∧ a = nI k then 1 else 0) := by
  have := hN.1
  have := hN.n16
  unfold f_X10_isNode
  rw [m_nodes h]
  simp only [Option.bind_some]
  rw [m_in (by omega) (by omega), nb01]
theorem m_in0 {a : Int32} {n : Nat} (hn : n + 1 < 2 ^ 31) : f_X10_in a 0 (nI n) = if ∃ k, k ≤ n ∧ a = nI k then 1 else 0 := by
  have h := m_in (a := a) (n := n + 1) (by omega) hn
  rw [nI_pred] at h
  rw [h]
  by_cases q : ∃ k, k ≤ n ∧ a = nI k
  · have q2 : ∃ k, k < n + 1 ∧ a = nI k := q.elim fun k z => ⟨k, by omega, z.2⟩
    rw [if_pos q, if_pos q2]
  · have q2 : ¬ ∃ k, k < n + 1 ∧ a = nI k := fun ⟨k, h1, h2⟩ => q ⟨k, by omega, h2⟩
    rw [if_neg q, if_neg q2]
theorem m_isArc {hm : gIH} {N : aN} (hN : aOk N) (h : MNet hm 82 0 N) (a : Int32) : f_X10_isArc hm a = some (if ∃ k, k < nM N ∧ a = nI k then 1 else 0) := by
  have := hN.m60
  unfold f_X10_isArc
  rw [m_arcs h]
  simp only [Option.bind_some]
  rcases Nat.eq_zero_or_pos (nM N) with q | q
  · rw [q, if_neg (fun ⟨k, hk, _⟩ => by omega)]
    congr 1
    have e : f_X10_in a 0 (nI 0 - 1) = 0 := by
      unfold f_X10_in
      by_cases h0 : a < 0
      · rw [if_pos h0]
      · rw [if_neg h0, if_pos]
        apply Int32.lt_iff_toInt_lt.mpr
        have e2 : (nI 0 - 1).toInt = -1 := by decide +kernel
        have e3 : ¬ a.toInt < 0 := fun z => h0 (Int32.lt_iff_toInt_lt.mpr z)
        omega
    rw [e, nb0]
  · rw [m_in q (by omega), nb01]
theorem c_hasNode {xc : gXH} {N : aN} (hN : aOk N) (h : CNet xc 7 N) (a : Int32) : f_X6_hasNode xc a = if ∃ k, k < nN N ∧ a = nI k then 1 else 0 := by
  have := hN.n16
  unfold f_X6_hasNode
  rw [h.1]
  rcases num_cases a (n := nN N) (by omega) with ⟨k, hk, e⟩ | ⟨h1, h2⟩
  · have hc : ∃ k, k < nN N ∧ a = nI k := ⟨k, hk, e⟩
    rw [if_pos hc, if_neg (by rw [e]; exact nI_pos (by omega)), if_neg (by rw [e]; exact nI_ge hk (by omega))]
  · have hc : ¬ ∃ k, k < nN N ∧ a = nI k := fun ⟨k, hk, e⟩ => h1 k hk e
    rw [if_neg hc]
    rcases h2 with h2 | ⟨h2, h3⟩
    · rw [if_pos h2]
    · rw [if_neg h2, if_pos h3]
theorem c_hasArc' {xc : gXH} {N : aN} (hN : aOk N) (h : CNet xc 7 N) (a : Int32) : f_X6_hasArc xc a = if ∃ k, k < nM N ∧ a = nI k then 1 else 0 := by
  have := hN.m60
  unfold f_X6_hasArc
  rw [h.2.2.2.1]
  rcases num_cases a (n := nM N) (by omega) with ⟨k, hk, e⟩ | ⟨h1, h2⟩
  · have hc : ∃ k, k < nM N ∧ a = nI k := ⟨k, hk, e⟩
    rw [if_pos hc, if_neg (by rw [e]; exact nI_pos (by omega)), if_neg (by rw [e]; exact nI_ge hk (by omega))]
  · have hc : ¬ ∃ k, k < nM N ∧ a = nI k := fun ⟨k, hk, e⟩ => h1 k hk e
    rw [if_neg hc]
    rcases h2 with h2 | ⟨h2, h3⟩
    · rw [if_pos h2]
    · rw [if_neg h2, if_pos h3]
theorem throws0 (hm : gIH) (c : Int32) : f_X10_throwsIf hm 0 c = (0, hm) := by
  unfold f_X10_throwsIf
  rw [if_pos rfl, nb0]
theorem throws1 (hm : gIH) (c : Int32) : f_X10_throwsIf hm 1 c = (1, up2 hm 81 0 c) := by
  unfold f_X10_throwsIf
  rw [if_neg (by decide)]
  simp only [lt]
  rw [nb1]
theorem i1n0 : ¬ (1 : Int32) = 0 := by decide
/-- the reference stands weighed, over the net N -/
def QM (N : aN) (hm hm' : gIH) : Prop := FrM WQ hm hm' ∧ MNet hm' 82 0 N ∧ MF hm' (Ed N 100) (fun s => s = nRt N) ∧ hm' 81 8 = -1 ∧ hm' 81 10 = -1
theorem MF.cg {x y : gIH} {E : Nat → Nat → Prop} {S : Nat → Prop} (h : MF x E S) (h1 : y 81 11 = x 81 11) (h2 : ∀ j, y 86 j = x 86 j) (h3 : ∀ j, y 87 j = x 87 j) (h4 : ∀ j, y 88 j = x 88 j) : MF y E S := by
  unfold MF at *
  rw [h1]
  simp only [h2, h3, h4]
  exact h
theorem QM.thr {N : aN} {hm hm' : gIH} (h : QM N hm hm') (v : Int32) : QM N hm (up2 hm' 81 0 v) := by
  obtain ⟨h1, h2, h3, h4, h5⟩ := h
  refine ⟨h1.tr (FrM.s (by unfold WQ; omega)), h2.fr (W := fun c _ => c = 81) (FrM.s rfl) (fun j => by omega), h3.cg ?_ (fun j => ?_) (fun j => ?_) (fun j => ?_), ?_, ?_⟩
  · rw [up2_at2 (Or.inr (by decide))]
  · rw [up2_at2 (Or.inl (by decide))]
  · rw [up2_at2 (Or.inl (by decide))]
  · rw [up2_at2 (Or.inl (by decide))]
  · rw [up2_at2 (Or.inr (by decide))]; exact h4
  · rw [up2_at2 (Or.inr (by decide))]; exact h5
/-- thrown = 0, then the gates -/
theorem lays_q {N : aN} (hN : aOk N) {hm : gIH} (h : MNet hm 82 0 N) (h8 : hm 81 8 = -1) (h10 : hm 81 10 = -1) (v : Int32) : ∃ y, f_X10_laysGates (up2 hm 81 0 v) = some y ∧ QM N hm y ∧ y 81 0 = v := by
  have hx : MNet (up2 hm 81 0 v) 82 0 N := h.fr (W := fun c _ => c = 81) (FrM.s rfl) (fun j => by omega)
  have e8 : up2 hm 81 0 v 81 8 = -1 := by rw [up2_at2 (Or.inr (by decide))]; exact h8
  have e10 : up2 hm 81 0 v 81 10 = -1 := by rw [up2_at2 (Or.inr (by decide))]; exact h10
  obtain ⟨y, e, f, g⟩ := lays_ok hN hx 100 (by rw [e10]; rfl) none e8 (fun p q => by cases q)
  refine ⟨y, e, ⟨?_, hx.fr f (fun j => by unfold WL; omega), g, ?_, ?_⟩, ?_⟩
  · exact (FrM.s (by unfold WQ; omega)).tr (f.mono fun c j q => by unfold WL at q; unfold WQ; omega)
  · rw [f 81 8 (by unfold WL; omega)]; exact e8
  · rw [f 81 10 (by unfold WL; omega)]; exact e10
  · rw [f 81 0 (by unfold WL; omega)]; exact up2_at
theorem QM.tr {N : aN} {x y z : gIH} (h1 : FrM WQ x y) (h2 : QM N y z) : QM N x z := ⟨h1.tr h2.1, h2.2⟩
/-- the question begins with a node -/
theorem noNode_ok {N : aN} (hN : aOk N) {hm : gIH} (h : MNet hm 82 0 N) (h8 : hm 81 8 = -1) (h10 : hm 81 10 = -1) (a : Int32) :
    ∃ y, f_X10_noNode hm a = some (if ∃ k, k < nN N ∧ a = nI k then 0 else 1, y) ∧ QM N hm y ∧ y 81 0 = if ∃ k, k < nN N ∧ a = nI k then 0 else 1 := by
  obtain ⟨y, e, q, z⟩ := lays_q hN h h8 h10 0
  by_cases c : ∃ k, k < nN N ∧ a = nI k
  · refine ⟨y, ?_, q, by rw [if_pos c]; exact z⟩
    unfold f_X10_noNode
    simp only [lt]
    rw [e]
    simp only [Option.bind_some]
    rw [m_isNode hN q.2.1, if_pos c]
    simp only [Option.bind_some]
    rw [if_neg i1n0]
    unfold f_X10_noNode_J23
    simp only [lt, throws0, nb0]
    rw [if_pos c]
  · refine ⟨up2 y 81 0 1, ?_, q.thr 1, by rw [if_neg c]; exact up2_at⟩
    unfold f_X10_noNode
    simp only [lt]
    rw [e]
    simp only [Option.bind_some]
    rw [m_isNode hN q.2.1, if_neg c]
    simp only [Option.bind_some]
    rw [if_pos trivial]
    unfold f_X10_noNode_J23
    simp only [lt, throws1, nb1]
    rw [if_neg c]
theorem RelN.q {N : aN} {k : Nat} {Ms : Nat → aN} {im : Option aN} {xc : gXH} {fa tr : Nat} {pm : Nat → Nat} {hm hm' : gIH} (h : RelN N k Ms im xc fa tr pm hm) (q : QM N hm hm') : RelN N k Ms im xc fa tr pm hm' := h.frM q.1 q.2.2.2.1 q.2.2.2.2
theorem wc0 {L : List Nat} {i : Int32} : wcode L (.inl i : Int32 ⊕ Nat) = 0 := rfl
theorem agr_l {L : List Nat} {i r t : Int32} (h1 : t = 0) (h2 : r = i) : Agr L (.inl i) r t := ⟨h1, fun k q => (by cases q), fun j q => (by cases q; exact h2)⟩
theorem agr_r {L : List Nat} {k : Nat} {r t : Int32} (h1 : t = Int32.ofNat (L.idxOf k + 1)) (h2 : k ∈ L) : Agr L (.inr k) r t := ⟨h1, fun j q => (by cases q; exact h2), fun j q => (by cases q)⟩
