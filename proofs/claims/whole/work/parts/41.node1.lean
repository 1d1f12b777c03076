/-! QUESTIONS about a node, the first ones -/
theorem KpI.uniq {E : Nat → Nat → Prop} {S : Nat → Prop} (hE : E16 E) (hS : ∀ s, S s → s < 16) {v : Nat} {a b : Int32} (h1 : KpI E S v a) (h2 : KpI E S v b) : a = b := by
  by_cases c : ∃ g, Dm E S g v
  · obtain ⟨g, hg⟩ := c
    obtain ⟨k, -, hK⟩ := IsK.ex hE hS hg
    rw [h1.1 k hK, h2.1 k hK]
  · have c' : ∀ k, ¬ Dm E S k v := fun k z => c ⟨k, z⟩
    rw [h1.2 c', h2.2 c']
theorem KpI.iff {E : Nat → Nat → Prop} {S : Nat → Prop} (hE : E16 E) (hS : ∀ s, S s → s < 16) {v i : Nat} {a : Int32} (h1 : KpI E S v a) (hi : i < 2 ^ 31) : a = nI i ↔ IsK E S i v := by
  refine ⟨fun h => ?_, fun h => h1.1 i h⟩
  by_cases c : ∃ g, Dm E S g v
  · obtain ⟨g, hg⟩ := c
    obtain ⟨k, hk, hK⟩ := IsK.ex hE hS hg
    have e := h1.1 k hK
    rw [h, nI_eq hi (by omega)] at e
    rw [e]
    exact hK
  · have c' : ∀ k, ¬ Dm E S k v := fun k z => c ⟨k, z⟩
    exact absurd (h.symm.trans (h1.2 c')) (nI_ne_m1 hi)
theorem or0 (s : Int32) : s ||| (0 : Int32) = s := b_ext fun i _ => by rw [b_or, b_0, Bool.or_false]
theorem ge16 {j : Nat} (hj : j < 16) : ¬ (16 : Int32) ≤ nI j := nI_ge (a := j) (b := 16) hj (by omega)
theorem le16 : (16 : Int32) ≤ nI 16 := Int32.le_refl _
/-- what stands weighed on the reference's side, over the net N -/
theorem QM.nodes {N : aN} {hm hm' : gIH} (q : QM N hm hm') : f_X10_nodes hm' = some (nI (nN N)) := m_nodes q.2.1
section
variable {N : aN} {hm y : gIH} {xc : gXH} {fa : Nat}
theorem kept_m (hN : aOk N) (q : QM N hm y) {i : Nat} (hi : i < 16) : ∃ z, f_X10_keptBy y (nI i) = some z ∧ S16 z ∧ ∀ v, v < 16 → (bt z v = true ↔ Dm (Ed N 100) (fun s => s = nRt N) i v) := by
  have hn := hN.n16
  obtain ⟨z, e, z1, z2⟩ := lp_set (step := f_X10_keptBy_L4 y (nI i)) (nN N) hn (fun v => Dm (Ed N 100) (fun s => s = nRt N) i v) 0 s16_0 (fun j s hj hp => by
      unfold f_X10_keptBy_L4
      rw [q.nodes]
      simp only [Option.bind_some, lt]
      rw [if_neg (nI_ge hj (by omega)), gck_ni (by omega) (by omega), nI_clamp (by omega), if_neg (by rw [holds0 _ (by omega), ((q.2.2.1.2.1 j (by omega)).2 i hi).mpr hp]; decide), nI_1]) (fun j s hj hp => by
      unfold f_X10_keptBy_L4
      rw [q.nodes]
      simp only [Option.bind_some, lt]
      rw [if_neg (nI_ge hj (by omega)), gck_ni (by omega) (by omega), nI_clamp (by omega), if_pos (by rw [holds0 _ (by omega), ← Bool.not_eq_true, (q.2.2.1.2.1 j (by omega)).2 i hi]; exact hp), or0, nI_1]) (fun s => by
      unfold f_X10_keptBy_L4
      rw [q.nodes]
      simp only [Option.bind_some]
      rw [if_pos (Int32.le_refl _)]) (k := 2000) (by omega)
  refine ⟨z, by unfold f_X10_keptBy; rw [e]; rfl, z1, fun v hv => ?_⟩
  rw [z2 v hv, b_0]
  exact ⟨fun w => w.elim (fun w => by cases w) (fun w => w.2), fun w => Or.inr ⟨hN.rn w.rv, w⟩⟩
theorem own_m (hN : aOk N) (q : QM N hm y) {i : Nat} (hi : i < 16) : ∃ z, f_X10_ownOf y (nI i) = some z ∧ S16 z ∧ ∀ v, v < 16 → (bt z v = true ↔ IsK (Ed N 100) (fun s => s = nRt N) i v) := by
  have hn := hN.n16
  have hE := hN.e16n (k1 := 100) (k2 := 100)
  obtain ⟨z, e, z1, z2⟩ := lp_set (step := f_X10_ownOf_L4 y (nI i)) (nN N) hn (fun v => IsK (Ed N 100) (fun s => s = nRt N) i v) 0 s16_0 (fun j s hj hp => by
      unfold f_X10_ownOf_L4
      rw [q.nodes]
      simp only [Option.bind_some, lt]
      rw [if_neg (nI_ge hj (by omega)), gck_ni (by omega) (by omega), nI_clamp (by omega), if_pos (((q.2.2.1.2.2.2 j (by omega)).iff hE hN.s16 (by omega)).mpr hp), nI_1]) (fun j s hj hp => by
      unfold f_X10_ownOf_L4
      rw [q.nodes]
      simp only [Option.bind_some, lt]
      rw [if_neg (nI_ge hj (by omega)), gck_ni (by omega) (by omega), nI_clamp (by omega), if_neg (fun w => hp (((q.2.2.1.2.2.2 j (by omega)).iff hE hN.s16 (by omega)).mp w)), or0, nI_1]) (fun s => by
      unfold f_X10_ownOf_L4
      rw [q.nodes]
      simp only [Option.bind_some]
      rw [if_pos (Int32.le_refl _)]) (k := 2000) (by omega)
  refine ⟨z, by unfold f_X10_ownOf; rw [e]; rfl, z1, fun v hv => ?_⟩
  rw [z2 v hv, b_0]
  exact ⟨fun w => w.elim (fun w => by cases w) (fun w => w.2), fun w => Or.inr ⟨hN.rn w.1.rv, w⟩⟩
theorem own_c (hN : aOk N) (hG : GF xc fa (Ed N 100) (fun s => s = nRt N)) {i : Nat} (hi : i < 16) : ∃ z, f_X8_keptNearest fa xc (nI i) = some z ∧ S16 z ∧ ∀ v, v < 16 → (bt z v = true ↔ IsK (Ed N 100) (fun s => s = nRt N) i v) := by
  have hE := hN.e16n (k1 := 100) (k2 := 100)
  obtain ⟨z, e, z1, z2⟩ := lp_set (step := f_X8_keptNearest_L4 fa xc (nI i)) 16 (by omega) (fun v => IsK (Ed N 100) (fun s => s = nRt N) i v) 0 s16_0 (fun j s hj hp => by
      unfold f_X8_keptNearest_L4
      rw [if_neg (ge16 hj), atv_n (L := 16) hj (by omega), if_pos (((hG.2.2.2 j hj).iff hE hN.s16 (by omega)).mpr hp)]
      simp only [lt]
      rw [nI_1]
      rfl) (fun j s hj hp => by
      unfold f_X8_keptNearest_L4
      rw [if_neg (ge16 hj), atv_n (L := 16) hj (by omega), if_neg (fun w => hp (((hG.2.2.2 j hj).iff hE hN.s16 (by omega)).mp w))]
      simp only [lt]
      rw [nI_1]) (fun s => by
      unfold f_X8_keptNearest_L4
      rw [if_pos le16]) (k := 2000) (by omega)
  refine ⟨z, by unfold f_X8_keptNearest; rw [e]; rfl, z1, fun v hv => ?_⟩
  rw [z2 v hv, b_0]
  exact ⟨fun w => w.elim (fun w => by cases w) (fun w => w.2), fun w => Or.inr ⟨hv, w⟩⟩
/-- to whom arcs go from a set -/
theorem step_c {E : Nat → Nat → Prop} (hX : NX xc (fa + 1) E) (s : Int32) : ∃ z, f_X8_step fa xc s = some z ∧ S16 z ∧ ∀ w, w < 16 → (bt z w = true ↔ ∃ u, u < 16 ∧ bt s u = true ∧ E u w) := by
  refine Exists.elim (lp_for (step := f_X8_step_L4 fa xc s) 16 (fun j t => t.2 = nI j ∧ S16 t.1 ∧ ∀ w, w < 16 → (bt t.1 w = true ↔ ∃ u, u < j ∧ bt s u = true ∧ E u w)) (fun z => S16 z ∧ ∀ w, w < 16 → (bt z w = true ↔ ∃ u, u < 16 ∧ bt s u = true ∧ E u w)) ?_ ?_ (s := (0, 0)) (k := 2000) ⟨rfl, s16_0, fun w _ => by rw [b_0]; simp⟩ (by omega)) (fun z hh => ⟨z, by unfold f_X8_step; rw [hh.1]; rfl, hh.2⟩)
  · rintro j ⟨t, c⟩ hj ⟨h0, h1, h2⟩
    simp only at h0 h1 h2
    subst h0
    unfold f_X8_step_L4
    rw [if_neg (ge16 hj)]
    simp only [lt]
    by_cases hb : bt s j = true
    · rw [if_neg (by rw [has0 _ (by omega), hb]; decide), atv_n (L := 16) hj (by omega)]
      refine ⟨_, rfl, nI_1 j, h1.or (hX j hj).1, fun w hw => ?_⟩
      show bt (t ||| xc.1 (fa + 1) j) w = true ↔ _
      rw [b_or, Bool.or_eq_true, h2 w hw, (hX j hj).2 w hw]
      constructor
      · rintro (⟨u, u1, u2, u3⟩ | z)
        · exact ⟨u, by omega, u2, u3⟩
        · exact ⟨j, by omega, hb, z⟩
      · rintro ⟨u, u1, u2, u3⟩
        rcases Nat.lt_or_ge u j with o | o
        · exact Or.inl ⟨u, o, u2, u3⟩
        · rw [show u = j by omega] at u3
          exact Or.inr u3
    · rw [if_pos (by rw [has0 _ (by omega)]; simpa using hb)]
      refine ⟨_, rfl, nI_1 j, h1, fun w hw => ?_⟩
      show bt t w = true ↔ _
      rw [h2 w hw]
      constructor
      · rintro ⟨u, u1, u2, u3⟩
        exact ⟨u, by omega, u2, u3⟩
      · rintro ⟨u, u1, u2, u3⟩
        rcases Nat.lt_or_ge u j with o | o
        · exact ⟨u, o, u2, u3⟩
        · rw [show u = j by omega] at u2
          exact absurd u2 hb
  · rintro ⟨t, c⟩ ⟨h0, h1, h2⟩
    simp only at h0 h1 h2
    subst h0
    unfold f_X8_step_L4
    rw [if_pos le16]
    exact ⟨t, rfl, h1, h2⟩
/-- a loop over the arcs that gathers a set -/
theorem lp_arcs (hN : aOk N) {step : Int32 × Int32 → Option ((Int32 × Int32) ⊕ Int32)} (P : Nat → Prop) (f : Nat → Nat) (hf : ∀ a, a < nM N → f a < 16)
    (hy : ∀ j s, j < nM N → P j → step (s, nI j) = some (.inl (s ||| ((1 : Int32) <<< (nI (f j) &&& 31)), nI (j + 1)))) (hno : ∀ j s, j < nM N → ¬ P j → step (s, nI j) = some (.inl (s, nI (j + 1)))) (he : ∀ s, step (s, nI (nM N)) = some (.inr s)) :
    ∃ y, lp step 2000 (0, 0) = some y ∧ S16 y ∧ ∀ i, i < 16 → (bt y i = true ↔ ∃ a, a < nM N ∧ P a ∧ f a = i) := by
  have := hN.m60
  refine lp_for (nM N) (fun j t => t.2 = nI j ∧ S16 t.1 ∧ ∀ i, i < 16 → (bt t.1 i = true ↔ ∃ a, a < j ∧ P a ∧ f a = i)) _ ?_ ?_ ⟨rfl, s16_0, fun i _ => by rw [b_0]; simp⟩ (by omega)
  · rintro j ⟨t, c⟩ hj ⟨h0, h1, h2⟩
    simp only at h0 h1 h2
    subst h0
    by_cases hp : P j
    · obtain ⟨b1, b2⟩ := bt_set (hf j hj) h1
      refine ⟨_, hy j t hj hp, rfl, b1, fun i hi => ?_⟩
      show bt (t ||| _) i = true ↔ _
      rw [b2, h2 i hi]
      constructor
      · rintro (⟨a, a1, a2, a3⟩ | z)
        · exact ⟨a, by omega, a2, a3⟩
        · exact ⟨j, by omega, hp, z.symm⟩
      · rintro ⟨a, a1, a2, a3⟩
        rcases Nat.lt_or_ge a j with o | o
        · exact Or.inl ⟨a, o, a2, a3⟩
        · rw [show a = j by omega] at a3
          exact Or.inr a3.symm
    · refine ⟨_, hno j t hj hp, rfl, h1, fun i hi => ?_⟩
      show bt t i = true ↔ _
      rw [h2 i hi]
      constructor
      · rintro ⟨a, a1, a2, a3⟩
        exact ⟨a, by omega, a2, a3⟩
      · rintro ⟨a, a1, a2, a3⟩
        rcases Nat.lt_or_ge a j with o | o
        · exact ⟨a, o, a2, a3⟩
        · rw [show a = j by omega] at a2
          exact absurd a2 hp
  · rintro ⟨t, c⟩ ⟨h0, h1, h2⟩
    simp only at h0 h1 h2
    subst h0
    exact ⟨t, he t, h1, h2⟩
theorem edge_q (hN : aOk N) (q : QM N hm y) (hX : NX xc (fa + 1) (Ed N 100)) (hG : GF xc fa (Ed N 100) (fun s => s = nRt N)) {i : Nat} (hi : i < 16) : ∃ z, f_X8_edge fa xc (nI i) = some z ∧ f_X10_edgeOf y (nI i) = some z := by
  have hF := q.2.2.1
  have h60 := hN.m60
  obtain ⟨E, hE⟩ : ∃ E, Ed N 100 = E := ⟨_, rfl⟩
  obtain ⟨S, hS⟩ : ∃ S : Nat → Prop, (fun s => s = nRt N) = S := ⟨_, rfl⟩
  rw [hE] at hX
  rw [hE, hS] at hG hF
  unfold f_X8_edge f_X10_edgeOf
  by_cases hr : Rc E S nox i
  · rw [if_neg (fun z => (hG.r0 hi).mp z hr), if_neg (fun z => (hF.r0 hi).mp z hr)]
    obtain ⟨kb, ek, k1, k2⟩ := kept_m hN q hi
    rw [hE, hS] at k2
    rw [ek]
    simp only [lt, Option.bind_some]
    rw [atv_n (L := 16) hi (by omega)]
    obtain ⟨g1, g2⟩ := hG.2.2.1 i hi
    obtain ⟨z, ez, z1, z2⟩ := step_c (fa := fa) hX (xc.1 (fa + 3) i ||| f_X9_only (nI i))
    rw [ez]
    simp only [Option.bind_some]
    obtain ⟨kb1, kb2⟩ := bt_set hi k1
    obtain ⟨gb1, gb2⟩ := bt_set (s := xc.1 (fa + 3) i) hi g1
    obtain ⟨w, ew, w1, w2⟩ := lp_arcs hN (step := f_X10_edgeOf_L28 y (nI i) (kb ||| 1 <<< (nI i &&& 31))) (fun a => nO N a = true ∧ (Dm E S i (nF N a) ∨ nF N a = i) ∧ ¬ Dm E S i (nT N a)) (nT N) (fun a ha => hN.t16 ha) (fun j s hj hp => by
        unfold f_X10_edgeOf_L28
        rw [m_arcs q.2.1]
        simp only [Option.bind_some, lt]
        rw [if_neg (nI_ge hj (by omega)), m_open hN q.2.1 hj]
        simp only [Option.bind_some]
        rw [if_neg (by rw [bi01, hp.1]; decide), m_from hN q.2.1 hj]
        simp only [Option.bind_some]
        rw [if_neg (by rw [holds0 _ (by have := hN.f16 hj; omega), (kb2 _).mpr (hp.2.1.imp (fun z => (k2 _ (hN.f16 hj)).mpr z) id)]; decide), m_to hN q.2.1 hj]
        simp only [Option.bind_some]
        rw [hF.keeps hi (hN.t16 hj)]
        simp only [Option.bind_some]
        rw [if_pos (by rw [bi01]; exact cb_f.mpr hp.2.2), nI_1]) (fun j s hj hp => by
        unfold f_X10_edgeOf_L28
        rw [m_arcs q.2.1]
        simp only [Option.bind_some, lt]
        rw [if_neg (nI_ge hj (by omega)), m_open hN q.2.1 hj]
        simp only [Option.bind_some, nI_1]
        by_cases a1 : nO N j = true
        · rw [if_neg (by rw [bi01, a1]; decide), m_from hN q.2.1 hj]
          simp only [Option.bind_some]
          by_cases a2 : Dm E S i (nF N j) ∨ nF N j = i
          · rw [if_neg (by rw [holds0 _ (by have := hN.f16 hj; omega), (kb2 _).mpr (a2.imp (fun z => (k2 _ (hN.f16 hj)).mpr z) id)]; decide), m_to hN q.2.1 hj]
            simp only [Option.bind_some]
            rw [hF.keeps hi (hN.t16 hj)]
            simp only [Option.bind_some]
            rw [if_neg]
            rw [bi01, cb_f]
            exact fun z => hp ⟨a1, a2, z⟩
          · rw [if_pos]
            rw [holds0 _ (by have := hN.f16 hj; omega), ← Bool.not_eq_true, kb2]
            exact fun z => a2 (z.imp (fun z => (k2 _ (hN.f16 hj)).mp z) id)
        · rw [if_pos (by rw [bi01]; simpa using a1)]) (fun s => by
        unfold f_X10_edgeOf_L28
        rw [m_arcs q.2.1]
        simp only [Option.bind_some]
        rw [if_pos (Int32.le_refl _)])
    rw [ew]
    refine ⟨_, rfl, ?_⟩
    simp only [Option.bind_some]
    congr 1
    refine w1.ext z1.and fun v hv => ?_
    apply Bool.eq_iff_iff.mpr
    rw [w2 v hv, b_and, bt_not _ (by omega), Bool.and_eq_true, z2 v hv, Bool.not_eq_true', ← Bool.not_eq_true, g2 v hv]
    constructor
    · rintro ⟨a, a1, ⟨a2, a3, a4⟩, rfl⟩
      refine ⟨⟨nF N a, hN.f16 a1, (gb2 _).mpr (a3.imp (fun z => (g2 _ (hN.f16 a1)).mpr z) id), ?_⟩, a4⟩
      rw [← hE]
      exact Or.inl ⟨a, a1, a2, by omega, by omega, rfl, rfl⟩
    · rintro ⟨⟨u, u1, u2, u3⟩, u4⟩
      rw [← hE] at u3
      rcases u3 with ⟨a, a1, a2, a3, a4, rfl, rfl⟩ | z
      · exact ⟨a, a1, ⟨a2, ((gb2 _).mp u2).imp (fun z => (g2 _ u1).mp z) id, u4⟩, rfl⟩
      · cases z
  · rw [if_pos ((hG.r0 hi).mpr hr), if_pos ((hF.r0 hi).mpr hr)]
    exact ⟨0, rfl, rfl⟩
theorem fb_sm_ext {f : Nat → Nat} {n m : Nat} (hnm : n ≤ m) (h : ∀ k, n ≤ k → k < m → f k = 0) : fb_sm f m = fb_sm f n := by
  obtain ⟨d, rfl⟩ : ∃ d, m = n + d := ⟨m - n, by omega⟩
  rw [fb_sm_split]
  have : fb_sm (fun k => f (n + k)) d = fb_sm (fun _ => 0) d := fb_sm_cong fun k hk => h _ (by omega) (by omega)
  rw [this, fb_sm_const]
  omega
/-- the tolls of a set, together -/
theorem tolls_c (hC : CNet xc 7 N) {s : Int32} : f_X8_tollsOf xc s = some (nI (fb_sm (fun v => if bt s v = true then nL N v else 0) 16)) := by
  have h := lp_sum (step := f_X8_tollsOf_L4 xc s) 16 (fun v => if bt s v = true then nL N v else 0) 0 (fun j a hj => by
    unfold f_X8_tollsOf_L4
    rw [if_neg (ge16 hj)]
    simp only [lt]
    by_cases c : bt s j = true
    · rw [if_neg (by rw [has0 _ (by omega), c]; decide), atv_n (L := 16) hj (by omega), hC.2.2.2.2.2.2 j hj, nI_add, nI_1, if_pos c]
    · rw [if_pos (by rw [has0 _ (by omega)]; simpa using c), nI_1, if_neg c]
      rfl) (fun a => by
    unfold f_X8_tollsOf_L4
    rw [if_pos le16]) (k := 2000) (by omega)
  unfold f_X8_tollsOf
  rw [Nat.zero_add] at h
  rw [show ((0 : Int32), (0 : Int32)) = (nI 0, 0) from rfl, h]
  rfl
theorem m_toll {w : gIH} (h : MNet w 82 0 N) {v : Nat} (hv : v < 16) : w 82 (4 + v) = nI (nL N v) := by
  have := h.2.2.2.2.2 v hv
  rwa [Nat.zero_add] at this
theorem fee_q (hN : aOk N) (q : QM N hm y) (hC : CNet xc 7 N) (hG : GF xc fa (Ed N 100) (fun s => s = nRt N)) {i : Nat} (hi : i < 16) (hr : Rc (Ed N 100) (fun s => s = nRt N) nox i) : ∃ z, f_X8_fee fa xc (nI i) = some z ∧ f_X10_feeOf y (nI i) = some z := by
  have hF := q.2.2.1
  obtain ⟨E, hE⟩ : ∃ E, Ed N 100 = E := ⟨_, rfl⟩
  obtain ⟨S, hS⟩ : ∃ S : Nat → Prop, (fun s => s = nRt N) = S := ⟨_, rfl⟩
  have hrn : ∀ {g}, Dm E S g i → g < nN N := fun {g} z => by
    have := z.rg
    rw [← hE, ← hS] at this
    exact hN.rn this
  rw [hE, hS] at hG hF hr
  have hn := hN.n16
  unfold f_X8_fee
  rw [if_neg (fun z => (hG.r0 hi).mp z hr), tolls_c hC]
  refine ⟨_, rfl, ?_⟩
  unfold f_X10_feeOf
  rw [show (4 : Int32) = nI 4 from rfl, nI_add, gck_ni (by omega) (by omega), nI_clamp (by omega), m_toll q.2.1 hi]
  simp only [lt]
  have h := lp_sum (step := f_X10_feeOf_L11 y (nI i)) (nN N) (fun g => if cb (Dm E S g i) = true then nL N g else 0) (nL N i) (fun j a hj => by
    unfold f_X10_feeOf_L11
    rw [q.nodes]
    simp only [Option.bind_some, lt]
    rw [if_neg (nI_ge hj (by omega)), gck_ni hi (by omega), nI_clamp (by omega)]
    have := (hF.2.1 i hi).2 j (by omega)
    by_cases c : Dm E S j i
    · rw [if_neg (by rw [holds0 _ (by omega), this.mpr c]; decide), show (4 : Int32) = nI 4 from rfl, nI_add, gck_ni (by omega) (by omega), nI_clamp (by omega), m_toll q.2.1 (by omega), nI_add, nI_1, if_pos (cb_t.mpr c)]
    · rw [if_pos (by rw [holds0 _ (by omega), ← Bool.not_eq_true, this]; exact c), nI_1, if_neg (fun z => c (cb_t.mp z)), show (0 : Int32) = nI 0 from rfl, nI_add]) (fun a => by
    unfold f_X10_feeOf_L11
    rw [q.nodes]
    simp only [Option.bind_some]
    rw [if_pos (Int32.le_refl _)]) (k := 2000) (by omega)
  rw [h]
  simp only [Option.bind_some]
  congr 2
  have e1 := fb_sm_upd (fun g => if cb (Dm E S g i) = true then nL N g else 0) (nL N i) (i := i) (n := 16) hi
  have e2 : cb (Dm E S i i) = false := cb_f.mpr (fun z => z.2.1 rfl)
  simp only [e2] at e1
  have e3 : fb_sm (fun g => if cb (Dm E S g i) = true then nL N g else 0) 16 = fb_sm (fun g => if cb (Dm E S g i) = true then nL N g else 0) (nN N) := fb_sm_ext hn fun k hk _ => if_neg fun z => by
    have := hrn (cb_t.mp z)
    omega
  have e4 : fb_sm (fun v => if bt (f_X8_upTo fa xc (nI i)) v = true then nL N v else 0) 16 = fb_sm (fun k => if k = i then nL N i else if cb (Dm E S k i) = true then nL N k else 0) 16 := fb_sm_cong fun v hv => by
    have hu := (hG.up hi).2 v hv
    by_cases c : v = i
    · subst c
      rw [if_pos (hu.mpr ⟨hr, Or.inr rfl⟩), if_pos rfl]
    · rw [if_neg c]
      by_cases c2 : Dm E S v i
      · rw [if_pos (hu.mpr ⟨hr, Or.inl c2⟩), if_pos (cb_t.mpr c2)]
      · rw [if_neg (fun z => ((hu.mp z).2).elim c2 c), if_neg (fun z => c2 (cb_t.mp z))]
  rw [e4]
  change fb_sm _ 16 + 0 = _ at e1
  omega
theorem ring_q (hN : aOk N) (q : QM N hm y) (hX : NX xc (fa + 1) (Ed N 100)) (hG : GF xc fa (Ed N 100) (fun s => s = nRt N)) (hR : RX xc N) {i : Nat} (hi : i < 16) : ∃ z, f_X8_ring fa xc (nI i) = some z ∧ f_X10_ringOf y (nI i) = some z ∧ S16 z ∧ ((¬ Rc (Ed N 100) (fun s => s = nRt N) nox i → z = 0) ∧ (Rc (Ed N 100) (fun s => s = nRt N) nox i → ∀ v, v < 16 → (bt z v = true ↔ Rc (Ed N 100) (fun s => s = i) nox v ∧ Rc (Ed N 100) (fun s => s = v) nox i))) := by
  have hF := q.2.2.1
  have hE16 := hN.e16n (k1 := 100) (k2 := 100)
  unfold f_X8_ring f_X10_ringOf
  by_cases hr : Rc (Ed N 100) (fun s => s = nRt N) nox i
  · rw [if_neg (fun z => (hG.r0 hi).mp z hr), if_neg (fun z => (hF.r0 hi).mp z hr)]
    obtain ⟨a, ea, a1, a2⟩ := spread_ok hE16 hX (f_X9_only (nI i)) 0 (s16_one hi)
    have hR16 : E16 (fun v u => Rc (Ed N 100) (fun s => s = nRt N) nox u ∧ Ed N 100 u v) := fun u v z => ⟨(hE16 _ _ z.2).2, (hE16 _ _ z.2).1⟩
    obtain ⟨b, eb, b1, b2⟩ := spread_ok hR16 hR (f_X9_only (nI i)) 0 (s16_one hi)
    obtain ⟨c, ec, c1, c2⟩ := m_reach hN q.2.1 100 100 (by rw [q.2.2.2.2]; rfl) none q.2.2.2.1 ((1 : Int32) <<< (nI i &&& 31)) 0 (s16_one hi)
    obtain ⟨d, ed, d1, d2⟩ := m_comers hN q.2.1 ((1 : Int32) <<< (nI i &&& 31)) 0 (s16_one hi)
    rw [skI_none] at ec
    rw [ea, ec, ed]
    simp only [Option.bind_some]
    rw [eb]
    have x0 : ∀ x, bt (0 : Int32) x = true ↔ nox x := fun x => by rw [b_0]; simp [nox]
    have ha : ∀ v, v < 16 → (bt a v = true ↔ Rc (Ed N 100) (fun s => s = i) nox v) := fun v hv => by
      rw [a2 v hv]
      exact Rc.congr (fun _ _ => Iff.rfl) (fun s => bt_one16 hi s) x0
    have hc : ∀ v, v < 16 → (bt c v = true ↔ Rc (Ed N 100) (fun s => s = i) nox v) := fun v hv => by
      rw [c2 v hv]
      exact Rc.congr (fun _ _ => Iff.rfl) (fun s => bt_one16 hi s) x0
    have hrev : ∀ v, Rc (fun u w => Ed N 100 w u) (fun s => s = i) nox v ↔ Rc (Ed N 100) (fun s => s = v) nox i := by
      intro v
      constructor
      · intro z
        refine z.ind (P := fun v => Rc (Ed N 100) (fun s => s = v) nox i) (fun s p _ => by subst p; exact Rc.base rfl (fun z => z)) (fun u w _ p e _ => ?_)
        exact Rc.trans (Rc.step (Rc.base rfl (fun z => z)) e (fun z => z)) p
      · intro z
        have : ∀ x, Rc (Ed N 100) (fun s => s = v) nox x → ∀ P : Nat → Prop, (∀ s, s = x → P s) → (∀ u w, P u → Ed N 100 w u → P w) → P v := by
          intro x hx P
          refine hx.ind (P := fun x => (∀ s, s = x → P s) → (∀ u w, P u → Ed N 100 w u → P w) → P v) (fun s p _ h1 _ => h1 v p.symm) (fun u w _ p e _ h1 h2 => ?_)
          exact p (fun s hs => by subst hs; exact h2 w s (h1 w rfl) e) h2
        intro P hb hs
        exact this i z P (fun s hs2 => hb s hs2 (fun z => z)) (fun u w p e => hs u w p e (fun z => z))
    have hd : ∀ v, v < 16 → (bt d v = true ↔ Rc (Ed N 100) (fun s => s = v) nox i) := fun v hv => by
      rw [d2 v hv, ← hrev v]
      exact Rc.congr (fun _ _ => Iff.rfl) (fun s => bt_one16 hi s) x0
    have hb : ∀ v, v < 16 → Rc (Ed N 100) (fun s => s = i) nox v → (bt b v = true ↔ Rc (Ed N 100) (fun s => s = v) nox i) := fun v hv hvr => by
      rw [b2 v hv, ← hrev v]
      constructor
      · intro z
        exact z.mono (fun _ _ h => h.2) (fun s p _ => Rc.base ((bt_one16 hi s).mp p) (fun z => z)) (fun x z => z.elim)
      · intro z
        have hv2 : Rc (Ed N 100) (fun s => s = nRt N) nox v := Rc.trans hr hvr
        have key : Rc (Ed N 100) (fun s => s = nRt N) nox v → Rc (fun v u => Rc (Ed N 100) (fun s => s = nRt N) nox u ∧ Ed N 100 u v) (fun s => bt (f_X9_only (nI i)) s = true) (fun s => bt (0 : Int32) s = true) v := by
          refine z.ind (P := fun v => Rc (Ed N 100) (fun s => s = nRt N) nox v → Rc (fun v u => Rc (Ed N 100) (fun s => s = nRt N) nox u ∧ Ed N 100 u v) (fun s => bt (f_X9_only (nI i)) s = true) (fun s => bt (0 : Int32) s = true) v) (fun s p _ _ => Rc.base ((bt_one16 hi s).mpr p) (fun z => (x0 s).mp z)) (fun u w _ p e _ hw => ?_)
          exact Rc.step (p (Rc.step hw e (fun z => z))) ⟨hw, e⟩ (fun z => (x0 w).mp z)
        exact key hv2
    refine ⟨_, rfl, ?_, a1.and, fun z => absurd hr z, fun _ v hv => ?_⟩
    · congr 1
      refine c1.and.ext a1.and fun v hv => ?_
      apply Bool.eq_iff_iff.mpr
      rw [b_and, b_and, Bool.and_eq_true, Bool.and_eq_true, ha v hv, hc v hv, hd v hv]
      exact ⟨fun z => ⟨z.1, (hb v hv z.1).mpr z.2⟩, fun z => ⟨z.1, (hb v hv z.1).mp z.2⟩⟩
    · rw [b_and, Bool.and_eq_true, ha v hv]
      exact ⟨fun z => ⟨z.1, (hb v hv z.1).mp z.2⟩, fun z => ⟨z.1, (hb v hv z.1).mpr z.2⟩⟩
  · rw [if_pos ((hG.r0 hi).mpr hr), if_pos ((hF.r0 hi).mpr hr)]
    exact ⟨0, rfl, rfl, s16_0, fun _ => rfl, fun z => absurd z hr⟩
end
