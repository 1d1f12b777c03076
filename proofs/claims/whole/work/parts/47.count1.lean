/-! KINDS, COUNTS -/
section
variable {N : aN} {hm y : gIH} {xc : gXH} {fa : Nat}
noncomputable def KdI (N : aN) (a : Nat) : Int32 := if nO N a = true then (if cb (Rc (Ed N 100) (fun s => s = nRt N) nox (nF N a)) = true then (if cb (BkA N a) = true then 2 else if cb (IsK (Ed N 100) (fun s => s = nRt N) (nF N a) (nT N a)) = true then 3 else 4) else 1) else 0
theorem kind_c (hN : aOk N) (hC : CNet xc 7 N) (hG : GF xc fa (Ed N 100) (fun s => s = nRt N)) {a : Nat} (ha : a < nM N) : f_X8_kind fa xc (nI a) = KdI N a := by
  have h60 := hN.m60
  have hf := hN.f16 ha
  have ht := hN.t16 ha
  unfold f_X8_kind KdI
  rw [c_isOpen hN hC ha]
  by_cases c1 : nO N a = true
  · rw [if_neg (by rw [bi01, c1]; decide), if_pos c1]
    simp only [lt]
    rw [atv_n (L := 60) (by omega) (by omega), atv_n (L := 60) (by omega) (by omega), hC.from60 ha, hC.to60 ha, atv_n (L := 16) hf (by omega), atv_n (L := 16) ht (by omega)]
    by_cases c2 : Rc (Ed N 100) (fun s => s = nRt N) nox (nF N a)
    · rw [if_neg (fun z => (hG.r0 hf).mp z c2), if_pos (cb_t.mpr c2)]
      by_cases c3 : nF N a = nT N a
      · rw [if_pos (by rw [c3]), if_pos (cb_t.mpr ⟨c1, c2, Or.inl c3⟩)]
      · rw [if_neg (by rw [nI_eq (by omega) (by omega)]; exact c3)]
        have hb := (hG.2.1 _ hf).2 _ ht
        by_cases c4 : Dm (Ed N 100) (fun s => s = nRt N) (nT N a) (nF N a)
        · rw [if_neg (by rw [has0 _ (by omega), hb.mpr c4]; decide), if_pos (cb_t.mpr ⟨c1, c2, Or.inr c4⟩)]
        · have nb : ¬ cb (BkA N a) = true := fun z => ((cb_t.mp z).2.2).elim c3 c4
          rw [if_pos (by rw [has0 _ (by omega), ← Bool.not_eq_true, hb]; exact c4), if_neg nb]
          have hk := (hG.2.2.2 _ ht).iff (hN.e16n (k1 := 100) (k2 := 100)) hN.s16 (show nF N a < 2 ^ 31 by omega)
          by_cases c5 : IsK (Ed N 100) (fun s => s = nRt N) (nF N a) (nT N a)
          · rw [if_pos (hk.mpr c5), if_pos (cb_t.mpr c5)]
          · rw [if_neg (fun z => c5 (hk.mp z)), if_neg (fun z => c5 (cb_t.mp z))]
    · rw [if_pos ((hG.r0 hf).mpr c2), if_neg (fun z => c2 (cb_t.mp z))]
  · rw [if_pos (by rw [bi01]; simpa using c1), if_neg c1]
theorem kind_m (hN : aOk N) (q : QM N hm y) {a : Nat} (ha : a < nM N) : f_X10_kindOf y (nI a) = some (KdI N a) := by
  have hf := hN.f16 ha
  have ht := hN.t16 ha
  unfold f_X10_kindOf KdI
  rw [m_open hN q.2.1 ha]
  simp only [Option.bind_some]
  by_cases c1 : nO N a = true
  · rw [if_neg (by rw [bi01, c1]; decide), if_pos c1, m_from hN q.2.1 ha]
    simp only [Option.bind_some]
    by_cases c2 : Rc (Ed N 100) (fun s => s = nRt N) nox (nF N a)
    · rw [if_neg (fun z => (q.2.2.1.r0 hf).mp z c2), if_pos (cb_t.mpr c2), isBack_m hN q ha]
      simp only [Option.bind_some]
      by_cases c3 : BkA N a
      · rw [if_neg (by rw [bi01, cb_t.mpr c3]; decide), if_pos (cb_t.mpr c3)]
      · rw [if_pos (by rw [bi01]; exact cb_f.mpr c3), if_neg (fun z => c3 (cb_t.mp z)), m_to hN q.2.1 ha]
        simp only [Option.bind_some]
        rw [gck_ni ht (by omega), nI_clamp (by omega)]
        have hk := (q.2.2.1.2.2.2 _ ht).iff (hN.e16n (k1 := 100) (k2 := 100)) hN.s16 (show nF N a < 2 ^ 31 by omega)
        by_cases c5 : IsK (Ed N 100) (fun s => s = nRt N) (nF N a) (nT N a)
        · rw [if_pos (hk.mpr c5), if_pos (cb_t.mpr c5)]
        · rw [if_neg (fun z => c5 (hk.mp z)), if_neg (fun z => c5 (cb_t.mp z))]
    · rw [if_pos ((q.2.2.1.r0 hf).mpr c2), if_neg (fun z => c2 (cb_t.mp z))]
  · rw [if_pos (by rw [bi01]; simpa using c1), if_neg c1]
theorem kd_back {a : Nat} : KdI N a = 2 ↔ BkA N a := by
  unfold KdI
  constructor
  · intro h
    split at h
    · split at h
      · split at h
        · rename_i z; exact cb_t.mp z
        · split at h
          · exact absurd h (by decide)
          · exact absurd h (by decide)
      · exact absurd h (by decide)
    · exact absurd h (by decide)
  · intro h
    rw [if_pos h.1, if_pos (cb_t.mpr h.2.1), if_pos (cb_t.mpr h)]
theorem back_q (hN : aOk N) (q : QM N hm y) (hC : CNet xc 7 N) (hG : GF xc fa (Ed N 100) (fun s => s = nRt N)) : ∃ z, f_X8_backArcs fa xc = some z ∧ f_X10_manyArcs y 1 = some z := by
  have h60 := hN.m60
  have h1 := lp_sum (step := f_X8_backArcs_L4 fa xc) (nM N) (fun a => if cb (BkA N a) = true then 1 else 0) 0 (fun j a hj => by
    unfold f_X8_backArcs_L4
    rw [if_neg (by show ¬ xc.1 7 6 ≤ nI j; rw [hC.2.2.2.1]; exact nI_ge hj (by omega)), if_neg (show ¬ (60 : Int32) ≤ nI j from nI_ge (a := j) (b := 60) (by omega) (by omega)), kind_c hN hC hG hj]
    simp only [lt]
    by_cases c : BkA N j
    · rw [if_pos (kd_back.mpr c), if_pos (cb_t.mpr c), nI_1, nI_1]
    · rw [if_neg (fun z => c (kd_back.mp z)), if_neg (fun z => c (cb_t.mp z)), nI_1]
      rfl) (fun a => by
    unfold f_X8_backArcs_L4
    rw [if_pos (by show xc.1 7 6 ≤ nI (nM N); rw [hC.2.2.2.1]; exact Int32.le_refl _)]) (k := 2000) (by omega)
  have h2 := lp_sum (step := f_X10_manyArcs_L4 y 1) (nM N) (fun a => if cb (BkA N a) = true then 1 else 0) 0 (fun j a hj => by
    unfold f_X10_manyArcs_L4
    rw [m_arcs q.2.1]
    simp only [Option.bind_some, lt]
    rw [if_neg (nI_ge hj (by omega)), if_neg i1n0, isBack_m hN q hj]
    simp only [Option.bind_some]
    by_cases c : BkA N j
    · rw [if_neg (by rw [bi01, cb_t.mpr c]; decide), if_pos (cb_t.mpr c), nI_1, nI_1]
    · rw [if_pos (by rw [bi01]; exact cb_f.mpr c), if_neg (fun z => c (cb_t.mp z)), nI_1, show (0 : Int32) = nI 0 from rfl, nI_add]) (fun a => by
    unfold f_X10_manyArcs_L4
    rw [m_arcs q.2.1]
    simp only [Option.bind_some]
    rw [if_pos (Int32.le_refl _)]) (k := 2000) (by omega)
  rw [nI_0] at h1 h2
  exact ⟨_, by unfold f_X8_backArcs; rw [h1]; rfl, by unfold f_X10_manyArcs; rw [h2]; rfl⟩
theorem heads_q (hN : aOk N) (q : QM N hm y) (hL : LF xc (Ed N 100) (fun s => s = nRt N)) : f_X10_heads y = some (xc.1 64 1) := by
  have h60 := hN.m60
  obtain ⟨z, ez, z1, z2⟩ := lp_arcs hN (step := f_X10_heads_L4 y) (fun a => BkA N a) (nT N) (fun a ha => hN.t16 ha) (fun j s hj hp => by
      unfold f_X10_heads_L4
      rw [m_arcs q.2.1]
      simp only [Option.bind_some, lt]
      rw [if_neg (nI_ge hj (by omega)), isBack_m hN q hj]
      simp only [Option.bind_some]
      rw [if_neg (by rw [bi01, cb_t.mpr hp]; decide), m_to hN q.2.1 hj]
      simp only [Option.bind_some]
      rw [nI_1]) (fun j s hj hp => by
      unfold f_X10_heads_L4
      rw [m_arcs q.2.1]
      simp only [Option.bind_some, lt]
      rw [if_neg (nI_ge hj (by omega)), isBack_m hN q hj]
      simp only [Option.bind_some]
      rw [if_pos (by rw [bi01]; exact cb_f.mpr hp), or0, nI_1]) (fun s => by
      unfold f_X10_heads_L4
      rw [m_arcs q.2.1]
      simp only [Option.bind_some]
      rw [if_pos (Int32.le_refl _)])
  unfold f_X10_heads
  rw [ez]
  simp only [Option.bind_some]
  congr 1
  refine z1.ext hL.1.1 fun v hv => ?_
  apply Bool.eq_iff_iff.mpr
  rw [z2 v hv, hL.1.2 v hv]
  constructor
  · rintro ⟨a, a1, a2, a3⟩
    exact ⟨_, (tl_iff hN).mpr ⟨a, a1, ⟨a2, a3⟩, rfl⟩⟩
  · rintro ⟨u, hu⟩
    obtain ⟨a, a1, ⟨a2, a3⟩, -⟩ := (tl_iff hN).mp hu
    exact ⟨a, a1, a2, a3⟩
/-- the greatest of so many -/
def mxN (f : Nat → Nat) : Nat → Nat
  | 0 => 0
  | n + 1 => if mxN f n < f n then f n else mxN f n
theorem mxN_ge (f : Nat → Nat) : ∀ {n k : Nat}, k < n → f k ≤ mxN f n
  | 0, k, h => absurd h (Nat.not_lt_zero _)
  | n + 1, k, h => by
    show f k ≤ if mxN f n < f n then f n else mxN f n
    rcases Nat.lt_or_ge k n with o | o
    · have := mxN_ge f (k := k) o
      split <;> omega
    · rw [show k = n by omega]
      split <;> omega
theorem mxN_ext {f : Nat → Nat} {n : Nat} (h : ∀ k, n ≤ k → f k = 0) : ∀ d, mxN f (n + d) = mxN f n
  | 0 => rfl
  | d + 1 => by
    show (if mxN f (n + d) < f (n + d) then f (n + d) else mxN f (n + d)) = _
    rw [h (n + d) (by omega), if_neg (by omega), mxN_ext h d]
theorem mxN_le {f : Nat → Nat} {c : Nat} : ∀ {n : Nat}, (∀ k, k < n → f k ≤ c) → mxN f n ≤ c
  | 0, _ => Nat.zero_le _
  | n + 1, h => by
    show (if mxN f n < f n then f n else mxN f n) ≤ c
    have := mxN_le (n := n) (f := f) (c := c) (fun k hk => h k (by omega))
    have := h n (by omega)
    split <;> omega
theorem lp_max {step : Int32 × Int32 → Option ((Int32 × Int32) ⊕ Int32)} (n B : Nat) (f : Nat → Nat) (hB : ∀ k, f k ≤ B) (hs : ∀ j a, j < n → a ≤ B → step (nI a, nI j) = some (.inl (nI (if a < f j then f j else a), nI (j + 1)))) (he : ∀ a, step (nI a, nI n) = some (.inr (nI a))) {k : Nat} (hk : n < k) : lp step k (0, 0) = some (nI (mxN f n)) := by
  have key := lp_for (step := step) n (fun j s => s = (nI (mxN f j), nI j)) (fun y => y = nI (mxN f n)) (by
    rintro s s' hj rfl
    exact ⟨_, hs _ _ hj (mxN_le fun k _ => hB k), rfl⟩) (by
    rintro s rfl
    exact ⟨_, he _, rfl⟩) (s := (0, 0)) (k := k) rfl hk
  obtain ⟨y, e, hq⟩ := key
  rw [e, hq]
theorem dp_un {E : Nat → Nat → Prop} {S : Nat → Prop} {v : Nat} (h : ¬ Rc E S nox v) : dp E S v = 0 := fb_ct_zero.mpr fun g _ => cb_f.mpr fun z => h z.1
theorem nlt_m1 {a : Nat} (ha : a < 2 ^ 31) : ¬ nI a < (-1 : Int32) := fun z => by
  have := Int32.lt_iff_toInt_lt.mp z
  rw [nI_toInt ha] at this
  have e : (-1 : Int32).toInt = -1 := by decide
  omega
theorem depth_q (hN : aOk N) (q : QM N hm y) (hG : GF xc fa (Ed N 100) (fun s => s = nRt N)) : ∃ z, f_X3_deepestDepth fa xc = some z ∧ f_X10_depths y 0 = some z := by
  have hn := hN.n16
  have hF := q.2.2.1
  obtain ⟨E, hE⟩ : ∃ E, Ed N 100 = E := ⟨_, rfl⟩
  obtain ⟨S, hS⟩ : ∃ S : Nat → Prop, (fun s => s = nRt N) = S := ⟨_, rfl⟩
  have hrn : ∀ {v}, Rc E S nox v → v < nN N := fun {v} z => by
    rw [← hE, ← hS] at z
    exact hN.rn z
  have hroot : Rc E S nox (nRt N) := by
    rw [← hS]
    exact Rc.base rfl (fun z => z)
  rw [hE, hS] at hG hF
  have h2 := lp_max (step := f_X10_depths_L4 y 0) (nN N) 16 (dp E S) (fun k => dp_16 k) (fun j a hj ha => by
    unfold f_X10_depths_L4
    rw [q.nodes]
    simp only [Option.bind_some, lt]
    rw [if_neg (nI_ge hj (by omega)), if_pos trivial, gck_ni (by omega) (by omega), nI_clamp (by omega), nI_1]
    by_cases c : Rc E S nox j
    · rw [(hF.2.2.1 j (by omega)).1 c]
      have d16 := dp_16 (E := E) (S := S) j
      by_cases c2 : a < dp E S j
      · rw [if_pos (nI_lt c2 (by omega)), if_pos c2]
      · rw [if_neg (nI_nlt (by omega) (by omega)), if_neg c2]
    · rw [(hF.2.2.1 j (by omega)).2 c, dp_un c, if_neg (nlt_m1 (by omega)), if_neg (by omega)]) (fun a => by
    unfold f_X10_depths_L4
    rw [q.nodes]
    simp only [Option.bind_some]
    rw [if_pos (Int32.le_refl _)]) (k := 2000) (by omega)
  obtain ⟨z, ez, -, z2⟩ := deepest_ok (xc := xc) (g := fa) (fun v hv => (hG.2.1 v hv).1) (xc.1 fa 4) hG.1.1
  obtain ⟨k, hk, k1, rfl, k3⟩ := z2 (nRt N) hN.r16 ((hG.1.2 _ hN.r16).mpr hroot)
  have hkr := (hG.1.2 k hk).mp k1
  have d16 := dp_16 (E := E) (S := S) k
  have emx : mxN (dp E S) (nN N) = dp E S k := by
    apply Nat.le_antisymm
    · refine mxN_le fun v hv => ?_
      by_cases c : Rc E S nox v
      · have := k3 v (by omega) ((hG.1.2 v (by omega)).mpr c)
        rw [ct_dm (hG.2.1 v (by omega)).2, ct_dm (hG.2.1 k hk).2] at this
        exact this
      · rw [dp_un c]; omega
    · exact mxN_ge _ (hrn hkr)
  refine ⟨nI (dp E S k), ?_, ?_⟩
  · unfold f_X3_deepestDepth
    rw [ez]
    simp only [Option.bind_some]
    rw [hG.d1 hk hkr]
    by_cases c : 0 < dp E S k
    · rw [if_pos (show (0 : Int32) < nI (dp E S k) from nI_lt (a := 0) c (by omega))]
    · rw [if_neg (show ¬ (0 : Int32) < nI (dp E S k) from nI_nlt (a := 0) (by omega) (by omega)), show dp E S k = 0 by omega]
      rfl
  · unfold f_X10_depths
    rw [h2, emx]
    rfl
theorem depths_q (hN : aOk N) (q : QM N hm y) (hG : GF xc fa (Ed N 100) (fun s => s = nRt N)) : ∃ z, f_X3_allDepths fa xc = some z ∧ f_X10_depths y 1 = some z := by
  have hn := hN.n16
  have hF := q.2.2.1
  obtain ⟨E, hE⟩ : ∃ E, Ed N 100 = E := ⟨_, rfl⟩
  obtain ⟨S, hS⟩ : ∃ S : Nat → Prop, (fun s => s = nRt N) = S := ⟨_, rfl⟩
  have hrn : ∀ {v}, Rc E S nox v → v < nN N := fun {v} z => by
    rw [← hE, ← hS] at z
    exact hN.rn z
  rw [hE, hS] at hG hF
  have h1 := lp_sum (step := f_X3_allDepths_L4 fa xc) 16 (dp E S) 0 (fun j a hj => by
    unfold f_X3_allDepths_L4
    rw [if_neg (ge16 hj), atv_n (L := 16) hj (by omega)]
    simp only [lt]
    rw [bc_ct (hG.2.1 j hj).1, ct_dm (hG.2.1 j hj).2, nI_add, nI_1]) (fun a => by
    unfold f_X3_allDepths_L4
    rw [if_pos le16]) (k := 2000) (by omega)
  have h2 := lp_sum (step := f_X10_depths_L4 y 1) (nN N) (dp E S) 0 (fun j a hj => by
    unfold f_X10_depths_L4
    rw [q.nodes]
    simp only [Option.bind_some, lt]
    rw [if_neg (nI_ge hj (by omega)), if_neg i1n0, gck_ni (by omega) (by omega), nI_clamp (by omega), nI_1]
    by_cases c : Rc E S nox j
    · rw [(hF.2.2.1 j (by omega)).1 c]
      have d16 := dp_16 (E := E) (S := S) j
      by_cases c2 : 0 < dp E S j
      · rw [if_pos (show (0 : Int32) < nI (dp E S j) from nI_lt (a := 0) c2 (by omega)), nI_add]
      · rw [if_neg (show ¬ (0 : Int32) < nI (dp E S j) from nI_nlt (a := 0) (by omega) (by omega)), show dp E S j = 0 by omega, ← nI_0, nI_add]
    · rw [(hF.2.2.1 j (by omega)).2 c, dp_un c, if_neg (by decide), ← nI_0, nI_add]) (fun a => by
    unfold f_X10_depths_L4
    rw [q.nodes]
    simp only [Option.bind_some]
    rw [if_pos (Int32.le_refl _)]) (k := 2000) (by omega)
  have e16 : fb_sm (dp E S) 16 = fb_sm (dp E S) (nN N) := fb_sm_ext hn fun k hk _ => dp_un fun z => by have := hrn z; omega
  rw [Nat.zero_add, nI_0] at h1 h2
  exact ⟨_, by unfold f_X3_allDepths; rw [h1]; rfl, by unfold f_X10_depths; rw [h2, e16]; rfl⟩
theorem leaves_q (hN : aOk N) (q : QM N hm y) (hG : GF xc fa (Ed N 100) (fun s => s = nRt N)) : ∃ z, f_X8_keepNone fa xc = some z ∧ f_X10_leaves y = some z := by
  have hn := hN.n16
  have hF := q.2.2.1
  obtain ⟨P, hP⟩ : ∃ P : Nat → Prop, (fun v => Rc (Ed N 100) (fun s => s = nRt N) nox v ∧ ∀ x, ¬ Dm (Ed N 100) (fun s => s = nRt N) v x) = P := ⟨_, rfl⟩
  have hPe : ∀ v, P v ↔ Rc (Ed N 100) (fun s => s = nRt N) nox v ∧ ∀ x, ¬ Dm (Ed N 100) (fun s => s = nRt N) v x := fun v => by rw [← hP]
  have hz : ∀ (s : Int32) (v : Nat), S16 s → (∀ x, x < 16 → (bt s x = true ↔ Dm (Ed N 100) (fun s => s = nRt N) v x)) → (s = 0 ↔ ∀ x, ¬ Dm (Ed N 100) (fun s => s = nRt N) v x) := fun s v h1 h2 => by
    rw [h1.zero]
    constructor
    · intro h x hx
      have hx16 : x < 16 := Nat.lt_of_lt_of_le (hN.rn hx.rv) hn
      have := h x hx16
      rw [(h2 x hx16).mpr hx] at this
      cases this
    · intro h x hx16
      cases hb : bt s x with
      | false => rfl
      | true => exact absurd ((h2 x hx16).mp hb) (h x)
  obtain ⟨c, ec, c1, c2⟩ := lp_set (step := f_X8_keepNone_L4 fa xc) 16 (by omega) P 0 s16_0 (fun j s hj hp => by
      obtain ⟨p1, p2⟩ := (hPe j).mp hp
      unfold f_X8_keepNone_L4
      rw [if_neg (ge16 hj), if_neg (fun z => (hG.r0 hj).mp z p1), atv_n (L := 16) hj (by omega), if_pos ((hz _ j (hG.2.2.1 j hj).1 (hG.2.2.1 j hj).2).mpr p2)]
      simp only [lt]
      rw [nI_1]
      rfl) (fun j s hj hp => by
      unfold f_X8_keepNone_L4
      rw [if_neg (ge16 hj)]
      simp only [lt, nI_1]
      by_cases p1 : Rc (Ed N 100) (fun s => s = nRt N) nox j
      · rw [if_neg (fun z => (hG.r0 hj).mp z p1), atv_n (L := 16) hj (by omega), if_neg (fun z => hp ((hPe j).mpr ⟨p1, (hz _ j (hG.2.2.1 j hj).1 (hG.2.2.1 j hj).2).mp z⟩))]
      · rw [if_pos ((hG.r0 hj).mpr p1)]) (fun s => by
      unfold f_X8_keepNone_L4
      rw [if_pos le16]) (k := 2000) (by omega)
  obtain ⟨m, em, m1, m2⟩ := lp_set (step := f_X10_leaves_L4 y) (nN N) hn P 0 s16_0 (fun j s hj hp => by
      obtain ⟨p1, p2⟩ := (hPe j).mp hp
      unfold f_X10_leaves_L4
      rw [q.nodes]
      simp only [Option.bind_some, lt]
      rw [if_neg (nI_ge hj (by omega)), if_neg (fun z => (hF.r0 (by omega)).mp z p1)]
      obtain ⟨k, ek, k1, k2⟩ := kept_m hN q (i := j) (by omega)
      rw [ek]
      simp only [Option.bind_some]
      rw [if_pos ((hz _ j k1 k2).mpr p2), nI_1]) (fun j s hj hp => by
      unfold f_X10_leaves_L4
      rw [q.nodes]
      simp only [Option.bind_some, lt, or0, nI_1]
      rw [if_neg (nI_ge hj (by omega))]
      by_cases p1 : Rc (Ed N 100) (fun s => s = nRt N) nox j
      · rw [if_neg (fun z => (hF.r0 (by omega)).mp z p1)]
        obtain ⟨k, ek, k1, k2⟩ := kept_m hN q (i := j) (by omega)
        rw [ek]
        simp only [Option.bind_some]
        rw [if_neg (fun z => hp ((hPe j).mpr ⟨p1, (hz _ j k1 k2).mp z⟩))]
      · rw [if_pos ((hF.r0 (by omega)).mpr p1)]) (fun s => by
      unfold f_X10_leaves_L4
      rw [q.nodes]
      simp only [Option.bind_some]
      rw [if_pos (Int32.le_refl _)]) (k := 2000) (by omega)
  have e : m = c := by
    refine m1.ext c1 fun v hv => ?_
    apply Bool.eq_iff_iff.mpr
    rw [m2 v hv, c2 v hv, b_0]
    exact ⟨fun z => z.elim (fun z => by cases z) (fun z => Or.inr ⟨hv, z.2⟩), fun z => z.elim (fun z => by cases z) (fun z => Or.inr ⟨hN.rn ((hPe v).mp z.2).1, z.2⟩)⟩
  exact ⟨c, by unfold f_X8_keepNone; rw [ec]; rfl, by unfold f_X10_leaves; rw [em, e]; rfl⟩
theorem nst16 (N : aN) (v : Nat) : nst N v ≤ 16 := fb_ct_le _ 16
theorem mostNest_q (hN : aOk N) (q : QM N hm y) (hL : LF xc (Ed N 100) (fun s => s = nRt N)) : ∃ z, lp (f_X8_mostNest_L19 fa xc) 2000 (0, 0) = some z ∧ f_X10_mostNest y = some z := by
  have hn := hN.n16
  have h1 := lp_max (step := f_X8_mostNest_L19 fa xc) 16 16 (nst N) (nst16 N) (fun j a hj ha => by
    have b16 := nst16 N j
    unfold f_X8_mostNest_L19
    rw [if_neg (ge16 hj), nest_c hL hj]
    simp only [Option.bind_some, lt]
    rw [nI_1]
    by_cases c : a < nst N j
    · rw [if_pos (nI_lt c (by omega)), if_pos c]
    · rw [if_neg (nI_nlt (by omega) (by omega)), if_neg c]) (fun a => by
    unfold f_X8_mostNest_L19
    rw [if_pos le16]) (k := 2000) (by omega)
  have h2 := lp_max (step := f_X10_mostNest_L4 y) (nN N) 16 (nst N) (nst16 N) (fun j a hj ha => by
    have b16 := nst16 N j
    unfold f_X10_mostNest_L4
    rw [q.nodes]
    simp only [Option.bind_some, lt]
    rw [if_neg (nI_ge hj (by omega)), nest_m hN q (by omega)]
    simp only [Option.bind_some]
    rw [nI_1]
    by_cases c : a < nst N j
    · rw [if_pos (nI_lt c (by omega)), if_pos c]
    · rw [if_neg (nI_nlt (by omega) (by omega)), if_neg c]) (fun a => by
    unfold f_X10_mostNest_L4
    rw [q.nodes]
    simp only [Option.bind_some]
    rw [if_pos (Int32.le_refl _)]) (k := 2000) (by omega)
  have e16 : mxN (nst N) 16 = mxN (nst N) (nN N) := by
    have := mxN_ext (f := nst N) (n := nN N) (fun k hk => fb_ct_zero.mpr fun h _ => cb_f.mpr fun z => by have := (z.lt hN).2; omega) (16 - nN N)
    rwa [show nN N + (16 - nN N) = 16 by omega] at this
  exact ⟨_, h1, by unfold f_X10_mostNest; rw [h2, e16]; rfl⟩
theorem tolls_q (hN : aOk N) (q : QM N hm y) (hC : CNet xc 7 N) (hG : GF xc fa (Ed N 100) (fun s => s = nRt N)) : ∃ z, f_X8_tollsOf xc (xc.1 fa 4) = some z ∧ f_X10_tolls y = some z := by
  have hn := hN.n16
  have h2 := lp_sum (step := f_X10_tolls_L4 y) (nN N) (fun v => if bt (xc.1 fa 4) v = true then nL N v else 0) 0 (fun j a hj => by
    unfold f_X10_tolls_L4
    rw [q.nodes]
    simp only [Option.bind_some, lt]
    rw [if_neg (nI_ge hj (by omega))]
    by_cases c : Rc (Ed N 100) (fun s => s = nRt N) nox j
    · rw [if_neg (fun z => (q.2.2.1.r0 (by omega)).mp z c), show (4 : Int32) = nI 4 from rfl, nI_add, gck_ni (by omega) (by omega), nI_clamp (by omega), m_toll q.2.1 (by omega), nI_add, nI_1, if_pos ((hG.1.2 j (by omega)).mpr c)]
    · rw [if_pos ((q.2.2.1.r0 (by omega)).mpr c), if_neg (fun z => c ((hG.1.2 j (by omega)).mp z)), nI_1, show (0 : Int32) = nI 0 from rfl, nI_add]) (fun a => by
    unfold f_X10_tolls_L4
    rw [q.nodes]
    simp only [Option.bind_some]
    rw [if_pos (Int32.le_refl _)]) (k := 2000) (by omega)
  have e16 : fb_sm (fun v => if bt (xc.1 fa 4) v = true then nL N v else 0) 16 = fb_sm (fun v => if bt (xc.1 fa 4) v = true then nL N v else 0) (nN N) := fb_sm_ext hn fun k hk hk16 => if_neg fun z => by
    have := hN.rn ((hG.1.2 k hk16).mp z)
    omega
  rw [Nat.zero_add, nI_0] at h2
  exact ⟨_, tolls_c hC, by unfold f_X10_tolls; rw [h2, e16]; rfl⟩
end
