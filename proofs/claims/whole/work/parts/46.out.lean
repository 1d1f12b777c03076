/-! WAYS OUT -/
def eX (N : aN) : Nat → Prop := fun s => s = nEx N ∧ Rc (Ed N 100) (fun s => s = nRt N) nox s
def eR (N : aN) : Nat → Nat → Prop := fun v u => Rc (Ed N 100) (fun s => s = nRt N) nox u ∧ Ed N 100 u v
section
variable {N : aN} {hm y : gIH}
theorem eR16 (hN : aOk N) : E16 (eR N) := fun u v z => ⟨(hN.e16n (k1 := 100) (k2 := 100) _ _ z.2).2, (hN.e16n (k1 := 100) (k2 := 100) _ _ z.2).1⟩
theorem eX16 (hN : aOk N) : ∀ s, eX N s → s < 16 := fun s z => by rw [z.1]; exact hN.e16'
theorem out_iff {X : Nat → Prop} {x : Nat} : Rc (eR N) (eX N) X x ↔ Rc (Ed N 100) (fun s => s = nRt N) nox x ∧ Rc (fun u w => Ed N 100 w u) (fun s => s = nEx N) X x := by
  have h := rear_iff (E := Ed N 100) (S := fun s => s = nRt N) (T := eX N) (X := X) (fun u hu => hu.2) (x := x)
  show Rc (fun v u => Rc (Ed N 100) (fun s => s = nRt N) nox u ∧ Ed N 100 u v) (eX N) X x ↔ _
  rw [← h]
  constructor
  · rintro ⟨h1, h2⟩
    exact ⟨h1, h2.mono (fun _ _ h => h) (fun s p z => Rc.base p.1 z) (fun _ z => z)⟩
  · rintro ⟨h1, h2⟩
    have hex : Rc (Ed N 100) (fun s => s = nRt N) nox x → Rc (Ed N 100) (fun s => s = nRt N) nox (nEx N) :=
      h2.ind (P := fun x => Rc (Ed N 100) (fun s => s = nRt N) nox x → Rc (Ed N 100) (fun s => s = nRt N) nox (nEx N)) (fun s p _ r => by
        have p : s = nEx N := p
        rw [← p]; exact r) (fun u w _ p e _ r => p (Rc.step r e (fun z => z)))
    exact ⟨h1, h2.mono (fun _ _ h => h) (fun s p z => Rc.base ⟨p, by
      have p : s = nEx N := p
      rw [p]; exact hex h1⟩ z) (fun _ z => z)⟩
theorem out_rn (hN : aOk N) {X : Nat → Prop} {x : Nat} (h : Rc (eR N) (eX N) X x) : x < nN N := hN.rn (out_iff.mp h).1
theorem crow_row {xc : gXH} {c0 L0 c1 L1 c j : Nat} : (crow xc c0 L0 c1 L1).1 c j = if c = c1 ∧ j < min L0 L1 then xc.1 c0 j else xc.1 c j := rfl
theorem crow_ne {xc : gXH} {c0 L0 c1 L1 c : Nat} (h : c ≠ c1) : (crow xc c0 L0 c1 L1).1 c = xc.1 c := by
  funext j
  rw [crow_row, if_neg (fun z => h z.1)]
theorem crow_fr {xc : gXH} {c0 L0 c1 L1 : Nat} : Fr (fun c => c = c1) xc (crow xc c0 L0 c1 L1) := ⟨fun c hc => crow_ne hc, rfl⟩
def WO : Nat → Prop := fun c => 55 ≤ c ∧ c ≤ 59
theorem out_c (hN : aOk N) {xc : gXH} {fa : Nat} (hfa : 70 < fa) (hC : CNet xc 7 N) (hG : GF xc fa (Ed N 100) (fun s => s = nRt N)) (hR : RX xc N) : ∃ z, f_X8_weighOut fa xc = some z ∧ Fr WO xc z ∧ GF z 55 (eR N) (eX N) := by
  unfold f_X8_weighOut
  simp only [lt]
  obtain ⟨x1, ex1⟩ : ∃ x1, crow xc 60 16 56 16 = x1 := ⟨_, rfl⟩
  rw [ex1]
  have f1 : Fr (fun c => c = 56) xc x1 := by rw [← ex1]; exact crow_fr
  have h5 : x1.1 7 5 = nI (nEx N) := by rw [f1.1 7 (by omega)]; exact hC.2.2.1
  have hX1 : NX x1 (55 + 1) (eR N) := by
    intro u hu
    have e : x1.1 (55 + 1) u = xc.1 60 u := by
      rw [← ex1]
      show (crow xc 60 16 56 16).1 56 u = _
      rw [crow_row, if_pos ⟨rfl, by omega⟩]
    rw [e]
    exact hR u hu
  rw [h5]
  have hs : S16 (f_X9_only (nI (nEx N)) &&& x1.1 fa 4) := (s16_one hN.e16').and
  obtain ⟨z, ez, z1, z2⟩ := weigh_ok (eR16 hN) hX1 (f_X9_only (nI (nEx N)) &&& x1.1 fa 4) hs
  rw [ez]
  refine ⟨z, rfl, (f1.mono fun c hc => by unfold WO; omega).tr (z1.mono fun c hc => by unfold WG at hc; unfold WO; omega), ?_⟩
  have e : (fun s => bt (f_X9_only (nI (nEx N)) &&& x1.1 fa 4) s = true) = eX N := by
    funext s
    apply propext
    rw [b_and, Bool.and_eq_true, show bt (f_X9_only (nI (nEx N))) s = true ↔ _ from bt_one16 hN.e16' s, f1.1 fa (by omega)]
    unfold eX
    constructor
    · rintro ⟨a, b⟩
      exact ⟨a, (hG.1.2 s (by rw [a]; exact hN.e16')).mp b⟩
    · rintro ⟨a, b⟩
      exact ⟨a, (hG.1.2 s (by rw [a]; exact hN.e16')).mpr b⟩
  rw [e] at z2
  exact z2
theorem com_m (hN : aOk N) (q : QM N hm y) (b : Int32) : ∃ z, f_X10_comers y ((1 : Int32) <<< (nI (nEx N) &&& 31)) b = some z ∧ S16 z ∧ ∀ v, v < 16 → (bt z v = true ↔ Rc (fun u w => Ed N 100 w u) (fun s => s = nEx N) (fun s => bt b s = true) v) := by
  obtain ⟨z, ez, z1, z2⟩ := m_comers hN q.2.1 ((1 : Int32) <<< (nI (nEx N) &&& 31)) b (s16_one hN.e16')
  exact ⟨z, ez, z1, fun v hv => by rw [z2 v hv]; exact Rc.congr (fun _ _ => Iff.rfl) (fun s => bt_one16 hN.e16' s) (fun _ => Iff.rfl)⟩
theorem m_exit (q : QM N hm y) : y 82 2 = nI (nEx N) := by
  have := q.2.1.2.2.1
  rwa [Nat.zero_add] at this
theorem wayOut_m (hN : aOk N) (q : QM N hm y) {v : Nat} (hv : v < 16) : f_X10_hasWayOut y (nI v) = some (if cb (Rc (eR N) (eX N) nox v) = true then 1 else 0) := by
  unfold f_X10_hasWayOut
  by_cases c1 : Rc (Ed N 100) (fun s => s = nRt N) nox v
  · rw [if_neg (fun z => (q.2.2.1.r0 hv).mp z c1), show (2 : Int32) = nI 2 from rfl, gck_ni (by omega) (by omega), nI_clamp (by omega), m_exit q]
    obtain ⟨z, ez, z1, z2⟩ := com_m hN q 0
    rw [ez]
    simp only [Option.bind_some]
    have e : bt z v = true ↔ Rc (eR N) (eX N) nox v := by
      rw [z2 v hv, out_iff]
      have : Rc (fun u w => Ed N 100 w u) (fun s => s = nEx N) (fun s => bt (0 : Int32) s = true) v ↔ Rc (fun u w => Ed N 100 w u) (fun s => s = nEx N) nox v := Rc.congr (fun _ _ => Iff.rfl) (fun _ => Iff.rfl) (fun x => by rw [b_0]; simp [nox])
      rw [this]
      exact ⟨fun z => ⟨c1, z⟩, fun z => z.2⟩
    by_cases c2 : Rc (eR N) (eX N) nox v
    · rw [if_neg (by rw [holds0 _ (by omega), e.mpr c2]; decide), if_pos (cb_t.mpr c2)]
    · rw [if_pos (by rw [holds0 _ (by omega), ← Bool.not_eq_true, e]; exact c2), if_neg (fun z => c2 (cb_t.mp z))]
  · rw [if_pos ((q.2.2.1.r0 hv).mpr c1), if_neg (fun z => c1 (out_iff.mp (cb_t.mp z)).1)]
theorem outGates_m (hN : aOk N) (q : QM N hm y) {v : Nat} (hv : v < 16) : ∃ z, f_X10_outGatesOf y (nI v) = some z ∧ S16 z ∧ ∀ g, g < 16 → (bt z g = true ↔ Dm (eR N) (eX N) g v) := by
  have hn := hN.n16
  unfold f_X10_outGatesOf
  rw [wayOut_m hN q hv]
  simp only [Option.bind_some]
  by_cases c : Rc (eR N) (eX N) nox v
  · rw [if_neg (by rw [bi01, cb_t.mpr c]; decide)]
    have hP : ∀ g, g < nN N → (Dm (eR N) (eX N) g v ↔ g ≠ v ∧ ¬ Rc (fun u w => Ed N 100 w u) (fun s => s = nEx N) (fun s => s = g) v) := fun g _ => by
      unfold Dm
      rw [out_iff (X := fun s => s = g)]
      have := (out_iff.mp c).1
      exact ⟨fun z => ⟨z.2.1, fun w => z.2.2 ⟨this, w⟩⟩, fun z => ⟨c, z.1, fun w => z.2 w.2⟩⟩
    obtain ⟨z, ez, z1, z2⟩ := lp_set (step := f_X10_outGatesOf_L14 y (nI v)) (nN N) hn (fun g => Dm (eR N) (eX N) g v) 0 s16_0 (fun j s hj hp => by
        obtain ⟨p1, p2⟩ := (hP j hj).mp hp
        unfold f_X10_outGatesOf_L14
        rw [q.nodes]
        simp only [Option.bind_some, lt]
        rw [if_neg (nI_ge hj (by omega)), if_neg (by rw [nI_eq (by omega) (by omega)]; exact p1), show (2 : Int32) = nI 2 from rfl, gck_ni (by omega) (by omega), nI_clamp (by omega), m_exit q]
        obtain ⟨w, ew, w1, w2⟩ := com_m hN q ((1 : Int32) <<< (nI j &&& 31))
        rw [ew]
        simp only [Option.bind_some]
        rw [if_pos, nI_1]
        rw [holds0 _ (by omega), ← Bool.not_eq_true, w2 v hv]
        exact fun z => p2 ((Rc.congr (fun _ _ => Iff.rfl) (fun _ => Iff.rfl) (fun s => bt_one16 (by omega) s)).mp z)) (fun j s hj hp => by
        unfold f_X10_outGatesOf_L14
        rw [q.nodes]
        simp only [Option.bind_some, lt, nI_1]
        rw [if_neg (nI_ge hj (by omega))]
        by_cases c2 : j = v
        · rw [if_pos (by rw [c2])]
        rw [if_neg (by rw [nI_eq (by omega) (by omega)]; exact c2), show (2 : Int32) = nI 2 from rfl, gck_ni (by omega) (by omega), nI_clamp (by omega), m_exit q]
        obtain ⟨w, ew, w1, w2⟩ := com_m hN q ((1 : Int32) <<< (nI j &&& 31))
        rw [ew]
        simp only [Option.bind_some]
        rw [if_neg]
        rw [holds0 _ (by omega), ← Bool.not_eq_true, w2 v hv]
        intro z
        exact hp ((hP j hj).mpr ⟨c2, fun w => z ((Rc.congr (fun _ _ => Iff.rfl) (fun _ => Iff.rfl) (fun s => bt_one16 (by omega) s)).mpr w)⟩)) (fun s => by
        unfold f_X10_outGatesOf_L14
        rw [q.nodes]
        simp only [Option.bind_some]
        rw [if_pos (Int32.le_refl _)]) (k := 2000) (by omega)
    rw [ez]
    refine ⟨z, rfl, z1, fun g hg => ?_⟩
    rw [z2 g hg, b_0]
    exact ⟨fun w => w.elim (fun w => by cases w) (fun w => w.2), fun w => Or.inr ⟨out_rn hN w.rg, w⟩⟩
  · rw [if_pos (by rw [bi01]; exact cb_f.mpr c)]
    refine ⟨0, rfl, s16_0, fun g _ => ?_⟩
    rw [b_0]
    exact ⟨fun w => (by cases w), fun w => absurd w.1 c⟩
theorem outKeeper_m (hN : aOk N) (q : QM N hm y) {v : Nat} (hv : v < 16) : ∃ z, f_X10_outKeeperOf y (nI v) = some z ∧ KpI (eR N) (eX N) v z := by
  have hn := hN.n16
  obtain ⟨s, es, s1, s2⟩ := outGates_m hN q hv
  unfold f_X10_outKeeperOf
  rw [es]
  simp only [Option.bind_some]
  have key : ∃ z, lp (f_X10_outKeeperOf_L8 y s) 2000 0 = some z ∧ Sum.elim (fun z => ∃ g, IsK (eR N) (eX N) g v ∧ z = nI g) (fun _ => ∀ g, ¬ IsK (eR N) (eX N) g v) z := by
    refine lp_forx (step := f_X10_outKeeperOf_L8 y s) (nN N) (fun j t => t = nI j ∧ ∀ g, g < j → ¬ IsK (eR N) (eX N) g v) _ ?_ ?_ ⟨rfl, fun g hg => by omega⟩ (by omega)
    · rintro j t hj ⟨rfl, h1⟩
      have nxt : ¬ IsK (eR N) (eX N) j v → (nI j + 1 = nI (j + 1) ∧ ∀ g, g < j + 1 → ¬ IsK (eR N) (eX N) g v) := fun hno => ⟨nI_1 j, fun g hg => by
        rcases Nat.lt_or_ge g j with o | o
        · exact h1 g o
        · rw [show g = j by omega]; exact hno⟩
      unfold f_X10_outKeeperOf_L8
      rw [q.nodes]
      simp only [Option.bind_some, lt]
      rw [if_neg (nI_ge hj (by omega))]
      by_cases c1 : Dm (eR N) (eX N) j v
      · rw [if_neg (by rw [holds0 _ (by omega), (s2 j (by omega)).mpr c1]; decide)]
        obtain ⟨w, ew, w1, w2⟩ := outGates_m hN q (v := j) (by omega)
        rw [ew]
        simp only [Option.bind_some]
        have e : ((s &&& (((1 : Int32) <<< (nI j &&& 31)) ^^^ (-1))) &&& (w ^^^ (-1)) = 0) ↔ IsK (eR N) (eX N) j v := by
          rw [(S16.and (S16.and s1)).zero]
          constructor
          · intro z
            refine ⟨c1, fun g hg hne => ?_⟩
            have hg16 := hg.lt (eR16 hN) (eX16 hN)
            have z := z g hg16
            rw [b_and, b_and, bt_not _ (by omega), bt_not _ (by omega), (s2 g hg16).mpr hg, bt_one (by omega) (by omega), decide_eq_false hne] at z
            apply (w2 g hg16).mp
            simpa using z
          · intro z g hg16
            rw [b_and, b_and, bt_not _ (by omega), bt_not _ (by omega), bt_one (by omega) (by omega)]
            by_cases c2 : g = j
            · simp [c2]
            · by_cases c3 : Dm (eR N) (eX N) g v
              · rw [(w2 g hg16).mpr (z.2 g c3 c2)]
                simp
              · have : bt s g = false := by
                  cases hb : bt s g with
                  | false => rfl
                  | true => exact absurd ((s2 g hg16).mp hb) c3
                rw [this]
                rfl
        by_cases c2 : IsK (eR N) (eX N) j v
        · rw [if_pos (e.mpr c2)]
          exact Or.inr ⟨_, rfl, j, c2, rfl⟩
        · rw [if_neg (fun z => c2 (e.mp z))]
          exact Or.inl ⟨_, rfl, nxt c2⟩
      · rw [if_pos (by rw [holds0 _ (by omega), ← Bool.not_eq_true, s2 j (by omega)]; exact c1)]
        exact Or.inl ⟨_, rfl, nxt fun z => c1 z.1⟩
    · rintro t ⟨rfl, h1⟩
      unfold f_X10_outKeeperOf_L8
      rw [q.nodes]
      simp only [Option.bind_some]
      rw [if_pos (Int32.le_refl _)]
      exact ⟨_, rfl, fun g hg => h1 g (out_rn hN hg.1.rg) hg⟩
  obtain ⟨z, ez, hz⟩ := key
  rw [ez]
  cases z with
  | inl z =>
    obtain ⟨g, hg, rfl⟩ := hz
    exact ⟨_, rfl, fun k hk => by rw [hk.uniq hg], fun z => absurd hg.1 (z g)⟩
  | inr z =>
    refine ⟨_, rfl, fun k hk => absurd hk (hz k), fun _ => rfl⟩
/-- a union over arcs -/
theorem lp_or {step : Int32 × Int32 → Option ((Int32 × Int32) ⊕ Int32)} (n : Nat) (hn : n < 1000) (P : Nat → Nat → Prop)
    (hst : ∀ j s, j < n → ∃ u, step (s, nI j) = some (.inl (s ||| u, nI (j + 1))) ∧ S16 u ∧ ∀ i, i < 16 → (bt u i = true ↔ P j i)) (he : ∀ s, step (s, nI n) = some (.inr s)) :
    ∃ y, lp step 2000 (0, 0) = some y ∧ S16 y ∧ ∀ i, i < 16 → (bt y i = true ↔ ∃ j, j < n ∧ P j i) := by
  refine lp_for n (fun j t => t.2 = nI j ∧ S16 t.1 ∧ ∀ i, i < 16 → (bt t.1 i = true ↔ ∃ a, a < j ∧ P a i)) _ ?_ ?_ ⟨rfl, s16_0, fun i _ => by rw [b_0]; simp⟩ (by omega)
  · rintro j ⟨t, c⟩ hj ⟨h0, h1, h2⟩
    simp only at h0 h1 h2
    subst h0
    obtain ⟨u, eu, u1, u2⟩ := hst j t hj
    refine ⟨_, eu, rfl, h1.or u1, fun i hi => ?_⟩
    show bt (t ||| u) i = true ↔ _
    rw [b_or, Bool.or_eq_true, h2 i hi, u2 i hi]
    constructor
    · rintro (⟨a, a1, a2⟩ | z)
      · exact ⟨a, by omega, a2⟩
      · exact ⟨j, by omega, z⟩
    · rintro ⟨a, a1, a2⟩
      rcases Nat.lt_or_ge a j with o | o
      · exact Or.inl ⟨a, o, a2⟩
      · rw [show a = j by omega] at a2
        exact Or.inr a2
  · rintro ⟨t, c⟩ ⟨h0, h1, h2⟩
    simp only at h0 h1 h2
    subst h0
    exact ⟨t, he t, h1, h2⟩
theorem ctrl_q (hN : aOk N) (q : QM N hm y) {xc : gXH} {fa : Nat} (hfa : 70 < fa) (hC : CNet xc 7 N) (hX : NX xc (fa + 1) (Ed N 100)) (hG : GF xc fa (Ed N 100) (fun s => s = nRt N)) (hR : RX xc N) {i : Nat} (hi : i < 16) :
    ∃ z x', f_X8_controls fa xc (nI i) = some (z, x') ∧ f_X10_controls y (nI i) = some z ∧ Fr WO xc x' := by
  have h60 := hN.m60
  obtain ⟨x', e1, f1, g1⟩ := out_c hN hfa hC hG hR
  have hX' : NX x' (fa + 1) (Ed N 100) := hX.cg (f1.1 _ (by unfold WO; omega))
  unfold f_X8_controls f_X10_controls
  rw [e1, wayOut_m hN q hi]
  simp only [Option.bind_some]
  by_cases c : Rc (eR N) (eX N) nox i
  · rw [if_neg (by rw [has0 _ (by omega), (g1.1.2 i hi).mpr c]; decide), if_neg (by rw [bi01, cb_t.mpr c]; decide)]
    simp only [lt]
    rw [atv_n (L := 16) hi (by omega), atv_n (L := 16) hi (by omega)]
    obtain ⟨b, eb⟩ : ∃ b, x'.1 (fa + 1) i &&& x'.1 55 4 = b := ⟨_, rfl⟩
    rw [eb]
    have hb : ∀ v, v < 16 → (bt b v = true ↔ Ed N 100 i v ∧ Rc (eR N) (eX N) nox v) := fun v hv => by
      rw [← eb, b_and, Bool.and_eq_true, (hX' i hi).2 v hv, g1.1.2 v hv]
    obtain ⟨z1, ez1, z11, z12⟩ := lp_or (step := f_X8_controls_L45 fa x' (nI i) b) 16 (by omega) (fun v x => (Ed N 100 i v ∧ Rc (eR N) (eX N) nox v) ∧ (x = v ∨ Dm (eR N) (eX N) x v)) (fun j s hj => by
        unfold f_X8_controls_L45
        rw [if_neg (ge16 hj)]
        simp only [lt]
        by_cases cc : bt b j = true
        · rw [if_neg (by rw [has0 _ (by omega), cc]; decide), atv_n (L := 16) hj (by omega), nI_1]
          refine ⟨_, rfl, (s16_one hj).or (g1.2.1 j hj).1, fun x hx => ?_⟩
          rw [b_or, Bool.or_eq_true, show bt (f_X9_only (nI j)) x = true ↔ _ from bt_one16 hj x]
          rw [show bt (x'.1 57 j) x = true ↔ _ from (g1.2.1 j hj).2 x hx]
          exact ⟨fun w => ⟨(hb j hj).mp cc, w⟩, fun w => w.2⟩
        · rw [if_pos (by rw [has0 _ (by omega)]; simpa using cc), nI_1]
          refine ⟨0, by rw [or0], s16_0, fun x _ => ?_⟩
          rw [b_0]
          exact ⟨fun w => (by cases w), fun w => absurd ((hb j hj).mpr w.1) cc⟩) (fun s => by
        unfold f_X8_controls_L45
        rw [if_pos le16])
    obtain ⟨z2, ez2, z21, z22⟩ := lp_or (step := f_X10_controls_L14 y (nI i)) (nM N) (by omega) (fun a x => (nO N a = true ∧ nF N a = i ∧ Rc (eR N) (eX N) nox (nT N a)) ∧ (x = nT N a ∨ Dm (eR N) (eX N) x (nT N a))) (fun j s hj => by
        unfold f_X10_controls_L14
        rw [m_arcs q.2.1]
        simp only [Option.bind_some, lt]
        rw [if_neg (nI_ge hj (by omega)), m_open hN q.2.1 hj]
        simp only [Option.bind_some, nI_1]
        have no : ¬ (nO N j = true ∧ nF N j = i ∧ Rc (eR N) (eX N) nox (nT N j)) → ∃ u, (some (Sum.inl (s, nI (j + 1))) : Option ((Int32 × Int32) ⊕ Int32)) = some (.inl (s ||| u, nI (j + 1))) ∧ S16 u ∧ ∀ x, x < 16 → (bt u x = true ↔ (nO N j = true ∧ nF N j = i ∧ Rc (eR N) (eX N) nox (nT N j)) ∧ (x = nT N j ∨ Dm (eR N) (eX N) x (nT N j))) := fun hno => by
          refine ⟨0, by rw [or0], s16_0, fun x _ => ?_⟩
          rw [b_0]
          exact ⟨fun w => (by cases w), fun w => absurd w.1 hno⟩
        by_cases c1 : nO N j = true
        · rw [if_neg (by rw [bi01, c1]; decide), m_from hN q.2.1 hj]
          simp only [Option.bind_some]
          by_cases c2 : nF N j = i
          · rw [if_pos (by rw [c2]), m_to hN q.2.1 hj]
            simp only [Option.bind_some]
            rw [wayOut_m hN q (hN.t16 hj)]
            simp only [Option.bind_some]
            by_cases c3 : Rc (eR N) (eX N) nox (nT N j)
            · rw [if_neg (by rw [bi01, cb_t.mpr c3]; decide)]
              obtain ⟨w, ew, w1, w2⟩ := outGates_m hN q (hN.t16 hj)
              rw [ew]
              simp only [Option.bind_some]
              refine ⟨_, rfl, (s16_one (hN.t16 hj)).or w1, fun x hx => ?_⟩
              rw [b_or, Bool.or_eq_true, bt_one16 (hN.t16 hj), w2 x hx]
              exact ⟨fun w => ⟨⟨c1, c2, c3⟩, w⟩, fun w => w.2⟩
            · rw [if_pos (by rw [bi01]; exact cb_f.mpr c3)]
              exact no fun z => c3 z.2.2
          · rw [if_neg (by rw [nI_eq (by have := hN.f16 hj; omega) (by omega)]; exact c2)]
            exact no fun z => c2 z.2.1
        · rw [if_pos (by rw [bi01]; simpa using c1)]
          exact no fun z => c1 z.1) (fun s => by
        unfold f_X10_controls_L14
        rw [m_arcs q.2.1]
        simp only [Option.bind_some]
        rw [if_pos (Int32.le_refl _)])
    obtain ⟨w, ew, w1, w2⟩ := outGates_m hN q hi
    rw [ez1, ez2]
    simp only [Option.bind_some]
    rw [ew]
    refine ⟨_, _, rfl, ?_, f1⟩
    simp only [Option.bind_some]
    congr 1
    have e12 : z2 = z1 := by
      refine z21.ext z11 fun x hx => ?_
      apply Bool.eq_iff_iff.mpr
      rw [z22 x hx, z12 x hx]
      constructor
      · rintro ⟨a, a1, ⟨a2, a3, a4⟩, a5⟩
        exact ⟨nT N a, hN.t16 a1, ⟨Or.inl ⟨a, a1, a2, by omega, by omega, a3, rfl⟩, a4⟩, a5⟩
      · rintro ⟨v, hv, ⟨⟨a, a1, a2, a3, a4, a5, rfl⟩ | z, a6⟩, a7⟩
        · exact ⟨a, a1, ⟨a2, a5, a6⟩, a7⟩
        · cases z
    rw [e12]
    refine z11.and.ext z11.and fun x hx => ?_
    rw [b_and, b_and, bt_not _ (by omega), bt_not _ (by omega)]
    congr 2
    apply Bool.eq_iff_iff.mpr
    rw [w2 x hx]
    exact ((g1.2.1 i hi).2 x hx).symm
  · rw [if_pos (by rw [has0 _ (by omega), ← Bool.not_eq_true, g1.1.2 i hi]; exact c), if_pos (by rw [bi01]; exact cb_f.mpr c)]
    exact ⟨_, _, rfl, rfl, f1⟩
theorem spans_q (hN : aOk N) (q : QM N hm y) {xc : gXH} {fa : Nat} (hfa : 70 < fa) (hC : CNet xc 7 N) (hG : GF xc fa (Ed N 100) (fun s => s = nRt N)) (hR : RX xc N) :
    ∃ z x', f_X8_spans fa xc = some (z, x') ∧ f_X10_spans y = some z ∧ Fr WO xc x' := by
  have hn := hN.n16
  obtain ⟨x', e1, f1, g1⟩ := out_c hN hfa hC hG hR
  have hG' : GF x' fa (Ed N 100) (fun s => s = nRt N) := hG.fr f1 (fun c a b => by unfold WO; omega)
  obtain ⟨p, hp⟩ : ∃ p : Nat → Nat, (fun v => fb_ct (fun g => cb (Dm (Ed N 100) (fun s => s = nRt N) v g ∧ Dm (eR N) (eX N) g v)) 16) = p := ⟨_, rfl⟩
  have hpe : ∀ v, p v = fb_ct (fun g => cb (Dm (Ed N 100) (fun s => s = nRt N) v g ∧ Dm (eR N) (eX N) g v)) 16 := fun v => by rw [← hp]
  have ej1 : ∀ j, j < 16 → fb_ct (bt (x'.1 (fa + 3) j &&& x'.1 57 j)) 16 = p j := fun j hj => by
    rw [hpe]
    refine fb_ct_cong fun g hg => ?_
    apply Bool.eq_iff_iff.mpr
    rw [b_and, Bool.and_eq_true, (hG'.2.2.1 j hj).2 g hg, cb_t]
    exact and_congr_right fun _ => (g1.2.1 j hj).2 g hg
  have h1 := lp_sum (step := f_X8_spans_L8 fa x') 16 p 0 (fun j a hj => by
    unfold f_X8_spans_L8
    rw [if_neg (ge16 hj), atv_n (L := 16) hj (by omega), atv_n (L := 16) hj (by omega)]
    simp only [lt]
    rw [bc_ct ((hG'.2.2.1 j hj).1.and), ej1 j hj, nI_add, nI_1]) (fun a => by
    unfold f_X8_spans_L8
    rw [if_pos le16]) (k := 2000) (by omega)
  have h2 := lp_sum (step := f_X10_spans_L4 y) (nN N) p 0 (fun j a hj => by
    unfold f_X10_spans_L4
    rw [q.nodes]
    simp only [Option.bind_some, lt]
    rw [if_neg (nI_ge hj (by omega))]
    obtain ⟨k, ek, k1, k2⟩ := kept_m hN q (i := j) (by omega)
    obtain ⟨o, eo, o1, o2⟩ := outGates_m hN q (v := j) (by omega)
    have ej2 : fb_ct (bt (k &&& o)) 16 = p j := by
      rw [hpe]
      refine fb_ct_cong fun g hg => ?_
      apply Bool.eq_iff_iff.mpr
      rw [b_and, Bool.and_eq_true, k2 g hg, o2 g hg, cb_t]
    unfold f_X10_outGates
    rw [ek]
    simp only [Option.bind_some]
    rw [eo]
    simp only [Option.bind_some]
    rw [bits_ct]
    simp only [Option.bind_some]
    rw [ej2, nI_add, nI_1]) (fun a => by
    unfold f_X10_spans_L4
    rw [q.nodes]
    simp only [Option.bind_some]
    rw [if_pos (Int32.le_refl _)]) (k := 2000) (by omega)
  have e16 : fb_sm p 16 = fb_sm p (nN N) := fb_sm_ext hn fun k hk _ => by
    rw [hpe]
    refine fb_ct_zero.mpr fun g _ => cb_f.mpr fun z => ?_
    have := hN.rn z.1.rg
    omega
  rw [Nat.zero_add] at h1 h2
  rw [nI_0] at h1 h2
  refine ⟨nI (fb_sm p 16), x', ?_, ?_, f1⟩
  · unfold f_X8_spans
    rw [e1]
    simp only [Option.bind_some]
    rw [h1]
    rfl
  · unfold f_X10_spans
    rw [h2, e16]
    rfl
end
