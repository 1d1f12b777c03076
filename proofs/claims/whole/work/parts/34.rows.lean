theorem ts_nf {x : Bool} (h : ¬ x = false) : x = true := by cases x <;> first | rfl | exact absurd rfl h
theorem ts_nt {x : Bool} (h : ¬ x = true) : x = false := by cases x <;> first | rfl | exact absurd rfl h
theorem ts_bit {w : Int64} {s : UInt64} {j : Nat} (hj : j < 64) (hs : s.toNat = j) : ((w.toUInt64 >>> s).toInt64 &&& 1) = 0 ↔ w.toBitVec.getLsbD j = false := by
  have e : (w.toUInt64 >>> s).toInt64.toBitVec = w.toBitVec >>> j := by
    apply BitVec.eq_of_toNat_eq
    show (w.toUInt64 >>> s).toNat = _
    rw [UInt64.toNat_shiftRight, hs, Nat.mod_eq_of_lt hj, BitVec.toNat_ushiftRight]
    rfl
  rw [← Int64.toBitVec_inj, Int64.toBitVec_and, e]
  show w.toBitVec >>> j &&& 1#64 = 0#64 ↔ _
  constructor
  · intro h
    have t := congrArg (fun x => x.getLsbD 0) h
    simpa using t
  · intro h
    apply BitVec.eq_of_getLsbD_eq
    intro i hi
    cases i with
    | zero => simp [h]
    | succ i => simp
theorem wb_cu : ∀ k, k < 64 → ((nI k).toInt64.toUInt64 &&& Int64.toUInt64 63) = UInt64.ofNat k := by decide +kernel
/-! THE CLASS'S ROWS: frames, filling, weighing -/
def Fr (W : Nat → Prop) (xc xc' : gXH) : Prop := (∀ c, ¬ W c → xc'.1 c = xc.1 c) ∧ xc'.2 = xc.2
theorem Fr.rf {W : Nat → Prop} {x : gXH} : Fr W x x := ⟨fun _ _ => rfl, rfl⟩
theorem Fr.tr {W : Nat → Prop} {x y z : gXH} (h1 : Fr W x y) (h2 : Fr W y z) : Fr W x z := ⟨fun c hc => (h2.1 c hc).trans (h1.1 c hc), h2.2.trans h1.2⟩
theorem Fr.mono {W W' : Nat → Prop} {x y : gXH} (h : Fr W x y) (hw : ∀ c, W c → W' c) : Fr W' x y := ⟨fun c hc => h.1 c (fun q => hc (hw c q)), h.2⟩
theorem sI_row {x : gXH} {c j : Nat} {v : Int32} {c' : Nat} (h : c' ≠ c) : (sI x c j v).1 c' = x.1 c' := up2_ne h
theorem sI_at {x : gXH} {c j : Nat} {v : Int32} : (sI x c j v).1 c j = v := by simp [sI, up2]
theorem sI_at2 {x : gXH} {c j : Nat} {v : Int32} {j' : Nat} (h : j' ≠ j) : (sI x c j v).1 c j' = x.1 c j' := by simp [sI, up2, h]
theorem sI_2 {x : gXH} {c j : Nat} {v : Int32} : (sI x c j v).2 = x.2 := rfl
theorem Fr.s {W : Nat → Prop} {x : gXH} {c j : Nat} {v : Int32} (h : W c) : Fr W x (sI x c j v) := ⟨fun c' hc => sI_row (fun q => hc (by rw [q]; exact h)), rfl⟩
theorem NX.cg {xc xc' : gXH} {c : Nat} {E : Nat → Nat → Prop} (h : NX xc c E) (hr : xc'.1 c = xc.1 c) : NX xc' c E := by
  unfold NX
  rw [hr]
  exact h
theorem fill_ok (c L : Nat) (hL : L ≤ 1600) (xc : gXH) (v : Int32) : ∃ y, f_J7_fill_53178 c L xc v = some y ∧ (∀ j, j < L → y.1 c j = v) ∧ Fr (fun q => q = c) xc y := by
  unfold f_J7_fill_53178
  simp only [lt]
  refine Exists.elim (lp_for (step := f_J7_fill_53178_L5 c L v (Int32.ofNat L)) L (fun j s => s.1 = nI j ∧ (∀ i, i < j → s.2.1 c i = v) ∧ Fr (fun q => q = c) xc s.2) (fun y => (∀ j, j < L → y.1 c j = v) ∧ Fr (fun q => q = c) xc y) ?_ ?_ (s := (0, xc)) (k := 2000) ⟨rfl, fun i hi => by omega, Fr.rf⟩ (by omega)) (fun y hh => ⟨y, by rw [hh.1]; rfl, hh.2⟩)
  · rintro j ⟨i, x⟩ hj ⟨h0, h1, h2⟩
    simp only at h0 h1 h2
    subst h0
    unfold f_J7_fill_53178_L5
    rw [if_neg (by show ¬ nI L ≤ nI j; rw [nI_leI (by omega) (by omega)]; omega), gck_ni hj (by omega), nI_clamp (by omega)]
    refine ⟨_, rfl, nI_1 j, fun i hi => ?_, h2.tr (Fr.s rfl)⟩
    by_cases hij : i = j
    · subst hij; exact sI_at
    · exact (sI_at2 hij).trans (h1 i (by omega))
  · rintro ⟨i, x⟩ ⟨h0, h1, h2⟩
    simp only at h0 h1 h2
    subst h0
    unfold f_J7_fill_53178_L5
    rw [if_pos (by show nI L ≤ nI L; exact Int32.le_refl _)]
    exact ⟨x, rfl, h1, h2⟩
theorem c_hasArc {xc : gXH} {N : aN} (hN : aOk N) (h : CNet xc 7 N) {j : Nat} (hj : j < 2 ^ 31) : f_X6_hasArc xc (nI j) = if j < nM N then 1 else 0 := by
  have := hN.m60
  unfold f_X6_hasArc
  rw [if_neg (nI_pos hj), h.2.2.2.1]
  by_cases q : j < nM N
  · rw [if_neg (by rw [nI_leI (by omega) hj]; omega), if_pos q]
  · rw [if_pos (by rw [nI_leI (by omega) hj]; omega), if_neg q]
theorem c_isOpen {xc : gXH} {N : aN} (hN : aOk N) (h : CNet xc 7 N) {j : Nat} (hj : j < nM N) : f_X6_isOpen xc (nI j) = if nO N j = true then 1 else 0 := by
  have := hN.m60
  unfold f_X6_isOpen
  rw [c_hasArc hN h (by omega), if_pos hj, if_neg (by decide)]
  have hb := h.2.2.2.2.2.1 j (by omega)
  rw [decide_eq_true hj, Bool.true_and] at hb
  have e : ((lush (xc.2 7 7) (nI j)) &&& (1 : Int64) = 0) ↔ nO N j = false := by
    unfold lush
    rw [wb_cu j (by omega), ts_bit (j := j) (by omega) (by show (UInt64.ofNat j).toNat = j; exact Nat.mod_eq_of_lt (by omega)), hb]
  by_cases q : nO N j = true
  · rw [if_neg (fun z => by rw [lg_cmp_eq, e, q] at z; cases z), if_pos q]
  · rw [if_pos (by rw [lg_cmp_eq, e]; simpa using q), if_neg q]
theorem CNet.from60 {xc : gXH} {g : Nat} {N : aN} (h : CNet xc g N) {a : Nat} (ha : a < nM N) : xc.1 (g + 1) a = nI (nF N a) := (h.2.2.2.2.1 a ha).1
theorem CNet.to60 {xc : gXH} {g : Nat} {N : aN} (h : CNet xc g N) {a : Nat} (ha : a < nM N) : xc.1 (g + 2) a = nI (nT N a) := (h.2.2.2.2.1 a ha).2
theorem CNet.cg {xc xc' : gXH} {g : Nat} {N : aN} (h : CNet xc g N) (h0 : xc'.1 g = xc.1 g) (h1 : xc'.1 (g + 1) = xc.1 (g + 1)) (h2 : xc'.1 (g + 2) = xc.1 (g + 2)) (h3 : xc'.1 (g + 3) = xc.1 (g + 3)) (h4 : xc'.2 g = xc.2 g) : CNet xc' g N := by
  unfold CNet
  rw [h0, h1, h2, h3, h4]
  exact h
theorem CNet.fr {W : Nat → Prop} {xc xc' : gXH} {g : Nat} {N : aN} (h : CNet xc g N) (hf : Fr W xc xc') (hw : ∀ c, g ≤ c → c ≤ g + 3 → ¬ W c) : CNet xc' g N :=
  h.cg (hf.1 g (hw g (by omega) (by omega))) (hf.1 _ (hw _ (by omega) (by omega))) (hf.1 _ (hw _ (by omega) (by omega))) (hf.1 _ (hw _ (by omega) (by omega))) (by rw [hf.2])
/-- the net's arcs as sets of followers, one left out -/
theorem netfill_ok {xc : gXH} {N : aN} (hN : aOk N) (h : CNet xc 7 N) (c1 : Nat) (hc : 10 < c1) (k : Nat) : ∃ y, f_X6_fill c1 xc (skI k) = some y ∧ NX y c1 (Ed N k) ∧ Fr (fun q => q = c1) xc y := by
  have h60 := hN.m60
  unfold f_X6_fill
  obtain ⟨y0, e0, z1, z2⟩ := fill_ok c1 16 (by omega) xc 0
  rw [e0]
  simp only [Option.bind_some]
  refine Exists.elim (lp_for (step := f_X6_fill_L7 c1 (skI k)) (nM N) (fun j s => s.1 = nI j ∧ Fr (fun q => q = c1) xc s.2 ∧ ∀ u, u < 16 → S16 (s.2.1 c1 u) ∧ ∀ v, v < 16 → (bt (s.2.1 c1 u) v = true ↔ ∃ a, a < j ∧ nO N a = true ∧ a ≠ k ∧ nF N a = u ∧ nT N a = v)) (fun y => NX y c1 (Ed N k) ∧ Fr (fun q => q = c1) xc y) ?_ ?_ (s := (0, y0)) (k := 2000) ⟨rfl, z2, fun u hu => ?_⟩ (by omega)) (fun y hh => ⟨y, by rw [hh.1]; rfl, hh.2⟩)
  · rintro j ⟨i, x⟩ hj ⟨h0, h1, h2⟩
    simp only at h0 h1 h2
    subst h0
    have hx : CNet x 7 N := h.fr h1 (fun c a b => by omega)
    have stay : (nO N j = true → j ≠ k → False) → (nI j + 1 = nI (j + 1) ∧ Fr (fun q => q = c1) xc x ∧ ∀ u, u < 16 → S16 (x.1 c1 u) ∧ ∀ v, v < 16 → (bt (x.1 c1 u) v = true ↔ ∃ a, a < j + 1 ∧ nO N a = true ∧ a ≠ k ∧ nF N a = u ∧ nT N a = v)) := by
      intro hno
      refine ⟨nI_1 j, h1, fun u hu => ⟨(h2 u hu).1, fun v hv => ?_⟩⟩
      rw [(h2 u hu).2 v hv]
      constructor
      · rintro ⟨a, a1, a2, a3, a4⟩
        exact ⟨a, by omega, a2, a3, a4⟩
      · rintro ⟨a, a1, a2, a3, a4⟩
        refine ⟨a, ?_, a2, a3, a4⟩
        rcases Nat.lt_or_ge a j with q | q
        · exact q
        · have : a = j := by omega
          subst this
          exact absurd a3 (fun z => hno a2 z)
    unfold f_X6_fill_L7
    rw [if_neg (by show ¬ x.1 7 6 ≤ nI j; rw [hx.2.2.2.1, nI_leI (by omega) (by omega)]; omega), if_neg (by show ¬ nI 60 ≤ nI j; rw [nI_leI (by omega) (by omega)]; omega)]
    by_cases a1 : nI j = skI k
    · rw [if_pos a1]
      exact ⟨_, rfl, stay fun _ q => q ((skI_eq (by omega)).mp a1).1⟩
    rw [if_neg a1, c_isOpen hN hx hj]
    by_cases a2 : nO N j = true
    · rw [if_neg (by rw [bi01, a2]; decide)]
      simp only [lt]
      rw [atv_n (L := 60) (by omega) (by omega), atv_n (L := 60) (by omega) (by omega), hx.from60 hj, hx.to60 hj, atv_n (L := 16) (hN.f16 hj) (by omega), putv_n (L := 16) (hN.f16 hj) (by omega)]
      have hjk : j ≠ k := fun q => a1 ((skI_eq (by omega)).mpr ⟨q, by omega⟩)
      refine ⟨_, rfl, nI_1 j, h1.tr (Fr.s rfl), fun u hu => ?_⟩
      by_cases hu2 : u = nF N j
      · have er : (sI x c1 (nF N j) (x.1 c1 (nF N j) ||| f_X9_only (nI (nT N j)))).1 c1 u = x.1 c1 u ||| ((1 : Int32) <<< (nI (nT N j) &&& 31)) := by
          rw [hu2]; exact sI_at
        show S16 ((sI x c1 (nF N j) (x.1 c1 (nF N j) ||| f_X9_only (nI (nT N j)))).1 c1 u) ∧ _
        rw [er]
        obtain ⟨g1, g2⟩ := bt_set (hN.t16 hj) (h2 u hu).1
        refine ⟨g1, fun v hv => ?_⟩
        rw [g2, (h2 u hu).2 v hv]
        constructor
        · rintro (⟨a, b1, b2, b3, b4⟩ | q)
          · exact ⟨a, by omega, b2, b3, b4⟩
          · exact ⟨j, by omega, a2, hjk, hu2.symm, q.symm⟩
        · rintro ⟨a, b1, b2, b3, b4, b5⟩
          rcases Nat.lt_or_ge a j with q | q
          · exact Or.inl ⟨a, q, b2, b3, b4, b5⟩
          · have : a = j := by omega
            subst this
            exact Or.inr b5.symm
      · have er : (sI x c1 (nF N j) (x.1 c1 (nF N j) ||| f_X9_only (nI (nT N j)))).1 c1 u = x.1 c1 u := sI_at2 hu2
        show S16 ((sI x c1 (nF N j) (x.1 c1 (nF N j) ||| f_X9_only (nI (nT N j)))).1 c1 u) ∧ ∀ v, v < 16 → (bt ((sI x c1 (nF N j) (x.1 c1 (nF N j) ||| f_X9_only (nI (nT N j)))).1 c1 u) v = true ↔ _)
        rw [er]
        refine ⟨(h2 u hu).1, fun v hv => ?_⟩
        rw [(h2 u hu).2 v hv]
        constructor
        · rintro ⟨a, b1, b2, b3, b4⟩
          exact ⟨a, by omega, b2, b3, b4⟩
        · rintro ⟨a, b1, b2, b3, b4, b5⟩
          rcases Nat.lt_or_ge a j with q | q
          · exact ⟨a, q, b2, b3, b4, b5⟩
          · have : a = j := by omega
            subst this
            exact absurd b4.symm hu2
    · rw [if_pos (by rw [bi01]; simpa using a2)]
      exact ⟨_, rfl, stay fun q _ => a2 q⟩
  · rintro ⟨i, x⟩ ⟨h0, h1, h2⟩
    simp only at h0 h1 h2
    subst h0
    have hx : CNet x 7 N := h.fr h1 (fun c a b => by omega)
    unfold f_X6_fill_L7
    rw [if_pos (by show x.1 7 6 ≤ nI (nM N); rw [hx.2.2.2.1]; exact Int32.le_refl _)]
    refine ⟨x, rfl, fun u hu => ⟨(h2 u hu).1, fun v hv => ?_⟩, h1⟩
    rw [(h2 u hu).2 v hv]
    constructor
    · rintro ⟨a, a1, a2, a3, a4, a5⟩
      exact Or.inl ⟨a, a1, a2, a3, by omega, a4, a5⟩
    · rintro (⟨a, a1, a2, a3, a4, a5, a6⟩ | q)
      · exact ⟨a, a1, a2, a3, a5, a6⟩
      · cases q
  · show S16 (y0.1 c1 u) ∧ ∀ v, v < 16 → (bt (y0.1 c1 u) v = true ↔ _)
    rw [z1 u hu]
    refine ⟨s16_0, fun v hv => ?_⟩
    rw [b_0]
    simp
/-! weighing -/
def KpI (E : Nat → Nat → Prop) (S : Nat → Prop) (v : Nat) (i : Int32) : Prop := (∀ k, IsK E S k v → i = nI k) ∧ ((∀ k, ¬ Dm E S k v) → i = -1)
/-- the rows of a weighing at the cell g -/
def GF (y : gXH) (g : Nat) (E : Nat → Nat → Prop) (S : Nat → Prop) : Prop :=
  (S16 (y.1 g 4) ∧ ∀ v, v < 16 → (bt (y.1 g 4) v = true ↔ Rc E S nox v)) ∧
  (∀ v, v < 16 → S16 (y.1 (g + 2) v) ∧ ∀ x, x < 16 → (bt (y.1 (g + 2) v) x = true ↔ Dm E S x v)) ∧
  (∀ v, v < 16 → S16 (y.1 (g + 3) v) ∧ ∀ x, x < 16 → (bt (y.1 (g + 3) v) x = true ↔ Dm E S v x)) ∧
  (∀ v, v < 16 → KpI E S v (y.1 (g + 4) v))
theorem GF.cg {x y : gXH} {g : Nat} {E : Nat → Nat → Prop} {S : Nat → Prop} (h : GF x g E S) (h0 : y.1 g = x.1 g) (h2 : y.1 (g + 2) = x.1 (g + 2)) (h3 : y.1 (g + 3) = x.1 (g + 3)) (h4 : y.1 (g + 4) = x.1 (g + 4)) : GF y g E S := by
  unfold GF
  rw [h0, h2, h3, h4]
  exact h
theorem GF.fr {W : Nat → Prop} {x y : gXH} {g : Nat} {E : Nat → Nat → Prop} {S : Nat → Prop} (h : GF x g E S) (hf : Fr W x y) (hw : ∀ c, g ≤ c → c ≤ g + 4 → ¬ W c) : GF y g E S :=
  h.cg (hf.1 g (hw g (by omega) (by omega))) (hf.1 _ (hw _ (by omega) (by omega))) (hf.1 _ (hw _ (by omega) (by omega))) (hf.1 _ (hw _ (by omega) (by omega)))
/-- the deepest of a set, by the rows of gates -/
theorem deepest_ok {xc : gXH} {g : Nat} (hs : ∀ v, v < 16 → S16 (xc.1 (g + 2) v)) (s : Int32) (h16 : S16 s) :
    ∃ y, f_X3_deepest g xc s = some y ∧ ((∀ v, v < 16 → bt s v = false) → y = -1) ∧ ∀ v, v < 16 → bt s v = true → ∃ k, k < 16 ∧ bt s k = true ∧ y = nI k ∧ ∀ w, w < 16 → bt s w = true → fb_ct (bt (xc.1 (g + 2) w)) 16 ≤ fb_ct (bt (xc.1 (g + 2) k)) 16 := by
  refine Exists.elim (lp_forx (step := f_X3_deepest_L7 g xc s) 16
    (fun j t => t.2.2 = nI j ∧ (((∀ v, v < j → bt s v = false) ∧ t.1 = -1 ∧ t.2.1 = -1) ∨ ∃ k, k < j ∧ bt s k = true ∧ t.1 = nI k ∧ t.2.1 = nI (fb_ct (bt (xc.1 (g + 2) k)) 16) ∧ ∀ w, w < j → bt s w = true → fb_ct (bt (xc.1 (g + 2) w)) 16 ≤ fb_ct (bt (xc.1 (g + 2) k)) 16))
    (fun y => ((∀ v, v < 16 → bt s v = false) → y = -1) ∧ ∀ v, v < 16 → bt s v = true → ∃ k, k < 16 ∧ bt s k = true ∧ y = nI k ∧ ∀ w, w < 16 → bt s w = true → fb_ct (bt (xc.1 (g + 2) w)) 16 ≤ fb_ct (bt (xc.1 (g + 2) k)) 16) ?_ ?_ (s := (-1, -1, 0)) (k := 2000) ⟨rfl, Or.inl ⟨fun v hv => by omega, rfl, rfl⟩⟩ (by omega)) (fun y hh => ⟨y, by unfold f_X3_deepest; rw [hh.1]; rfl, hh.2⟩)
  · rintro j ⟨f, m, i⟩ hj ⟨h0, h1⟩
    simp only at h0 h1
    subst h0
    unfold f_X3_deepest_L7
    rw [if_neg (by show ¬ nI 16 ≤ nI j; rw [nI_leI (by omega) (by omega)]; omega)]
    by_cases hz : s = 0
    · right
      refine ⟨f, by rw [if_pos hz], fun _ => ?_, fun v hv hb => by rw [hz, b_0] at hb; cases hb⟩
      rcases h1 with h1 | ⟨k, _, hk, _⟩
      · exact h1.2.1
      · rw [hz, b_0] at hk; cases hk
    · left
      rw [if_neg hz]
      simp only [lt]
      rw [atv_n (L := 16) hj (by omega), bc_ct (hs j hj)]
      by_cases hb : bt s j = true
      · rw [if_neg (by rw [has0 _ (by omega), hb]; decide)]
        have hc := fb_ct_le (bt (xc.1 (g + 2) j)) 16
        rcases h1 with ⟨a1, a2, a3⟩ | ⟨k, a1, a2, a3, a4, a5⟩
        · rw [if_neg (by
            rw [a3]
            intro q
            have := Int32.le_iff_toInt_le.mp q
            rw [nI_toInt (by omega)] at this
            have e : (-1 : Int32).toInt = -1 := by decide
            omega)]
          refine ⟨_, rfl, nI_1 j, Or.inr ⟨j, by omega, hb, rfl, rfl, fun w hw hw2 => ?_⟩⟩
          rcases Nat.lt_or_ge w j with q | q
          · rw [a1 w q] at hw2; cases hw2
          · rw [show w = j by omega]; exact Nat.le_refl _
        · have hck := fb_ct_le (bt (xc.1 (g + 2) k)) 16
          rw [a4]
          by_cases hle : fb_ct (bt (xc.1 (g + 2) j)) 16 ≤ fb_ct (bt (xc.1 (g + 2) k)) 16
          · rw [if_pos (nI_le hle (by omega))]
            refine ⟨_, rfl, nI_1 j, Or.inr ⟨k, by omega, a2, a3, rfl, fun w hw hw2 => ?_⟩⟩
            rcases Nat.lt_or_ge w j with q | q
            · exact a5 w q hw2
            · rw [show w = j by omega]; exact hle
          · rw [if_neg (nI_ge (by omega) (by omega))]
            refine ⟨_, rfl, nI_1 j, Or.inr ⟨j, by omega, hb, rfl, rfl, fun w hw hw2 => ?_⟩⟩
            rcases Nat.lt_or_ge w j with q | q
            · have := a5 w q hw2; omega
            · rw [show w = j by omega]; exact Nat.le_refl _
      · rw [if_pos (by rw [has0 _ (by omega)]; simpa using hb)]
        refine ⟨_, rfl, nI_1 j, ?_⟩
        rcases h1 with ⟨a1, a2, a3⟩ | ⟨k, a1, a2, a3, a4, a5⟩
        · refine Or.inl ⟨fun v hv => ?_, a2, a3⟩
          rcases Nat.lt_or_ge v j with q | q
          · exact a1 v q
          · rw [show v = j by omega]; simpa using hb
        · refine Or.inr ⟨k, by omega, a2, a3, a4, fun w hw hw2 => ?_⟩
          rcases Nat.lt_or_ge w j with q | q
          · exact a5 w q hw2
          · rw [show w = j by omega] at hw2; exact absurd hw2 hb
  · rintro ⟨f, m, i⟩ ⟨h0, h1⟩
    simp only at h0 h1
    subst h0
    unfold f_X3_deepest_L7
    rw [if_pos (by show nI 16 ≤ nI 16; exact Int32.le_refl _)]
    refine ⟨f, rfl, ?_, ?_⟩
    · intro hz
      rcases h1 with h1 | ⟨k, a1, a2, _⟩
      · exact h1.2.1
      · rw [hz k a1] at a2; cases a2
    · intro v hv hb
      rcases h1 with h1 | ⟨k, a1, a2, a3, a4, a5⟩
      · rw [h1.1 v hv] at hb; cases hb
      · exact ⟨k, a1, a2, a3, a5⟩
