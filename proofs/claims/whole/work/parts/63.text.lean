theorem in04 (a : Int32) : f_X10_in a 0 4 = if cb (∃ k, k ≤ 4 ∧ a = nI k) = true then 1 else 0 := by
  rw [show (4 : Int32) = nI 4 from rfl, m_in0 (by omega)]
  by_cases c : ∃ k, k ≤ 4 ∧ a = nI k
  · rw [if_pos c, if_pos (cb_t.mpr c)]
  · rw [if_neg c, if_neg (fun z => c (cb_t.mp z))]
theorem M17_ok : M17 Rel := by
  rintro xc fa tr pm hm ⟨N, k, Ms, im, h⟩ a1 a2
  obtain ⟨hN, hC, hM, hz, hX, hG, hR⟩ := h.go
  have h60 := hN.m60
  obtain ⟨y, e, q, t⟩ := lays_q hN hM hz.1 hz.2 0
  have hr := h.q q
  unfold f_X9_arc f_X10_arc
  simp only [lt]
  rw [e]
  simp only [Option.bind_some]
  rw [m_isArc hN q.2.1, c_hasArc' hN hC]
  simp only [Option.bind_some]
  by_cases c : ∃ k, k < nM N ∧ a1 = nI k
  · rw [if_pos c, if_neg i1n0, if_neg i1n0]
    obtain ⟨i, hi, rfl⟩ := c
    unfold f_X10_arc_J23
    simp only [lt, throws0, if_true]
    rw [in04]
    by_cases c2 : ∃ k, k ≤ 4 ∧ a2 = nI k
    · rw [if_pos (cb_t.mpr c2), if_neg i1n0]
      unfold f_X10_arc_J45
      simp only [lt, throws0, if_true]
      obtain ⟨j, hj, rfl⟩ := c2
      rcases (show j = 0 ∨ j = 1 ∨ j = 2 ∨ j = 3 ∨ j = 4 by omega) with rfl | rfl | rfl | rfl | rfl
      · have d0 : nI 0 = (0 : Int32) := rfl
        rw [d0, if_pos rfl, if_pos rfl, m_from hN q.2.1 hi, atv_n (L := 60) (by omega) (by omega), hC.from60 hi]
        exact ⟨_, rfl, _, rfl, hr.rel, agr_L t rfl⟩
      · have d1 : nI 1 = (1 : Int32) := rfl
        rw [d1, if_neg i1n0, if_neg i1n0, if_pos rfl, if_pos rfl, m_to hN q.2.1 hi, atv_n (L := 60) (by omega) (by omega), hC.to60 hi]
        exact ⟨_, rfl, _, rfl, hr.rel, agr_L t rfl⟩
      · have d2 : nI 2 = (2 : Int32) := rfl
        have n0 : ¬ (2 : Int32) = 0 := by decide
        have n1 : ¬ (2 : Int32) = 1 := by decide
        rw [d2, if_neg n0, if_neg n0, if_neg n1, if_neg n1, if_pos rfl, if_pos rfl, c_isOpen hN hC hi, show (140 : Int32) = nI 140 from rfl, nI_add, gck_ni (by omega) (by omega), nI_clamp (by omega)]
        have v : y 82 (140 + i) = if nO N i = true then 1 else 0 := ((MNet.z.mp q.2.1).2.2.2.2.1 i hi).2.2
        by_cases ho : nO N i = true
        · rw [if_pos ho] at v
          rw [if_pos ho, if_neg i1n0]
          exact ⟨_, rfl, _, rfl, hr.rel, agr_L t v⟩
        · rw [if_neg ho] at v
          rw [if_neg ho, if_pos rfl]
          exact ⟨_, rfl, _, rfl, hr.rel, agr_L t v⟩
      · have d3 : nI 3 = (3 : Int32) := rfl
        have n0 : ¬ (3 : Int32) = 0 := by decide
        have n1 : ¬ (3 : Int32) = 1 := by decide
        have n2 : ¬ (3 : Int32) = 2 := by decide
        rw [d3, if_neg n0, if_neg n0, if_neg n1, if_neg n1, if_neg n2, if_neg n2, if_pos rfl, if_pos rfl, kind_c hN hC hG hi, kind_m hN q hi]
        exact ⟨_, rfl, _, rfl, hr.rel, agr_L t rfl⟩
      · have d4 : nI 4 = (4 : Int32) := rfl
        have n0 : ¬ (4 : Int32) = 0 := by decide
        have n1 : ¬ (4 : Int32) = 1 := by decide
        have n2 : ¬ (4 : Int32) = 2 := by decide
        have n3 : ¬ (4 : Int32) = 3 := by decide
        obtain ⟨x, ex, fx⟩ := bridge_c h.cq hi
        rw [d4, if_neg n0, if_neg n0, if_neg n1, if_neg n1, if_neg n2, if_neg n2, if_neg n3, if_neg n3, if_pos rfl, ex, bridge_m hN q hi]
        simp only [Option.bind_some]
        have hr2 := ((h.fr fx).q q).rel
        by_cases c3 : Ls N i (nT N i)
        · rw [if_pos (cb_t.mpr c3), if_neg i1n0, if_neg i1n0]
          exact ⟨_, rfl, _, rfl, hr2, agr_L t rfl⟩
        · rw [if_neg (fun z => c3 (cb_t.mp z)), if_pos rfl, if_pos rfl]
          exact ⟨_, rfl, _, rfl, hr2, agr_L t rfl⟩
    · rw [if_neg (fun z => c2 (cb_t.mp z)), if_pos rfl]
      unfold f_X10_arc_J45
      simp only [lt, throws1]
      rw [if_neg i1n0]
      have n0 : ¬ a2 = 0 := fun q => c2 ⟨0, by omega, q⟩
      have n1 : ¬ a2 = 1 := fun q => c2 ⟨1, by omega, q⟩
      have n2 : ¬ a2 = 2 := fun q => c2 ⟨2, by omega, q⟩
      have n3 : ¬ a2 = 3 := fun q => c2 ⟨3, by omega, q⟩
      have n4 : ¬ a2 = 4 := fun q => c2 ⟨4, by omega, q⟩
      rw [if_neg n0, if_neg n1, if_neg n2, if_neg n3, if_neg n4]
      exact ⟨_, rfl, _, rfl, (h.q (q.thr 2)).rel, agr_R2 (hm := up2 y 81 0 2) up2_at (by decide)⟩
  · rw [if_neg c, if_pos rfl, if_pos rfl]
    unfold f_X10_arc_J23
    simp only [lt, throws1]
    rw [if_neg i1n0]
    exact ⟨_, rfl, _, rfl, (h.q (q.thr 1)).rel, agr_R1 (hm := up2 y 81 0 1) up2_at⟩
/-! THE TEXT OF THE CHAIN -/
theorem lp_sim {σ ρ τ π : Type} {f : σ → Option (σ ⊕ ρ)} {g : τ → Option (τ ⊕ π)} (n : Nat) (I : Nat → σ → τ → Prop) (Q : ρ → π → Prop) (hstep : ∀ j s t, j < n → I j s t → ∃ s' t', f s = some (.inl s') ∧ g t = some (.inl t') ∧ I (j + 1) s' t') (hend : ∀ s t, I n s t → ∃ y z, f s = some (.inr y) ∧ g t = some (.inr z) ∧ Q y z) : ∀ (d j k : Nat) (s : σ) (t : τ), j + d = n → d < k → I j s t → ∃ y z, lp f k s = some y ∧ lp g k t = some z ∧ Q y z
  | 0, j, 0, s, t, _, hk, _ => absurd hk (Nat.lt_irrefl _)
  | 0, j, k + 1, s, t, hj, hk, hi => by
    rw [Nat.add_zero] at hj
    subst hj
    obtain ⟨y, z, e1, e2, hq⟩ := hend s t hi
    exact ⟨y, z, by rw [lp, e1]; rfl, by rw [lp, e2]; rfl, hq⟩
  | d + 1, j, 0, s, t, _, hk, _ => absurd hk (Nat.not_lt_zero _)
  | d + 1, j, k + 1, s, t, hj, hk, hi => by
    obtain ⟨s', t', e1, e2, hi2⟩ := hstep j s t (by omega) hi
    obtain ⟨y, z, e3, e4, hq⟩ := lp_sim n I Q hstep hend d (j + 1) k s' t' (by omega) (by omega) hi2
    exact ⟨y, z, by rw [lp, e1]; exact e3, by rw [lp, e2]; exact e4, hq⟩
def TX (x : gXH) (m : gIH) (w : Nat) : Prop := x.1 3 1 = nI w ∧ m 81 41 = nI w ∧ ∀ i, i < w → x.1 4 i = m 98 i
abbrev WT : Nat → Prop := fun c => c = 3 ∨ c = 4
abbrev WU : Nat → Nat → Prop := fun c j => (c = 81 ∧ j = 41) ∨ c = 98
theorem ch_n : ∀ c, c < 128 → vp_nar .byte ((nI c).toInt8.toInt32) = nI c ∧ nI c &&& (255 : Int32) = nI c := by decide +kernel
theorem add_ok {x : gXH} {m : gIH} {w ch : Nat} (h : TX x m w) (hw : w < 64) (hc : ch < 128) : ∃ x' m', f_X0_add_3 x (nI ch) = some x' ∧ f_X10_writes m (nI ch) = some m' ∧ TX x' m' (w + 1) ∧ Fr WT x x' ∧ FrM WU m m' := by
  obtain ⟨h1, h2, h3⟩ := h
  obtain ⟨n1, n2⟩ := ch_n ch hc
  unfold f_X0_add_3 f_X10_writes
  rw [h1, h2, if_neg (nI_pos (by omega)), if_neg (show ¬ (64 : Int32) ≤ nI w from nI_ge (a := w) (b := 64) hw (by omega)), gck_ni (by omega) (by omega), gck_ni (by omega) (by omega), nI_clamp (by omega), n1, n2]
  simp only [lt]
  have e1 : (sI x 4 w (nI ch)).1 3 1 = nI w := by rw [sI_row (by decide)]; exact h1
  have e2 : up2 m 98 w (nI ch) 81 41 = nI w := by rw [up2_at2 (Or.inl (by decide))]; exact h2
  rw [e1, e2]
  refine ⟨_, _, rfl, rfl, ⟨by rw [sI_at]; exact nI_1 w, by rw [up2_at]; exact nI_1 w, fun i hi => ?_⟩, (Fr.s (W := WT) (Or.inr rfl)).tr (Fr.s (Or.inl rfl)), (FrM.s (W := WU) (Or.inr rfl)).tr (FrM.s (Or.inl ⟨rfl, rfl⟩))⟩
  rw [sI_row (by decide), up2_at2 (Or.inl (by decide))]
  by_cases c : i = w
  · rw [c, sI_at, up2_at]
  · rw [sI_at2 c, up2_at2 (Or.inr c)]
    exact h3 i (by omega)
theorem dec_n : ∀ n, n < 16 → (48 : Int32) + irm (nI n) 10 = nI (48 + n % 10) ∧ (9 < n → (48 : Int32) + irm (nI n / 10) 10 = nI 49) := by decide +kernel
theorem dec_ok {x : gXH} {m : gIH} {w n : Nat} (h : TX x m w) (hw : w + 2 ≤ 64) (hn : n < 16) (b k : Int32) : ∃ x' m' w', f_X0_addDecimal_3 x (nI n) = some x' ∧ f_X10_text_J55 m b k (nI n) = some (.inl (k + 1, m')) ∧ TX x' m' w' ∧ w' ≤ w + 2 ∧ Fr WT x x' ∧ FrM WU m m' := by
  obtain ⟨d1, d2⟩ := dec_n n hn
  unfold f_X0_addDecimal_3 f_X10_text_J55 f_X0_addDecimal_3_J20 f_X10_text_J67
  by_cases c : n ≤ 9
  · rw [if_pos (show nI n < (10 : Int32) from nI_lt (a := n) (b := 10) (by omega) (by omega)), if_pos (show nI n ≤ (9 : Int32) from nI_le (a := n) (b := 9) c (by omega)), d1]
    obtain ⟨x', m', e1, e2, t, f1, f2⟩ := add_ok h (by omega) (show 48 + n % 10 < 128 by omega)
    rw [e1, e2]
    exact ⟨x', m', w + 1, rfl, rfl, t, by omega, f1, f2⟩
  · rw [if_neg (show ¬ nI n < (10 : Int32) from nI_nlt (a := n) (b := 10) (by omega) (by omega)), if_neg (show ¬ nI n ≤ (9 : Int32) from nI_ge (a := 9) (b := n) (by omega) (by omega)), d2 (by omega), d1]
    obtain ⟨x1, m1, e1, e2, t, f1, f2⟩ := add_ok h (by omega) (show 49 < 128 by omega)
    have e2 : f_X10_writes m (49 : Int32) = some m1 := e2
    rw [e1, e2]
    simp only [Option.bind_some]
    obtain ⟨x', m', e3, e4, t2, f3, f4⟩ := add_ok t (by omega) (show 48 + n % 10 < 128 by omega)
    rw [e3, e4]
    exact ⟨x', m', w + 1 + 1, rfl, rfl, t2, by omega, f1.tr f3, f2.tr f4⟩
theorem RelN.wr {N : aN} {k : Nat} {Ms : Nat → aN} {im : Option aN} {xc x : gXH} {fa tr : Nat} {pm : Nat → Nat} {hm m : gIH} (h : RelN N k Ms im xc fa tr pm hm) (f : Fr WT xc x) (g : FrM WU hm m) {w : Nat} (hw : w ≤ 64) (t : TX x m w) : RelN N k Ms im x fa tr pm m := by
  obtain ⟨hp, ⟨hN, hC, hM⟩, ⟨k8, kc, km, hs⟩, q4, q5, q6, q7, q9, ⟨hX, hG, hR⟩, h8, h10⟩ := id h
  have hpl : ∀ i, i < 8 → 21 ≤ pm i ∧ pm i ≤ 49 := fun i hi => hp.1.pml hi
  have hfa : fa = 71 ∨ fa = 76 := by
    rcases hp.1.1 with h | h <;> omega
  refine ⟨hp, ⟨hN, hC.fr f (fun c _ _ => by omega), hM.fr g (fun j => by omega)⟩, ⟨k8, ?_, ?_, fun i hi => ⟨(hs i hi).1, ?_, ?_⟩⟩, ?_, ⟨?_, ?_⟩, ?_, ?_, ⟨w, hw, t⟩, ⟨hX.cg (f.1 _ (by omega)), hG.fr f (fun c _ _ => by omega), NX.cg hR (f.1 60 (by omega))⟩, ?_, ?_⟩
  · rw [f.1 19 (by omega)]
    exact kc
  · rw [g 81 5 (by omega)]
    exact km
  · have := hpl i (by omega)
    exact (hs i hi).2.1.fr f (fun c _ _ => by omega)
  · exact (hs i hi).2.2.fr g (fun j => by omega)
  · cases im with
    | none => exact ⟨by rw [f.1 0 (by omega)]; exact q4.1, by rw [g 81 7 (by omega)]; exact q4.2⟩
    | some I => exact ⟨by rw [f.1 0 (by omega)]; exact q4.1, by rw [g 81 7 (by omega)]; exact q4.2.1, q4.2.2.1, q4.2.2.2.1.fr f (fun c _ _ => by omega), q4.2.2.2.2.fr g (fun j => by omega)⟩
  · rw [f.1 0 (by omega), g 81 27 (by omega)]
    exact q5.1
  · rw [f.1 0 (by omega), g 81 6 (by omega)]
    exact q5.2
  · rw [f.1 53 (by omega), g 81 16 (by omega), g 81 17 (by omega), g 81 18 (by omega), g 81 19 (by omega)]
    exact q6
  · obtain ⟨t, a1, a2, a3, a4⟩ := q7
    refine ⟨t, a1, by rw [f.1 1 (by omega)]; exact a2, by rw [g 81 23 (by omega)]; exact a3, fun i hi => ?_⟩
    rw [f.1 2 (by omega), g 91 i (by omega)]
    exact a4 i hi
  · rw [g 81 8 (by omega)]
    exact h8
  · rw [g 81 10 (by omega)]
    exact h10
theorem M29_ok : M29 Rel := by
  rintro xc fa tr pm hm ⟨N, k, Ms, im, h⟩ a1
  obtain ⟨hN, hC, hM, hz, hX, hG, hR⟩ := h.go
  have hcf := h.1.1.1
  have hE : E16 (Ed N 100) := hN.e16n (k1 := 100) (k2 := 100)
  obtain ⟨y, q, hr, c⟩ := one_node h a1
  unfold f_X10_text f_X9_text
  rcases c with ⟨i, hi, hi16, rfl, e, t, c⟩ | ⟨e, t, c⟩
  · rw [e, if_neg c]
    simp only [Option.bind_some, if_true, lt]
    have f0 : Fr WT xc (sI xc 3 1 0) := Fr.s (Or.inl rfl)
    have g0 : FrM WU y (up2 y 81 41 0) := FrM.s (Or.inl ⟨rfl, rfl⟩)
    have t0 : TX (sI xc 3 1 0) (up2 y 81 41 0) 0 := ⟨sI_at, up2_at, fun i hi => absurd hi (by omega)⟩
    obtain ⟨x0, ex0⟩ : ∃ x0, sI xc 3 1 0 = x0 := ⟨_, rfl⟩
    obtain ⟨m0, em0⟩ : ∃ m0, up2 y 81 41 0 = m0 := ⟨_, rfl⟩
    rw [ex0] at f0 t0
    rw [em0] at g0 t0
    rw [ex0, em0]
    have hGx : ∀ x, Fr WT xc x → GF x fa (Ed N 100) (fun s => s = nRt N) := fun x f => hG.fr f (fun c _ _ => by omega)
    have hFm : ∀ m, FrM WU y m → MF m (Ed N 100) (fun s => s = nRt N) := fun m g => q.2.2.1.cg (g _ _ (by omega)) (fun j => g _ _ (by omega)) (fun j => g _ _ (by omega)) (fun j => g _ _ (by omega))
    by_cases cr : Rc (Ed N 100) (fun s => s = nRt N) nox i
    · have d15 := dp_15 (E := Ed N 100) (S := fun s => s = nRt N) hi16
      rw [(hGx x0 f0).d1 hi16 cr]
      have key := lp_sim (f := f_X9_text_L43 fa (nI i) (nI (dp (Ed N 100) (fun s => s = nRt N) i))) (g := f_X10_text_L17 (nI i)) (dp (Ed N 100) (fun s => s = nRt N) i + 1) (fun j s t => s.1 = nI j ∧ t.1 = nI j ∧ Fr WT xc s.2 ∧ FrM WU y t.2 ∧ ∃ w, w ≤ 3 * j ∧ TX s.2 t.2 w) (fun u v => Fr WT xc u ∧ FrM WU y v ∧ ∃ w, w ≤ 64 ∧ TX u v w) (by
        rintro j ⟨a, x⟩ ⟨b, m⟩ hj ⟨ha, hb, hf, hg, w, hw, tx⟩
        dsimp only at ha hb hf hg tx
        subst ha hb
        have Gx := hGx x hf
        have Fm := hFm m hg
        obtain ⟨l, el, L1⟩ := link_ok hE hN.s16 Gx hi16 (nI j)
        obtain ⟨u, u1, u2⟩ := Up.level hE hN.s16 (dp (Ed N 100) (fun s => s = nRt N) i - j) i j (by omega)
        have hu16 : u < 16 := (u1.rx cr).lt hE hN.s16
        obtain ⟨p, ep, P1⟩ := chain_ok hE hN.s16 Fm hi16 (nI j)
        have elu : l = nI u := (L1.2 cr).1 u u1 (by rw [u2])
        have epu : p = nI u := (P1.2 cr).1 u u1 (by rw [u2])
        subst elu epu
        have hd : ¬ m 87 i < nI j := by
          rw [(Fm.2.2.1 i hi16).1 cr]
          exact nI_nlt (by omega) (by omega)
        unfold f_X9_text_L43 f_X10_text_L17
        dsimp only
        rw [if_neg (nI_nlt (by omega) (by omega)), if_neg (show ¬ (16 : Int32) ≤ nI j from nI_ge (a := j) (b := 16) (by omega) (by omega)), if_neg (fun z => (Fm.r0 hi16).mp z cr), gck_ni hi16 (by omega), nI_clamp (by omega), if_neg hd, ep]
        simp only [Option.bind_some]
        by_cases c0 : j = 0
        · subst c0
          rw [if_pos (show nI 0 ≤ (0 : Int32) from Int32.le_refl _), if_pos (show nI 0 ≤ (0 : Int32) from Int32.le_refl _)]
          unfold f_X9_text_J67
          rw [el]
          simp only [Option.bind_some]
          obtain ⟨x', m', w', e1, e2, t2, hw2, f1, f2⟩ := dec_ok tx (by omega) hu16 (nI i) (nI 0)
          rw [e1, e2]
          simp only [Option.bind_some, lt]
          exact ⟨_, _, rfl, rfl, nI_1 0, nI_1 0, hf.tr f1, hg.tr f2, w', by omega, t2⟩
        · rw [if_neg (show ¬ nI j ≤ (0 : Int32) from nI_ge (a := 0) (b := j) (by omega) (by omega)), if_neg (show ¬ nI j ≤ (0 : Int32) from nI_ge (a := 0) (b := j) (by omega) (by omega))]
          obtain ⟨x1, m1, e1, e2, t1, f1, f2⟩ := add_ok tx (by omega) (show 32 < 128 by omega)
          have e1 : f_X0_add_3 x (32 : Int32) = some x1 := e1
          have e2 : f_X10_writes m (32 : Int32) = some m1 := e2
          rw [e1, e2]
          simp only [Option.bind_some]
          obtain ⟨l, el, L1⟩ := link_ok hE hN.s16 (hGx x1 (hf.tr f1)) hi16 (nI j)
          have elu : l = nI u := (L1.2 cr).1 u u1 (by rw [u2])
          subst elu
          unfold f_X9_text_J67
          rw [el]
          simp only [Option.bind_some]
          obtain ⟨x', m', w', e3, e4, t2, hw2, f3, f4⟩ := dec_ok t1 (by omega) hu16 (nI i) (nI j)
          rw [e3, e4]
          simp only [Option.bind_some, lt]
          exact ⟨_, _, rfl, rfl, nI_1 j, nI_1 j, (hf.tr f1).tr f3, (hg.tr f2).tr f4, w', by omega, t2⟩) (by
        rintro ⟨a, x⟩ ⟨b, m⟩ ⟨ha, hb, hf, hg, w, hw, tx⟩
        dsimp only at ha hb hf hg tx
        subst ha hb
        have Fm := hFm m hg
        have hd : m 87 i < nI (dp (Ed N 100) (fun s => s = nRt N) i + 1) := by
          rw [(Fm.2.2.1 i hi16).1 cr]
          exact nI_lt (by omega) (by omega)
        unfold f_X9_text_L43 f_X10_text_L17
        dsimp only
        rw [if_pos (nI_lt (by omega) (by omega)), if_neg (fun z => (Fm.r0 hi16).mp z cr), gck_ni hi16 (by omega), nI_clamp (by omega), if_pos hd]
        exact ⟨_, _, rfl, rfl, hf, hg, w, by omega, tx⟩) (dp (Ed N 100) (fun s => s = nRt N) i + 1) 0 2000 (0, x0) (0, m0) (by omega) (by omega) ⟨rfl, rfl, f0, g0, 0, by omega, t0⟩
      obtain ⟨u, v, eu, ev, fu, gv, w, hw, tx⟩ := key
      rw [eu, ev]
      simp only [Option.bind_some]
      exact ⟨_, rfl, _, rfl, ((h.q q).wr fu gv hw tx).rel, agr_L (hm := v) (by rw [gv 81 0 (by omega)]; exact t) (tx.2.1.trans tx.1.symm)⟩
    · rw [(hGx x0 f0).d0 hi16 cr]
      have eu : lp (f_X9_text_L43 fa (nI i) (-1)) 2000 (0, x0) = some x0 := by
        rw [lp]
        unfold f_X9_text_L43
        rw [if_pos (show (-1 : Int32) < 0 by decide)]
        rfl
      have ev : lp (f_X10_text_L17 (nI i)) 2000 (0, m0) = some m0 := by
        rw [lp]
        unfold f_X10_text_L17
        rw [if_pos (((hFm m0 g0).r0 hi16).mpr cr)]
        rfl
      rw [eu, ev]
      simp only [Option.bind_some]
      exact ⟨_, rfl, _, rfl, ((h.q q).wr f0 g0 (by omega) t0).rel, agr_L (hm := m0) (by rw [g0 81 0 (by omega)]; exact t) (t0.2.1.trans t0.1.symm)⟩
  · rw [e, if_pos c]
    simp only [Option.bind_some]
    rw [if_neg i1n0]
    exact ⟨_, rfl, _, rfl, hr.rel, agr_R1 t⟩
