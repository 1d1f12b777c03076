/-! VIA, END, OCTET; NEAR -/
theorem M22_ok : M22 Rel := by
  rintro xc fa tr pm hm ⟨N, k, Ms, im, h⟩ a1 a2
  obtain ⟨hN, hC, hM, hz, hX, hG, hR⟩ := h.go
  have hn := hN.n16
  have hE16 := hN.e16n (k1 := 100) (k2 := 100)
  obtain ⟨y, q, hr, c⟩ := one_node h a1
  unfold f_X10_via f_X9_via
  rcases c with ⟨i, hi, hi16, rfl, e, t, c⟩ | ⟨e, t, c⟩
  · rw [e, if_neg c]
    simp only [Option.bind_some, if_true]
    obtain ⟨y2, q2, hr2, c2⟩ := one_node hr a2
    rcases c2 with ⟨j, hj, hj16, rfl, e2, t2, c2⟩ | ⟨e2, t2, c2⟩
    · rw [e2, if_neg c2]
      simp only [Option.bind_some, if_true]
      have x0 : ∀ x, bt (0 : Int32) x = true ↔ nox x := fun x => by rw [b_0]; simp [nox]
      have sp : ∀ b : Int32, ∃ a, f_X9_spread (fa + 1) xc (f_X9_only (nI i)) b = some a ∧ S16 a ∧ ∀ v, v < 16 → (bt a v = true ↔ Rc (Ed N 100) (fun s => s = i) (fun s => bt b s = true) v) := fun b => by
        obtain ⟨a, e1, e2, e3⟩ := spread_ok hE16 hX (f_X9_only (nI i)) b (s16_one hi16)
        exact ⟨a, e1, e2, fun v hv => by rw [e3 v hv]; exact Rc.congr (fun _ _ => Iff.rfl) (fun s => bt_one16 hi16 s) (fun _ => Iff.rfl)⟩
      have mp : ∀ b : Int32, ∃ a, f_X10_reach y2 ((1 : Int32) <<< (nI i &&& 31)) b (-1) = some a ∧ S16 a ∧ ∀ v, v < 16 → (bt a v = true ↔ Rc (Ed N 100) (fun s => s = i) (fun s => bt b s = true) v) := fun b => by
        obtain ⟨a, e1, e2, e3⟩ := m_reach hN q2.2.1 100 100 (by rw [q2.2.2.2.2]; rfl) none q2.2.2.2.1 ((1 : Int32) <<< (nI i &&& 31)) b (s16_one hi16)
        exact ⟨a, e1, e2, fun v hv => by rw [e3 v hv]; exact Rc.congr (fun _ _ => Iff.rfl) (fun s => bt_one16 hi16 s) (fun _ => Iff.rfl)⟩
      obtain ⟨a, ea, a1, a2⟩ := sp 0
      obtain ⟨b, eb, b1, b2⟩ := mp 0
      have hx : ∀ g v, g < 16 → (Rc (Ed N 100) (fun s => s = i) (fun s => bt ((1 : Int32) <<< (nI g &&& 31)) s = true) v ↔ Rc (Ed N 100) (fun s => s = i) (fun s => s = g) v) := fun g v hg => Rc.congr (fun _ _ => Iff.rfl) (fun _ => Iff.rfl) (fun s => bt_one16 hg s)
      have hab : bt a j = bt b j := by
        apply Bool.eq_iff_iff.mpr
        rw [a2 j hj16, b2 j hj16]
      unfold f_X8_between
      rw [ea, eb]
      simp only [Option.bind_some]
      by_cases hre : bt b j = true
      · rw [if_neg (by rw [has0 _ (by omega), hab, hre]; decide), if_neg (by rw [holds0 _ (by omega), hre]; decide)]
        simp only [lt]
        obtain ⟨o, eo⟩ : ∃ o, (a &&& (f_X9_only (nI i) ^^^ (-1))) &&& (f_X9_only (nI j) ^^^ (-1)) = o := ⟨_, rfl⟩
        rw [eo]
        have ho : ∀ v, v < 16 → (bt o v = true ↔ Rc (Ed N 100) (fun s => s = i) nox v ∧ v ≠ i ∧ v ≠ j) := fun v hv => by
          rw [← eo, b_and, b_and, bt_not _ (by omega), bt_not _ (by omega), bt_only (by omega) (by omega), bt_only (by omega) (by omega)]
          have := (a2 v hv).trans (Rc.congr (fun _ _ => Iff.rfl) (fun _ => Iff.rfl) x0)
          rw [← this]
          cases bt a v <;> simp
        obtain ⟨P, hP⟩ : ∃ P : Nat → Prop, (fun g => g ≠ i ∧ g ≠ j ∧ ¬ Rc (Ed N 100) (fun s => s = i) (fun s => s = g) j) = P := ⟨_, rfl⟩
        have hPe : ∀ g, P g ↔ g ≠ i ∧ g ≠ j ∧ ¬ Rc (Ed N 100) (fun s => s = i) (fun s => s = g) j := fun g => by rw [← hP]
        have hij : Rc (Ed N 100) (fun s => s = i) nox j := ((b2 j hj16).mp hre).mono (fun _ _ h => h) (fun s p _ => Rc.base p (fun z => z)) (fun x z => z.elim)
        -- who is not reached from i is on no way
        have hPr : ∀ g, P g → Rc (Ed N 100) (fun s => s = i) nox g := fun g hg => by
          obtain ⟨g1, g2, g3⟩ := (hPe g).mp hg
          exact Dm.rg (E := Ed N 100) (S := fun s => s = i) ⟨hij, g2, g3⟩
        obtain ⟨w, ew, w1, w2⟩ := lp_set (step := f_X8_between_L49 fa xc (nI i) (nI j) o) 16 (by omega) P 0 s16_0 (fun g s hg hp => by
            obtain ⟨g1, g2, g3⟩ := (hPe g).mp hp
            unfold f_X8_between_L49
            rw [if_neg (ge16 hg), if_neg (by rw [has0 _ (by omega), (ho g hg).mpr ⟨hPr g hp, g1, g2⟩]; decide)]
            obtain ⟨u, eu, u1, u2⟩ := sp (f_X9_only (nI g))
            rw [eu]
            simp only [Option.bind_some, lt]
            rw [if_pos, nI_1]
            · rfl
            · rw [has0 _ (by omega), ← Bool.not_eq_true, u2 j hj16]
              exact fun z => g3 ((hx g j hg).mp z)) (fun g s hg hp => by
            unfold f_X8_between_L49
            rw [if_neg (ge16 hg)]
            simp only [lt, nI_1]
            by_cases c3 : bt o g = true
            · rw [if_neg (by rw [has0 _ (by omega), c3]; decide)]
              obtain ⟨u, eu, u1, u2⟩ := sp (f_X9_only (nI g))
              rw [eu]
              simp only [Option.bind_some]
              rw [if_neg]
              rw [has0 _ (by omega), ← Bool.not_eq_true, u2 j hj16]
              obtain ⟨-, o2, o3⟩ := (ho g hg).mp c3
              exact fun z => hp ((hPe g).mpr ⟨o2, o3, fun w => z ((hx g j hg).mpr w)⟩)
            · rw [if_pos (by rw [has0 _ (by omega)]; simpa using c3)]) (fun s => by
            unfold f_X8_between_L49
            rw [if_pos le16]) (k := 2000) (by omega)
        obtain ⟨m, em, m1, m2⟩ := lp_set (step := f_X10_via_L41 y2 (nI i) (nI j)) (nN N) hn P 0 s16_0 (fun g s hg hp => by
            obtain ⟨g1, g2, g3⟩ := (hPe g).mp hp
            unfold f_X10_via_L41
            rw [q2.nodes]
            simp only [Option.bind_some, lt]
            rw [if_neg (nI_ge hg (by omega)), if_neg (by rw [nI_eq (by omega) (by omega)]; exact g1), if_neg (by rw [nI_eq (by omega) (by omega)]; exact g2)]
            obtain ⟨u, eu, u1, u2⟩ := mp ((1 : Int32) <<< (nI g &&& 31))
            rw [eu]
            simp only [Option.bind_some]
            rw [if_pos, nI_1]
            rw [holds0 _ (by omega), ← Bool.not_eq_true, u2 j hj16]
            exact fun z => g3 ((hx g j (by omega)).mp z)) (fun g s hg hp => by
            unfold f_X10_via_L41
            rw [q2.nodes]
            simp only [Option.bind_some, lt, nI_1]
            rw [if_neg (nI_ge hg (by omega))]
            by_cases g1 : g = i
            · rw [if_pos (by rw [g1])]
            rw [if_neg (by rw [nI_eq (by omega) (by omega)]; exact g1)]
            by_cases g2 : g = j
            · rw [if_pos (by rw [g2])]
            rw [if_neg (by rw [nI_eq (by omega) (by omega)]; exact g2)]
            obtain ⟨u, eu, u1, u2⟩ := mp ((1 : Int32) <<< (nI g &&& 31))
            rw [eu]
            simp only [Option.bind_some]
            rw [if_neg]
            rw [holds0 _ (by omega), ← Bool.not_eq_true, u2 j hj16]
            exact fun z => hp ((hPe g).mpr ⟨g1, g2, fun w => z ((hx g j (by omega)).mpr w)⟩)) (fun s => by
            unfold f_X10_via_L41
            rw [q2.nodes]
            simp only [Option.bind_some]
            rw [if_pos (Int32.le_refl _)]) (k := 2000) (by omega)
        rw [ew, em]
        refine ⟨_, rfl, _, rfl, hr2.rel, agr_L t2 ?_⟩
        refine m1.ext w1 fun v hv => ?_
        apply Bool.eq_iff_iff.mpr
        rw [m2 v hv, w2 v hv, b_0]
        have hlt : P v → v < nN N := fun hp => by
          have := hPr v hp
          refine this.ltn (hN.en (fun p z => by cases z)) (fun s z => ?_)
          have z : s = i := z
          rw [z]; exact hi
        exact ⟨fun z => z.elim (fun z => by cases z) (fun z => Or.inr ⟨hv, z.2⟩), fun z => z.elim (fun z => by cases z) (fun z => Or.inr ⟨hlt z.2, z.2⟩)⟩
      · have hre' : bt b j = false := by simpa using hre
        rw [if_pos (by rw [has0 _ (by omega), hab, hre']), if_pos (by rw [holds0 _ (by omega), hre'])]
        exact ⟨_, rfl, _, rfl, hr2.rel, agr_L t2 rfl⟩
    · rw [e2, if_pos c2]
      simp only [Option.bind_some, if_neg i1n0]
      exact ⟨_, rfl, _, rfl, hr2.rel, agr_R1 t2⟩
  · rw [e, if_pos c]
    simp only [Option.bind_some, if_neg i1n0]
    exact ⟨_, rfl, _, rfl, hr.rel, agr_R1 t⟩
theorem M1_ok : M1 Rel := by
  rintro xc fa tr pm hm ⟨N, k, Ms, im, h⟩ a1
  obtain ⟨h1, h2, h3, h4, h5, h6, ⟨t, t1, t2, t3, t4⟩, h9, h11, h12⟩ := id (h.t0 0)
  refine ⟨_, rfl, _, rfl, ?_⟩
  unfold f_X9_end f_X10_end
  simp only [lt]
  rw [t3, t2]
  by_cases c0 : a1 < 0
  · rw [if_pos c0, if_pos c0]
    exact ⟨(h.t0 0).rel, rfl⟩
  · rw [if_neg c0, if_neg c0]
    by_cases c1 : a1 ≤ nI t
    · rw [if_pos c1, if_pos c1]
      obtain ⟨j, hj, rfl⟩ := nI_of2 (nI_toInt (n := t) (by omega)) c0 c1
      refine ⟨⟨N, k, Ms, im, ?_⟩, rfl⟩
      have fc : Fr (fun c => c = 1) xc (sI xc 1 1 (nI j)) := Fr.s rfl
      have fm : FrM (fun c i => c = 81 ∧ i = 23) (up2 hm 81 0 0) (up2 (up2 hm 81 0 0) 81 23 (nI j)) := FrM.s ⟨rfl, rfl⟩
      obtain ⟨N', hN'⟩ : ∃ hm', up2 (up2 hm 81 0 0) 81 23 (nI j) = hm' := ⟨_, rfl⟩
      obtain ⟨xc', hx'⟩ : ∃ xc', sI xc 1 1 (nI j) = xc' := ⟨_, rfl⟩
      have l1 : xc'.1 1 1 = nI j := by rw [← hx']; exact sI_at
      have l2 : N' 81 23 = nI j := by rw [← hN']; exact up2_at
      show RelN N k Ms im (sI xc 1 1 (nI j)) fa tr pm (up2 (up2 hm 81 0 0) 81 23 (nI j))
      rw [hN'] at fm ⊢
      rw [hx'] at fc ⊢
      have em : ∀ i, i ≠ 23 → N' 81 i = up2 hm 81 0 0 81 i := fun i hi => fm 81 i (by omega)
      have ec : ∀ c, c ≠ 1 → xc'.1 c = xc.1 c := fun c hc => fc.1 c hc
      refine ⟨h1, ⟨h2.1, h2.2.1.fr fc (fun c _ _ => by omega), h2.2.2.fr fm (fun j => by omega)⟩, ⟨h3.1, by rw [ec 19 (by omega)]; exact h3.2.1, by rw [em 5 (by omega)]; exact h3.2.2.1, fun i hi => ⟨(h3.2.2.2 i hi).1, (h3.2.2.2 i hi).2.1.fr fc (fun c a b => by have := h1.1.pml (show i < 8 by omega); omega), (h3.2.2.2 i hi).2.2.fr fm (fun j => by omega)⟩⟩, ?_, ?_, ?_, ⟨j, by omega, l1, l2, fun i hi => ?_⟩, ?_, ?_, ?_, ?_⟩
      · cases im with
        | none => exact ⟨by rw [ec 0 (by omega)]; exact h4.1, by rw [em 7 (by omega)]; exact h4.2⟩
        | some I => exact ⟨by rw [ec 0 (by omega)]; exact h4.1, by rw [em 7 (by omega)]; exact h4.2.1, h4.2.2.1, h4.2.2.2.1.fr fc (fun c _ _ => by omega), h4.2.2.2.2.fr fm (fun j => by omega)⟩
      · rw [ec 0 (by omega), em 27 (by omega), em 6 (by omega)]; exact h5
      · rw [ec 53 (by omega), em 16 (by omega), em 17 (by omega), em 18 (by omega), em 19 (by omega)]; exact h6
      · rw [ec 2 (by omega), fm 91 i (by omega)]
        exact t4 i (by omega)
      · obtain ⟨w, w1, w2, w3, w4⟩ := h9
        refine ⟨w, w1, by rw [ec 3 (by omega)]; exact w2, by rw [em 41 (by omega)]; exact w3, fun i hi => ?_⟩
        rw [ec 4 (by omega), fm 98 i (by omega)]
        exact w4 i hi
      · have hfa : fa = 71 ∨ fa = 76 := by rcases h1.1.1 with q | q <;> omega
        exact ⟨h11.1.cg (ec _ (by omega)), h11.2.1.fr fc (fun c a b => by omega), NX.cg h11.2.2 (ec 60 (by omega))⟩
      · rw [em 8 (by omega)]; exact h12.1
      · rw [em 10 (by omega)]; exact h12.2
    · rw [if_neg c1, if_neg c1]
      exact ⟨(h.t0 0).rel, rfl⟩
theorem M30_ok : M30 Rel := by
  rintro xc fa tr pm hm ⟨N, k, Ms, im, h⟩ a1
  obtain ⟨-, -, -, -, -, -, -, ⟨w, w1, w2, w3, w4⟩, -, -⟩ := id (h.t0 0)
  have e1 : f_X10_in a1 0 (nI w - 1) = if ∃ k, k < w ∧ a1 = nI k then 1 else 0 := by
    rcases Nat.eq_zero_or_pos w with q | q
    · rw [q, if_neg (fun ⟨k, hk, _⟩ => by omega)]
      unfold f_X10_in
      by_cases h0 : a1 < 0
      · rw [if_pos h0]
      · rw [if_neg h0, if_pos]
        apply Int32.lt_iff_toInt_lt.mpr
        have e2 : (nI 0 - 1).toInt = -1 := by decide +kernel
        have e3 : ¬ a1.toInt < 0 := fun z => h0 (Int32.lt_iff_toInt_lt.mpr z)
        omega
    · exact m_in q (by omega)
  have em : f_X10_octet hm a1 = some ((if ∃ k, k < w ∧ a1 = nI k then xc.1 4 a1.toNatClampNeg else -1), up2 hm 81 0 0) := by
    unfold f_X10_octet
    simp only [lt]
    rw [w3, e1]
    by_cases c : ∃ k, k < w ∧ a1 = nI k
    · obtain ⟨j, hj, ej⟩ := id c
      rw [if_pos c, if_neg i1n0, if_pos c, ej, gck_ni (by omega) (by omega), nI_clamp (by omega), w4 j hj]
    · rw [if_neg c, if_pos rfl, if_neg c]
  have ec : f_X9_octet xc a1 = some (if ∃ k, k < w ∧ a1 = nI k then xc.1 4 a1.toNatClampNeg else -1) := by
    unfold f_X9_octet f_X0_get_3
    rw [w2]
    rcases num_cases a1 (n := w) (by omega) with ⟨j, hj, ej⟩ | ⟨n1, n2⟩
    · have c : ∃ k, k < w ∧ a1 = nI k := ⟨j, hj, ej⟩
      rw [if_pos c, ej, if_neg (nI_pos (by omega)), if_neg (nI_ge hj (by omega)), if_neg (show ¬ (64 : Int32) ≤ nI j from nI_ge (a := j) (b := 64) (by omega) (by omega)), gck_ni (by omega) (by omega), nI_clamp (by omega)]
      rfl
    · have c : ¬ ∃ k, k < w ∧ a1 = nI k := fun ⟨k, hk, e⟩ => n1 k hk e
      rw [if_neg c]
      rcases n2 with n2 | ⟨n2, n3⟩
      · rw [if_pos n2]; rfl
      · rw [if_neg n2, if_pos n3]; rfl
  exact ⟨_, ec, _, em, (h.t0 0).rel, rfl⟩
