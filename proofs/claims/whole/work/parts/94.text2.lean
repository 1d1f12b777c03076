/-! THE TEXT, ACT BY ACT -/
def W5A : Nat → Prop := fun c => c = 5 ∨ c = 6 ∨ (7 ≤ c ∧ c ≤ 10)
def WAd : Nat → Nat → Prop := fun c j => (c = 81 ∧ (j = 24 ∨ j = 26 ∨ j = 28 ∨ j = 31)) ∨ c = 93 ∨ c = 82
theorem ac_ad {x y : gIH} (h : FrM WAc x y) : FrM WAd x y := h.mono fun c j q => by
  unfold WAc at q
  unfold WAd
  omega
theorem rr_ad {x y : gIH} (h : FrM (fun c j => c = 81 ∧ (j = 24 ∨ j = 26)) x y) : FrM WAd x y := h.mono fun c j q => by
  unfold WAd
  omega
theorem w56_a {x y : gXH} (h : Fr W56 x y) : Fx W5A x y := h.x.mono fun c q => by
  unfold W56 at q
  unfold W5A
  omega
theorem w7_a {x y : gXH} (h : Fx W7 x y) : Fx W5A x y := h.mono fun c q => by
  unfold W5A
  have q : 7 ≤ c ∧ c ≤ 10 := q
  omega
def TQ (x : gXH) (m : gIH) (T : Nat → Nat) (t : Nat) (r : gXH ⊕ (Int32 × gXH) ⊕ (Int32 × gXH) ⊕ gXH ⊕ gXH) (u : gIH ⊕ (Int32 × gIH) ⊕ gIH ⊕ gIH) : Prop := ∃ xr mr, Fx W5A x xr ∧ FrM WAd m mr ∧
  ((∃ b, r = .inl xr ∧ u = .inl mr ∧ xr.1 5 5 = nI b ∧ mr 81 26 = nI b ∧ mr 81 28 = 0) ∨
   (∃ b p', ((r = .inr (.inr (.inr (.inr xr))) ∧ u = .inl mr) ∨ (r = .inr (.inr (.inr (.inl xr))) ∧ u = .inr (.inr (.inr mr)))) ∧ TC xr T t ∧ xr.1 5 3 = nI p' ∧ p' ≤ t ∧ Sk (rg 32 32) T t p' b ∧ mr 81 26 = nI b ∧ mr 81 28 = 0) ∨
   (∃ b c, r = .inr (.inl (nI c, xr)) ∧ u = .inr (.inl (nI b, mr)) ∧ xr.1 5 4 = nI b ∧ mr 81 28 = nI c ∧ 0 < c ∧ c ≤ 4) ∨
   (∃ j N', r = .inr (.inr (.inl (nI j, xr))) ∧ u = .inr (.inr (.inl mr)) ∧ j < 14 ∧ mr 81 31 = nI (j + 1) ∧ mr 81 28 = 0 ∧ aOk N' ∧ CNet xr 7 N' ∧ MNet mr 82 0 N'))
theorem text_lp {N : aN} {x : gXH} {m : gIH} {T : Nat → Nat} {t p : Nat} (h : Bo x m T t p) (hN : aOk N) (hC : CNet x 7 N) (hM : MNet m 82 0 N) (h28 : m 81 28 = 0) (h31 : m 81 31 = 0) :
    ∃ r u, lp f_X9_doText_L26 2000 ((0 : Int32), x) = some r ∧ lp f_X10_readActs_L27 2000 m = some u ∧ TQ x m T t r u := by
  have h400 := h.1.1
  refine lp_simx (f := f_X9_doText_L26) (g := f_X10_readActs_L27) 15
    (fun j s u => ∃ N' p', s.1 = nI j ∧ j ≤ 14 ∧ u 81 31 = nI j ∧ u 81 28 = 0 ∧ Bo s.2 u T t p' ∧ aOk N' ∧ CNet s.2 7 N' ∧ MNet u 82 0 N' ∧ Fx W5A x s.2 ∧ FrM WAd m u) (TQ x m T t) ?_
    15 0 2000 2000 ((0 : Int32), x) m (by omega) (by omega) (by omega) ⟨N, p, rfl, by omega, h31, h28, h, hN, hC, hM, Fx.rf, FrM.rf⟩
  rintro j ⟨k, y⟩ u ⟨N', p', h0, hj, u31, u28, hb, hN', hC', hM', hfx, hfm⟩
  dsimp only at h0 hb hC' hfx
  subst h0
  refine ⟨by omega, ?_⟩
  obtain ⟨q0, y4, e4, s4, a4, a6, f4, kk, x1, z, m1, ex1, em1, fx1, fm1, hh⟩ := act_sim hb hN' hC' hM' u28
  have v31 : y4 81 31 = nI j := by
    rw [f4 81 31 (by omega)]
    exact u31
  unfold f_X9_doText_L26 f_X10_readActs_L27
  dsimp only
  rw [e4]
  simp only [Option.bind_some, lt]
  by_cases c14 : j = 14
  · right
    rw [if_pos (show (14 : Int32) ≤ nI j from nI_le (a := 14) (by omega) (by omega)), if_pos (show y4 81 31 = (14 : Int32) by rw [v31, c14]; rfl)]
    refine ⟨_, _, rfl, rfl, y, y4, hfx, hfm.tr (rr_ad f4), Or.inr (Or.inl ⟨q0, p', Or.inl ⟨rfl, rfl⟩, hb.1, hb.2.2.2.1, hb.2.2.1, s4, a6, ?_⟩)⟩
    rw [f4 81 28 (by omega)]
    exact u28
  · rw [if_neg (show ¬ (14 : Int32) ≤ nI j from nI_ge (b := 14) (by omega) (by omega)), if_neg (show ¬ y4 81 31 = (14 : Int32) from fun q => c14 (by rw [v31] at q; exact (nI_eq (a := j) (b := 14) (by omega) (by omega)).mp q)), ex1, em1]
    simp only [Option.bind_some]
    have Fx1 := hfx.tr (w56_a fx1)
    have Fm1 := hfm.tr (ac_ad fm1)
    rcases hh with ⟨rfl, rfl, w1, b, w2, w3⟩ | ⟨κ, c, x2, k1, rfl, rfl, k2, k3, k4, k5, k6, k7⟩
    · right
      rw [if_pos rfl, if_pos rfl]
      exact ⟨_, _, rfl, rfl, x1, m1, Fx1, Fm1, Or.inl ⟨b, rfl, rfl, w2, w3, w1⟩⟩
    · rw [if_neg (nI_ne_m1 (by omega)), if_neg i1n0, k4]
      simp only [Option.bind_some]
      have Fx2 := Fx1.tr (w7_a k5)
      rw [k6]
      by_cases d : c = 0
      · obtain ⟨N2, q, n1, n2, n3, n4⟩ := k7 d
        subst d
        rw [if_pos nI_0, if_pos (show nI 0 ≤ (0 : Int32) from Int32.le_refl _)]
        obtain ⟨b1, b2, b3, b4, b5⟩ := n4
        obtain ⟨q2, x3, e3, s3, f3, g3, g5⟩ := next_c b1 b4 b3
        have w31 : m1 81 31 = nI j := by
          rw [fm1 81 31 (by unfold WAc; omega)]
          exact u31
        obtain ⟨x7, e7⟩ : ∃ x7, up2 m1 81 31 (nI (j + 1)) = x7 := ⟨_, rfl⟩
        have f7 : FrM (fun c j => c = 81 ∧ j = 31) m1 x7 := by
          rw [← e7]
          exact FrM.s ⟨rfl, rfl⟩
        have x31 : x7 81 31 = nI (j + 1) := by rw [← e7, up2_at]
        have T7 : TM x7 T t := b2.cg (f7 81 25 (by omega)) (fun i => f7 91 i (by omega))
        obtain ⟨q2', y8, e8, s8, f8, g8, g9⟩ := blanks_m T7 (by rw [f7 81 24 (by omega)]; exact b5) b3
        have eq := s3.uniq s8
        subst eq
        have hq2 := s3.2.1
        have T8 := T7.fr (frr f8)
        have T3 := b1.fr (fr5 f3)
        have C3 := n2.fr f3 (fun c _ _ => by omega)
        have M8 := (n3.fr f7 (fun j => by omega)).fr f8 (fun j => by omega)
        have y31 : y8 81 31 = nI (j + 1) := by
          rw [f8 81 31 (by omega)]
          exact x31
        have y28 : y8 81 28 = 0 := by
          rw [f8 81 28 (by omega), f7 81 28 (by omega), k6]
          rfl
        have Fx3 := Fx2.tr (w56_a (fr5 f3))
        have Fm8 : FrM WAd m y8 := (Fm1.tr (f7.mono fun c j q => by unfold WAd; omega)).tr (rr_ad f8)
        have eEnd : f_X7_isAtEnd x2 = some (if q2 < t then 0 else 1, x3) := by
          unfold f_X7_isAtEnd
          rw [e3]
          simp only [Option.bind_some]
          rw [T3.2.1]
          by_cases c : q2 < t
          · rw [if_pos (nI_lt c (by omega)), if_pos c]
          · rw [if_neg (nI_nlt (by omega) (by omega)), if_neg c]
        rw [w31, nI_1, e7, e8, eEnd]
        simp only [Option.bind_some]
        rw [g8, T8.2.1]
        by_cases c : q2 < t
        · rw [if_pos c, if_pos rfl, if_neg (fun z => by have := (nI_eq (by omega) (by omega)).mp z; omega)]
          obtain ⟨q3, x4, s9, f9, h9, h10⟩ := take_c T3 g3 hq2 (s := 59) (by omega)
          have eq3 := s9.uniq s3.again
          subst eq3
          rw [show f_X10_isAt y8 (59 : Int32) (59 : Int32) = _ from isAt_m (lo := 59) (hi := 59) T8 g8 hq2 (by omega) (by omega)]
          simp only [Option.bind_some]
          rcases h10 with ⟨-, t1, t2, t3⟩ | ⟨t1, t2, t3⟩
          · left
            rw [show f_X7_take x3 (59 : Int32) = _ from t2, if_pos (show q3 < t ∧ rg 59 59 (T q3) = true from ⟨c, rg_iff.mpr (by omega)⟩)]
            simp only [Option.bind_some]
            rw [if_neg i1n0, if_neg i1n0]
            refine ⟨_, _, rfl, rfl, N2, q3 + 1, rfl, by omega, ?_, ?_, ⟨T3.fr (fr5 f9), ?_, by omega, t3, ?_⟩, n1, C3.fr f9 (fun c _ _ => by omega), ?_, Fx3.tr (w56_a (fr5 f9)), ?_⟩
            · rw [up2_at2 (Or.inr (by decide))]
              exact y31
            · rw [up2_at2 (Or.inr (by decide))]
              exact y28
            · exact T8.cg (up2_at2 (Or.inr (by decide))) (fun i => up2_at2 (Or.inl (by decide)))
            · rw [up2_at, nI_1]
            · exact M8.fr (W := fun c j => c = 81) (FrM.s rfl) (fun j => by omega)
            · exact Fm8.tr (FrM.s (Or.inl ⟨rfl, Or.inl rfl⟩))
          · right
            rw [show f_X7_take x3 (59 : Int32) = _ from t2, if_neg (show ¬ (q3 < t ∧ rg 59 59 (T q3) = true) from fun z => t1 ⟨z.1, by have := rg_iff.mp z.2; omega⟩)]
            simp only [Option.bind_some]
            rw [if_pos trivial, if_pos trivial]
            exact ⟨_, _, rfl, rfl, x4, y8, Fx3.tr (w56_a (fr5 f9)), Fm8, Or.inr (Or.inl ⟨q3, q3, Or.inr ⟨rfl, rfl⟩, T3.fr (fr5 f9), t3, hq2, s3.again, g9, y28⟩)⟩
        · right
          have e : q2 = t := by omega
          rw [if_neg c, if_neg i1n0, if_pos (by rw [e])]
          exact ⟨_, _, rfl, rfl, x3, y8, Fx3, Fm8, Or.inr (Or.inr (Or.inr ⟨j, N2, rfl, rfl, by omega, y31, y28, n1, C3, M8⟩))⟩
      · right
        rw [if_neg (nI_nz (by omega) (by omega)), if_neg (nI_nle (by omega) (by omega)), a4]
        exact ⟨_, _, rfl, rfl, x2, m1, Fx2, Fm1, Or.inr (Or.inr (Or.inl ⟨q0, c, rfl, rfl, by rw [(k5 5 (by omega)).1]; exact k3, k6, by omega, k2⟩))⟩
theorem text_ok {N : aN} {x : gXH} {m : gIH} {T : Nat → Nat} {t : Nat} (hT : TC x T t) (hTm : TM m T t) (hp : m 81 24 = 0) (hN : aOk N) (hC : CNet x 7 N) (hM : MNet m 82 0 N) :
    ∃ dn xr z mr, f_X9_doText x = some (dn, xr) ∧ f_X10_readActs m = some (z, mr) ∧ Fx (fun c => c = 0 ∨ W5A c) x xr ∧ xr.1 0 9 = x.1 0 9 ∧ FrM WAd m mr ∧
      ((dn = -1 ∧ z = 0 ∧ xr.1 0 10 = mr 81 26 ∧ ((mr 81 28 = 0 ∧ xr.1 0 11 = x.1 0 11) ∨ ∃ c, 0 < c ∧ c ≤ 4 ∧ mr 81 28 = nI c ∧ xr.1 0 11 = nI c)) ∨
       ∃ d N', d ≤ 14 ∧ dn = nI d ∧ z = 1 ∧ xr.1 0 10 = -1 ∧ xr.1 0 11 = x.1 0 11 ∧ mr 81 31 = nI d ∧ aOk N' ∧ CNet xr 7 N' ∧ MNet mr 82 0 N') := by
  have h400 := hT.1
  obtain ⟨x1, e1⟩ : ∃ x1, sI x 0 10 (-1 : Int32) = x1 := ⟨_, rfl⟩
  have r1 : ∀ c, c ≠ 0 → x1.1 c = x.1 c ∧ x1.2 c = x.2 c := fun c hc => by
    rw [← e1]
    exact ⟨sI_row hc, rfl⟩
  obtain ⟨x2, e2⟩ : ∃ x2, sI x1 5 3 (0 : Int32) = x2 := ⟨_, rfl⟩
  have f2 : Fr (fun c => c = 5) x1 x2 := by
    rw [← e2]
    exact Fr.s rfl
  have p2 : x2.1 5 3 = nI 0 := by rw [← e2, sI_at]; rfl
  have T2 : TC x2 T t := (hT.cg (r1 1 (by decide)).1 (r1 2 (by decide)).1).fr (fr5 f2)
  have C2 : CNet x2 7 N := (hC.fx (W := fun c => c = 0) (fun c hc => r1 c hc) (fun c _ _ => by omega)).fr f2 (fun c _ _ => by omega)
  obtain ⟨q, x3, e3, s3, f3, g3, g5⟩ := next_c T2 p2 (Nat.zero_le t)
  have T3 := T2.fr (fr5 f3)
  have C3 := C2.fr f3 (fun c _ _ => by omega)
  have hq := s3.2.1
  have fx3 : Fr (fun c => c = 5) x1 x3 := f2.tr f3
  have z9 : x1.1 0 9 = x.1 0 9 := by rw [← e1, sI_at2 (by decide)]
  have z10 : x1.1 0 10 = -1 := by rw [← e1, sI_at]
  have z11 : x1.1 0 11 = x.1 0 11 := by rw [← e1, sI_at2 (by decide)]
  have r3 : x3.1 0 = x1.1 0 := fx3.1 0 (by decide)
  have fin : ∀ xr, Fx W5A x3 xr → Fx (fun c => c = 0 ∨ W5A c) x xr ∧ xr.1 0 = x1.1 0 := fun xr hx => by
    refine ⟨fun c hc => ?_, ?_⟩
    · have a := hx c (fun z => hc (Or.inr z))
      have b := (fx3.x) c (fun z => hc (Or.inr (Or.inl z)))
      have d := r1 c (fun z => hc (Or.inl z))
      exact ⟨(a.1.trans b.1).trans d.1, (a.2.trans b.2).trans d.2⟩
    · rw [(hx 0 (by unfold W5A; omega)).1]
      exact r3
  have fin0 : ∀ (xr : gXH) (j : Nat) (v : Int32), Fx (fun c => c = 0 ∨ W5A c) x xr → Fx (fun c => c = 0 ∨ W5A c) x (sI xr 0 j v) := fun xr j v h => h.tr ((Fr.s (W := fun c => c = 0) rfl).x.mono fun c z => Or.inl z)
  -- the reference's start
  obtain ⟨m1, em1⟩ : ∃ m1, up2 (up2 m 81 31 (0 : Int32)) 81 28 (0 : Int32) = m1 := ⟨_, rfl⟩
  have fm1 : FrM (fun c j => c = 81 ∧ (j = 28 ∨ j = 31)) m m1 := by
    rw [← em1]
    exact (FrM.s (W := fun c j => c = 81 ∧ (j = 28 ∨ j = 31)) (by omega)).tr (FrM.s (by omega))
  have v31 : m1 81 31 = 0 := by rw [← em1, up2_at2 (Or.inr (by decide)), up2_at]
  have v28 : m1 81 28 = 0 := by rw [← em1, up2_at]
  have Tm1 : TM m1 T t := hTm.cg (fm1 81 25 (by omega)) (fun i => fm1 91 i (by omega))
  obtain ⟨q', y3, ey3, sy3, fy3, gy3, gy6⟩ := blanks_m Tm1 (p := 0) (by rw [fm1 81 24 (by omega)]; exact hp) (Nat.zero_le t)
  have eq := s3.uniq sy3
  subst eq
  have Ty3 := Tm1.fr (frr fy3)
  have My3 := (hM.fr fm1 (fun j => by omega)).fr fy3 (fun j => by omega)
  have w31 : y3 81 31 = 0 := by rw [fy3 81 31 (by omega)]; exact v31
  have w28 : y3 81 28 = 0 := by rw [fy3 81 28 (by omega)]; exact v28
  have Fm3 : FrM WAd m y3 := (fm1.mono fun c j z => by unfold WAd; omega).tr (rr_ad fy3)
  unfold f_X9_doText f_X10_readActs f_X7_rewind f_X7_isAtEnd
  simp only [lt]
  rw [e1, e2, e3, em1, ey3]
  simp only [Option.bind_some]
  rw [T3.2.1, gy3, Ty3.2.1]
  by_cases c : q < t
  · rw [if_pos (nI_lt c (by omega)), if_neg (fun z => by have := (nI_eq (by omega) (by omega)).mp z; omega)]
    simp only [Option.bind_some]
    rw [if_pos trivial]
    obtain ⟨r, u, er, eu, xr, mr, hx, hm, hh⟩ := text_lp (p := q) ⟨T3, Ty3, hq, g3, gy3⟩ hN C3 My3 w28 w31
    rw [er, eu]
    simp only [Option.bind_some]
    obtain ⟨F1, F0⟩ := fin xr hx
    have Fm := Fm3.tr hm
    rcases hh with ⟨b, rfl, rfl, k1, k2, k3⟩ | ⟨b, p', hr, k1, k2, k3, k4, k5, k6⟩ | ⟨b, c, rfl, rfl, k1, k2, k3, k4⟩ | ⟨j, N', rfl, rfl, k1, k2, k3, k4, k5, k6⟩
    · refine ⟨_, _, _, _, rfl, rfl, fin0 _ _ _ F1, ?_, Fm, Or.inl ⟨rfl, rfl, ?_, Or.inl ⟨k3, ?_⟩⟩⟩
      · rw [sI_at2 (by decide), F0]
        exact z9
      · rw [sI_at, k1, k2]
      · rw [sI_at2 (by decide), F0]
        exact z11
    · obtain ⟨b', xz, ez, sz, fz, gz, -⟩ := next_c k1 k2 k3
      have eb := sz.uniq k4
      subst eb
      have Fz : Fx (fun c => c = 0 ∨ W5A c) x xz := F1.tr (fz.x.mono fun c z => Or.inr (Or.inl z))
      have Z0 : xz.1 0 = x1.1 0 := (fz.1 0 (by decide)).trans F0
      have goal : ∃ dn xr' z mr', some ((-1 : Int32), sI xz 0 10 (nI b')) = some (dn, xr') ∧ some ((0 : Int32), mr) = some (z, mr') ∧ Fx (fun c => c = 0 ∨ W5A c) x xr' ∧ xr'.1 0 9 = x.1 0 9 ∧ FrM WAd m mr' ∧
          ((dn = -1 ∧ z = 0 ∧ xr'.1 0 10 = mr' 81 26 ∧ ((mr' 81 28 = 0 ∧ xr'.1 0 11 = x.1 0 11) ∨ ∃ c, 0 < c ∧ c ≤ 4 ∧ mr' 81 28 = nI c ∧ xr'.1 0 11 = nI c)) ∨
           ∃ d N', d ≤ 14 ∧ dn = nI d ∧ z = 1 ∧ xr'.1 0 10 = -1 ∧ xr'.1 0 11 = x.1 0 11 ∧ mr' 81 31 = nI d ∧ aOk N' ∧ CNet xr' 7 N' ∧ MNet mr' 82 0 N') := by
        refine ⟨_, _, _, _, rfl, rfl, fin0 _ _ _ Fz, ?_, Fm, Or.inl ⟨rfl, rfl, ?_, Or.inl ⟨k6, ?_⟩⟩⟩
        · rw [sI_at2 (by decide), Z0]
          exact z9
        · rw [sI_at, k5]
        · rw [sI_at2 (by decide), Z0]
          exact z11
      rcases hr with ⟨rfl, rfl⟩ | ⟨rfl, rfl⟩
      · simp only [Sum.elim_inr, Sum.elim_inl]
        rw [ez]
        simp only [Option.bind_some]
        exact goal
      · simp only [Sum.elim_inr, Sum.elim_inl]
        rw [ez]
        simp only [Option.bind_some]
        exact goal
    · refine ⟨_, _, _, _, rfl, rfl, fin0 _ _ _ (fin0 _ _ _ F1), ?_, Fm.tr (FrM.s (by unfold WAd; omega)), Or.inl ⟨rfl, rfl, ?_, Or.inr ⟨c, k3, k4, ?_, ?_⟩⟩⟩
      · rw [sI_at2 (by decide), sI_at2 (by decide), F0]
        exact z9
      · rw [sI_at, sI_row (by decide), up2_at]
        exact k1
      · rw [up2_at2 (Or.inr (by decide))]
        exact k2
      · rw [sI_at2 (by decide), sI_at]
    · refine ⟨_, _, _, _, rfl, rfl, F1, ?_, Fm, Or.inr ⟨j + 1, N', by omega, nI_1 j, rfl, ?_, ?_, k2, k4, k5, k6⟩⟩
      · rw [F0]
        exact z9
      · rw [F0]
        exact z10
      · rw [F0]
        exact z11
  · have e : q = t := by omega
    rw [if_neg (nI_nlt (by omega) (by omega)), if_pos (by rw [e])]
    simp only [Option.bind_some]
    rw [if_neg i1n0]
    obtain ⟨F1, F0⟩ := fin x3 Fx.rf
    refine ⟨_, _, _, _, rfl, rfl, F1, ?_, Fm3, Or.inr ⟨0, N, by omega, rfl, rfl, ?_, ?_, w31, hN, C3, My3⟩⟩
    · rw [F0]
      exact z9
    · rw [F0]
      exact z10
    · rw [F0]
      exact z11
