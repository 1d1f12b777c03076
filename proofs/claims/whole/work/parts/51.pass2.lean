section
variable {N : aN} {hm y : gIH} {xc : gXH} {fa tr : Nat}
theorem QM.scr {y' : gIH} (q : QM N hm y) (f : FrM (fun c _ => 94 ≤ c ∧ c ≤ 97) y y') : QM N hm y' := by
  obtain ⟨h1, h2, h3, h4, h5⟩ := q
  refine ⟨h1.tr (f.mono fun c j z => by unfold WQ; omega), h2.fr f (fun j => by omega), h3.cg (f _ _ (by omega)) (fun j => f _ _ (by omega)) (fun j => f _ _ (by omega)) (fun j => f _ _ (by omega)), ?_, ?_⟩
  · rw [f 81 8 (by omega)]
    exact h4
  · rw [f 81 10 (by omega)]
    exact h5
theorem dp_15 {E : Nat → Nat → Prop} {S : Nat → Prop} {v : Nat} (hv : v < 16) : dp E S v ≤ 15 := by
  have h1 := dp_16 (E := E) (S := S) v
  rcases Nat.lt_or_ge (dp E S v) 16 with o | o
  · omega
  · have h2 : fb_ct (fun g => cb (Dm E S g v)) 16 = 16 := Nat.le_antisymm h1 o
    have h3 := fb_ct_all.mp h2 v hv
    exact absurd rfl (cb_t.mp h3).2.1
theorem nar1 : vp_nar .boolean 1 = 1 := by decide +kernel
theorem nar0 : vp_nar .boolean 0 = 0 := by decide +kernel
theorem passStep_m (hN : aOk N) (q : QM N hm y) {i : Nat} (hi : i < 16) (hr : Rc (Ed N 100) (fun s => s = nRt N) nox i) {j c : Nat} (hj : j < nM N) :
    f_X10_laysPass_L4 (nI i) (nI c, nI j, y) = some (.inl (nI (c + if cb (Ls N j i) = true then 1 else 0), nI (j + 1), up2 y 97 j (if cb (Ls N j i) = true then 1 else 0))) := by
  have h60 := hN.m60
  have e0 : ¬ Ls N j i → f_X10_laysPass_J53 y (nI i) (nI c) (nI j) (nI j) = some (.inl (nI (c + if cb (Ls N j i) = true then 1 else 0), nI (j + 1), up2 y 97 j (if cb (Ls N j i) = true then 1 else 0))) := fun hn => by
    unfold f_X10_laysPass_J53 f_X10_laysPass_J54
    rw [if_neg (fun z => hn (cb_t.mp z)), if_neg (fun z => hn (cb_t.mp z)), gck_ni (by omega) (by omega), nar0]
    simp only [lt]
    rw [gck_ni (by omega) (by omega), nI_clamp (by omega), if_pos up2_at, nI_1, show (0 : Int32) = nI 0 from rfl, nI_add]
  unfold f_X10_laysPass_L4
  dsimp only
  rw [m_arcs q.2.1]
  simp only [Option.bind_some]
  rw [if_neg (nI_ge hj (by omega)), m_open hN q.2.1 hj]
  simp only [Option.bind_some]
  by_cases c1 : nO N j = true
  · rw [if_neg (by rw [bi01, c1]; decide), if_neg (fun z => (q.2.2.1.r0 hi).mp z hr)]
    obtain ⟨z, ez, z1, z2⟩ := shut_m hN q hj
    rw [ez]
    simp only [Option.bind_some]
    by_cases c2 : Rc (Ed N j) (fun s => s = nRt N) nox i
    · rw [if_neg (by rw [holds0 _ (by omega), (z2 i hi).mpr c2]; decide)]
      exact e0 (fun w => w.2.2 c2)
    · rw [if_pos (by rw [holds0 _ (by omega), ← Bool.not_eq_true, z2 i hi]; exact c2)]
      have hl : Ls N j i := ⟨c1, hr, c2⟩
      unfold f_X10_laysPass_J54
      rw [if_pos (cb_t.mpr hl), if_pos (cb_t.mpr hl), gck_ni (by omega) (by omega), nar1]
      simp only [lt]
      rw [gck_ni (by omega) (by omega), nI_clamp (by omega), if_neg (by rw [up2_at]; decide), nI_1, nI_1]
  · rw [if_pos (by rw [bi01]; simpa using c1)]
    exact e0 (fun w => c1 w.1)
theorem pass_m (hN : aOk N) (q : QM N hm y) {i : Nat} (hi : i < 16) (hr : Rc (Ed N 100) (fun s => s = nRt N) nox i) : ∃ x, f_X10_laysPass y (nI i) = some (nI (pN N i), x) ∧ FrM (fun c _ => 94 ≤ c ∧ c ≤ 97) y x ∧ ∀ a, a < nM N → x 97 a = if cb (Ls N a i) = true then 1 else 0 := by
  have h60 := hN.m60
  have key : ∃ z, lp (f_X10_laysPass_L4 (nI i)) 2000 (0, 0, y) = some z ∧ z.1 = nI (pN N i) ∧ FrM (fun c _ => 94 ≤ c ∧ c ≤ 97) y z.2 ∧ ∀ a, a < nM N → z.2 97 a = if cb (Ls N a i) = true then 1 else 0 := by
    refine lp_for (step := f_X10_laysPass_L4 (nI i)) (nM N) (fun j s => s.2.1 = nI j ∧ s.1 = nI (fb_ct (fun a => cb (Ls N a i)) j) ∧ FrM (fun c _ => 94 ≤ c ∧ c ≤ 97) y s.2.2 ∧ ∀ a, a < j → s.2.2 97 a = if cb (Ls N a i) = true then 1 else 0) _ ?_ ?_ ⟨rfl, rfl, FrM.rf, fun a ha => absurd ha (by omega)⟩ (by omega)
    · rintro j ⟨c, i', x⟩ hj ⟨h0, h1, h2, h3⟩
      dsimp only at h0 h1 h2 h3
      subst h0 h1
      refine ⟨_, passStep_m hN (q.scr h2) hi hr hj, rfl, ?_, h2.tr (FrM.s (by omega)), fun a ha => ?_⟩
      · dsimp only
        rw [fb_ct_succ]
      · dsimp only
        by_cases c : a = j
        · rw [c, up2_at]
        · rw [up2_at2 (Or.inr c)]
          exact h3 a (by omega)
    · rintro ⟨c, i', x⟩ ⟨h0, h1, h2, h3⟩
      dsimp only at h0 h1 h2 h3
      subst h0 h1
      unfold f_X10_laysPass_L4
      dsimp only
      rw [m_arcs (q.scr h2).2.1]
      simp only [Option.bind_some]
      rw [if_pos (Int32.le_refl _)]
      exact ⟨_, rfl, rfl, h2, h3⟩
  obtain ⟨z, ez, z1, z2, z3⟩ := key
  refine ⟨z.2, ?_, z2, z3⟩
  unfold f_X10_laysPass
  rw [ez]
  simp only [Option.bind_some]
  rw [z1]
def PsI (N : aN) (n : Nat) (k r : Int32) : Prop := (∃ a, a < nM N ∧ Ls N a n ∧ nI (pN N (nF N a)) = k ∧ r = nI a) ∨ ((∀ a, a < nM N → Ls N a n → nI (pN N (nF N a)) ≠ k) ∧ r = if k = -1 then nI (pN N n) else -1)
theorem pN60 (hN : aOk N) (n : Nat) : pN N n ≤ 60 := Nat.le_trans (fb_ct_le _ _) hN.m60
theorem PsI.uniq (hN : aOk N) {n : Nat} (hr : Rc (Ed N 100) (fun s => s = nRt N) nox n) {k r t : Int32} (h1 : PsI N n k r) (h2 : PsI N n k t) : r = t := by
  have hE : E16 (Ed N 100) := hN.e16n (k1 := 100) (k2 := 100)
  rcases h1 with ⟨a, a1, a2, a3, rfl⟩ | ⟨a1, rfl⟩
  · rcases h2 with ⟨b, b1, b2, b3, rfl⟩ | ⟨b1, rfl⟩
    · have p1 := pN60 hN (nF N a)
      have p2 := pN60 hN (nF N b)
      have e := (nI_eq (by omega) (by omega)).mp (a3.trans b3.symm)
      rw [pN_at hN a1 hr a2, pN_at hN b1 hr b2] at e
      obtain ⟨l1, l2⟩ := (Ls.iff hN a1 hr).mp a2
      obtain ⟨m1, m2⟩ := (Ls.iff hN b1 hr).mp b2
      have e2 := fb_ct_kth_one (p := pC N n) (cb_t.mpr ⟨nT N a, l2, rfl, a, a1, rfl, l1⟩) (cb_t.mpr ⟨nT N b, m2, rfl, b, b1, rfl, m1⟩) e
      have e3 := l2.one hE hN.s16 m2 e2
      rw [Br.one hN a1 rfl l1 b1 e3.symm (by rw [e3]; exact m1)]
    · exact absurd a3 (b1 a a1 a2)
  · rcases h2 with ⟨b, b1, b2, b3, rfl⟩ | ⟨b1, rfl⟩
    · exact absurd b3 (a1 b b1 b2)
    · rfl
theorem pC0 (hN : aOk N) {n : Nat} : pC N n 0 = false := cb_f.mpr fun ⟨u, u1, u2, a, a1, a2, a3⟩ => by
  have hE : E16 (Ed N 100) := hN.e16n (k1 := 100) (k2 := 100)
  -- whoever has no gate and is reached is the root
  by_cases c : u = nRt N
  · rw [c] at a3
    exact a3.2.2 (Rc.base rfl (fun z => z))
  · have hd : Dm (Ed N 100) (fun s => s = nRt N) (nRt N) u := ⟨a3.2.1, fun z => c z.symm, fun z => z.ind (P := fun _ => False) (fun s p x => x p) (fun _ _ _ p _ _ => p)⟩
    have := dp_pos hN.r16 hd
    omega
theorem passed_c (h : CQ N fa tr xc) {n : Nat} (hn : n < 16) (hr : Rc (Ed N 100) (fun s => s = nRt N) nox n) (k : Int32) : ∃ z x, f_X8_passed fa tr xc (nI n) k = some (z, x) ∧ Fr (WS tr) xc x ∧ PsI N n k z := by
  have hN := h.2.1
  have hE : E16 (Ed N 100) := hN.e16n (k1 := 100) (k2 := 100)
  have hd15 := dp_15 (E := Ed N 100) (S := fun s => s = nRt N) hn
  have hcl : ∀ j, fb_ct (pC N n) j ≤ j := fun j => fb_ct_le _ j
  unfold f_X8_passed
  rw [if_neg (fun z => (h.2.2.2.2.1.r0 hn).mp z hr)]
  have key : ∃ z, lp (f_X8_passed_L15 fa tr (nI n) k) 2000 (0, 1, xc) = some z ∧ ((∃ a x, a < nM N ∧ Ls N a n ∧ nI (pN N (nF N a)) = k ∧ z = .inl (nI a, x) ∧ Fr (WS tr) xc x) ∨ ((∀ a, a < nM N → Ls N a n → nI (pN N (nF N a)) ≠ k) ∧ ∃ x, z = .inr (nI (pN N n), x) ∧ Fr (WS tr) xc x)) := by
    refine lp_forx (step := f_X8_passed_L15 fa tr (nI n) k) (dp (Ed N 100) (fun s => s = nRt N) n) (fun j s => s.2.1 = nI (j + 1) ∧ s.1 = nI (fb_ct (pC N n) (j + 1)) ∧ (∀ d, d ≤ j → pC N n d = true → nI (fb_ct (pC N n) d) ≠ k) ∧ Fr (WS tr) xc s.2.2) _ ?_ ?_ ⟨rfl, ?_, fun d hd hp => ?_, Fr.rf⟩ (by omega)
    · rintro j ⟨c, i, x⟩ hj ⟨h0, h1, h2, h3⟩
      dsimp only at h0 h1 h2 h3
      subst h0 h1
      have hx := h.fr h3
      unfold f_X8_passed_L15
      dsimp only
      rw [hx.2.2.2.2.1.d1 hn hr, if_neg (nI_nlt (by omega) (by omega)), if_neg (show ¬ (16 : Int32) ≤ nI (j + 1) from nI_ge (a := j + 1) (b := 16) (by omega) (by omega))]
      obtain ⟨u0, e0, l0⟩ := link_ok hE hN.s16 hx.2.2.2.2.1 hn (nI (j + 1))
      rw [e0]
      simp only [Option.bind_some]
      obtain ⟨u, u1, u2⟩ := Up.level hE hN.s16 (dp (Ed N 100) (fun s => s = nRt N) n - (j + 1)) n (j + 1) (by omega)
      have eu : u0 = nI u := (l0.2 hr).1 u u1 (by rw [u2])
      subst eu
      have hu16 : u < 16 := (u1.rx hr).lt hE hN.s16
      obtain ⟨z, x', ez, f', hz⟩ := bridgeTo_c hx hu16
      rw [ez]
      simp only [Option.bind_some, lt]
      rcases hz with ⟨a, a1, a2, a3, rfl⟩ | ⟨nb, rfl⟩
      · have hp : pC N n (j + 1) = true := cb_t.mpr ⟨u, u1, u2, a, a1, a2, a3⟩
        have h60 := hN.m60
        have hla : Ls N a n := (Ls.iff hN a1 hr).mpr ⟨by rw [a2]; exact a3, by rw [a2]; exact u1⟩
        have hpa := pN_at hN a1 hr hla
        rw [a2, u2] at hpa
        rw [if_neg (nI_ne_m1 (by omega))]
        by_cases c : nI (fb_ct (pC N n) (j + 1)) = k
        · rw [if_pos c]
          exact Or.inr ⟨_, rfl, Or.inl ⟨a, x', a1, hla, by rw [hpa]; exact c, rfl, h3.tr f'⟩⟩
        · rw [if_neg c]
          refine Or.inl ⟨_, rfl, nI_1 _, ?_, fun d hd hp => ?_, h3.tr f'⟩
          · show nI (fb_ct (pC N n) (j + 1)) + 1 = _
            rw [nI_1, fb_ct_succ (pC N n) (j + 1), if_pos hp]
          · rcases Nat.lt_or_ge j d with o | o
            · rw [show d = j + 1 by omega]
              exact c
            · exact h2 d o hp
      · have hp : pC N n (j + 1) = false := cb_f.mpr fun ⟨v, v1, v2, v3⟩ => nb (by rw [u1.one hE hN.s16 v1 (by omega)]; exact v3)
        rw [if_pos rfl]
        refine Or.inl ⟨_, rfl, nI_1 _, ?_, fun d hd hq => ?_, h3.tr f'⟩
        · show nI (fb_ct (pC N n) (j + 1)) = _
          rw [fb_ct_succ (pC N n) (j + 1), hp]
          rfl
        · rcases Nat.lt_or_ge j d with o | o
          · rw [show d = j + 1 by omega, hp] at hq
            cases hq
          · exact h2 d o hq
    · rintro ⟨c, i, x⟩ ⟨h0, h1, h2, h3⟩
      dsimp only at h0 h1 h2 h3
      subst h0 h1
      unfold f_X8_passed_L15
      dsimp only
      rw [(h.fr h3).2.2.2.2.1.d1 hn hr, if_pos (nI_lt (by omega) (by omega))]
      refine ⟨_, rfl, Or.inr ⟨fun a a1 a2 => ?_, x, ?_, h3⟩⟩
      · obtain ⟨l1, l2⟩ := (Ls.iff hN a1 hr).mp a2
        rw [pN_at hN a1 hr a2]
        exact h2 _ (l2.le hE hN.s16) (cb_t.mpr ⟨nT N a, l2, rfl, a, a1, rfl, l1⟩)
      · rw [pN_pC hN hr]
    · show (0 : Int32) = nI (fb_ct (pC N n) (0 + 1))
      rw [fb_ct_succ, pC0 hN]
      rfl
    · rw [show d = 0 by omega, pC0 hN] at hp
      cases hp
  obtain ⟨z, ez, hz⟩ := key
  rw [ez]
  simp only [Option.bind_some]
  rcases hz with ⟨a, x, a1, a2, a3, rfl, f⟩ | ⟨h1, x, rfl, f⟩
  · exact ⟨_, _, rfl, f, Or.inl ⟨a, a1, a2, a3, rfl⟩⟩
  · by_cases c : k = -1
    · refine ⟨nI (pN N n), x, ?_, f, Or.inr ⟨h1, by rw [if_pos c]⟩⟩
      simp only [Sum.elim_inr]
      rw [if_pos c]
    · refine ⟨-1, x, ?_, f, Or.inr ⟨h1, by rw [if_neg c]⟩⟩
      simp only [Sum.elim_inr]
      rw [if_neg c]
theorem passLoop_m (hN : aOk N) (q : QM N hm y) {n : Nat} (hn : n < 16) (hr : Rc (Ed N 100) (fun s => s = nRt N) nox n) {k : Int32} (hk : k ≠ -1) : ∃ z x, lp (f_X10_pass_L39 (nI n) k) 2000 (-1, 0, y) = some (z, x) ∧ FrM (fun c _ => 94 ≤ c ∧ c ≤ 97) y x ∧ PsI N n k z := by
  have h60 := hN.m60
  have key : ∃ z, lp (f_X10_pass_L39 (nI n) k) 2000 (-1, 0, y) = some z ∧ FrM (fun c _ => 94 ≤ c ∧ c ≤ 97) y z.2 ∧ PsI N n k z.1 := by
    refine lp_for (step := f_X10_pass_L39 (nI n) k) (nM N) (fun j s => s.2.1 = nI j ∧ FrM (fun c _ => 94 ≤ c ∧ c ≤ 97) y s.2.2 ∧ ((∃ a, a < j ∧ Ls N a n ∧ nI (pN N (nF N a)) = k ∧ s.1 = nI a) ∨ ((∀ a, a < j → Ls N a n → nI (pN N (nF N a)) ≠ k) ∧ s.1 = -1))) _ ?_ ?_ ⟨rfl, FrM.rf, Or.inr ⟨fun a ha => absurd ha (by omega), rfl⟩⟩ (by omega)
    · rintro j ⟨c, i, x⟩ hj ⟨h0, h1, h2⟩
      dsimp only at h0 h1 h2
      subst h0
      have qx := q.scr h1
      have keep : (Ls N j n → nI (pN N (nF N j)) ≠ k) → ((∃ a, a < j + 1 ∧ Ls N a n ∧ nI (pN N (nF N a)) = k ∧ c = nI a) ∨ ((∀ a, a < j + 1 → Ls N a n → nI (pN N (nF N a)) ≠ k) ∧ c = -1)) := fun hno => by
        rcases h2 with ⟨a, a1, a2⟩ | ⟨a1, a2⟩
        · exact Or.inl ⟨a, by omega, a2⟩
        · refine Or.inr ⟨fun a ha => ?_, a2⟩
          rcases Nat.lt_or_ge a j with o | o
          · exact a1 a o
          · rw [show a = j by omega]
            exact hno
      unfold f_X10_pass_L39
      dsimp only
      rw [m_arcs qx.2.1]
      simp only [Option.bind_some]
      rw [if_neg (nI_ge hj (by omega))]
      obtain ⟨x2, e2, f2, p2⟩ := pass_m hN qx hn hr
      rw [e2]
      simp only [Option.bind_some]
      rw [gck_ni (by omega) (by omega), nI_clamp (by omega), p2 j hj]
      by_cases c2 : Ls N j n
      · rw [if_neg (by rw [bi01, cb_t.mpr c2]; decide), m_from hN (qx.scr f2).2.1 hj]
        simp only [Option.bind_some]
        obtain ⟨x3, e3, f3, p3⟩ := pass_m hN (qx.scr f2) (hN.f16 hj) ((c2.ends hN hj).1.full hN)
        rw [e3]
        simp only [Option.bind_some, lt]
        by_cases c3 : nI (pN N (nF N j)) = k
        · rw [if_pos c3]
          exact ⟨_, rfl, nI_1 j, (h1.tr f2).tr f3, Or.inl ⟨j, by omega, c2, c3, rfl⟩⟩
        · rw [if_neg c3]
          exact ⟨_, rfl, nI_1 j, (h1.tr f2).tr f3, keep fun _ => c3⟩
      · rw [if_pos (by rw [bi01]; exact cb_f.mpr c2)]
        simp only [lt]
        exact ⟨_, rfl, nI_1 j, h1.tr f2, keep fun z => absurd z c2⟩
    · rintro ⟨c, i, x⟩ ⟨h0, h1, h2⟩
      dsimp only at h0 h1 h2
      subst h0
      unfold f_X10_pass_L39
      dsimp only
      rw [m_arcs (q.scr h1).2.1]
      simp only [Option.bind_some]
      rw [if_pos (Int32.le_refl _)]
      refine ⟨_, rfl, h1, ?_⟩
      rcases h2 with h2 | ⟨h2, h3⟩
      · exact Or.inl h2
      · exact Or.inr ⟨h2, by dsimp only; rw [if_neg hk]; exact h3⟩
  obtain ⟨z, ez, h1, h2⟩ := key
  exact ⟨z.1, z.2, ez, h1, h2⟩
end
theorem M23_ok : M23 Rel := by
  rintro xc fa tr pm hm ⟨N, k, Ms, im, h⟩ a1 a2
  obtain ⟨hN, hC, hM, hz, hX, hG, hR⟩ := h.go
  obtain ⟨y, q, hr, c⟩ := one_node h a1
  unfold f_X10_pass f_X9_pass
  rcases c with ⟨i, hi, hi16, rfl, e, t, c⟩ | ⟨e, t, c⟩
  · rw [e, if_neg c]
    simp only [Option.bind_some, if_true]
    by_cases cr : Rc (Ed N 100) (fun s => s = nRt N) nox i
    · obtain ⟨z, x, ez, fx, hz⟩ := passed_c h.cq hi16 cr a2
      rw [ez]
      simp only [Option.bind_some]
      refine ⟨_, rfl, ?_⟩
      rw [if_neg (fun z => (q.2.2.1.r0 hi16).mp z cr)]
      by_cases c2 : a2 = -1
      · rw [if_pos c2]
        obtain ⟨x2, e2, f2, p2⟩ := pass_m hN q hi16 cr
        rw [e2]
        simp only [Option.bind_some]
        refine ⟨_, rfl, ((h.fr fx).q (q.scr f2)).rel, agr_L (hm := x2) (by rw [f2 81 0 (by omega)]; exact t) ?_⟩
        rcases hz with ⟨a, a1, a2', a3, rfl⟩ | ⟨-, rfl⟩
        · rw [c2] at a3
          exact absurd a3 (nI_ne_m1 (by have := pN60 hN (nF N a); omega))
        · dsimp only
          rw [if_pos c2]
      · rw [if_neg c2]
        obtain ⟨w, x2, e2, f2, p2⟩ := passLoop_m hN q hi16 cr c2
        rw [e2]
        simp only [Option.bind_some]
        exact ⟨_, rfl, ((h.fr fx).q (q.scr f2)).rel, agr_L (hm := x2) (by rw [f2 81 0 (by omega)]; exact t) (p2.uniq hN cr hz)⟩
    · rw [if_pos ((q.2.2.1.r0 hi16).mpr cr)]
      have ef : f_X8_passed fa tr xc (nI i) a2 = some (-1, xc) := by
        unfold f_X8_passed
        rw [if_pos ((hG.r0 hi16).mpr cr)]
      rw [ef]
      exact ⟨_, rfl, _, rfl, hr.rel, agr_L t rfl⟩
  · rw [e, if_pos c]
    simp only [Option.bind_some]
    rw [if_neg i1n0]
    exact ⟨_, rfl, _, rfl, hr.rel, agr_R1 t⟩
