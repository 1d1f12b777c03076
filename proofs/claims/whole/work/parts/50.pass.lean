/-! WORST -/
theorem lost_none {fa tr : Nat} {xc : gXH} : f_X8_lostBy fa tr xc (-1) = some (0, xc) := by
  have e1 : f_X6_hasArc xc (-1) = 0 := by
    unfold f_X6_hasArc
    rw [if_pos (by decide)]
  have e2 : f_X6_isOpen xc (-1) = 0 := by
    unfold f_X6_isOpen
    rw [if_pos e1]
  have e3 : f_X8_kind fa xc (-1) = 0 := by
    unfold f_X8_kind
    rw [if_pos e2]
  unfold f_X8_lostBy
  rw [e3, if_neg (by decide)]
theorem worst1_c {N : aN} {fa tr : Nat} {xc : gXH} (h : CQ N fa tr xc) : ∃ z x, f_X8_lostBy fa tr xc (wrS N (nM N)).1 = some (z, x) ∧ Fr (WS tr) xc x ∧ f_J6_bitCount_0f7a4 z = nI (wrS N (nM N)).2 := by
  rcases wrS_is (N := N) (nM N) with ⟨h1, h2⟩ | ⟨j, hj, h1, h2⟩
  · rw [h1, h2]
    refine ⟨0, xc, lost_none, Fr.rf, ?_⟩
    rw [bc_ct s16_0, fb_ct_zero.mpr fun k _ => b_0 k]
  · rw [h1, h2]
    obtain ⟨z, x, ez, f, z1, z2⟩ := lost_c h hj
    exact ⟨z, x, ez, f, by rw [bc_ct z1, ct_ls z2]⟩
theorem M26_ok : M26 Rel := by
  rintro xc fa tr pm hm ⟨N, k, Ms, im, h⟩ a1
  obtain ⟨hN, hC, hM, hz, hX, hG, hR⟩ := h.go
  obtain ⟨y, e, q, t⟩ := lays_q hN hM hz.1 hz.2 0
  have hq := h.cq
  unfold f_X10_worst
  simp only [lt]
  rw [e]
  simp only [Option.bind_some]
  rw [show (1 : Int32) = nI 1 from rfl, m_in0 (by omega)]
  by_cases c : ∃ k, k ≤ 1 ∧ a1 = nI k
  · have c01 : a1 = 0 ∨ a1 = 1 := by
      obtain ⟨j, hj, rfl⟩ := c
      rcases (show j = 0 ∨ j = 1 by omega) with rfl | rfl
      · exact Or.inl rfl
      · exact Or.inr rfl
    rw [if_pos c, if_neg i1n0]
    have em : f_X10_worst_J24 y a1 0 = some (if a1 = 0 then (wrS N (nM N)).1 else nI (wrS N (nM N)).2, y) := by
      unfold f_X10_worst_J24
      simp only [lt, throws0, if_true]
      rw [worst_m hN q a1]
      simp only [Option.bind_some]
      split <;> rfl
    rw [em]
    obtain ⟨x, ex, x1⟩ := worst_c hq
    rcases c01 with rfl | rfl
    · refine ⟨(.inl (wrS N (nM N)).1, x), ?_, _, rfl, ((h.fr x1).q q).rel, agr_L t (show (if (0 : Int32) = 0 then (wrS N (nM N)).1 else nI (wrS N (nM N)).2) = _ from if_pos rfl)⟩
      unfold f_X9_worst f_X9_worst_J19
      rw [if_pos rfl, ex]
      simp only [Option.bind_some, if_true]
    · obtain ⟨z, x', ez, x2, hz'⟩ := worst1_c (hq.fr x1)
      refine ⟨(.inl (nI (wrS N (nM N)).2), x'), ?_, _, rfl, (((h.fr x1).fr x2).q q).rel, agr_L t (show (if (1 : Int32) = 0 then (wrS N (nM N)).1 else nI (wrS N (nM N)).2) = _ from if_neg i1n0)⟩
      unfold f_X9_worst f_X9_worst_J19
      rw [if_neg i1n0, if_pos rfl, ex]
      simp only [Option.bind_some]
      rw [if_neg i1n0, ez]
      simp only [Option.bind_some]
      rw [hz']
  · rw [if_neg c, if_pos rfl]
    have em : f_X10_worst_J24 y a1 (nI 1) = some (0, up2 y 81 0 1) := by
      unfold f_X10_worst_J24
      rw [show nI 1 = (1 : Int32) from rfl]
      simp only [lt, throws1]
      rw [if_neg i1n0]
    rw [em]
    have n0 : ¬ a1 = 0 := fun q => c ⟨0, by omega, q⟩
    have n1 : ¬ a1 = 1 := fun q => c ⟨1, by omega, q⟩
    refine ⟨(.inr 3, xc), ?_, _, rfl, (h.q (q.thr 1)).rel, agr_R1 (hm := up2 y 81 0 1) up2_at⟩
    unfold f_X9_worst
    rw [if_neg n0, if_neg n1]
/-! PASS: the arcs that all ways use -/
section
variable {N : aN} {hm y : gIH} {xc : gXH} {fa tr : Nat}
abbrev E1 (N : aN) : Nat → Nat → Prop := Ed N 100
/-- a bridge comes in at u -/
def Br (N : aN) (u : Nat) : Prop := ∃ a, a < nM N ∧ nT N a = u ∧ Ls N a u
theorem Br.one (hN : aOk N) {a b u : Nat} (ha : a < nM N) (h1 : nT N a = u) (h2 : Ls N a u) (hb : b < nM N) (h3 : nT N b = u) (h4 : Ls N b u) : a = b := by
  apply Classical.byContradiction
  intro hne
  obtain ⟨p, r⟩ := h2.ends hN ha
  rw [h1] at r
  -- the begin of a is reached past u, thus without b
  have p2 := (p.past r).full hN
  have p3 : Rc (Ed N b) (fun s => s = nRt N) (fun s => s = u) (nF N a) := p2.noT h3
  have := hN.m60
  exact h4.2.2 (Rc.step p3.all (Or.inl ⟨a, ha, h2.1, hne, by omega, rfl, h1⟩) (fun z => z))
theorem Ls.iff (hN : aOk N) {a n : Nat} (ha : a < nM N) (hr : Rc (Ed N 100) (fun s => s = nRt N) nox n) : Ls N a n ↔ Ls N a (nT N a) ∧ Up (Ed N 100) (fun s => s = nRt N) (nT N a) n := by
  constructor
  · intro h
    refine ⟨h.here hN ha, ?_⟩
    by_cases c : nT N a = n
    · exact Or.inr c
    · exact Or.inl ⟨hr, c, fun z => h.2.2 (z.noT (X := fun s => s = nT N a) rfl).all⟩
  · rintro ⟨h, hu | hu⟩
    · refine ⟨h.1, hr, fun z => ?_⟩
      have : Rc (Ed N a) (fun s => s = nRt N) nox (nT N a) ∨ Rc (Ed N 100) (fun s => s = nRt N) (fun s => s = nT N a) n := by
        refine z.ind (P := fun x => Rc (Ed N a) (fun s => s = nRt N) nox (nT N a) ∨ Rc (Ed N 100) (fun s => s = nRt N) (fun s => s = nT N a) x) (fun s a1 b => ?_) (fun u w h1 p e x => ?_)
        · by_cases c : s = nT N a
          · left
            rw [← c]
            exact Rc.base a1 b
          · exact Or.inr (Rc.base a1 c)
        · rcases p with p | p
          · exact Or.inl p
          · by_cases c : w = nT N a
            · left
              rw [← c]
              exact Rc.step h1 e x
            · exact Or.inr (Rc.step p (e.imp (fun ⟨b, b1, b2, b3, b4, b5⟩ => ⟨b, b1, b2, by have := hN.m60; omega, b4, b5⟩) id) c)
      rcases this with w | w
      · exact h.2.2 w
      · exact hu.2.2 w
    · rw [← hu]
      exact h
/-- how many bridges are on the ways to n -/
noncomputable def pN (N : aN) (n : Nat) : Nat := fb_ct (fun a => cb (Ls N a n)) (nM N)
/-- a bridge comes in at that depth of the chain of n -/
noncomputable def pC (N : aN) (n j : Nat) : Bool := cb (∃ u, Up (Ed N 100) (fun s => s = nRt N) u n ∧ dp (Ed N 100) (fun s => s = nRt N) u = j ∧ Br N u)
theorem ct_inj : ∀ (n : Nat) (p q : Nat → Bool) (m : Nat) (f : Nat → Nat), (∀ i, i < n → p i = true → f i < m ∧ q (f i) = true) → (∀ i j, i < n → j < n → p i = true → p j = true → f i = f j → i = j) → fb_ct p n ≤ fb_ct q m
  | 0, p, q, m, f, h1, h2 => Nat.zero_le _
  | n + 1, p, q, m, f, h1, h2 => by
    rw [fb_ct_succ]
    by_cases c : p n = true
    · rw [if_pos c]
      obtain ⟨f1, f2⟩ := h1 n (by omega) c
      have := fb_ct_upd q false f1
      rw [if_pos f2, if_neg (by decide)] at this
      have ih := ct_inj n p (fun k => if k = f n then false else q k) m f (fun i hi hp => ⟨(h1 i (by omega) hp).1, by
        show (if f i = f n then false else q (f i)) = true
        rw [if_neg (fun z => by have := h2 i n (by omega) (by omega) hp c z; omega)]
        exact (h1 i (by omega) hp).2⟩) (fun i j hi hj => h2 i j (by omega) (by omega))
      omega
    · rw [if_neg c]
      exact ct_inj n p q m f (fun i hi => h1 i (by omega)) (fun i j hi hj => h2 i j (by omega) (by omega))
theorem pN_pC (hN : aOk N) {n : Nat} (hr : Rc (Ed N 100) (fun s => s = nRt N) nox n) : pN N n = fb_ct (pC N n) (dp (Ed N 100) (fun s => s = nRt N) n + 1) := by
  have hE : E16 (Ed N 100) := hN.e16n (k1 := 100) (k2 := 100)
  have hS := hN.s16
  apply Nat.le_antisymm
  · refine ct_inj _ _ _ _ (fun a => dp (Ed N 100) (fun s => s = nRt N) (nT N a)) (fun a ha hp => ?_) (fun a b ha hb hp hq he => ?_)
    · obtain ⟨h1, h2⟩ := (Ls.iff hN ha hr).mp (cb_t.mp hp)
      exact ⟨Nat.lt_succ_of_le (h2.le hE hS), cb_t.mpr ⟨nT N a, h2, rfl, a, ha, rfl, h1⟩⟩
    · obtain ⟨h1, h2⟩ := (Ls.iff hN ha hr).mp (cb_t.mp hp)
      obtain ⟨h3, h4⟩ := (Ls.iff hN hb hr).mp (cb_t.mp hq)
      have e := h2.one hE hS h4 he
      exact Br.one hN ha rfl h1 hb e.symm (by rw [e]; exact h3)
  · have hx : ∀ j, ∃ a, pC N n j = true → a < nM N ∧ Ls N a n ∧ dp (Ed N 100) (fun s => s = nRt N) (nT N a) = j := fun j => by
      by_cases c : pC N n j = true
      · obtain ⟨u, u1, u2, a, a1, a2, a3⟩ := cb_t.mp c
        exact ⟨a, fun _ => ⟨a1, (Ls.iff hN a1 hr).mpr ⟨by rw [a2]; exact a3, by rw [a2]; exact u1⟩, by rw [a2]; exact u2⟩⟩
      · exact ⟨0, fun z => absurd z c⟩
    refine ct_inj _ _ _ _ (fun j => (hx j).choose) (fun j _ hp => ?_) (fun i j _ _ hp hq he => ?_)
    · obtain ⟨a, b, c⟩ := (hx j).choose_spec hp
      exact ⟨a, cb_t.mpr b⟩
    · have h1 := ((hx i).choose_spec hp).2.2
      have h2 := ((hx j).choose_spec hq).2.2
      have he : (hx i).choose = (hx j).choose := he
      rw [he] at h1
      exact h1.symm.trans h2
/-- the number of a bridge on the ways to n -/
theorem pN_at (hN : aOk N) {a n : Nat} (ha : a < nM N) (hr : Rc (Ed N 100) (fun s => s = nRt N) nox n) (h : Ls N a n) : pN N (nF N a) = fb_ct (pC N n) (dp (Ed N 100) (fun s => s = nRt N) (nT N a)) := by
  have hE : E16 (Ed N 100) := hN.e16n (k1 := 100) (k2 := 100)
  have hS := hN.s16
  obtain ⟨p, r⟩ := h.ends hN ha
  obtain ⟨h1, h2⟩ := (Ls.iff hN ha hr).mp h
  have hK : IsK (Ed N 100) (fun s => s = nRt N) (nF N a) (nT N a) := by
    have hk := h.kind hN ha
    unfold KdI at hk
    rw [if_pos h.1, if_pos (cb_t.mpr (p.full hN))] at hk
    split at hk
    · exact absurd hk (by decide)
    · split at hk
      · next hc => exact cb_t.mp hc
      · exact absurd hk (by decide)
  rw [pN_pC hN (p.full hN), ← hK.dpk hE hS]
  refine fb_ct_cong fun j hj => cb_congr ⟨fun ⟨u, u1, u2, u3⟩ => ⟨u, (u1.tr (Or.inl hK.1)).tr h2, u2, u3⟩, fun ⟨u, u1, u2, u3⟩ => ⟨u, ?_, u2, u3⟩⟩
  have hd := hK.dpk hE hS
  have hw : Up (Ed N 100) (fun s => s = nRt N) (nF N a) n := Up.tr (Or.inl hK.1) h2
  rcases u1 with u1 | u1
  · rcases hw with hw | hw
    · by_cases c : u = nF N a
      · exact Or.inr c
      · rcases u1.tot hw c with z | z
        · exact Or.inl z
        · have := dp_lt (hN.f16 ha) z
          omega
    · rw [hw]
      exact Or.inl u1
  · have := hw.le hE hS
    subst u1
    have l2 := h2.le hE hS
    omega
theorem bridgeTo_c (h : CQ N fa tr xc) {u : Nat} (hu : u < 16) : ∃ z x, f_X8_bridgeTo fa tr xc (nI u) = some (z, x) ∧ Fr (WS tr) xc x ∧ ((∃ a, a < nM N ∧ nT N a = u ∧ Ls N a u ∧ z = nI a) ∨ (¬ Br N u ∧ z = -1)) := by
  have hN := h.2.1
  have h60 := hN.m60
  have key : ∃ z, lp (f_X8_bridgeTo_L2 fa tr (nI u)) 2000 (0, xc) = some z ∧ ((∃ a x, a < nM N ∧ nT N a = u ∧ Ls N a u ∧ z = .inl (nI a, x) ∧ Fr (WS tr) xc x) ∨ (¬ Br N u ∧ ∃ x, z = .inr x ∧ Fr (WS tr) xc x)) := by
    refine lp_forx (step := f_X8_bridgeTo_L2 fa tr (nI u)) (nM N) (fun j s => s.1 = nI j ∧ (∀ a, a < j → nT N a = u → ¬ Ls N a u) ∧ Fr (WS tr) xc s.2) _ ?_ ?_ ⟨rfl, fun a ha => absurd ha (by omega), Fr.rf⟩ (by omega)
    · rintro j ⟨i, x⟩ hj ⟨h0, h1, h2⟩
      dsimp only at h0 h1 h2
      subst h0
      have hx := h.fr h2
      unfold f_X8_bridgeTo_L2
      dsimp only
      rw [hx.arcs, if_neg (nI_ge hj (by omega)), if_neg (show ¬ (60 : Int32) ≤ nI j from nI_ge (a := j) (b := 60) (by omega) (by omega)), atv_n (L := 60) (by omega) (by omega), hx.2.2.1.to60 hj]
      by_cases c : nT N j = u
      · rw [if_pos (by rw [c])]
        obtain ⟨x', e', f'⟩ := bridge_c hx hj
        rw [e']
        simp only [Option.bind_some, lt]
        by_cases c2 : Ls N j (nT N j)
        · rw [if_neg (by rw [bi01, cb_t.mpr c2]; decide)]
          rw [c] at c2
          exact Or.inr ⟨_, rfl, Or.inl ⟨j, x', hj, c, c2, rfl, h2.tr f'⟩⟩
        · rw [if_pos (by rw [bi01]; exact cb_f.mpr c2)]
          rw [c] at c2
          refine Or.inl ⟨_, rfl, nI_1 j, fun a ha => ?_, h2.tr f'⟩
          rcases Nat.lt_or_ge a j with o | o
          · exact h1 a o
          · rw [show a = j by omega]
            exact fun _ => c2
      · rw [if_neg (by rw [nI_eq (by have := hN.t16 hj; omega) (by omega)]; exact c)]
        simp only [lt]
        refine Or.inl ⟨_, rfl, nI_1 j, fun a ha => ?_, h2⟩
        rcases Nat.lt_or_ge a j with o | o
        · exact h1 a o
        · rw [show a = j by omega]
          exact fun z => absurd z c
    · rintro ⟨i, x⟩ ⟨h0, h1, h2⟩
      dsimp only at h0 h1 h2
      subst h0
      unfold f_X8_bridgeTo_L2
      dsimp only
      rw [(h.fr h2).arcs, if_pos (Int32.le_refl _)]
      exact ⟨_, rfl, Or.inr ⟨fun ⟨a, a1, a2, a3⟩ => h1 a a1 a2 a3, _, rfl, h2⟩⟩
  obtain ⟨z, ez, hz⟩ := key
  unfold f_X8_bridgeTo
  rw [ez]
  simp only [Option.bind_some]
  rcases hz with ⟨a, x, a1, a2, a3, rfl, f⟩ | ⟨n, x, rfl, f⟩
  · exact ⟨_, _, rfl, f, Or.inl ⟨a, a1, a2, a3, rfl⟩⟩
  · exact ⟨_, _, rfl, f, Or.inr ⟨n, rfl⟩⟩
end
