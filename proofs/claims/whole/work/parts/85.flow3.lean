/-! THE REFERENCE'S HARD -/
section
variable {N : aN} {hm y : gIH}
/-- which arcs a way goes along -/
def FlM (N : aN) (w : gIH) (p : Nat → Bool) : Prop := ∀ a, a < nM N → w 94 a = if p a = true then 1 else 0
def cFa (N : aN) (X : Nat → Bool) (b : Bool) (a : Nat) : Nat := if nO N a = true then (if b = true then (if (X (nT N a) && !X (nF N a)) = true then 1 else 0) else (if (X (nF N a) && !X (nT N a)) = true then 1 else 0)) else 0
def cF (N : aN) (p X : Nat → Bool) : Nat := fb_sm (fun a => cFa N X (p a) a) (nM N)
/-- arc a leads from u to v, with room -/
def Rm (N : aN) (p : Nat → Bool) (a u v : Nat) : Prop := nO N a = true ∧ ((p a = false ∧ nF N a = u ∧ nT N a = v) ∨ (p a = true ∧ nT N a = u ∧ nF N a = v))
def uB (p : Nat → Bool) (a : Nat) (b : Bool) : Nat → Bool := fun i => if i = a then b else p i
theorem cF_step {p X : Nat → Bool} {a u v : Nat} (ha : a < nM N) (h : Rm N p a u v) : cF N (uB p a (!p a)) X + (if X u = true then 1 else 0) = cF N p X + (if X v = true then 1 else 0) := by
  have e := fb_sm_upd (fun i => cFa N X (p i) i) (cFa N X (!p a) a) ha
  have e2 : cF N (uB p a (!p a)) X = fb_sm (fun k => if k = a then cFa N X (!p a) a else cFa N X (p k) k) (nM N) := by
    unfold cF
    refine fb_sm_cong fun k _ => ?_
    unfold uB
    by_cases c : k = a
    · rw [if_pos c, if_pos c, c]
    · rw [if_neg c, if_neg c]
  rw [← e2] at e
  have e3 : fb_sm (fun i => cFa N X (p i) i) (nM N) = cF N p X := rfl
  rw [e3] at e
  obtain ⟨A, eA⟩ : ∃ A, cF N p X = A := ⟨_, rfl⟩
  obtain ⟨B, eB⟩ : ∃ B, cF N (uB p a (!p a)) X = B := ⟨_, rfl⟩
  rw [eA, eB] at e
  rw [eA, eB]
  obtain ⟨ho, ⟨hp, h1, h2⟩ | ⟨hp, h1, h2⟩⟩ := h
  · rw [hp] at e
    unfold cFa at e
    rw [h1, h2] at e
    cases hx : X u <;> cases hy : X v <;> simp [ho, hx, hy] at e ⊢ <;> omega
  · rw [hp] at e
    unfold cFa at e
    rw [h1, h2] at e
    cases hx : X u <;> cases hy : X v <;> simp [ho, hx, hy] at e ⊢ <;> omega
theorem cF_0 (X : Nat → Bool) : cF N (fun _ => false) X = cA N X (nM N) := by
  unfold cF cA
  refine fb_sm_cong fun a _ => ?_
  unfold cFa
  rfl
def WyM (N : aN) (w : gIH) (p : Nat → Bool) (s : Int32) (rk : Nat → Nat) : Prop := ∀ v, v < 16 → bt s v = true → v ≠ nRt N → ∃ a u, a < nM N ∧ w 95 v = nI a ∧ Rm N p a u v ∧ bt s u = true ∧ rk u < rk v
def Crs (N : aN) (p : Nat → Bool) (s : Int32) (a : Nat) : Prop := ∃ u v, Rm N p a u v ∧ bt s u = true ∧ ¬ bt s v = true
def RkB (s : Int32) (rk : Nat → Nat) : Prop := ∀ v, bt s v = true → rk v < fb_ct (bt s) 16
theorem flows_in (hN : aOk N) (b1 b3 : Int32) {x : gIH} (hM : MNet x 82 0 N) {p : Nat → Bool} (hp : FlM N x p) {s0 : Int32} (h16 : S16 s0) {rk : Nat → Nat} (hrk : RkB s0 rk) (hw : WyM N x p s0 rk) :
    ∃ r, lp (f_X10_flows_L27 b1 b3) 2000 (s0, (0 : Int32), x) = some r ∧ FrM (fun c _ => c = 95) x r.2 ∧ S16 r.1 ∧ (∀ v, bt s0 v = true → bt r.1 v = true) ∧ (∃ rk', RkB r.1 rk' ∧ WyM N r.2 p r.1 rk') ∧ (r.1 = s0 → ∀ a, a < nM N → ¬ Crs N p s0 a) := by
  have h60 := hN.m60
  refine lp_for (step := f_X10_flows_L27 b1 b3) (nM N) (fun j z => z.2.1 = nI j ∧ FrM (fun c _ => c = 95) x z.2.2 ∧ S16 z.1 ∧ (∀ v, bt s0 v = true → bt z.1 v = true) ∧ (∃ rk', RkB z.1 rk' ∧ WyM N z.2.2 p z.1 rk') ∧ (z.1 = s0 → ∀ a, a < j → ¬ Crs N p s0 a)) _ ?_ ?_ ⟨rfl, FrM.rf, h16, fun v q => q, ⟨rk, hrk, hw⟩, fun _ a ha => absurd ha (by omega)⟩ (by omega)
  · rintro j ⟨s, k, w⟩ hj ⟨h0, hf, h1, h2, ⟨rk', h3, h4⟩, h5⟩
    dsimp only at h0 hf h1 h2 h3 h4 h5
    subst h0
    have hMw : MNet w 82 0 N := hM.fr hf (fun j => by omega)
    have f16 := hN.f16 hj
    have t16 := hN.t16 hj
    have h94 : w 94 j = if p j = true then 1 else 0 := by
      rw [hf 94 j (by omega)]
      exact hp j hj
    have next : ¬ Crs N p s j → ∃ z, some (Sum.inl (s, nI j + 1, w)) = some (Sum.inl z : (Int32 × Int32 × gIH) ⊕ (Int32 × gIH)) ∧ z.2.1 = nI (j + 1) ∧ FrM (fun c _ => c = 95) x z.2.2 ∧ S16 z.1 ∧ (∀ v, bt s0 v = true → bt z.1 v = true) ∧ (∃ rk', RkB z.1 rk' ∧ WyM N z.2.2 p z.1 rk') ∧ (z.1 = s0 → ∀ a, a < j + 1 → ¬ Crs N p s0 a) := fun hc =>
      ⟨_, rfl, nI_1 j, hf, h1, h2, ⟨rk', h3, h4⟩, fun e a ha => by
        dsimp only at e
        rcases Nat.lt_or_ge a j with q | q
        · exact h5 e a q
        · rw [show a = j by omega, ← e]
          exact hc⟩
    have add : ∀ u n, n < 16 → Rm N p j u n → bt s u = true → ¬ bt s n = true → ∃ z, f_X10_flows_J168 w b1 s b3 (nI j) (nI n) = some (Sum.inl z) ∧ z.2.1 = nI (j + 1) ∧ FrM (fun c _ => c = 95) x z.2.2 ∧ S16 z.1 ∧ (∀ v, bt s0 v = true → bt z.1 v = true) ∧ (∃ rk', RkB z.1 rk' ∧ WyM N z.2.2 p z.1 rk') ∧ (z.1 = s0 → ∀ a, a < j + 1 → ¬ Crs N p s0 a) := fun u n hn hr hu hnn => by
      obtain ⟨g1, g2⟩ := bt_set hn h1
      have hlt : fb_ct (bt s) 16 < fb_ct (bt (s ||| ((1 : Int32) <<< (nI n &&& 31)))) 16 := ct_lt (fun i _ q => (g2 i).mpr (Or.inl q)) hn ((g2 n).mpr (Or.inr rfl)) (by simpa using hnn)
      have hun : u ≠ n := fun e => hnn (by rw [← e]; exact hu)
      unfold f_X10_flows_J168
      simp only [lt]
      rw [gck_ni hn (by omega), nI_clamp (by omega)]
      refine ⟨_, rfl, nI_1 j, hf.tr (FrM.s rfl), g1, fun v q => (g2 v).mpr (Or.inl (h2 v q)), ⟨fun v => if v = n then fb_ct (bt s) 16 else rk' v, fun v hv => ?_, fun v hv hb hne => ?_⟩, fun e => ?_⟩
      · dsimp only at hv ⊢
        by_cases c : v = n
        · rw [if_pos c]
          exact hlt
        · rw [if_neg c]
          have := h3 v (((g2 v).mp hv).elim id (fun z => absurd z c))
          omega
      · dsimp only at hb ⊢
        by_cases c : v = n
        · subst c
          rw [if_pos rfl]
          exact ⟨j, u, hj, up2_at, hr, (g2 u).mpr (Or.inl hu), by rw [if_neg hun]; exact h3 u hu⟩
        · obtain ⟨a, u', a1, a2, a3, a4, a5⟩ := h4 v hv (((g2 v).mp hb).elim id (fun z => absurd z c)) hne
          have hu' : u' ≠ n := fun e => hnn (by rw [← e]; exact a4)
          refine ⟨a, u', a1, ?_, a3, (g2 u').mpr (Or.inl a4), ?_⟩
          · rw [up2_at2 (Or.inr c)]
            exact a2
          · rw [if_neg c, if_neg hu']
            exact a5
      · exfalso
        dsimp only at e
        have q := (g2 n).mpr (Or.inr rfl)
        rw [e] at q
        exact hnn (h2 n q)
    unfold f_X10_flows_L27
    dsimp only
    rw [m_arcs hMw]
    simp only [Option.bind_some]
    rw [if_neg (nI_ge hj (by omega)), m_open hN hMw hj]
    simp only [Option.bind_some]
    by_cases ho : nO N j = true
    · rw [if_pos ho, if_neg i1n0, gck_ni (show j < 60 by omega) (by omega), nI_clamp (show j < 2 ^ 31 by omega)]
      have J0 : f_X10_flows_J132 w b1 s b3 (nI j) 0 = some (Sum.inl (s, nI j + 1, w)) := by
        unfold f_X10_flows_J132 f_X10_flows_J133
        rw [if_pos rfl, if_pos rfl]
        rfl
      by_cases hpj : p j = true
      · rw [if_neg (show ¬ w 94 j = 0 by rw [h94, if_pos hpj]; exact i1n0)]
        unfold f_X10_flows_J88 f_X10_flows_J89
        rw [gck_ni (show j < 60 by omega) (by omega), nI_clamp (show j < 2 ^ 31 by omega), h94, if_pos hpj, if_pos rfl, m_to hN hMw hj]
        simp only [Option.bind_some]
        by_cases c1 : bt s (nT N j) = true
        · rw [if_neg (fun q => by rw [holds0 _ (by omega), c1] at q; cases q), m_from hN hMw hj]
          simp only [Option.bind_some]
          by_cases c2 : bt s (nF N j) = true
          · rw [if_neg (fun q => by rw [holds0 _ (by omega), c2] at q; cases q), J0]
            refine next ?_
            rintro ⟨u, v, ⟨-, ⟨z1, z2, z3⟩ | ⟨z1, z2, z3⟩⟩, z4, z5⟩
            · rw [hpj] at z1
              cases z1
            · rw [← z3] at z5
              exact z5 c2
          · rw [if_pos (by rw [holds0 _ (by omega)]; simpa using c2)]
            unfold f_X10_flows_J133 f_X10_flows_J148
            rw [if_pos rfl, if_neg i1n0, if_pos rfl, m_from hN hMw hj]
            simp only [Option.bind_some]
            exact add (nT N j) (nF N j) f16 ⟨ho, Or.inr ⟨hpj, rfl, rfl⟩⟩ c1 c2
        · rw [if_pos (by rw [holds0 _ (by omega)]; simpa using c1), J0]
          refine next ?_
          rintro ⟨u, v, ⟨-, ⟨z1, z2, z3⟩ | ⟨z1, z2, z3⟩⟩, z4, z5⟩
          · rw [hpj] at z1
            cases z1
          · rw [← z2] at z4
            exact c1 z4
      · have hpf : p j = false := by simpa using hpj
        have J8 : f_X10_flows_J88 w b1 s b3 (nI j) = some (Sum.inl (s, nI j + 1, w)) := by
          unfold f_X10_flows_J88 f_X10_flows_J89
          rw [gck_ni (show j < 60 by omega) (by omega), nI_clamp (show j < 2 ^ 31 by omega), h94, if_neg hpj, if_neg (by decide), J0]
        rw [if_pos (show w 94 j = 0 by rw [h94, if_neg hpj]), m_from hN hMw hj]
        simp only [Option.bind_some]
        by_cases c1 : bt s (nF N j) = true
        · rw [if_neg (fun q => by rw [holds0 _ (by omega), c1] at q; cases q), m_to hN hMw hj]
          simp only [Option.bind_some]
          by_cases c2 : bt s (nT N j) = true
          · rw [if_neg (fun q => by rw [holds0 _ (by omega), c2] at q; cases q), J8]
            refine next ?_
            rintro ⟨u, v, ⟨-, ⟨z1, z2, z3⟩ | ⟨z1, z2, z3⟩⟩, z4, z5⟩
            · rw [← z3] at z5
              exact z5 c2
            · rw [hpf] at z1
              cases z1
          · rw [if_pos (by rw [holds0 _ (by omega)]; simpa using c2)]
            unfold f_X10_flows_J89
            rw [gck_ni (show j < 60 by omega) (by omega), nI_clamp (show j < 2 ^ 31 by omega), h94, if_neg hpj, if_neg (by decide)]
            unfold f_X10_flows_J132 f_X10_flows_J133 f_X10_flows_J148
            rw [if_neg i1n0, if_neg i1n0, m_to hN hMw hj]
            simp only [Option.bind_some]
            exact add (nF N j) (nT N j) t16 ⟨ho, Or.inl ⟨hpf, rfl, rfl⟩⟩ c1 c2
        · rw [if_pos (by rw [holds0 _ (by omega)]; simpa using c1), J8]
          refine next ?_
          rintro ⟨u, v, ⟨-, ⟨z1, z2, z3⟩ | ⟨z1, z2, z3⟩⟩, z4, z5⟩
          · rw [← z2] at z4
            exact c1 z4
          · rw [hpf] at z1
            cases z1
    · rw [if_neg ho, if_pos rfl]
      refine next ?_
      rintro ⟨u, v, ⟨z, -⟩, -⟩
      exact ho z
  · rintro ⟨s, k, w⟩ ⟨h0, hf, h1, h2, h3, h5⟩
    dsimp only at h0 hf h1 h2 h3 h5
    subst h0
    have hMw : MNet w 82 0 N := hM.fr hf (fun j => by omega)
    unfold f_X10_flows_L27
    dsimp only
    rw [m_arcs hMw]
    simp only [Option.bind_some]
    rw [if_pos (nI_le (Nat.le_refl _) (by omega))]
    exact ⟨_, rfl, hf, h1, h2, h3, h5⟩
theorem flows_o (hN : aOk N) {x : gIH} (hM : MNet x 82 0 N) {p : Nat → Bool} (hp : FlM N x p) {t : Nat} (ht : t < 16) :
    ∃ r, lp (f_X10_flows_L9 (nI t)) 2000 ((1 : Int32) <<< (nI (nRt N) &&& 31), (0 : Int32), x) = some r ∧ FrM (fun c _ => c = 95) x r.2 ∧ S16 r.1 ∧ bt r.1 (nRt N) = true ∧ (∃ rk', RkB r.1 rk' ∧ WyM N r.2 p r.1 rk') ∧ (bt r.1 t = true ∨ ∀ a, a < nM N → ¬ Crs N p r.1 a) := by
  have hr := hN.r16
  have hone : ∀ i, bt ((1 : Int32) <<< (nI (nRt N) &&& 31)) i = true ↔ i = nRt N := bt_one16 hr
  refine lp_run (step := f_X10_flows_L9 (nI t)) (fun z => FrM (fun c _ => c = 95) x z.2.2 ∧ S16 z.1 ∧ bt z.1 (nRt N) = true ∧ (∃ rk', RkB z.1 rk' ∧ WyM N z.2.2 p z.1 rk') ∧ (z.1 = z.2.1 → ∀ a, a < nM N → ¬ Crs N p z.1 a)) (fun z => 2 * (16 - fb_ct (bt z.1) 16) + (if z.1 = z.2.1 then 0 else 1)) _ ?_ (k := 2000) ⟨FrM.rf, s16_one hr, (hone _).mpr rfl, ⟨fun _ => 0, fun v hv => fb_ct_pos.mpr ⟨nRt N, hr, (hone _).mpr rfl⟩, fun v _ hv hne => absurd ((hone v).mp hv) hne⟩, fun e => ?_⟩ (by dsimp only; split <;> omega)
  · rintro ⟨s, k, w⟩ ⟨hf, h1, h2, ⟨rk, h3, h4⟩, h5⟩
    dsimp only at hf h1 h2 h3 h4 h5
    unfold f_X10_flows_L9
    dsimp only
    by_cases c : s = k
    · right
      rw [if_pos c]
      exact ⟨_, rfl, hf, h1, h2, ⟨rk, h3, h4⟩, Or.inr (h5 c)⟩
    · rw [if_neg c]
      by_cases c2 : bt s t = true
      · right
        rw [if_neg (fun q => by rw [holds0 _ (by omega), c2] at q; cases q)]
        exact ⟨_, rfl, hf, h1, h2, ⟨rk, h3, h4⟩, Or.inl c2⟩
      · left
        rw [if_pos (by rw [holds0 _ (by omega)]; simpa using c2)]
        have hMw : MNet w 82 0 N := hM.fr hf (fun j => by omega)
        have hpw : FlM N w p := fun a ha => by
          rw [hf 94 a (by omega)]
          exact hp a ha
        obtain ⟨r, er, r1, r2, r3, r4, r5⟩ := flows_in hN (nI t) s hMw hpw h1 h3 h4
        rw [er]
        refine ⟨_, rfl, ⟨hf.tr r1, r2, r3 _ h2, r4, fun e => ?_⟩, ?_⟩
        · dsimp only at e ⊢
          rw [e]
          exact r5 e
        · dsimp only
          rw [if_neg c]
          by_cases e : r.1 = s
          · rw [if_pos e, e]
            omega
          · rw [if_neg e]
            have := S16.grow h1 r2 r3 e
            have := fb_ct_le (bt r.1) 16
            omega
  · exfalso
    have q := (hone (nRt N)).mpr rfl
    dsimp only at e
    rw [e, b_0] at q
    cases q
theorem fill_m (hN : aOk N) {x : gIH} (hM : MNet x 82 0 N) {p : Nat → Bool} (hp : FlM N x p) {s : Int32} {rk : Nat → Nat} (hrk : RkB s rk) (hw : WyM N x p s rk) {t : Nat} (ht : t < 16) (hst : bt s t = true) (h16 : S16 s) :
    ∃ y, lp f_X10_flows_L208 2000 (nI t, x) = some y ∧ FrM (fun c _ => c = 94) x y ∧ ∃ p', FlM N y p' ∧ ∀ X : Nat → Bool, cF N p' X + (if X (nRt N) = true then 1 else 0) = cF N p X + (if X t = true then 1 else 0) := by
  have hr := hN.r16
  have h60 := hN.m60
  refine lp_run (step := f_X10_flows_L208) (fun z => ∃ v p', z.1 = nI v ∧ v < 16 ∧ bt s v = true ∧ FrM (fun c _ => c = 94) x z.2 ∧ FlM N z.2 p' ∧ (∀ a, rk (nF N a) ≤ rk v → rk (nT N a) ≤ rk v → p' a = p a) ∧ ∀ X : Nat → Bool, cF N p' X + (if X v = true then 1 else 0) = cF N p X + (if X t = true then 1 else 0)) (fun z => rk z.1.toNatClampNeg) _ ?_ (k := 2000) ⟨t, p, rfl, ht, hst, FrM.rf, hp, fun _ _ _ => rfl, fun X => rfl⟩ (by
    dsimp only
    rw [nI_clamp (by omega)]
    have := hrk t hst
    have := fb_ct_le (bt s) 16
    omega)
  rintro ⟨at0, w⟩ ⟨v, p', h0, hv, h1, hf, h2, h3, h4⟩
  dsimp only at h0 hf h2
  subst h0
  have hMw : MNet w 82 0 N := hM.fr hf (fun j => by omega)
  unfold f_X10_flows_L208
  dsimp only
  rw [m_root hMw]
  simp only [Option.bind_some]
  by_cases c : v = nRt N
  · right
    rw [c, if_pos rfl]
    rw [c] at h4
    exact ⟨_, rfl, hf, p', h2, h4⟩
  · left
    rw [if_neg (fun q => c ((nI_eq (by omega) (by omega)).mp q)), gck_ni hv (by omega), nI_clamp (show v < 2 ^ 31 by omega)]
    obtain ⟨a, u, a1, a2, a3, a4, a5⟩ := hw v hv h1 c
    have hu := S16.of_bt h16 a4
    have huv : u ≠ v := fun e => by rw [e] at a5; omega
    rw [show w 95 v = nI a from by rw [hf 95 v (by omega)]; exact a2]
    simp only [lt]
    rw [m_to hN hMw a1]
    simp only [Option.bind_some]
    have f16 := hN.f16 a1
    have t16 := hN.t16 a1
    have done : ∀ (b : Bool), p' a = !b → Rm N p' a u v → ∃ z, some (Sum.inl (nI u, up2 w 94 a (if b = true then 1 else 0))) = some (Sum.inl z : (Int32 × gIH) ⊕ gIH) ∧ (∃ v p'', z.1 = nI v ∧ v < 16 ∧ bt s v = true ∧ FrM (fun c _ => c = 94) x z.2 ∧ FlM N z.2 p'' ∧ (∀ a, rk (nF N a) ≤ rk v → rk (nT N a) ≤ rk v → p'' a = p a) ∧ ∀ X : Nat → Bool, cF N p'' X + (if X v = true then 1 else 0) = cF N p X + (if X t = true then 1 else 0)) ∧ rk z.1.toNatClampNeg < rk v := fun b hb hR => by
      refine ⟨_, rfl, ⟨u, uB p' a b, rfl, hu, a4, hf.tr (FrM.s rfl), fun i hi => ?_, fun i q1 q2 => ?_, fun X => ?_⟩, ?_⟩
      · unfold uB
        by_cases e : i = a
        · subst e
          rw [if_pos rfl]
          exact up2_at
        · rw [if_neg e]
          dsimp only
          rw [up2_at2 (Or.inr e)]
          exact h2 i hi
      · have e : i ≠ a := fun e => by
          subst e
          obtain ⟨-, ⟨-, z1, z2⟩ | ⟨-, z1, z2⟩⟩ := hR
          · rw [z2] at q2
            omega
          · rw [z2] at q1
            omega
        unfold uB
        rw [if_neg e]
        exact h3 i (by omega) (by omega)
      · have z1 := cF_step (X := X) a1 hR
        rw [hb, Bool.not_not] at z1
        have z2 := h4 X
        omega
      · dsimp only
        rw [nI_clamp (by omega)]
        exact a5
    have ep : p' a = p a := by
      obtain ⟨-, ⟨-, z1, z2⟩ | ⟨-, z1, z2⟩⟩ := a3
      · exact h3 a (by rw [z1]; omega) (by rw [z2]; omega)
      · exact h3 a (by rw [z2]; omega) (by rw [z1]; omega)
    obtain ⟨ho, ⟨hpa, z1, z2⟩ | ⟨hpa, z1, z2⟩⟩ := a3
    · have hp' : p' a = false := ep.trans hpa
      have hMz : MNet (up2 w 94 a 1) 82 0 N := hMw.fr (W := fun c _ => c = 94) (FrM.s rfl) (fun j => by omega)
      rw [z2, if_pos rfl, gck_ni (show a < 60 by omega) (by omega), nI_clamp (show a < 2 ^ 31 by omega), if_pos (show w 94 a = 0 by rw [h2 a a1, hp', if_neg (by decide)])]
      unfold f_X10_flows_J252 f_X10_flows_J270
      rw [if_neg i1n0, gck_ni (show a < 60 by omega) (by omega), nI_clamp (show a < 2 ^ 31 by omega)]
      simp only [lt]
      rw [if_neg i1n0, m_from hN hMz a1, z1]
      simp only [Option.bind_some]
      exact done true hp' ⟨ho, Or.inl ⟨hp', z1, z2⟩⟩
    · have hp' : p' a = true := ep.trans hpa
      have hMz : MNet (up2 w 94 a 0) 82 0 N := hMw.fr (W := fun c _ => c = 94) (FrM.s rfl) (fun j => by omega)
      rw [z1, if_neg (fun q => huv ((nI_eq (by omega) (by omega)).mp q))]
      unfold f_X10_flows_J251 f_X10_flows_J252 f_X10_flows_J270
      rw [if_pos rfl, gck_ni (show a < 60 by omega) (by omega), nI_clamp (show a < 2 ^ 31 by omega)]
      simp only [lt]
      rw [if_pos trivial, m_to hN hMz a1, z1]
      simp only [Option.bind_some]
      exact done false hp' ⟨ho, Or.inr ⟨hp', z1, z2⟩⟩
theorem flows_m (hN : aOk N) {x : gIH} (hM : MNet x 82 0 N) {p : Nat → Bool} (hp : FlM N x p) {t : Nat} (ht : t < 16) :
    ∃ b z, f_X10_flows x (nI t) = some (b, z) ∧ FrM (fun c _ => c = 94 ∨ c = 95) x z ∧ ((b = 1 ∧ ∃ p', FlM N z p' ∧ ∀ X : Nat → Bool, X (nRt N) = true → X t = false → cF N p' X + 1 = cF N p X) ∨ (b = 0 ∧ ∃ X : Nat → Bool, X (nRt N) = true ∧ X t = false ∧ cF N p X = 0)) := by
  obtain ⟨r, er, r1, r2, r3, ⟨rk, r4, r5⟩, r6⟩ := flows_o hN hM hp ht
  unfold f_X10_flows
  rw [m_root hM]
  simp only [Option.bind_some, lt]
  rw [er]
  simp only [Option.bind_some]
  have hMr : MNet r.2 82 0 N := hM.fr r1 (fun j => by omega)
  have hpr : FlM N r.2 p := fun a ha => by
    rw [r1 94 a (by omega)]
    exact hp a ha
  by_cases c : bt r.1 t = true
  · rw [if_neg (fun q => by rw [holds0 _ (by omega), c] at q; cases q)]
    obtain ⟨z, ez, z1, p', z2, z3⟩ := fill_m hN hMr hpr r4 r5 ht c r2
    rw [ez]
    refine ⟨_, _, rfl, (r1.mono fun c _ q => Or.inr q).tr (z1.mono fun c _ q => Or.inl q), Or.inl ⟨rfl, p', z2, fun X a b => ?_⟩⟩
    have := z3 X
    rw [if_pos a, if_neg (fun q => by rw [q] at b; cases b)] at this
    omega
  · rw [if_pos (by rw [holds0 _ (by omega)]; simpa using c)]
    refine ⟨_, _, rfl, r1.mono fun c _ q => Or.inr q, Or.inr ⟨rfl, bt r.1, r3, by simpa using c, ?_⟩⟩
    have hno : ∀ a, a < nM N → ¬ Crs N p r.1 a := r6.elim (fun q => absurd q c) id
    unfold cF
    rw [show (0 : Nat) = fb_sm (fun _ => 0) (nM N) from by rw [fb_sm_const]; omega]
    refine fb_sm_cong fun a ha => ?_
    have hn := hno a ha
    unfold cFa
    by_cases ho : nO N a = true
    · rw [if_pos ho]
      by_cases hpa : p a = true
      · rw [if_pos hpa, if_neg]
        intro q
        rw [Bool.and_eq_true, Bool.not_eq_true'] at q
        exact hn ⟨nT N a, nF N a, ⟨ho, Or.inr ⟨hpa, rfl, rfl⟩⟩, q.1, by rw [q.2]; decide⟩
      · rw [if_neg hpa, if_neg]
        intro q
        rw [Bool.and_eq_true, Bool.not_eq_true'] at q
        exact hn ⟨nF N a, nT N a, ⟨ho, Or.inl ⟨by simpa using hpa, rfl, rfl⟩⟩, q.1, by rw [q.2]; decide⟩
    · rw [if_neg ho]
theorem QN.fl (q : QN N hm y) {z : gIH} (f : FrM (fun c _ => c = 94 ∨ c = 95) y z) : QN N hm z ∧ z 81 0 = y 81 0 :=
  ⟨⟨q.1.tr (f.mono fun c j h => by unfold WQ; omega), q.2.1.fr f (fun j => by omega), by rw [f 81 8 (by omega)]; exact q.2.2.1, by rw [f 81 10 (by omega)]; exact q.2.2.2⟩, f 81 0 (by omega)⟩
theorem hard_m (hN : aOk N) (q : QN N hm y) {v : Nat} (hv : v < 16) : ∃ z x, f_X10_hardOf y (nI v) = some (z, x) ∧ QN N hm x ∧ x 81 0 = y 81 0 ∧ ((v = nRt N ∧ z = 99) ∨ (v ≠ nRt N ∧ ∃ f, z = nI f ∧ MinC (nRt N) v (RA N (nM N)) f)) := by
  have hr := hN.r16
  have h60 := hN.m60
  unfold f_X10_hardOf
  rw [m_root q.2.1]
  simp only [Option.bind_some]
  by_cases c : v = nRt N
  · rw [c, if_pos rfl]
    exact ⟨_, _, rfl, q, rfl, Or.inl ⟨rfl, rfl⟩⟩
  · rw [if_neg (fun q => c ((nI_eq (by omega) (by omega)).mp q))]
    have k1 : ∃ x, lp (f_X10_hardOf_L13 (nI v)) 2000 ((0 : Int32), y) = some x ∧ FrM (fun c _ => c = 94) y x ∧ ∀ a, a < 60 → x 94 a = 0 := by
      refine lp_for (step := f_X10_hardOf_L13 (nI v)) 60 (fun j z => z.1 = nI j ∧ FrM (fun c _ => c = 94) y z.2 ∧ ∀ a, a < j → z.2 94 a = 0) _ ?_ ?_ ⟨rfl, FrM.rf, fun a ha => absurd ha (by omega)⟩ (by omega)
      · rintro j ⟨k, w⟩ hj ⟨h0, hf, h1⟩
        dsimp only at h0 hf h1
        subst h0
        unfold f_X10_hardOf_L13
        dsimp only
        rw [if_neg (show ¬ (60 : Int32) ≤ nI j from nI_ge (a := j) (b := 60) hj (by omega)), gck_ni hj (by omega), nI_clamp (by omega)]
        refine ⟨_, rfl, nI_1 j, hf.tr (FrM.s rfl), fun a ha => ?_⟩
        dsimp only
        by_cases e : a = j
        · subst e
          exact up2_at
        · rw [up2_at2 (Or.inr e)]
          exact h1 a (by omega)
      · rintro ⟨k, w⟩ ⟨h0, hf, h1⟩
        dsimp only at h0 hf h1
        subst h0
        unfold f_X10_hardOf_L13
        dsimp only
        rw [if_pos (show (60 : Int32) ≤ nI 60 from Int32.le_refl _)]
        exact ⟨_, rfl, hf, h1⟩
    obtain ⟨x, ex, x1, x2⟩ := k1
    rw [ex]
    simp only [Option.bind_some]
    have hx : FrM (fun c _ => c = 94 ∨ c = 95) y x := x1.mono fun c _ q => Or.inl q
    have k2 : ∃ r, lp (f_X10_hardOf_L34 (nI v)) 2000 ((0 : Int32), x) = some r ∧ FrM (fun c _ => c = 94 ∨ c = 95) y r.2 ∧ ∃ f, r.1 = nI f ∧ MinC (nRt N) v (RA N (nM N)) f := by
      refine lp_forx (step := f_X10_hardOf_L34 (nI v)) 61 (fun j z => z.1 = nI j ∧ FrM (fun c _ => c = 94 ∨ c = 95) y z.2 ∧ ∃ p, FlM N z.2 p ∧ ∀ X : Nat → Bool, X (nRt N) = true → X v = false → cF N p X + j = cA N X (nM N)) _ ?_ ?_ ⟨rfl, hx, fun _ => false, fun a ha => x2 a (by omega), fun X _ _ => by rw [cF_0]; rfl⟩ (by omega)
      · rintro j ⟨k, w⟩ hj ⟨h0, hf, p, h1, h2⟩
        dsimp only at h0 hf h1
        subst h0
        have qw := q.fl hf
        unfold f_X10_hardOf_L34
        dsimp only
        obtain ⟨b, z, ez, z1, z2⟩ := flows_m hN qw.1.2.1 h1 hv
        rw [ez]
        simp only [Option.bind_some]
        rcases z2 with ⟨rfl, p', g1, g2⟩ | ⟨rfl, X, g1, g2, g3⟩
        · left
          rw [if_neg i1n0]
          refine ⟨_, rfl, nI_1 j, hf.tr z1, p', g1, fun X a b => ?_⟩
          have := g2 X a b
          have := h2 X a b
          omega
        · right
          rw [if_pos rfl]
          refine ⟨_, rfl, hf.tr z1, j, rfl, fun Y a b => ?_, X, g1, g2, ?_⟩
          · rw [cs_RA hN _ _ (Nat.le_refl _)]
            have := h2 Y a b
            omega
          · rw [cs_RA hN _ _ (Nat.le_refl _)]
            have := h2 X g1 g2
            omega
      · rintro ⟨k, w⟩ ⟨h0, hf, p, h1, h2⟩
        exfalso
        have := h2 (fun a => decide (a = nRt N)) (by simp) (by simp [c])
        have := cA_le N (fun a => decide (a = nRt N)) (nM N)
        omega
    obtain ⟨r, er, r1, f, r2, r3⟩ := k2
    rw [er]
    exact ⟨_, _, rfl, (q.fl r1).1, (q.fl r1).2, Or.inr ⟨c, f, r2, r3⟩⟩
end
