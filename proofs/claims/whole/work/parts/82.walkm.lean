/-! THE REFERENCE'S WALK -/
section
variable {N : aN} {hm y : gIH}
theorem next_m (hN : aOk N) (q : QM N hm y) {n : Nat} (hn : Rc (Ed N 100) (fun s => s = nRt N) nox n) : ∃ z, f_X10_nextOf y (nI n) = some z ∧ ((∃ t, Top (Ed N 100) (fun s => s = nRt N) (QdI (Ed N 100) (fun s => s = nRt N) n) t ∧ z = nI t) ∨ ((∀ t, ¬ QdI (Ed N 100) (fun s => s = nRt N) n t) ∧ z = -1)) := by
  have hnN := hN.rn hn
  have hn16 := hN.n16
  have hE : E16 (Ed N 100) := hN.e16n (k1 := 100) (k2 := 100)
  have hS := hN.s16
  have hF := q.2.2.1
  obtain ⟨own, eo, o1, o2⟩ := own_m hN q (i := n) (by omega)
  have rN : ∀ {v}, Rc (Ed N 100) (fun s => s = nRt N) nox v → v < nN N := fun z => hN.rn z
  obtain ⟨E, eE⟩ : ∃ E, Ed N 100 = E := ⟨_, rfl⟩
  obtain ⟨S, eS⟩ : ∃ S, (fun s => s = nRt N) = S := ⟨_, rfl⟩
  rw [eE] at hE hF o2 hn rN ⊢
  rw [eS] at hS hF o2 hn rN ⊢
  unfold f_X10_nextOf
  rw [eo]
  simp only [Option.bind_some]
  have k1 : ∃ r, lp (f_X10_nextOf_L8 y (nI n) own) 2000 (0 : Int32) = some r ∧ ((∃ c, r = .inl (nI c) ∧ IsK E S n c ∧ ∀ c', c' < c → ¬ IsK E S n c') ∨ (r = .inr () ∧ ∀ c, ¬ IsK E S n c)) := by
    refine lp_forx (step := f_X10_nextOf_L8 y (nI n) own) (nN N) (fun j s => s = nI j ∧ ∀ c, c < j → ¬ IsK E S n c) _ ?_ ?_ ⟨rfl, fun c hc => absurd hc (by omega)⟩ (by omega)
    · rintro j s hj ⟨rfl, h1⟩
      unfold f_X10_nextOf_L8
      rw [m_nodes q.2.1]
      simp only [Option.bind_some]
      rw [if_neg (nI_ge hj (by omega))]
      by_cases c : IsK E S n j
      · right
        rw [if_neg (fun z => by rw [holds0 _ (by omega), (o2 j (by omega)).mpr c] at z; cases z)]
        exact ⟨_, rfl, Or.inl ⟨j, rfl, c, h1⟩⟩
      · left
        rw [if_pos (by rw [holds0 _ (by omega)]; cases hb : bt own j with
          | false => rfl
          | true => exact absurd ((o2 j (by omega)).mp hb) c)]
        refine ⟨_, rfl, nI_1 j, fun c' hc => ?_⟩
        rcases Nat.lt_or_ge c' j with p | p
        · exact h1 c' p
        · rw [show c' = j by omega]
          exact c
    · rintro s ⟨rfl, h1⟩
      unfold f_X10_nextOf_L8
      rw [m_nodes q.2.1]
      simp only [Option.bind_some]
      rw [if_pos (nI_le (Nat.le_refl _) (by omega))]
      exact ⟨_, rfl, Or.inr ⟨rfl, fun c z => h1 c (rN z.1.1) z⟩⟩
  obtain ⟨r, er, hr⟩ := k1
  rw [er]
  simp only [Option.bind_some]
  rcases hr with ⟨c, rfl, c1, c2⟩ | ⟨rfl, hno⟩
  · refine ⟨_, rfl, Or.inl ⟨c, ⟨Or.inl c1, fun s hs ne => ?_⟩, rfl⟩⟩
    have e := c1.dpk hE hS
    unfold Lat
    rcases hs with hs | hs
    · have e2 := hs.dpk hE hS
      have : ¬ s < c := fun z => c2 s z hs
      omega
    · have := hs.le hE hS
      omega
  · simp only [Sum.elim]
    have k2 : ∃ r, lp (f_X10_nextOf_L34 y) 2000 (nI n) = some r ∧ ((∃ t, r = .inl (nI t) ∧ Top E S (QdI E S n) t) ∨ (r = .inr () ∧ ∀ t, ¬ QdI E S n t)) := by
      refine lp_run (step := f_X10_nextOf_L34 y) (fun s => ∃ m, s = nI m ∧ m < 16 ∧ Up E S m n ∧ ∀ s, PdI E S n s → dp E S s ≤ dp E S m) (fun s => dp E S s.toNatClampNeg) _ ?_ (k := 2000) (s := nI n) ⟨n, rfl, by omega, Or.inr rfl, fun s hs => hs.le hE hS⟩ (by have := dp_16 (E := E) (S := S) (nI n).toNatClampNeg; omega)
      rintro s ⟨m, rfl, hm, h1, h2⟩
      have hK := hF.2.2.2 m hm
      unfold f_X10_nextOf_L34
      rw [gck_ni hm (by omega), nI_clamp (by omega)]
      by_cases c : ∃ g, Dm E S g m
      · obtain ⟨g, hg⟩ := c
        obtain ⟨k, hk, hk2⟩ := IsK.ex hE hS hg
        have ek := hK.1 k hk2
        have hmN : m < nN N := rN hk2.1.1
        have k3 : ∃ r, lp (f_X10_nextOf_L49 y (nI m)) 2000 (nI (m + 1)) = some r ∧ ((∃ t, r = .inl (nI t) ∧ m < t ∧ IsK E S k t ∧ ∀ u, m < u → u < t → ¬ IsK E S k u) ∨ (r = .inr () ∧ ∀ u, m < u → ¬ IsK E S k u)) := by
          obtain ⟨d, hd⟩ : ∃ d, nN N = m + 1 + d := ⟨nN N - (m + 1), by omega⟩
          refine lp_forx (step := f_X10_nextOf_L49 y (nI m)) d (fun j s => s = nI (m + 1 + j) ∧ ∀ u, m < u → u < m + 1 + j → ¬ IsK E S k u) _ ?_ ?_ ⟨rfl, fun u a b => absurd b (by omega)⟩ (by omega)
          · rintro j s hj ⟨rfl, h3⟩
            unfold f_X10_nextOf_L49
            rw [m_nodes q.2.1]
            simp only [Option.bind_some]
            rw [if_neg (nI_ge (by omega) (by omega)), gck_ni (show m + 1 + j < 16 by omega) (by omega), gck_ni hm (by omega), nI_clamp (show m + 1 + j < 2 ^ 31 by omega), nI_clamp (show m < 2 ^ 31 by omega), ek]
            have hj2 := KpI.iff hE hS (hF.2.2.2 (m + 1 + j) (by omega)) (i := k) (by omega)
            by_cases c : IsK E S k (m + 1 + j)
            · right
              rw [if_pos (hj2.mpr c)]
              exact ⟨_, rfl, Or.inl ⟨m + 1 + j, rfl, by omega, c, h3⟩⟩
            · left
              rw [if_neg (fun z => c (hj2.mp z))]
              refine ⟨_, rfl, nI_1 _, fun u a b => ?_⟩
              rcases Nat.lt_or_ge u (m + 1 + j) with p | p
              · exact h3 u a p
              · rw [show u = m + 1 + j by omega]
                exact c
          · rintro s ⟨rfl, h3⟩
            unfold f_X10_nextOf_L49
            rw [m_nodes q.2.1]
            simp only [Option.bind_some]
            rw [if_pos (nI_le (by omega) (by omega))]
            exact ⟨_, rfl, Or.inr ⟨rfl, fun u a z => h3 u a (by have := rN z.1.1; omega) z⟩⟩
        rw [ek, if_neg (nI_ne_m1 (by omega)), nI_1]
        simp only [lt]
        obtain ⟨r, er, hr⟩ := k3
        rw [er]
        simp only [Option.bind_some]
        rcases hr with ⟨t, rfl, t1, t2, t3⟩ | ⟨rfl, t3⟩
        · right
          refine ⟨_, rfl, Or.inl ⟨t, rfl, Or.inr ⟨m, k, h1, hk2, t2, t1⟩, fun s hs ne => ?_⟩⟩
          have e := hk2.sib hE hS t2
          rcases hs with hs | hs
          · exact absurd hs (hno s)
          · have le := h2 s hs
            obtain ⟨m', k', g1, g2, g3, g4⟩ := hs
            have e2 := g2.sib hE hS g3
            unfold Lat
            by_cases c : dp E S s = dp E S m
            · have e3 := g1.one hE hS h1 (by omega)
              subst e3
              have e4 := g2.uniq hk2
              subst e4
              have : ¬ s < t := fun z => t3 s g4 z g3
              omega
            · omega
        · left
          simp only [Sum.elim]
          rw [gck_ni hm (by omega)]
          refine ⟨_, rfl, ⟨k, rfl, hk, Up.tr (Or.inl hk2.1) h1, fun s hs => ?_⟩, ?_⟩
          · have le := h2 s hs
            have e := hk2.dpk hE hS
            obtain ⟨m', k', g1, g2, g3, g4⟩ := hs
            have e2 := g2.sib hE hS g3
            by_cases c : dp E S s = dp E S m
            · have e3 := g1.one hE hS h1 (by omega)
              subst e3
              have e4 := g2.uniq hk2
              subst e4
              exact absurd g3 (t3 s g4)
            · omega
          · rw [nI_clamp (by omega)]
            have e := hk2.dpk hE hS
            omega
      · right
        rw [hK.2 (fun g z => c ⟨g, z⟩), if_pos rfl]
        refine ⟨_, rfl, Or.inr ⟨rfl, fun t ht => ?_⟩⟩
        rcases ht with ht | ht
        · exact hno t ht
        · have le := h2 t ht
          obtain ⟨m', k', g1, g2, g3, g4⟩ := ht
          have e2 := g2.sib hE hS g3
          rcases Nat.lt_or_ge (dp E S m') (dp E S m) with p | p
          · exact c ⟨m', up_le hE hS g1 h1 p⟩
          · have e3 := g1.one hE hS h1 (by omega)
            subst e3
            exact c ⟨k', g2.1⟩
    obtain ⟨r, er, hr⟩ := k2
    rw [er]
    simp only [Option.bind_some]
    rcases hr with ⟨t, rfl, h1⟩ | ⟨rfl, h1⟩
    · exact ⟨_, rfl, Or.inl ⟨t, h1, rfl⟩⟩
    · exact ⟨_, rfl, Or.inr ⟨h1, rfl⟩⟩
theorem walk_m (hN : aOk N) (q : QM N hm y) (a : Int32) {s0 : Int32} (h0 : s0 = if (0 : Int32) ≤ a then nI (nRt N) else -1) : ∃ z, lp (f_X10_walk_L24 y a) 2000 (s0, (0 : Int32)) = some z ∧ RWk (Ed N 100) (fun s => s = nRt N) (nRt N) a z := by
  have hE : E16 (Ed N 100) := hN.e16n (k1 := 100) (k2 := 100)
  have hS := hN.s16
  have hr := hN.r16
  by_cases c : a < 0
  · have c2 : ¬ (0 : Int32) ≤ a := fun z => by
      have e1 := Int32.lt_iff_toInt_lt.mp c
      have e2 := Int32.le_iff_toInt_le.mp z
      rw [show (0 : Int32) = nI 0 from rfl, nI_toInt (by omega)] at e1 e2
      omega
    rw [if_neg c2] at h0
    refine ⟨s0, ?_, Or.inr ⟨fun k n hk e => ?_, h0⟩⟩
    · rw [show (2000 : Nat) = 1999 + 1 from rfl, lp]
      unfold f_X10_walk_L24
      dsimp only
      rw [if_pos (by
        have e1 := Int32.lt_iff_toInt_lt.mp c
        apply Int32.le_iff_toInt_le.mpr
        omega)]
      rfl
    · rw [e] at c
      exact absurd c (nI_pos hk)
  · obtain ⟨k, hk, rfl⟩ := nI_of c
    rw [if_pos (show (0 : Int32) ≤ nI k from nI_le (a := 0) (Nat.zero_le _) hk)] at h0
    subst h0
    have no : ∀ i, i ≤ k → (∀ n, ¬ WK (Ed N 100) (fun s => s = nRt N) (nRt N) i n) → RWk (Ed N 100) (fun s => s = nRt N) (nRt N) (nI k) (-1) := fun i hi h => Or.inr ⟨fun k' n hk' e hw => by
      have e := (nI_eq hk hk').mp e
      subst e
      obtain ⟨d, rfl⟩ : ∃ d, k = i + d := ⟨k - i, by omega⟩
      obtain ⟨m, hm⟩ := hw.pre d
      exact h m hm, rfl⟩
    refine lp_forx (step := f_X10_walk_L24 y (nI k)) 17 (fun i s => s.2 = nI i ∧ i ≤ k ∧ ((∃ n, WK (Ed N 100) (fun s => s = nRt N) (nRt N) i n ∧ s.1 = nI n) ∨ ((∀ n, ¬ WK (Ed N 100) (fun s => s = nRt N) (nRt N) i n) ∧ s.1 = -1))) _ ?_ ?_ ⟨rfl, Nat.zero_le _, Or.inl ⟨nRt N, rfl, rfl⟩⟩ (by omega)
    · rintro i ⟨s, j⟩ hi ⟨h0, h1, h2⟩
      dsimp only at h0 h1 h2
      subst h0
      unfold f_X10_walk_L24
      dsimp only
      by_cases e : k = i
      · right
        subst e
        rw [if_pos (Int32.le_refl _)]
        refine ⟨_, rfl, ?_⟩
        rcases h2 with ⟨n, w, rfl⟩ | ⟨w, rfl⟩
        · exact Or.inl ⟨k, n, by have := w.le hE hS hr; omega, rfl, w, rfl⟩
        · exact no k (Nat.le_refl _) w
      · rw [if_neg (nI_ge (by omega) hk)]
        rcases h2 with ⟨n, w, rfl⟩ | ⟨w, rfl⟩
        · left
          have hrc := w.rc (S := fun s => s = nRt N) rfl
          have hn := hrc.lt hE hS
          rw [if_neg (nI_ne_m1 (by omega))]
          obtain ⟨z, ez, hz⟩ := next_m hN q hrc
          rw [ez]
          refine ⟨_, rfl, nI_1 i, by omega, ?_⟩
          dsimp only
          rcases hz with ⟨t, ht, rfl⟩ | ⟨ht, rfl⟩
          · exact Or.inl ⟨t, ⟨n, w, ht⟩, rfl⟩
          · refine Or.inr ⟨fun t ⟨m, m1, m2⟩ => ?_, rfl⟩
            rw [m1.uniq w] at m2
            exact ht t m2.1
        · right
          rw [if_pos rfl]
          exact ⟨_, rfl, no i h1 w⟩
    · rintro ⟨s, j⟩ ⟨h0, h1, h2⟩
      dsimp only at h0 h1 h2
      rcases h2 with ⟨n, w, -⟩ | ⟨w, rfl⟩
      · have := w.le hE hS hr
        omega
      · subst h0
        unfold f_X10_walk_L24
        dsimp only
        by_cases e : nI k ≤ nI 17
        · rw [if_pos e]
          exact ⟨_, rfl, no 17 h1 w⟩
        · rw [if_neg e, if_pos rfl]
          exact ⟨_, rfl, no 17 h1 w⟩
end
theorem M16_ok : M16 Rel := by
  rintro xc fa tr pm hm ⟨N, k, Ms, im, h⟩ a1
  obtain ⟨hN, hC, hM, hz, hX, hG, hR⟩ := h.go
  obtain ⟨z, x, ex, x1, x2⟩ := walked_c h.cq a1
  obtain ⟨y, ey, q, t⟩ := lays_q hN hM hz.1 hz.2 0
  unfold f_X9_walk f_X10_walk
  simp only [lt]
  rw [ex, ey]
  simp only [Option.bind_some]
  have hr := ((h.fr x1).q q).rel
  refine ⟨_, rfl, ?_⟩
  by_cases c : (0 : Int32) ≤ a1
  · rw [if_pos c, m_root q.2.1]
    simp only [Option.bind_some]
    obtain ⟨w, ew, w1⟩ := walk_m hN q a1 (s0 := nI (nRt N)) (by rw [if_pos c])
    unfold f_X10_walk_J21
    rw [ew]
    exact ⟨_, rfl, hr, x2.uniq w1⟩
  · rw [if_neg c]
    obtain ⟨w, ew, w1⟩ := walk_m hN q a1 (s0 := -1) (by rw [if_neg c])
    unfold f_X10_walk_J21
    rw [ew]
    exact ⟨_, rfl, hr, x2.uniq w1⟩
