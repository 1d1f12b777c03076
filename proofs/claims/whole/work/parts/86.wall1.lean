/-! THE WALL: two spots a node -/
def WE (N : aN) (n a b : Nat) : Prop := (a < nN N ∧ a ≠ nRt N ∧ a ≠ n ∧ b = a + 16) ∨ (∃ u, a = u + 16 ∧ b ≠ u ∧ Ed N 100 u b)
noncomputable def RW (N : aN) (n : Nat) : Nat → Nat → Nat := fun a b => if cb (WE N n a b) = true then 1 else 0
def WEk (N : aN) (n k a b : Nat) : Prop := (a < k ∧ a ≠ nRt N ∧ a ≠ n ∧ b = a + 16) ∨ (∃ u, u < k ∧ a = u + 16 ∧ b ≠ u ∧ Ed N 100 u b)
theorem Ed.un {N : aN} (hN : aOk N) {u v : Nat} (h : Ed N 100 u v) : u < nN N := by
  rcases h with ⟨a, a1, -, -, -, a2, -⟩ | q
  · rw [← a2]
    exact (hN.2.2.2.2.2.1 a a1).1
  · cases q
theorem Ed.vn {N : aN} (hN : aOk N) {u v : Nat} (h : Ed N 100 u v) : v < nN N := by
  rcases h with ⟨a, a1, -, -, -, -, a2⟩ | q
  · rw [← a2]
    exact (hN.2.2.2.2.2.1 a a1).2
  · cases q
theorem WE.of {N : aN} (hN : aOk N) {n a b : Nat} : WEk N n (nN N) a b ↔ WE N n a b := by
  constructor
  · rintro (⟨h1, h2⟩ | ⟨u, h1, h2, h3, h4⟩)
    · exact Or.inl ⟨h1, h2⟩
    · exact Or.inr ⟨u, h2, h3, h4⟩
  · rintro (⟨h1, h2⟩ | ⟨u, h2, h3, h4⟩)
    · exact Or.inl ⟨h1, h2⟩
    · exact Or.inr ⟨u, h4.un hN, h2, h3, h4⟩
def FlP (x : gXH) (P : Nat → Nat → Prop) : Prop := ∀ a b, a < 32 → b < 32 → x.1 67 (a * 32 + b) = nI (if cb (P a b) = true then 1 else 0) ∧ (bt (x.1 68 a) b = true ↔ P a b)
theorem cb01 {p : Prop} : 0 < (if cb p = true then 1 else 0) ↔ p := by
  by_cases h : p
  · rw [if_pos (cb_t.mpr h)]
    exact ⟨fun _ => h, fun _ => by omega⟩
  · rw [if_neg (fun z => h (cb_t.mp z))]
    exact ⟨fun z => absurd z (by omega), fun z => absurd z h⟩
theorem cb10 {p : Prop} : (if cb p = true then 1 else 0) ≤ 1 := by split <;> omega
theorem FlP.cg {x : gXH} {P Q : Nat → Nat → Prop} (h : FlP x P) (e : ∀ a b, P a b ↔ Q a b) : FlP x Q := by
  rw [show Q = P from funext fun a => funext fun b => propext (e a b).symm]
  exact h
theorem FlP.fl {x : gXH} {N : aN} {n : Nat} (h : FlP x (WE N n)) : FlI x (RW N n) := by
  refine ⟨fun a b ha hb => ⟨(h a b ha hb).1, (h a b ha hb).2.trans ?_⟩, fun a b => ?_⟩
  · unfold RW
    exact cb01.symm
  · have h1 : RW N n a b ≤ 1 := cb10
    have h2 : RW N n b a ≤ 1 := cb10
    omega
theorem wid1 {x : gXH} {P : Nat → Nat → Prop} (h : FlP x P) {a b : Nat} (ha : a < 32) (hb : b < 32) (hn : ¬ P a b) : ∃ y, f_X2_widen x (nI a) (nI b) 1 = y ∧ Fr (fun c => c = 67 ∨ c = 68) x y ∧ FlP y (fun i j => P i j ∨ (i = a ∧ j = b)) := by
  have e0 : (if cb (P a b) = true then 1 else 0) = 0 := if_neg (fun z => hn (cb_t.mp z))
  obtain ⟨y, ey, y1, y2⟩ := widen_c (x := x) (R := fun i j => if cb (P i j) = true then 1 else 0) (fun i j hi hj => ⟨(h i j hi hj).1, (h i j hi hj).2.trans cb01.symm⟩) ha hb (v := 1) (w := (1 : Int32)) (by
    show nI (if cb (P a b) = true then 1 else 0) + 1 = nI 1
    rw [e0]
    exact nI_1 0) (by omega)
  refine ⟨y, ey, y1, fun i j hi hj => ?_⟩
  have h3 := y2 i j hi hj
  have e : uR (fun i j => if cb (P i j) = true then 1 else 0) a b 1 i j = if cb (P i j ∨ (i = a ∧ j = b)) = true then 1 else 0 := by
    unfold uR
    by_cases c : i = a ∧ j = b
    · rw [if_pos c, if_pos (cb_t.mpr (Or.inr c))]
    · rw [if_neg c]
      show (if cb (P i j) = true then 1 else 0) = _
      rw [cb_congr (show P i j ↔ P i j ∨ (i = a ∧ j = b) from ⟨Or.inl, fun z => z.elim id (fun q => absurd q c)⟩)]
  rw [e] at h3
  exact ⟨h3.1, h3.2.trans cb01⟩
section
variable {N : aN} {xc : gXH} {fa tr : Nat}
theorem wall_in (h : CQ N fa tr xc) (b1 : Int32) {x : gXH} (hx : Fr (fun c => c = 67 ∨ c = 68) xc x) {k : Nat} (hk : k < 16) {P : Nat → Nat → Prop} (hP : FlP x P) (hn : ∀ b, ¬ P (k + 16) b) :
    ∃ y, f_X8_wall_J92 fa x b1 (nI k) = some (.inl (nI (k + 1), y)) ∧ Fr (fun c => c = 67 ∨ c = 68) xc y ∧ FlP y (fun a b => P a b ∨ (a = k + 16 ∧ b ≠ k ∧ Ed N 100 k b)) := by
  have hN := h.2.1
  have hE : E16 (Ed N 100) := hN.e16n (k1 := 100) (k2 := 100)
  have key : ∃ y, lp (f_X8_wall_L94 fa b1 (nI k)) 2000 ((0 : Int32), x) = some y ∧ Fr (fun c => c = 67 ∨ c = 68) xc y ∧ FlP y (fun a b => P a b ∨ (a = k + 16 ∧ b ≠ k ∧ Ed N 100 k b)) := by
    refine lp_for (step := f_X8_wall_L94 fa b1 (nI k)) 16 (fun j z => z.1 = nI j ∧ Fr (fun c => c = 67 ∨ c = 68) xc z.2 ∧ FlP z.2 (fun a b => P a b ∨ (a = k + 16 ∧ b < j ∧ b ≠ k ∧ Ed N 100 k b))) _ ?_ ?_ ⟨rfl, hx, hP.cg fun a b => ⟨Or.inl, fun z => z.elim id (fun q => absurd q.2.1 (by omega))⟩⟩ (by omega)
    · rintro j ⟨i, w⟩ hj ⟨h0, hf, h1⟩
      dsimp only at h0 hf h1
      subst h0
      have hw := h.fr (hf.mono (fun c z => by unfold WS; omega))
      have hX := hw.2.2.2.1 k hk
      have skip : ¬ (j ≠ k ∧ Ed N 100 k j) → FlP w (fun a b => P a b ∨ (a = k + 16 ∧ b < j + 1 ∧ b ≠ k ∧ Ed N 100 k b)) := fun hs => h1.cg fun a b => by
        constructor
        · rintro (z | ⟨z1, z2, z3⟩)
          · exact Or.inl z
          · exact Or.inr ⟨z1, by omega, z3⟩
        · rintro (z | ⟨z1, z2, z3⟩)
          · exact Or.inl z
          · refine Or.inr ⟨z1, ?_, z3⟩
            rcases Nat.lt_or_ge b j with q | q
            · exact q
            · exact absurd (by rw [show j = b by omega]; exact z3) hs
      unfold f_X8_wall_L94
      dsimp only
      rw [if_neg (ge16 hj)]
      by_cases c1 : j = k
      · rw [if_pos (by rw [c1])]
        exact ⟨_, rfl, nI_1 j, hf, skip (fun z => z.1 c1)⟩
      · rw [if_neg (fun q => c1 ((nI_eq (by omega) (by omega)).mp q)), atv_n (L := 16) hk (by omega)]
        by_cases c2 : Ed N 100 k j
        · rw [if_neg (fun q => by rw [has0 _ (by omega), (hX.2 j hj).mpr c2] at q; cases q)]
          simp only [lt]
          rw [show (16 : Int32) = nI 16 from rfl, nI_add]
          obtain ⟨y, ey, y1, y2⟩ := wid1 h1 (a := k + 16) (b := j) (by omega) (by omega) (by
            rintro (z | ⟨-, z, -⟩)
            · exact hn j z
            · omega)
          rw [ey]
          refine ⟨_, rfl, nI_1 j, hf.tr y1, y2.cg fun a b => ?_⟩
          constructor
          · rintro ((z | ⟨z1, z2, z3⟩) | ⟨z1, z2⟩)
            · exact Or.inl z
            · exact Or.inr ⟨z1, by omega, z3⟩
            · exact Or.inr ⟨z1, by omega, by rw [z2]; exact ⟨c1, c2⟩⟩
          · rintro (z | ⟨z1, z2, z3⟩)
            · exact Or.inl (Or.inl z)
            · by_cases e : b = j
              · exact Or.inr ⟨z1, e⟩
              · exact Or.inl (Or.inr ⟨z1, by omega, z3⟩)
        · rw [if_pos (by
            rw [has0 _ (by omega)]
            cases hb : bt (w.1 (fa + 1) k) j with
            | false => rfl
            | true => exact absurd ((hX.2 j hj).mp hb) c2)]
          exact ⟨_, rfl, nI_1 j, hf, skip (fun z => c2 z.2)⟩
    · rintro ⟨i, w⟩ ⟨h0, hf, h1⟩
      dsimp only at h0 hf h1
      subst h0
      unfold f_X8_wall_L94
      dsimp only
      rw [if_pos le16]
      exact ⟨_, rfl, hf, h1.cg fun a b => ⟨fun z => z.imp id (fun q => ⟨q.1, q.2.2⟩), fun z => z.imp id (fun q => ⟨q.1, (hE _ _ q.2.2).2, q.2⟩)⟩⟩
  obtain ⟨y, ey, y1, y2⟩ := key
  refine ⟨y, ?_, y1, y2⟩
  unfold f_X8_wall_J92
  rw [ey]
  simp only [Option.bind_some, lt]
  rw [nI_1]
theorem wall_c (h : CQ N fa tr xc) {n : Nat} (hn : n < nN N) : ∃ z y, f_X8_wall fa xc (nI n) = some (z, y) ∧ Fr (WS tr) xc y ∧ (((n = nRt N ∨ Ed N 100 (nRt N) n) ∧ z = -1) ∨ (n ≠ nRt N ∧ ¬ Ed N 100 (nRt N) n ∧ ∃ f, z = nI f ∧ MinC (nRt N + 16) n (RW N n) f)) := by
  have hN := h.2.1
  have hr := hN.r16
  have hn16 := hN.n16
  have e4 : xc.1 7 4 = nI (nRt N) := h.2.2.1.2.1
  have hX := h.2.2.2.1 (nRt N) hr
  unfold f_X8_wall
  rw [e4]
  by_cases c : n = nRt N
  · rw [if_pos (by rw [c])]
    exact ⟨_, _, rfl, Fr.rf, Or.inl ⟨Or.inl c, rfl⟩⟩
  · rw [if_neg (fun q => c ((nI_eq (by omega) (by omega)).mp q)), atv_n (L := 16) hr (by omega)]
    by_cases c2 : Ed N 100 (nRt N) n
    · rw [if_neg (fun q => by rw [has0 _ (by omega), (hX.2 n (by omega)).mpr c2] at q; cases q)]
      exact ⟨_, _, rfl, Fr.rf, Or.inl ⟨Or.inr c2, rfl⟩⟩
    · rw [if_pos (by
        rw [has0 _ (by omega)]
        cases hb : bt (xc.1 (fa + 1) (nRt N)) n with
        | false => rfl
        | true => exact absurd ((hX.2 n (by omega)).mp hb) c2)]
      obtain ⟨x, ex, x1, x2⟩ := flclear_c xc
      rw [ex]
      simp only [Option.bind_some]
      have toW : ∀ {y : gXH}, Fr (fun c => c = 67 ∨ c = 68) xc y → Fr (WS tr) xc y := fun q => q.mono fun c z => by unfold WS; omega
      have x3 : FlP x (WEk N n 0) := fun a b ha hb => by
        have hno : ¬ WEk N n 0 a b := by
          rintro (⟨z, -⟩ | ⟨u, z, -⟩) <;> omega
        rw [if_neg (fun z => hno (cb_t.mp z))]
        exact ⟨(x2.1 a b ha hb).1, (x2.1 a b ha hb).2.trans ⟨fun z => absurd z (show ¬ 0 < 0 from by omega), fun z => absurd z hno⟩⟩
      have key : ∃ y, lp (f_X8_wall_L46 fa (nI n)) 2000 ((0 : Int32), x) = some y ∧ Fr (fun c => c = 67 ∨ c = 68) xc y ∧ FlP y (WEk N n (nN N)) := by
        refine lp_for (step := f_X8_wall_L46 fa (nI n)) (nN N) (fun k z => z.1 = nI k ∧ Fr (fun c => c = 67 ∨ c = 68) xc z.2 ∧ FlP z.2 (WEk N n k)) _ ?_ ?_ ⟨rfl, x1, x3⟩ (by omega)
        · rintro k ⟨i, w⟩ hk ⟨h0, hf, h1⟩
          dsimp only at h0 hf h1
          subst h0
          have hw := h.fr (toW hf)
          unfold f_X8_wall_L46
          dsimp only
          rw [hw.2.2.1.1, if_neg (nI_ge hk (by omega)), if_neg (ge16 (by omega)), hw.2.2.1.2.1]
          have plain : (k = nRt N ∨ k = n) → ∃ z, f_X8_wall_J92 fa w (nI n) (nI k) = some (.inl z) ∧ z.1 = nI (k + 1) ∧ Fr (fun c => c = 67 ∨ c = 68) xc z.2 ∧ FlP z.2 (WEk N n (k + 1)) := fun hc => by
            obtain ⟨y, ey, y1, y2⟩ := wall_in h (nI n) hf (k := k) (by omega) h1 (by
              rintro b (⟨z, -⟩ | ⟨u, z1, z2, -⟩) <;> omega)
            refine ⟨_, ey, rfl, y1, y2.cg fun a b => ?_⟩
            constructor
            · rintro ((⟨z1, z2⟩ | ⟨u, z1, z2⟩) | ⟨z1, z2⟩)
              · exact Or.inl ⟨by omega, z2⟩
              · exact Or.inr ⟨u, by omega, z2⟩
              · exact Or.inr ⟨k, by omega, z1, z2⟩
            · rintro (⟨z1, z2, z3, z4⟩ | ⟨u, z1, z2⟩)
              · exact Or.inl (Or.inl ⟨by omega, z2, z3, z4⟩)
              · by_cases e : u = k
                · rw [e] at z2
                  exact Or.inr z2
                · exact Or.inl (Or.inr ⟨u, by omega, z2⟩)
          by_cases d1 : k = nRt N
          · rw [if_pos (by rw [d1])]
            exact plain (Or.inl d1)
          · rw [if_neg (fun q => d1 ((nI_eq (by omega) (by omega)).mp q))]
            by_cases d2 : k = n
            · rw [if_pos (by rw [d2])]
              exact plain (Or.inr d2)
            · rw [if_neg (fun q => d2 ((nI_eq (by omega) (by omega)).mp q))]
              simp only [lt]
              rw [show (16 : Int32) = nI 16 from rfl, nI_add]
              obtain ⟨v, ev, v1, v2⟩ := wid1 h1 (a := k) (b := k + 16) (by omega) (by omega) (by
                rintro (⟨z, -⟩ | ⟨u, z1, z2, -⟩) <;> omega)
              rw [ev]
              obtain ⟨y, ey, y1, y2⟩ := wall_in h (nI n) (hf.tr v1) (k := k) (by omega) v2 (by
                rintro b ((⟨z, -⟩ | ⟨u, z1, z2, -⟩) | ⟨z, -⟩) <;> omega)
              refine ⟨_, ey, rfl, y1, y2.cg fun a b => ?_⟩
              constructor
              · rintro (((⟨z1, z2⟩ | ⟨u, z1, z2⟩) | ⟨z1, z2⟩) | ⟨z1, z2⟩)
                · exact Or.inl ⟨by omega, z2⟩
                · exact Or.inr ⟨u, by omega, z2⟩
                · exact Or.inl ⟨by omega, by omega, by omega, by omega⟩
                · exact Or.inr ⟨k, by omega, z1, z2⟩
              · rintro (⟨z1, z2, z3, z4⟩ | ⟨u, z1, z2⟩)
                · by_cases e : a = k
                  · exact Or.inl (Or.inr ⟨e, by omega⟩)
                  · exact Or.inl (Or.inl (Or.inl ⟨by omega, z2, z3, z4⟩))
                · by_cases e : u = k
                  · rw [e] at z2
                    exact Or.inr z2
                  · exact Or.inl (Or.inl (Or.inr ⟨u, by omega, z2⟩))
        · rintro ⟨i, w⟩ ⟨h0, hf, h1⟩
          dsimp only at h0 hf h1
          subst h0
          have hw := h.fr (toW hf)
          unfold f_X8_wall_L46
          dsimp only
          rw [hw.2.2.1.1, if_pos (nI_le (Nat.le_refl _) (by omega))]
          exact ⟨_, rfl, hf, h1⟩
      obtain ⟨y, ey, y1, y2⟩ := key
      rw [ey]
      simp only [Option.bind_some]
      rw [show y.1 7 4 = nI (nRt N) from by rw [y1.1 7 (by decide)]; exact e4, show (16 : Int32) = nI 16 from rfl, nI_add]
      have y3 := (y2.cg fun a b => WE.of hN).fl
      obtain ⟨f, w, ew, w1, w2, w3⟩ := most_c y3 (s := nRt N + 16) (t := n) (by omega) (by omega) ⟨fun a => decide (a = nRt N + 16), by simp, by
        rw [decide_eq_false_iff_not]
        omega, by
        have hb : cs (RW N n) (fun a => decide (a = nRt N + 16)) ≤ 32 * 1 := by
          unfold cs
          refine fb_sm_bound fun b _ => ?_
          have h1 : fb_sm (fun a => if (decide (a = nRt N + 16) && !decide (b = nRt N + 16)) = true then RW N n a b else 0) 32 ≤ fb_sm (fun a => if a = nRt N + 16 then 1 else 0) 32 := fb_sm_le fun a _ => by
            by_cases e : a = nRt N + 16
            · rw [if_pos e]
              split
              · exact cb10
              · omega
            · rw [if_neg (fun q => by
                rw [Bool.and_eq_true, decide_eq_true_eq] at q
                exact e q.1), if_neg e]
              omega
          have h2 := fb_sm_upd (fun _ => 0) 1 (i := nRt N + 16) (n := 32) (by omega)
          rw [fb_sm_const] at h2
          have e : fb_sm (fun k => if k = nRt N + 16 then 1 else (fun _ => 0) k) 32 = fb_sm (fun a => if a = nRt N + 16 then 1 else 0) 32 := rfl
          rw [e] at h2
          dsimp only at h1 h2 ⊢
          omega
        omega⟩
      rw [ew]
      exact ⟨_, _, rfl, (toW y1).tr (w1.mono fun c z => by unfold WS; omega), Or.inr ⟨c, c2, f, rfl, w3⟩⟩
end
