/-! FLOWS: the class's greatest -/
theorem way_c {x : gXH} {R : Nat → Nat → Nat} (h : FlI x R) {s t : Nat} (hs : s < 32) (ht : t < 32) {seen : Nat → Prop} {rk : Nat → Nat} (hseen : seen t) (hrt : rk t ≤ 32) (hw : WayI x R s seen rk) :
    ∃ y, f_X2_fillWay x (nI s) (nI t) = some y ∧ Fr (fun c => c = 67 ∨ c = 68) x y ∧ ∃ R', FlI y R' ∧ ∀ X : Nat → Bool, X s = true → X t = false → cs R' X + 1 = cs R X := by
  have key : ∃ y, lp (f_X2_fillWay_L5 (nI s)) 2000 (nI t, (0 : Int32), x) = some y ∧ Fr (fun c => c = 67 ∨ c = 68) x y ∧ ∃ R', FlI y R' ∧ ∀ X : Nat → Bool, cs R' X + (if X s = true then 1 else 0) = cs R X + (if X t = true then 1 else 0) := by
    refine lp_forx (step := f_X2_fillWay_L5 (nI s)) 32
      (fun i z => z.2.1 = nI i ∧ Fr (fun c => c = 67 ∨ c = 68) x z.2.2 ∧ ∃ v R', z.1 = nI v ∧ v < 32 ∧ seen v ∧ rk v + i ≤ 32 ∧ FlI z.2.2 R' ∧ (∀ a b, rk a ≤ rk v → rk b ≤ rk v → R' a b = R a b) ∧ ∀ X : Nat → Bool, cs R' X + (if X v = true then 1 else 0) = cs R X + (if X t = true then 1 else 0)) _ ?_ ?_ ⟨rfl, Fr.rf, t, R, rfl, ht, hseen, hrt, h, fun _ _ _ _ => rfl, fun X => rfl⟩ (by omega)
    · rintro i ⟨sp, k, w⟩ hi ⟨h0, hf, v, R', h1, h2, h3, h4, h5, h6, h7⟩
      dsimp only at h0 hf h1 h5
      subst h0 h1
      unfold f_X2_fillWay_L5
      dsimp only
      rw [if_neg (show ¬ (32 : Int32) ≤ nI i from nI_ge (a := i) (b := 32) hi (by omega))]
      by_cases c : v = s
      · right
        rw [c, if_pos rfl]
        rw [c] at h7
        exact ⟨_, rfl, hf, R', h5, h7⟩
      · left
        obtain ⟨p, p1, p2, p3, p4, p5⟩ := hw v h2 h3 c
        rw [if_neg (fun q => c ((nI_eq (by omega) (by omega)).mp q)), atv_n (L := 32) h2 (by omega), show w.1 69 v = nI p from by rw [hf.1 69 (by decide)]; exact p2]
        simp only [lt]
        have hpv : p ≠ v := fun e => by rw [e] at p4; omega
        have r1 := h6 p v (by omega) (Nat.le_refl _)
        have b1 := h5.2 p v
        obtain ⟨y1, e1, f1, g1⟩ := widen_c (x := w) (R := R') h5.1 p1 h2 (v := R' p v - 1) (w := (-1 : Int32)) (by
          obtain ⟨m, hm⟩ : ∃ m, R' p v = m + 1 := ⟨R' p v - 1, by omega⟩
          rw [hm, nI_m1]
          rfl) (by omega)
        rw [e1]
        have e3 : uR R' p v (R' p v - 1) v p = R' v p := by
          unfold uR
          rw [if_neg (fun z => hpv z.2)]
        obtain ⟨y2, e2, f2, g2⟩ := widen_c (x := y1) (R := uR R' p v (R' p v - 1)) g1 h2 p1 (v := R' v p + 1) (w := (1 : Int32)) (by rw [e3, nI_1]) (by omega)
        rw [e2]
        have u1 : ∀ a b, ¬ (a = v ∧ b = p) → ¬ (a = p ∧ b = v) → uR (uR R' p v (R' p v - 1)) v p (R' v p + 1) a b = R' a b := fun a b q1 q2 => by
          unfold uR
          rw [if_neg q1, if_neg q2]
        have u2 : uR (uR R' p v (R' p v - 1)) v p (R' v p + 1) v p = R' v p + 1 := by
          unfold uR
          rw [if_pos ⟨rfl, rfl⟩]
        have u3 : uR (uR R' p v (R' p v - 1)) v p (R' v p + 1) p v = R' p v - 1 := by
          unfold uR
          rw [if_neg (fun z => hpv z.1), if_pos ⟨rfl, rfl⟩]
        have z1 := fun X => cs_step R' X p1 h2 hpv (by omega)
        obtain ⟨R2, e4⟩ : ∃ R2, uR (uR R' p v (R' p v - 1)) v p (R' v p + 1) = R2 := ⟨_, rfl⟩
        rw [e4] at u1 u2 u3 z1 g2
        refine ⟨_, rfl, nI_1 i, (hf.tr f1).tr f2, p, R2, rfl, p1, p3, by omega, ⟨g2, ?_⟩, ?_, ?_⟩
        · intro a b
          by_cases c1 : a = v ∧ b = p
          · rw [c1.1, c1.2, u2, u3]
            omega
          · by_cases c2 : a = p ∧ b = v
            · rw [c2.1, c2.2, u2, u3]
              omega
            · rw [u1 a b c1 c2, u1 b a (fun z => c2 ⟨z.2, z.1⟩) (fun z => c1 ⟨z.2, z.1⟩)]
              exact h5.2 a b
        · intro a b ha hb
          rw [u1 a b (fun z => by rw [z.1] at ha; omega) (fun z => by rw [z.2] at hb; omega)]
          exact h6 a b (by omega) (by omega)
        · intro X
          have z2 := z1 X
          have z3 := h7 X
          omega
    · rintro ⟨sp, k, w⟩ ⟨h0, hf, v, R', h1, h2, h3, h4, h5, h6, h7⟩
      dsimp only at h0 hf h1 h5
      subst h0 h1
      have e : v = s := by
        apply Classical.byContradiction
        intro c
        obtain ⟨p, p1, p2, p3, p4, p5⟩ := hw v h2 h3 c
        omega
      rw [e] at h7
      unfold f_X2_fillWay_L5
      dsimp only
      rw [if_pos (show (32 : Int32) ≤ nI 32 from Int32.le_refl _)]
      exact ⟨_, rfl, hf, R', h5, h7⟩
  obtain ⟨y, ey, y1, R', y2, y3⟩ := key
  refine ⟨y, ?_, y1, R', y2, fun X a b => ?_⟩
  · unfold f_X2_fillWay
    rw [ey]
    rfl
  · have := y3 X
    rw [if_pos a, if_neg (fun q => by rw [q] at b; cases b)] at this
    omega
theorem MinC.uniq {s t : Nat} {R : Nat → Nat → Nat} {f f' : Nat} (h : MinC s t R f) (h' : MinC s t R f') : f = f' := by
  obtain ⟨X, a, b, c⟩ := h.2
  obtain ⟨Y, a', b', c'⟩ := h'.2
  have := h.1 Y a' b'
  have := h'.1 X a b
  omega
theorem most_c {x : gXH} {R : Nat → Nat → Nat} (h : FlI x R) {s t : Nat} (hs : s < 32) (ht : t < 32) (hb : ∃ X : Nat → Bool, X s = true ∧ X t = false ∧ cs R X ≤ 60) : ∃ f y, f_X2_most x (nI s) (nI t) = some (nI f, y) ∧ Fr (fun c => c = 67 ∨ c = 68 ∨ c = 69) x y ∧ f ≤ 60 ∧ MinC s t R f := by
  have key : ∃ r, lp (f_X2_most_L2 (nI s) (nI t)) 2000 ((0 : Int32), x) = some r ∧ ∃ f y, (r = .inl (nI f, y) ∨ (r = .inr y ∧ f = 60)) ∧ Fr (fun c => c = 67 ∨ c = 68 ∨ c = 69) x y ∧ f ≤ 60 ∧ MinC s t R f := by
    refine lp_forx (step := f_X2_most_L2 (nI s) (nI t)) 60 (fun j z => z.1 = nI j ∧ Fr (fun c => c = 67 ∨ c = 68 ∨ c = 69) x z.2 ∧ ∃ R', FlI z.2 R' ∧ ∀ X : Nat → Bool, X s = true → X t = false → cs R' X + j = cs R X) _ ?_ ?_ ⟨rfl, Fr.rf, R, h, fun _ _ _ => rfl⟩ (by omega)
    · rintro j ⟨k, w⟩ hj ⟨h0, hf, R', h1, h2⟩
      dsimp only at h0 hf h1
      subst h0
      unfold f_X2_most_L2
      dsimp only
      rw [if_neg (show ¬ (60 : Int32) ≤ nI j from nI_ge (a := j) (b := 60) hj (by omega))]
      obtain ⟨b, y, ey, y1, y2⟩ := found_c h1 hs ht
      rw [ey]
      simp only [Option.bind_some]
      rcases y2 with ⟨rfl, seen, rk, g1, g2, g3⟩ | ⟨rfl, X, g1, g2, g3⟩
      · left
        rw [if_neg i1n0]
        have hy := h1.fr y1 (by decide) (by decide)
        obtain ⟨z, ez, z1, R2, z2, z3⟩ := way_c hy hs ht g1 g2 g3
        rw [ez]
        refine ⟨_, rfl, nI_1 j, (hf.tr (y1.mono fun c q => Or.inr (Or.inr q))).tr (z1.mono fun c q => q.elim Or.inl fun q => Or.inr (Or.inl q)), R2, z2, fun X a b => ?_⟩
        have := z3 X a b
        have := h2 X a b
        omega
      · right
        rw [if_pos rfl]
        refine ⟨_, rfl, j, y, Or.inl rfl, hf.tr (y1.mono fun c q => Or.inr (Or.inr q)), by omega, fun X a b => ?_, X, g1, g2, ?_⟩
        · have := h2 X a b
          omega
        · have := h2 X g1 g2
          omega
    · rintro ⟨k, w⟩ ⟨h0, hf, R', h1, h2⟩
      dsimp only at h0 hf h1
      subst h0
      unfold f_X2_most_L2
      dsimp only
      rw [if_pos (show (60 : Int32) ≤ nI 60 from Int32.le_refl _)]
      obtain ⟨X, b1, b2, b3⟩ := hb
      refine ⟨_, rfl, 60, w, Or.inr ⟨rfl, rfl⟩, hf, by omega, fun X a b => ?_, X, b1, b2, ?_⟩
      · have := h2 X a b
        omega
      · have := h2 X b1 b2
        omega
  obtain ⟨r, er, f, y, hr, y1, y2, y3⟩ := key
  refine ⟨f, y, ?_, y1, y2, y3⟩
  unfold f_X2_most
  rw [er]
  rcases hr with rfl | ⟨rfl, rfl⟩
  · rfl
  · rfl
theorem cs_0 (X : Nat → Bool) : cs (fun _ _ => 0) X = 0 := by
  unfold cs
  rw [show (fun b => fb_sm (fun a => if (X a && !X b) = true then (0 : Nat) else 0) 32) = fun _ => 0 from funext fun b => by
    rw [show (fun a => if (X a && !X b) = true then (0 : Nat) else 0) = fun _ => 0 from funext fun a => by split <;> rfl, fb_sm_const], fb_sm_const]
theorem flclear_c (x : gXH) : ∃ y, f_X2_clear x = some y ∧ Fr (fun c => c = 67 ∨ c = 68) x y ∧ FlI y (fun _ _ => 0) := by
  obtain ⟨y, e1, y1, y2⟩ := fill_ok 67 1024 (by omega) x 0
  obtain ⟨z, e2, z1, z2⟩ := fill_ok 68 32 (by omega) y 0
  refine ⟨z, ?_, (y2.mono fun c q => Or.inl q).tr (z2.mono fun c q => Or.inr q), fun a b ha hb => ⟨?_, ?_⟩, fun _ _ => (show 0 + 0 ≤ 200 from by omega)⟩
  · unfold f_X2_clear
    rw [e1]
    simp only [Option.bind_some]
    rw [e2]
    rfl
  · rw [z2.1 67 (by decide), y1 _ (by omega)]
    rfl
  · rw [z1 a ha, b_0]
    simp
/-! THE CLASS'S HARD -/
/-- how many of the first m arcs go from u to v, open ones -/
def RA (N : aN) (m u v : Nat) : Nat := fb_ct (fun a => nO N a && decide (nF N a = u ∧ nT N a = v)) m
theorem RA_y {N : aN} {m : Nat} (ho : nO N m = true) : RA N (m + 1) = uR (RA N m) (nF N m) (nT N m) (RA N m (nF N m) (nT N m) + 1) := by
  funext u v
  unfold uR
  by_cases c : u = nF N m ∧ v = nT N m
  · rw [if_pos c, c.1, c.2]
    unfold RA
    rw [fb_ct_succ, if_pos (by rw [ho]; simp)]
  · rw [if_neg c]
    unfold RA
    rw [fb_ct_succ, if_neg (fun q => by
      rw [Bool.and_eq_true, decide_eq_true_eq] at q
      exact c ⟨q.2.1.symm, q.2.2.symm⟩)]
    rfl
theorem RA_n {N : aN} {m : Nat} (ho : ¬ nO N m = true) : RA N (m + 1) = RA N m := by
  funext u v
  unfold RA
  rw [fb_ct_succ, if_neg (fun q => by
    rw [Bool.and_eq_true] at q
    exact ho q.1)]
  rfl
theorem RA_le (N : aN) (m u v : Nat) : RA N m u v ≤ m := fb_ct_le _ m
/-- the arcs that lead out of X -/
def cA (N : aN) (X : Nat → Bool) (m : Nat) : Nat := fb_sm (fun a => if nO N a = true then (if (X (nF N a) && !X (nT N a)) = true then 1 else 0) else 0) m
theorem cs_RA {N : aN} (hN : aOk N) (X : Nat → Bool) : ∀ m, m ≤ nM N → cs (RA N m) X = cA N X m
  | 0, _ => by
    rw [show RA N 0 = fun _ _ => 0 from rfl, cs_0]
    rfl
  | m + 1, hm => by
    have ih := cs_RA hN X m (by omega)
    have e : cA N X (m + 1) = cA N X m + (if nO N m = true then (if (X (nF N m) && !X (nT N m)) = true then 1 else 0) else 0) := fb_sm_succ _ _
    rw [e]
    by_cases ho : nO N m = true
    · rw [RA_y ho, if_pos ho]
      have h16 := hN.f16 (show m < nM N by omega)
      have t16 := hN.t16 (show m < nM N by omega)
      have h := cs_upd (RA N m) X (a := nF N m) (b := nT N m) (RA N m (nF N m) (nT N m) + 1) (by omega) (by omega)
      cases hx : (X (nF N m) && !X (nT N m)) with
      | true =>
        rw [hx, if_pos rfl, if_pos rfl] at h
        rw [if_pos rfl]
        omega
      | false =>
        rw [hx, if_neg (by decide), if_neg (by decide)] at h
        rw [if_neg (by decide)]
        omega
    · rw [RA_n ho, if_neg ho, ih]
      rfl
theorem cA_le (N : aN) (X : Nat → Bool) (m : Nat) : cA N X m ≤ m := by
  have h := fb_sm_bound (f := fun a => if nO N a = true then (if (X (nF N a) && !X (nT N a)) = true then 1 else 0) else 0) (c := 1) (n := m) (fun k _ => by
    split
    · split <;> omega
    · omega)
  unfold cA
  omega
section
variable {N : aN} {xc : gXH} {fa tr : Nat}
theorem hard_c (h : CQ N fa tr xc) {v : Nat} (hv : v < 16) : ∃ z y, f_X8_hard xc (nI v) = some (z, y) ∧ Fr (WS tr) xc y ∧ ((v = nRt N ∧ z = 99) ∨ (v ≠ nRt N ∧ ∃ f, z = nI f ∧ MinC (nRt N) v (RA N (nM N)) f)) := by
  have hN := h.2.1
  have hr := hN.r16
  have h60 := hN.m60
  have e4 : xc.1 7 4 = nI (nRt N) := h.2.2.1.2.1
  unfold f_X8_hard
  rw [e4]
  by_cases c : v = nRt N
  · rw [c, if_pos rfl]
    exact ⟨_, _, rfl, Fr.rf, Or.inl ⟨rfl, rfl⟩⟩
  · rw [if_neg (fun q => c ((nI_eq (by omega) (by omega)).mp q))]
    obtain ⟨x, ex, x1, x2⟩ := flclear_c xc
    rw [ex]
    simp only [Option.bind_some]
    have toW : ∀ {y : gXH}, Fr (fun c => c = 67 ∨ c = 68) xc y → Fr (WS tr) xc y := fun q => q.mono fun c z => by unfold WS; omega
    have key : ∃ y, lp (f_X8_hard_L23 (nI v)) 2000 ((0 : Int32), x) = some y ∧ Fr (fun c => c = 67 ∨ c = 68) xc y ∧ FlI y (RA N (nM N)) := by
      refine lp_for (step := f_X8_hard_L23 (nI v)) (nM N) (fun m z => z.1 = nI m ∧ Fr (fun c => c = 67 ∨ c = 68) xc z.2 ∧ FlI z.2 (RA N m)) _ ?_ ?_ ⟨rfl, x1, x2⟩ (by omega)
      · rintro m ⟨k, w⟩ hm ⟨h0, hf, h1⟩
        dsimp only at h0 hf h1
        subst h0
        have hw := h.fr (toW hf)
        unfold f_X8_hard_L23
        dsimp only
        rw [hw.arcs, if_neg (nI_ge hm (by omega)), if_neg (show ¬ (60 : Int32) ≤ nI m from nI_ge (a := m) (b := 60) (by omega) (by omega)), c_isOpen hN hw.2.2.1 hm]
        by_cases ho : nO N m = true
        · rw [if_pos ho, if_neg i1n0, atv_n (L := 60) (by omega) (by omega), atv_n (L := 60) (by omega) (by omega)]
          rw [show w.1 8 m = nI (nF N m) from hw.2.2.1.from60 hm, show w.1 9 m = nI (nT N m) from hw.2.2.1.to60 hm]
          simp only [lt]
          have h16 := hN.f16 hm
          have t16 := hN.t16 hm
          have hle := RA_le N m (nF N m) (nT N m)
          obtain ⟨y, ey, y1, y2⟩ := widen_c (x := w) (R := RA N m) h1.1 (a := nF N m) (b := nT N m) (v := RA N m (nF N m) (nT N m) + 1) (w := (1 : Int32)) (by omega) (by omega) (by rw [nI_1]) (by omega)
          rw [ey]
          refine ⟨_, rfl, nI_1 m, hf.tr y1, ?_⟩
          dsimp only
          rw [RA_y ho]
          refine ⟨y2, fun a b => ?_⟩
          rw [← RA_y ho]
          have := RA_le N (m + 1) a b
          have := RA_le N (m + 1) b a
          omega
        · rw [if_neg ho, if_pos rfl]
          refine ⟨_, rfl, nI_1 m, hf, ?_⟩
          rw [RA_n ho]
          exact h1
      · rintro ⟨k, w⟩ ⟨h0, hf, h1⟩
        dsimp only at h0 hf h1
        subst h0
        have hw := h.fr (toW hf)
        unfold f_X8_hard_L23
        dsimp only
        rw [hw.arcs, if_pos (nI_le (Nat.le_refl _) (by omega))]
        exact ⟨_, rfl, hf, h1⟩
    obtain ⟨y, ey, y1, y2⟩ := key
    rw [ey]
    simp only [Option.bind_some]
    rw [show y.1 7 4 = nI (nRt N) from by rw [y1.1 7 (by decide)]; exact e4]
    obtain ⟨f, w, ew, w1, w2, w3⟩ := most_c y2 (s := nRt N) (t := v) (by omega) (by omega) ⟨fun a => decide (a = nRt N), by simp, by simp [c], by
      rw [cs_RA hN _ _ (Nat.le_refl _)]
      have := cA_le N (fun a => decide (a = nRt N)) (nM N)
      omega⟩
    rw [ew]
    exact ⟨_, _, rfl, (toW y1).tr (w1.mono fun c z => by unfold WS; omega), Or.inr ⟨c, f, rfl, w3⟩⟩
end
