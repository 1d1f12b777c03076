/-! ONE ACT, READ AND DONE BY BOTH -/
def gRd (k : Nat) (y1 : gIH) : Option (Int32 × gIH) := if k = 0 then ((f_X10_reads y1 (0 : Int32) (2 : Int32) (16 : Int32)).bind (fun y19 => if y19.1 = (0 : Int32) then (some ((0 : Int32), y19.2)) else (gck 400 (0 : Int32) ((f_X10_isFresh y19.2 (y19.2 93 (0 : Int32).toNatClampNeg)).bind (fun y20 => some ((1 : Int32), y20)))))) else if k = 1 then ((f_X10_readsPlace y1 (1 : Int32)).bind (fun y18 => some (nb y18.1, y18.2))) else if k = 2 then ((f_X10_readsPlace y1 (2 : Int32)).bind (fun y17 => some (nb y17.1, y17.2))) else if k = 3 then ((f_X10_readsLay y1).bind (fun y16 => some (nb y16.1, y16.2))) else if k = 4 then ((f_X10_readsTurn y1 (0 : Int32)).bind (fun y15 => some (nb y15.1, y15.2))) else if k = 5 then ((f_X10_readsTurn y1 (1 : Int32)).bind (fun y14 => some (nb y14.1, y14.2))) else if k = 6 then ((f_X10_reads y1 (0 : Int32) (0 : Int32) (15 : Int32)).bind (fun y9 => if y9.1 = (0 : Int32) then (some ((0 : Int32), y9.2)) else ((f_X10_reads y9.2 (1 : Int32) (0 : Int32) (99 : Int32)).bind (fun y10 => if y10.1 = (0 : Int32) then (some ((0 : Int32), y10.2)) else (gck 400 (0 : Int32) (gck 400 (1 : Int32) ((f_X10_whyNoToll y10.2 (y10.2 93 (0 : Int32).toNatClampNeg) (y10.2 93 (1 : Int32).toNatClampNeg)).bind (fun y11 => lt (up2 y10.2 81 28 y11) (fun x12 => if (x12 81 28) = (0 : Int32) then (gck 400 (0 : Int32) (gck 400 (1 : Int32) (gck 200 ((4 : Int32) + (x12 93 (0 : Int32).toNatClampNeg)) (lt (up2 x12 82 ((4 : Int32) + (x12 93 (0 : Int32).toNatClampNeg)).toNatClampNeg (x12 93 (1 : Int32).toNatClampNeg)) (fun x13 => some ((1 : Int32), x13)))))) else (some ((1 : Int32), x12))))))))))) else (some ((0 : Int32), y1))
theorem ract_m {m : gIH} {T : Nat → Nat} {t p : Nat} (h : TM m T t) (hp : m 81 24 = nI p) (hpt : p ≤ t) : ∃ b q y, Sk (rg 32 32) T t p b ∧ Sk (rg 97 122) T t b q ∧ FrM (fun c j => c = 81 ∧ (j = 24 ∨ j = 26)) m y ∧ y 81 24 = nI q ∧ y 81 26 = nI b ∧ f_X10_readAct m = gRd (KWd T b q) y := by
  obtain ⟨b, q, y, ey, s1, s2, f1, g1, g2⟩ := letters_m h hp hpt
  refine ⟨b, q, y, s1, s2, f1, g1, g2, ?_⟩
  have e : ∀ k, k < 7 → f_X10_isWord k y = some (if cb (Spl k T b q) = true then 1 else 0) := fun k hk => word_m (h.fr (frr f1)) g1 g2 s2.1 s2.2.1 hk
  unfold f_X10_readAct
  rw [ey]
  simp only [Option.bind_some]
  unfold KWd
  rw [e 0 (by omega)]
  simp only [Option.bind_some]
  by_cases c0 : cb (Spl 0 T b q) = true
  · rw [if_pos c0, if_pos c0, if_neg i1n0]
    rfl
  rw [if_neg c0, if_neg c0, if_pos rfl]
  rw [e 1 (by omega)]
  simp only [Option.bind_some]
  by_cases c1 : cb (Spl 1 T b q) = true
  · rw [if_pos c1, if_pos c1, if_neg i1n0]
    rfl
  rw [if_neg c1, if_neg c1, if_pos rfl]
  rw [e 2 (by omega)]
  simp only [Option.bind_some]
  by_cases c2 : cb (Spl 2 T b q) = true
  · rw [if_pos c2, if_pos c2, if_neg i1n0]
    rfl
  rw [if_neg c2, if_neg c2, if_pos rfl]
  rw [e 3 (by omega)]
  simp only [Option.bind_some]
  by_cases c3 : cb (Spl 3 T b q) = true
  · rw [if_pos c3, if_pos c3, if_neg i1n0]
    rfl
  rw [if_neg c3, if_neg c3, if_pos rfl]
  rw [e 4 (by omega)]
  simp only [Option.bind_some]
  by_cases c4 : cb (Spl 4 T b q) = true
  · rw [if_pos c4, if_pos c4, if_neg i1n0]
    rfl
  rw [if_neg c4, if_neg c4, if_pos rfl]
  rw [e 5 (by omega)]
  simp only [Option.bind_some]
  by_cases c5 : cb (Spl 5 T b q) = true
  · rw [if_pos c5, if_pos c5, if_neg i1n0]
    rfl
  rw [if_neg c5, if_neg c5, if_pos rfl]
  rw [e 6 (by omega)]
  simp only [Option.bind_some]
  by_cases c6 : cb (Spl 6 T b q) = true
  · rw [if_pos c6, if_pos c6, if_neg i1n0]
    rfl
  rw [if_neg c6, if_neg c6, if_pos rfl]
  rfl
def WAc : Nat → Nat → Prop := fun c j => (c = 81 ∧ (j = 24 ∨ j = 26 ∨ j = 28)) ∨ c = 93 ∨ c = 82
def AS (k : Nat) (x : gXH) (m : gIH) (T : Nat → Nat) (t : Nat) (G : Option (Int32 × gIH)) : Prop := ∃ r xr z m', lp (f_X7_readAct_L35 (nI k)) 2000 ((0 : Int32), x) = some r ∧ Fr W56 x xr ∧ xr.1 5 4 = x.1 5 4 ∧ G = some (z, m') ∧ FrM WAc m m' ∧
  ((r = .inl xr ∧ z = 0 ∧ m' 81 28 = 0 ∧ ∃ b, xr.1 5 5 = nI b ∧ m' 81 26 = nI b) ∨
   ((r = .inr (.inl xr) ∨ r = .inr (.inr xr)) ∧ z = 1 ∧ ∃ c x2, c ≤ 4 ∧ f_X9_doTold xr (nI k) = some (nI c, x2) ∧ Fx W7 xr x2 ∧ m' 81 28 = nI c ∧ (c = 0 → ∃ N' q, aOk N' ∧ CNet x2 7 N' ∧ MNet m' 82 0 N' ∧ Bo x2 m' T t q)))
theorem Bo.after {x y : gXH} {m z : gIH} {T : Nat → Nat} {t p : Nat} (h : Bo x m T t p) (f : Fx W7 x y) (g : FrM W28 m z) : Bo y z T t p :=
  ⟨h.1.cg (f 1 (by omega)).1 (f 2 (by omega)).1, h.2.1.cg (g 81 25 (by unfold W28; omega)) (fun i => g 91 i (by unfold W28; omega)), h.2.2.1, by rw [(f 5 (by omega)).1]; exact h.2.2.2.1, by rw [g 81 24 (by unfold W28; omega)]; exact h.2.2.2.2⟩
theorem as_done {N : aN} {x xr : gXH} {m mz m' : gIH} {T f : Nat → Nat} {t q k w J : Nat} {r : gXH ⊕ gXH ⊕ gXH} (hN : aOk N) (hC : CNet x 7 N) (hk : k < 7) (hw : (k = 3 ∨ k = 6) ∧ w = 2 ∨ ¬ (k = 3 ∨ k = 6) ∧ w = 1) (hJ : w * J ≤ 400)
    (er : lp (f_X7_readAct_L35 (nI k)) 2000 ((0 : Int32), x) = some r) (hr : r = .inr (.inl xr) ∨ r = .inr (.inr xr)) (f1 : Fr W56 x xr) (v4 : xr.1 5 4 = x.1 5 4) (hd : TD xr mz (w * J) f) (hB : fB k w f J) (hb : Bo xr mz T t q) (g1 : FrM WRr m mz) (g2 : FrM W28 mz m') (h28 : m' 81 28 = nI (rnA k w f N J).1) (hM : (rnA k w f N J).1 = 0 → MNet m' 82 0 (rnA k w f N J).2) : AS k x m T t (some (1, m')) := by
  have hCr : CNet xr 7 N := hC.fr f1 (fun c _ _ => by unfold W56; omega)
  obtain ⟨x2, e2, fx, hc⟩ := told_c hN hCr hk hw hJ hd.1 (fun i hi => (hd.2 i hi).1) hB
  exact ⟨r, xr, 1, m', er, f1, v4, rfl, (g1.mono fun c j h => by unfold WRr at h; unfold WAc; omega).tr (g2.mono fun c j h => by unfold W28 at h; unfold WAc; omega), Or.inr ⟨hr, rfl, _, x2, rnA_4 J, e2, fx, h28, fun z => ⟨_, q, rnA_ok hN hk hB J (Nat.le_refl _) z, hc z, hM z, hb.after fx g2⟩⟩⟩
theorem as_wrong {x xr : gXH} {m m' : gIH} {T : Nat → Nat} {t k b : Nat} (er : lp (f_X7_readAct_L35 (nI k)) 2000 ((0 : Int32), x) = some (.inl xr)) (f1 : Fr W56 x xr) (v4 : xr.1 5 4 = x.1 5 4) (g1 : FrM WRr m m') (h28 : m 81 28 = 0) (e5 : xr.1 5 5 = nI b) (e6 : m' 81 26 = nI b) : AS k x m T t (some (0, m')) :=
  ⟨_, xr, 0, m', er, f1, v4, rfl, g1.mono fun c j h => by unfold WRr at h; unfold WAc; omega, Or.inl ⟨rfl, rfl, by rw [g1 81 28 (by unfold WRr; omega)]; exact h28, b, e5, e6⟩⟩
theorem l35_y {x y : gXH} {k : Nat} (hk : k = 0 ∨ k = 1 ∨ k = 2 ∨ k = 6) (e : f_X7_readTold x (nI k) = some (1, y)) : lp (f_X7_readAct_L35 (nI k)) 2000 ((0 : Int32), x) = some (.inr (.inr y)) := by
  refine lp_e (k := 1999) ?_
  unfold f_X7_readAct_L35
  dsimp only
  rw [if_neg (by decide), e]
  simp only [Option.bind_some]
  rw [if_neg i1n0, if_pos (by rcases hk with rfl | rfl | rfl | rfl <;> decide)]
theorem l35_n {x y : gXH} {k : Nat} (e : f_X7_readTold x (nI k) = some (0, y)) : lp (f_X7_readAct_L35 (nI k)) 2000 ((0 : Int32), x) = some (.inl y) := by
  refine lp_e (k := 1999) ?_
  unfold f_X7_readAct_L35
  dsimp only
  rw [if_neg (by decide), e]
  simp only [Option.bind_some]
  rw [if_pos trivial]
theorem uf_at {f : Nat → Nat} {n v : Nat} : uf f n v n = v := if_pos rfl
theorem uf_ne {f : Nat → Nat} {n v i : Nat} (h : i ≠ n) : uf f n v i = f i := if_neg h
section
variable {N : aN} {x : gXH} {m : gIH} {T f : Nat → Nat} {t p : Nat}
theorem as_lay (h : Bo x m T t p) (hd : TD x m 0 f) (hN : aOk N) (hC : CNet x 7 N) (hM : MNet m 82 0 N) (h28 : m 81 28 = 0) : AS 3 x m T t (gRd 3 m) := by
  show AS 3 x m T t ((f_X10_readsLay m).bind (fun y16 => some (nb y16.1, y16.2)))
  obtain ⟨r, q, y, z, er, b1, f1, g1, v1, h1⟩ := many_sim (κ := 3) (w := 2) (hi := 15) (Or.inl ⟨rfl, rfl, rfl⟩) h hd
  unfold f_X10_readsLay
  rcases h1 with ⟨hr, -, J, f', j1, j2, e, d1, d2⟩ | ⟨hr, e, b, -, w1, w2⟩
  · rw [show f_X10_readsMany m (2 : Int32) (15 : Int32) = _ from e]
    simp only [Option.bind_some]
    have hB : fB 3 2 f' J := fun j hj => ⟨by have := d2 (2 * j) (by omega); omega, fun z => by omega, fun _ => by have := d2 (2 * j + 1) (by omega); omega⟩
    have h28z : z 81 28 = 0 := by rw [g1 81 28 (by unfold WRr; omega)]; exact h28
    obtain ⟨m', em, k1, k2, k3⟩ := lay_l hN (hM.fr g1 (fun j => by unfold WRr; omega)) j2 (fun i hi => (d1.2 i hi).2) hB h28z
    rw [em]
    simp only [Option.bind_some]
    rw [if_neg (nI_ne_m1 (by omega))]
    simp only [Option.bind_some]
    rw [nb1]
    exact as_done hN hC (by omega) (Or.inl ⟨Or.inl rfl, rfl⟩) (by omega) er hr f1 v1 d1 hB b1 g1 k1 k2 k3
  · rw [show f_X10_readsMany m (2 : Int32) (15 : Int32) = _ from e]
    simp only [Option.bind_some]
    rw [show lp (f_X10_readsLay_L10 (-1 : Int32)) 2000 ((0 : Int32), z) = some z from lp_e (k := 1999) (by
      unfold f_X10_readsLay_L10
      dsimp only
      rw [if_pos (by decide)])]
    simp only [Option.bind_some]
    rw [if_pos trivial]
    simp only [Option.bind_some]
    rw [nb0]
    rw [hr] at er
    exact as_wrong er f1 v1 g1 h28 w1 w2
theorem as_turn (o : Bool) (h : Bo x m T t p) (hd : TD x m 0 f) (hN : aOk N) (hC : CNet x 7 N) (hM : MNet m 82 0 N) (h28 : m 81 28 = 0) : AS (if o = true then 5 else 4) x m T t ((f_X10_readsTurn m (if o = true then 1 else 0)).bind (fun y14 => some (nb y14.1, y14.2))) := by
  have hκ : (if o = true then 5 else 4) = 4 ∨ (if o = true then 5 else 4) = 5 := by
    cases o with
    | false => exact Or.inl rfl
    | true => exact Or.inr rfl
  obtain ⟨r, q, y, z, er, b1, f1, g1, v1, h1⟩ := many_sim (κ := if o = true then 5 else 4) (w := 1) (hi := 59) (Or.inr ⟨hκ, rfl, rfl⟩) h hd
  unfold f_X10_readsTurn
  rcases h1 with ⟨hr, -, J, f', j1, j2, e, d1, d2⟩ | ⟨hr, e, b, -, w1, w2⟩
  · rw [show f_X10_readsMany m (1 : Int32) (59 : Int32) = _ from e]
    simp only [Option.bind_some]
    have hB : fB (if o = true then 5 else 4) 1 f' J := fun j hj => ⟨by have := d2 (1 * j) (by omega); omega, fun z => by omega, fun z => by omega⟩
    have h28z : z 81 28 = 0 := by rw [g1 81 28 (by unfold WRr; omega)]; exact h28
    obtain ⟨m', em, k1, k2, k3⟩ := turn_l hN (hM.fr g1 (fun j => by unfold WRr; omega)) o j2 (fun i hi => (d1.2 i hi).2) hB h28z
    rw [em]
    simp only [Option.bind_some]
    rw [if_neg (nI_ne_m1 (by omega))]
    simp only [Option.bind_some]
    rw [nb1]
    exact as_done hN hC (by omega) (Or.inr ⟨by omega, rfl⟩) (by omega) er hr f1 v1 d1 hB b1 g1 k1 k2 k3
  · rw [show f_X10_readsMany m (1 : Int32) (59 : Int32) = _ from e]
    simp only [Option.bind_some]
    rw [show lp (f_X10_readsTurn_L10 (if o = true then 1 else 0) (-1 : Int32)) 2000 ((0 : Int32), z) = some z from lp_e (k := 1999) (by
      unfold f_X10_readsTurn_L10
      dsimp only
      rw [if_pos (by decide)])]
    simp only [Option.bind_some]
    rw [if_pos trivial]
    simp only [Option.bind_some]
    rw [nb0]
    rw [hr] at er
    exact as_wrong er f1 v1 g1 h28 w1 w2
theorem g400 {α : Type} {i : Nat} (hi : i < 400) (t : Option α) : gck 400 (nI i) t = t := gck_ni hi (by omega)
theorem as_net (h : Bo x m T t p) (hd : TD x m 0 f) (hN : aOk N) (hC : CNet x 7 N) (h28 : m 81 28 = 0) : AS 0 x m T t (gRd 0 m) := by
  show AS 0 x m T t ((f_X10_reads m (nI 0) (nI 2) (nI 16)).bind (fun y19 => if y19.1 = (0 : Int32) then (some ((0 : Int32), y19.2)) else (gck 400 (nI 0) ((f_X10_isFresh y19.2 (y19.2 93 0)).bind (fun y20 => some ((1 : Int32), y20))))))
  have cls : f_X7_readTold x (nI 0) = ((f_X7_readNumber x (nI 2) (nI 16)).bind (fun y10 => some (nb y10.1, y10.2))) := by
    unfold f_X7_readTold
    rw [if_pos (by decide)]
    rfl
  obtain ⟨q, y, z, b1, -, f1, g1, v1, r1⟩ := num_sim h hd (lo := 2) (hi := 16) (show 0 < 400 by omega) (by omega) (by omega)
  rcases r1 with ⟨e1, e2, -, v, v2, v3, d1⟩ | ⟨e1, e2, b, -, w1, w2⟩
  · rw [e1] at cls
    simp only [Option.bind_some] at cls
    rw [nb1] at cls
    rw [e2]
    simp only [Option.bind_some]
    have hv : z 93 0 = nI v := by
      have := (d1.2 0 (by omega)).2
      rw [uf_at] at this
      exact this
    obtain ⟨m', em, k1, k2⟩ := new_m (hm := z) v v2 v3
    rw [if_neg i1n0, g400 (by omega), hv, em]
    simp only [Option.bind_some]
    have one := rnA_one (k := 0) (w := 1) (f := uf f 0 v) (N := N) (a := v) (b := 0) (by omega) uf_at (fun z => by omega)
    refine as_done (J := 1) (w := 1) hN hC (by omega) (Or.inr ⟨by omega, rfl⟩) (by omega) (l35_y (Or.inl rfl) cls) (Or.inr rfl) f1 v1 d1 (fun j hj => ?_) b1 g1 (k2.mono fun c j h => Or.inr h) ?_ (fun _ => ?_)
    · rw [show j = 0 by omega, show uf f 0 v (1 * 0) = v from uf_at]
      exact ⟨by omega, fun _ => ⟨v2, v3⟩, fun z => by omega⟩
    · rw [one.1, k2 81 28 (by omega), g1 81 28 (by unfold WRr; omega), h28]
      rfl
    · rw [one.2 rfl]
      exact k1
  · rw [e1] at cls
    simp only [Option.bind_some] at cls
    rw [nb0] at cls
    rw [e2]
    simp only [Option.bind_some]
    rw [if_pos trivial]
    exact as_wrong (l35_n cls) f1 v1 g1 h28 w1 w2
theorem as_place {k : Nat} (hk : k = 1 ∨ k = 2) (h : Bo x m T t p) (hd : TD x m 0 f) (hN : aOk N) (hC : CNet x 7 N) (hM : MNet m 82 0 N) (h28 : m 81 28 = 0) : AS k x m T t ((f_X10_readsPlace m (nI k)).bind (fun y17 => some (nb y17.1, y17.2))) := by
  have cls : f_X7_readTold x (nI k) = ((f_X7_readNumber x (nI 0) (nI 15)).bind (fun y10 => some (nb y10.1, y10.2))) := by
    unfold f_X7_readTold
    rcases hk with rfl | rfl
    · rw [if_neg (by decide), if_pos (by decide)]
      rfl
    · rw [if_neg (by decide), if_neg (by decide), if_pos (by decide)]
      rfl
  obtain ⟨q, y, z, b1, -, f1, g1, v1, r1⟩ := num_sim h hd (lo := 0) (hi := 15) (show 0 < 400 by omega) (by omega) (by omega)
  unfold f_X10_readsPlace
  rcases r1 with ⟨e1, e2, -, v, v2, v3, d1⟩ | ⟨e1, e2, b, -, w1, w2⟩
  · rw [e1] at cls
    simp only [Option.bind_some] at cls
    rw [nb1] at cls
    rw [show f_X10_reads m (0 : Int32) (0 : Int32) (15 : Int32) = _ from e2]
    simp only [Option.bind_some]
    have hv : z 93 0 = nI v := by
      have := (d1.2 0 (by omega)).2
      rw [uf_at] at this
      exact this
    have hv' : z 93 (0 : Int32).toNatClampNeg = nI v := hv
    have hMz := hM.fr g1 (fun j => by unfold WRr; omega)
    rw [if_neg i1n0, show ∀ u : Option (Int32 × gIH), gck 400 (0 : Int32) u = u from fun u => g400 (i := 0) (by omega) u, hv', whyTell_m (b := 0) hN hMz hk (by omega)]
    simp only [Option.bind_some, lt]
    obtain ⟨x3, e3⟩ : ∃ x3, up2 z 81 28 (nI (aRf k N v 0)) = x3 := ⟨_, rfl⟩
    have v28 : x3 81 28 = nI (aRf k N v 0) := by rw [← e3, up2_at]
    have f3 : FrM (fun c j => c = 81 ∧ j = 28) z x3 := by
      rw [← e3]
      exact FrM.s ⟨rfl, rfl⟩
    have hv3 : x3 93 (0 : Int32).toNatClampNeg = nI v := (f3 93 0 (by omega)).trans hv
    have h4c := aRf_4 k N v 0
    have one := rnA_one (k := k) (w := 1) (f := uf f 0 v) (N := N) (a := v) (b := 0) (by omega) uf_at (fun z => by omega)
    have hB : fB k 1 (uf f 0 v) 1 := fun j hj => by
      rw [show j = 0 by omega, show uf f 0 v (1 * 0) = v from uf_at]
      exact ⟨by omega, fun z => by omega, fun z => by omega⟩
    rw [e3, v28]
    by_cases c : aRf k N v 0 = 0
    · rw [c, if_pos nI_0, show ∀ u : Option (Int32 × gIH), gck 400 (0 : Int32) u = u from fun u => g400 (i := 0) (by omega) u, gck_ni (show k < 200 by omega) (by omega), hv3, nI_clamp (show k < 2 ^ 31 by omega)]
      simp only [Option.bind_some]
      rw [nb1]
      have hMx := hMz.fr f3 (fun j => by omega)
      refine as_done (J := 1) (w := 1) hN hC (by omega) (Or.inr ⟨by omega, rfl⟩) (by omega) (l35_y (by omega) cls) (Or.inr rfl) f1 v1 d1 hB b1 g1 ((f3.mono fun c j h => Or.inl h).tr (FrM.s (Or.inr rfl))) ?_ (fun _ => ?_)
      · rw [up2_at2 (Or.inl (by decide)), v28, one.1]
      · rw [one.2 c]
        rcases hk with rfl | rfl
        · exact root_m hMx v
        · exact exit_m hMx v
    · rw [if_neg (nI_nz (by omega) (by omega))]
      simp only [Option.bind_some]
      rw [nb1]
      refine as_done (J := 1) (w := 1) hN hC (by omega) (Or.inr ⟨by omega, rfl⟩) (by omega) (l35_y (by omega) cls) (Or.inr rfl) f1 v1 d1 hB b1 g1 (f3.mono fun c j h => Or.inl h) ?_ (fun z => ?_)
      · rw [v28, one.1]
      · rw [one.1] at z
        exact absurd z c
  · rw [e1] at cls
    simp only [Option.bind_some] at cls
    rw [nb0] at cls
    rw [show f_X10_reads m (0 : Int32) (0 : Int32) (15 : Int32) = _ from e2]
    simp only [Option.bind_some]
    rw [if_pos trivial]
    simp only [Option.bind_some]
    rw [nb0]
    exact as_wrong (l35_n cls) f1 v1 g1 h28 w1 w2
theorem as_toll (h : Bo x m T t p) (hd : TD x m 0 f) (hN : aOk N) (hC : CNet x 7 N) (hM : MNet m 82 0 N) (h28 : m 81 28 = 0) : AS 6 x m T t (gRd 6 m) := by
  have hn := hN.n16
  have cls : f_X7_readTold x (nI 6) = ((f_X7_readNumber x (nI 0) (nI 15)).bind (fun y2 => if y2.1 = (0 : Int32) then (some ((0 : Int32), y2.2)) else ((f_X7_readNumber y2.2 (nI 0) (nI 99)).bind (fun y3 => if y3.1 = (0 : Int32) then (some ((0 : Int32), y3.2)) else (some ((1 : Int32), y3.2)))))) := by
    unfold f_X7_readTold
    rw [if_neg (by decide), if_neg (by decide), if_neg (by decide), if_neg (by decide), if_neg (by decide), if_neg (by decide), if_pos (by decide)]
    rfl
  have G : gRd 6 m = ((f_X10_reads m (nI 0) (nI 0) (nI 15)).bind (fun y9 => if y9.1 = (0 : Int32) then (some ((0 : Int32), y9.2)) else ((f_X10_reads y9.2 (nI 1) (nI 0) (nI 99)).bind (fun y10 => if y10.1 = (0 : Int32) then (some ((0 : Int32), y10.2)) else (gck 400 (nI 0) (gck 400 (nI 1) ((f_X10_whyNoToll y10.2 (y10.2 93 0) (y10.2 93 1)).bind (fun y11 => lt (up2 y10.2 81 28 y11) (fun x12 => if (x12 81 28) = (0 : Int32) then (gck 400 (nI 0) (gck 400 (nI 1) (gck 200 ((4 : Int32) + (x12 93 0)) (lt (up2 x12 82 ((4 : Int32) + (x12 93 0)).toNatClampNeg (x12 93 1)) (fun x13 => some ((1 : Int32), x13)))))) else (some ((1 : Int32), x12))))))))))) := rfl
  rw [G]
  obtain ⟨q, y, z, b1, -, f1, g1, v1, r1⟩ := num_sim h hd (lo := 0) (hi := 15) (show 0 < 400 by omega) (by omega) (by omega)
  rcases r1 with ⟨e1, e2, -, v, v2, v3, d1⟩ | ⟨e1, e2, b, -, w1, w2⟩
  · rw [e1] at cls
    simp only [Option.bind_some] at cls
    rw [if_neg i1n0] at cls
    rw [e2]
    simp only [Option.bind_some]
    rw [if_neg i1n0]
    obtain ⟨q', y', z', b2, -, f2, g2, v4, r2⟩ := num_sim b1 d1 (lo := 0) (hi := 99) (show 0 + 1 < 400 by omega) (by omega) (by omega)
    rcases r2 with ⟨e3, e4, -, u, u2, u3, d2⟩ | ⟨e3, e4, b, -, w1, w2⟩
    · rw [e3] at cls
      simp only [Option.bind_some] at cls
      rw [if_neg i1n0] at cls
      rw [show f_X10_reads z (nI 1) (nI 0) (nI 99) = _ from e4]
      simp only [Option.bind_some]
      have uv0 : uf (uf f 0 v) (0 + 1) u (2 * 0) = v := by
        rw [uf_ne (by decide)]
        exact uf_at
      have uv1 : uf (uf f 0 v) (0 + 1) u (2 * 0 + 1) = u := uf_at
      have hv : z' 93 0 = nI v := by
        have := (d2.2 (2 * 0) (by omega)).2
        rw [uv0] at this
        exact this
      have hu : z' 93 1 = nI u := by
        have := (d2.2 (2 * 0 + 1) (by omega)).2
        rw [uv1] at this
        exact this
      have hMz := hM.fr (g1.tr g2) (fun j => by unfold WRr; omega)
      rw [if_neg i1n0, g400 (by omega), g400 (by omega), hv, hu, whyToll_m hN hMz (by omega) (by omega)]
      simp only [Option.bind_some, lt]
      obtain ⟨x3, e5⟩ : ∃ x3, up2 z' 81 28 (nI (aRf 6 N v u)) = x3 := ⟨_, rfl⟩
      have v28 : x3 81 28 = nI (aRf 6 N v u) := by rw [← e5, up2_at]
      have f3 : FrM (fun c j => c = 81 ∧ j = 28) z' x3 := by
        rw [← e5]
        exact FrM.s ⟨rfl, rfl⟩
      have hv3 : x3 93 0 = nI v := (f3 93 0 (by omega)).trans hv
      have hu3 : x3 93 1 = nI u := (f3 93 1 (by omega)).trans hu
      have h4c := aRf_4 6 N v u
      have one := rnA_one (k := 6) (w := 2) (f := uf (uf f 0 v) (0 + 1) u) (N := N) (a := v) (b := u) (by omega) uv0 (fun _ => uv1)
      have hB : fB 6 2 (uf (uf f 0 v) (0 + 1) u) 1 := fun j hj => by
        rw [show j = 0 by omega, uv0, uv1]
        exact ⟨by omega, fun z => by omega, fun z => by omega⟩
      rw [e5, v28]
      by_cases c : aRf 6 N v u = 0
      · have hr : (if v < nN N then (if nL N v = u then 4 else 0) else 1) = 0 := c
        have hvn : v < nN N := by
          apply Classical.byContradiction
          intro q
          rw [if_neg q] at hr
          omega
        rw [c, if_pos nI_0, g400 (by omega), g400 (by omega), hv3, hu3, show (4 : Int32) + nI v = nI (4 + v) from nI_add 4 v, gck_ni (show 4 + v < 200 by omega) (by omega), nI_clamp (show 4 + v < 2 ^ 31 by omega)]
        have hMx := hMz.fr f3 (fun j => by omega)
        refine as_done (J := 1) (w := 2) hN hC (by omega) (Or.inl ⟨Or.inr rfl, rfl⟩) (by omega) (l35_y (by omega) cls) (Or.inr rfl) (f1.tr f2) (v4.trans v1) d2 hB b2 (g1.tr g2) ((f3.mono fun c j h => Or.inl h).tr (FrM.s (Or.inr rfl))) ?_ (fun _ => ?_)
        · rw [up2_at2 (Or.inl (by decide)), v28, one.1]
        · rw [one.2 c]
          exact toll_n hMx (by omega) u
      · rw [if_neg (nI_nz (by omega) (by omega))]
        refine as_done (J := 1) (w := 2) hN hC (by omega) (Or.inl ⟨Or.inr rfl, rfl⟩) (by omega) (l35_y (by omega) cls) (Or.inr rfl) (f1.tr f2) (v4.trans v1) d2 hB b2 (g1.tr g2) (f3.mono fun c j h => Or.inl h) ?_ (fun z => ?_)
        · rw [v28, one.1]
        · rw [one.1] at z
          exact absurd z c
    · rw [e3] at cls
      simp only [Option.bind_some] at cls
      rw [if_pos trivial] at cls
      rw [show f_X10_reads z (nI 1) (nI 0) (nI 99) = _ from e4]
      simp only [Option.bind_some]
      rw [if_pos trivial]
      exact as_wrong (l35_n cls) (f1.tr f2) (v4.trans v1) (g1.tr g2) h28 w1 w2
  · rw [e1] at cls
    simp only [Option.bind_some] at cls
    rw [if_pos trivial] at cls
    rw [e2]
    simp only [Option.bind_some]
    rw [if_pos trivial]
    exact as_wrong (l35_n cls) f1 v1 g1 h28 w1 w2
theorem as_all {k : Nat} (hk : k < 7) (h : Bo x m T t p) (hd : TD x m 0 f) (hN : aOk N) (hC : CNet x 7 N) (hM : MNet m 82 0 N) (h28 : m 81 28 = 0) : AS k x m T t (gRd k m) := by
  rcases (show k = 0 ∨ k = 1 ∨ k = 2 ∨ k = 3 ∨ k = 4 ∨ k = 5 ∨ k = 6 by omega) with rfl | rfl | rfl | rfl | rfl | rfl | rfl
  · exact as_net h hd hN hC h28
  · exact as_place (Or.inl rfl) h hd hN hC hM h28
  · exact as_place (Or.inr rfl) h hd hN hC hM h28
  · exact as_lay h hd hN hC hM h28
  · exact as_turn false h hd hN hC hM h28
  · exact as_turn true h hd hN hC hM h28
  · exact as_toll h hd hN hC hM h28
end
theorem KWd_8 (T : Nat → Nat) (b q : Nat) : KWd T b q ≤ 7 := by
  unfold KWd
  repeat' split
  all_goals omega
theorem act_sim {N : aN} {x : gXH} {m : gIH} {T : Nat → Nat} {t p : Nat} (h : Bo x m T t p) (hN : aOk N) (hC : CNet x 7 N) (hM : MNet m 82 0 N) (h28 : m 81 28 = 0) :
    ∃ q0 y4, f_X10_blanks m = some y4 ∧ Sk (rg 32 32) T t p q0 ∧ y4 81 24 = nI q0 ∧ y4 81 26 = nI q0 ∧ FrM (fun c j => c = 81 ∧ (j = 24 ∨ j = 26)) m y4 ∧
      ∃ kk x1 z m1, f_X7_readAct x = some (kk, x1) ∧ f_X10_readAct y4 = some (z, m1) ∧ Fr W56 x x1 ∧ FrM WAc m m1 ∧
        ((kk = -1 ∧ z = 0 ∧ m1 81 28 = 0 ∧ ∃ b, x1.1 5 5 = nI b ∧ m1 81 26 = nI b) ∨
         (∃ k c x2, k < 7 ∧ kk = nI k ∧ z = 1 ∧ c ≤ 4 ∧ x1.1 5 4 = nI q0 ∧ f_X9_doTold x1 (nI k) = some (nI c, x2) ∧ Fx W7 x1 x2 ∧ m1 81 28 = nI c ∧ (c = 0 → ∃ N' q, aOk N' ∧ CNet x2 7 N' ∧ MNet m1 82 0 N' ∧ Bo x2 m1 T t q))) := by
  obtain ⟨h1, h2, h3, h4, h5⟩ := h
  obtain ⟨q0, y4, e4, s4, f4, a4, a6⟩ := blanks_m h2 h5 h3
  refine ⟨q0, y4, e4, s4, a4, a6, f4, ?_⟩
  obtain ⟨q0', y1, e1, s1, f1, b3, bo⟩ := next_c h1 h4 h3
  have eq0 := s1.uniq s4
  subst eq0
  have hq0 := s1.2.1
  have T4 := h2.fr (frr f4)
  obtain ⟨b', q, m0, t1, t2, g1, c4, c6, eR⟩ := ract_m T4 a4 hq0
  have eb := t1.uniq s1.again
  subst eb
  have fm0 : FrM WRr m m0 := (frr f4).tr (frr g1)
  obtain ⟨x3, e3⟩ : ∃ x3, sI (sI y1 5 4 (nI b')) 5 2 (0 : Int32) = x3 := ⟨_, rfl⟩
  have fx3 : Fr (fun c => c = 5) x x3 := by
    rw [← e3]
    exact (f1.tr (Fr.s rfl)).tr (Fr.s rfl)
  have p3 : x3.1 5 3 = nI b' := by
    rw [← e3, sI_at2 (by decide), sI_at2 (by decide)]
    exact b3
  have p4 : x3.1 5 4 = nI b' := by rw [← e3, sI_at2 (by decide), sI_at]
  have p2 : x3.1 5 2 = 0 := by rw [← e3, sI_at]
  obtain ⟨q', x5, s5, e5, f5, d3, d5⟩ := rword_c (h1.fr (fr5 fx3)) p3 hq0
  have eq := s5.uniq t2
  subst eq
  have fx5 : Fr (fun c => c = 5) x x5 := fx3.tr f5
  have k7 := KWd_8 T b' q'
  unfold f_X7_readAct
  rw [e1]
  simp only [Option.bind_some, lt]
  rw [e3, e5]
  simp only [Option.bind_some]
  rw [eR]
  by_cases c : KWd T b' q' = 7
  · rw [c, if_pos (show kI 7 = (-1 : Int32) from rfl)]
    refine ⟨-1, sI x5 5 5 (x5.1 5 4), 0, m0, rfl, rfl, fr5 (fx5.tr (Fr.s rfl)), fm0.mono fun c j h => by unfold WRr at h; unfold WAc; omega, Or.inl ⟨rfl, rfl, ?_, b', ?_, c6⟩⟩
    · rw [fm0 81 28 (by unfold WRr; omega)]
      exact h28
    · rw [sI_at, d5 4 (by decide)]
      exact p4
  · have ek : kI (KWd T b' q') = nI (KWd T b' q') := if_neg c
    have Bx : Bo x5 m0 T t q' := ⟨h1.fr (fr5 fx5), h2.fr fm0, s5.2.1, d3, c4⟩
    have Dx : TD x5 m0 0 (fun _ => 0) := ⟨(d5 2 (by decide)).trans p2, fun i hi => absurd hi (by omega)⟩
    have A := as_all (k := KWd T b' q') (by omega) Bx Dx hN (hC.fr fx5 (fun c _ _ => by omega)) (hM.fr fm0 (fun j => by unfold WRr; omega)) (by rw [fm0 81 28 (by unfold WRr; omega)]; exact h28)
    rw [ek, if_neg (nI_ne_m1 (by omega))]
    obtain ⟨r, xr, z, m', er, fr, v4, eG, fm, hh⟩ := A
    rw [er, eG]
    have Fm : FrM WAc m m' := (fm0.mono fun c j h => by unfold WRr at h; unfold WAc; omega).tr fm
    have Fx' : Fr W56 x xr := (fr5 fx5).tr fr
    rcases hh with ⟨rfl, rfl, w1, w2⟩ | ⟨hr, rfl, c', x2, c1, c2, c3, c5, c7⟩
    · exact ⟨-1, xr, 0, m', rfl, rfl, Fx', Fm, Or.inl ⟨rfl, rfl, w1, w2⟩⟩
    · refine ⟨nI (KWd T b' q'), xr, 1, m', ?_, rfl, Fx', Fm, Or.inr ⟨KWd T b' q', c', x2, by omega, rfl, rfl, c1, ?_, c2, c3, c5, c7⟩⟩
      · rcases hr with rfl | rfl <;> rfl
      · rw [v4, d5 4 (by decide)]
        exact p4
