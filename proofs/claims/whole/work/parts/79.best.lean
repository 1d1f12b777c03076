/-! THE REFERENCE'S BEST -/
section
variable {N : aN} {hm y : gIH}
def oA : Option Nat → Int32
  | none => -1
  | some n => nI (n / 16)
def oB : Option Nat → Int32
  | none => -1
  | some n => nI (n % 16)
theorem edx_more {a b : Nat} (u w : Nat) : EdX N 100 100 (some (a, b)) u w ↔ Ed N 100 u w ∨ (u = a ∧ w = b) := by
  constructor
  · rintro (z | z)
    · exact Or.inl (Or.inl z)
    · cases z
      exact Or.inr ⟨rfl, rfl⟩
  · rintro ((z | z) | ⟨rfl, rfl⟩)
    · exact Or.inl z
    · cases z
    · exact Or.inr rfl
theorem lnf_ab {a b : Nat} (hb : b < 16) : lnf N (16 * a + b) = LN (Ed N 100) (fun s => s = nRt N) a b := by
  unfold lnf
  rw [show (16 * a + b) / 16 = a by omega, show (16 * a + b) % 16 = b by omega]
theorem lnf_0 (hN : aOk N) {i : Nat} (h : nN N ≤ i / 16 ∨ nN N ≤ i % 16) : lnf N i = 0 := by
  unfold lnf LN
  rw [show (fun g => cg (Ed N 100) (fun s => s = nRt N) g (i / 16) (i % 16)) = fun _ => 0 from funext fun g => cg_n hN h, fb_sm_const]
theorem best_in (hN : aOk N) (b1 : Int32) {a : Nat} (ha : a < nN N) (s : Int32 × Int32 × Int32 × gIH) (t : Int32) (q : QN N hm s.2.2.2) (ht : s.2.2.2 81 0 = t) (hs : ∃ i m, s.1 = oA i ∧ s.2.1 = oB i ∧ s.2.2.1 = nI m ∧ m ≤ 256 ∧ BS (lnf N) (16 * a) i m) :
    ∃ z, lp (f_X10_best_L51 b1 (nI a)) 2000 (s.1, s.2.1, s.2.2.1, (0 : Int32), s.2.2.2) = some z ∧ QN N hm z.2.2.2 ∧ z.2.2.2 81 0 = t ∧ ∃ i m, z.1 = oA i ∧ z.2.1 = oB i ∧ z.2.2.1 = nI m ∧ m ≤ 256 ∧ BS (lnf N) (16 * a + nN N) i m := by
  have hn := hN.n16
  refine lp_for (step := f_X10_best_L51 b1 (nI a)) (nN N) (fun b s => s.2.2.2.1 = nI b ∧ QN N hm s.2.2.2.2 ∧ s.2.2.2.2 81 0 = t ∧ ∃ i m, s.1 = oA i ∧ s.2.1 = oB i ∧ s.2.2.1 = nI m ∧ m ≤ 256 ∧ BS (lnf N) (16 * a + b) i m) _ ?_ ?_ ⟨rfl, q, ht, hs⟩ (by omega)
  · rintro b ⟨fr, to, mo, k, w⟩ hb ⟨h0, q, ht, i, m, h1, h2, h3, h4, h5⟩
    dsimp only at h0 q ht h1 h2 h3 h4 h5
    subst h0 h1 h2 h3
    obtain ⟨z, ez, z1, z2, z3⟩ := tries_m hN q ha hb
    have z4 : z 81 39 = nI (lnf N (16 * a + b)) := by rw [z3.2.2.2, lfS_LN edx_more, lnf_ab (by omega)]
    have hb2 : lnf N (16 * a + b) ≤ 256 := LN_256 _ _
    unfold f_X10_best_L51
    dsimp only
    rw [m_nodes q.2.1]
    simp only [Option.bind_some]
    rw [if_neg (nI_ge hb (by omega)), ez]
    simp only [Option.bind_some]
    rw [z4]
    by_cases c : m < lnf N (16 * a + b)
    · rw [if_pos (nI_lt c (by omega))]
      refine ⟨_, rfl, nI_1 b, z1, z2.trans ht, some (16 * a + b), _, ?_, ?_, rfl, hb2, h5.yes c⟩
      · show nI a = nI ((16 * a + b) / 16)
        rw [show (16 * a + b) / 16 = a by omega]
      · show nI b = nI ((16 * a + b) % 16)
        rw [show (16 * a + b) % 16 = b by omega]
    · rw [if_neg (nI_nlt (by omega) (by omega))]
      exact ⟨_, rfl, nI_1 b, z1, z2.trans ht, i, m, rfl, rfl, rfl, h4, h5.no (by omega)⟩
  · rintro ⟨fr, to, mo, k, w⟩ ⟨h0, q, ht, hs⟩
    dsimp only at h0 q ht hs
    subst h0
    unfold f_X10_best_L51
    dsimp only
    rw [m_nodes q.2.1]
    simp only [Option.bind_some]
    rw [if_pos (nI_le (Nat.le_refl _) (by omega))]
    exact ⟨_, rfl, q, ht, hs⟩
theorem best_m (hN : aOk N) (b1 : Int32) {t : Int32} (q : QN N hm y) (ht : y 81 0 = t) :
    ∃ z, lp (f_X10_best_L39 b1) 2000 ((-1 : Int32), (-1 : Int32), (0 : Int32), (0 : Int32), y) = some z ∧ QN N hm z.2.2.2 ∧ z.2.2.2 81 0 = t ∧ ∃ i m, z.1 = oA i ∧ z.2.1 = oB i ∧ z.2.2.1 = nI m ∧ BS (lnf N) 256 i m := by
  have hn := hN.n16
  refine lp_for (step := f_X10_best_L39 b1) (nN N) (fun a s => s.2.2.2.1 = nI a ∧ QN N hm s.2.2.2.2 ∧ s.2.2.2.2 81 0 = t ∧ ∃ i m, s.1 = oA i ∧ s.2.1 = oB i ∧ s.2.2.1 = nI m ∧ m ≤ 256 ∧ BS (lnf N) (16 * a) i m) _ ?_ ?_ ⟨rfl, q, ht, none, 0, rfl, rfl, rfl, by omega, fun j hj => absurd hj (by omega), Or.inl ⟨rfl, rfl⟩⟩ (by omega)
  · rintro a ⟨fr, to, mo, k, w⟩ ha ⟨h0, q, ht, hs⟩
    dsimp only at h0 q ht hs
    subst h0
    obtain ⟨z, ez, z1, z2, i, m, z3, z4, z5, z6, z7⟩ := best_in hN b1 ha (fr, to, mo, w) t q ht hs
    dsimp only at ez
    unfold f_X10_best_L39
    dsimp only
    rw [m_nodes q.2.1]
    simp only [Option.bind_some]
    rw [if_neg (nI_ge ha (by omega)), ez]
    simp only [Option.bind_some]
    refine ⟨_, rfl, nI_1 a, z1, z2, i, m, z3, z4, z5, z6, ?_⟩
    obtain ⟨d, hd⟩ : ∃ d, 16 = nN N + d := ⟨16 - nN N, by omega⟩
    have := z7.more d (fun j p r => lnf_0 hN (Or.inr (by omega)))
    rw [show 16 * (a + 1) = 16 * a + nN N + d by omega]
    exact this
  · rintro ⟨fr, to, mo, k, w⟩ ⟨h0, q, ht, i, m, h1, h2, h3, h4, h5⟩
    dsimp only at h0 q ht h1 h2 h3 h4 h5
    subst h0
    unfold f_X10_best_L39
    dsimp only
    rw [m_nodes q.2.1]
    simp only [Option.bind_some]
    rw [if_pos (nI_le (Nat.le_refl _) (by omega))]
    obtain ⟨d, hd⟩ : ∃ d, 256 = 16 * nN N + d := ⟨256 - 16 * nN N, by omega⟩
    have := h5.more d (fun j p r => lnf_0 hN (Or.inl (by omega)))
    exact ⟨_, rfl, q, ht, i, m, h1, h2, h3, by rw [hd]; exact this⟩
end
theorem oI_256 : ∀ i, i < 256 → nI i / 16 = nI (i / 16) ∧ irm (nI i) 16 = nI (i % 16) ∧ ¬ nI i = -1 := by decide +kernel
theorem M28_ok : M28 Rel := by
  rintro xc fa tr pm hm ⟨N, k, Ms, im, h⟩ a1
  obtain ⟨hN, hC, hM, hz, hX, hG, hR⟩ := h.go
  have q0 := h.qn0 0
  have t0 : up2 hm 81 0 0 81 0 = 0 := up2_at
  unfold f_X10_best f_X9_best
  simp only [lt]
  obtain ⟨y, ey⟩ : ∃ y, up2 hm 81 0 0 = y := ⟨_, rfl⟩
  rw [ey] at q0 t0
  rw [ey]
  rw [show (2 : Int32) = nI 2 from rfl, m_in0 (by omega), show nI 2 = (2 : Int32) from rfl]
  rcases in02 a1 with c | ⟨c, c3⟩
  · rw [if_pos c, if_neg i1n0]
    unfold f_X10_best_J20
    simp only [lt, throws0, if_true]
    obtain ⟨z, ez, z1, z2, i, m, z3, z4, z5, z6⟩ := best_m hN a1 q0 t0
    obtain ⟨i', m', x, ex, x1, x2, x3⟩ := best_c h.cq
    obtain ⟨e1, e2⟩ := z6.uniq x2
    subst e1 e2
    rw [ez, ex]
    simp only [Option.bind_some]
    have d1 : ¬ a1 < 0 := by
      obtain ⟨j, hj, rfl⟩ := c
      exact nI_pos (by omega)
    have d2 : a1 ≤ 2 := by
      obtain ⟨j, hj, rfl⟩ := c
      exact nI_le (a := j) (b := 2) hj (by omega)
    rw [if_neg d1, if_pos d2]
    have hrw := ((h.fr x1).qn z1).rel
    have R : ∀ v : Int32, ∃ z', some (v, z.2.2.2) = some z' ∧ Rel x fa tr pm z'.2 ∧ Agr [3] (.inl v) z'.1 (f_X10_thrown z'.2) := fun v => ⟨_, rfl, hrw, agr_L (hm := z.2.2.2) z2 rfl⟩
    rcases x2.2 with ⟨e0, ei⟩ | ⟨e0, n, hn, ei, en, -⟩
    · subst ei e0
      rw [show oI none = (-1 : Int32) from rfl, if_pos rfl, z3, z4, z5]
      obtain ⟨j, hj, rfl⟩ := c
      rcases (show j = 0 ∨ j = 1 ∨ j = 2 by omega) with rfl | rfl | rfl
      · rw [if_neg (by decide), if_pos (by decide)]
        exact ⟨_, rfl, R (-1)⟩
      · rw [if_neg (by decide), if_neg (by decide), if_pos (by decide)]
        exact ⟨_, rfl, R (-1)⟩
      · rw [if_pos (by decide), if_neg (by decide), if_neg (by decide)]
        exact ⟨_, rfl, R 0⟩
    · subst ei
      obtain ⟨o1, o2, o3⟩ := oI_256 n hn
      rw [show oI (some n) = nI n from rfl, if_neg o3, z3, z4, z5, o1, o2, atv_n (L := 256) hn (by omega), x3 n hn, en]
      obtain ⟨j, hj, rfl⟩ := c
      rcases (show j = 0 ∨ j = 1 ∨ j = 2 by omega) with rfl | rfl | rfl
      · rw [if_pos (by decide), if_pos (by decide)]
        exact ⟨_, rfl, R _⟩
      · rw [if_neg (by decide), if_pos (by decide), if_neg (by decide), if_pos (by decide)]
        exact ⟨_, rfl, R _⟩
      · rw [if_neg (by decide), if_neg (by decide), if_neg (by decide), if_neg (by decide)]
        exact ⟨_, rfl, R _⟩
  · rw [if_neg c, if_pos rfl]
    unfold f_X10_best_J20
    simp only [lt, throws1]
    rw [if_neg i1n0]
    have hr := (h.qn q0).t0 1
    have ef : (if a1 < 0 then f_X9_best_J9 fa xc else if a1 ≤ 2 then ((f_X8_bestPair fa xc).bind (fun y1 => if y1.1 = (-1 : Int32) then (if a1 = (2 : Int32) then (some (.inl (0 : Int32), y1.2)) else (some (.inl (-1 : Int32), y1.2))) else (if a1 = (0 : Int32) then (some (.inl (y1.1 / (16 : Int32)), y1.2)) else (if a1 = (1 : Int32) then (some (.inl (irm y1.1 (16 : Int32)), y1.2)) else (some (.inl (atv y1.2 63 256 y1.1), y1.2)))))) else f_X9_best_J9 fa xc) = some (.inr 3, xc) := by
      rcases c3 with c3 | ⟨c3, c4⟩
      · rw [if_pos c3]
        rfl
      · rw [if_neg c3, if_neg c4]
        rfl
    exact ⟨_, ef, _, rfl, hr.rel, agr_R1 (hm := up2 y 81 0 1) up2_at⟩
