/-! THE CLASS'S LIFTS -/
section
variable {N : aN} {hm y : gIH} {xc : gXH} {fa tr : Nat}
theorem lift1 {x : gXH} {t l : Nat} {F c : Nat → Nat} {past b1 b2 : Int32} (ht : t < 16) (hl : l ≤ 16) (hF : ∀ i, i < 256 → x.1 63 i = nI (F i)) (hc : ∀ a, a < 16 → c a = if bt past a = true then l else 0) :
    ∃ y, lp (f_X8_addLifts_L113 fa b1 b2 past (nI t) (nI l)) 2000 (0, x) = some y ∧ Fr (fun q => q = 63) x y ∧ ∀ i, i < 256 → y.1 63 i = nI (F i + if i % 16 = t then c (i / 16) else 0) := by
  refine lp_forx (step := f_X8_addLifts_L113 fa b1 b2 past (nI t) (nI l)) 16 (fun j s => s.1 = nI j ∧ Fr (fun q => q = 63) x s.2 ∧ ∀ i, i < 256 → s.2.1 63 i = nI (F i + if i % 16 = t ∧ i / 16 < j then c (i / 16) else 0)) _ ?_ ?_ ⟨rfl, Fr.rf, fun i hi => ?_⟩ (by omega)
  · rintro j ⟨k, w⟩ hj ⟨h0, hf, hr⟩
    dsimp only at h0 hf hr
    subst h0
    unfold f_X8_addLifts_L113
    dsimp only
    rw [if_neg (ge16 hj)]
    by_cases z : l = 0
    · right
      subst z
      rw [if_pos nI_0]
      refine ⟨w, rfl, hf, fun i hi => ?_⟩
      have e : c (i / 16) = 0 := by rw [hc _ (by omega)]; split <;> rfl
      rw [hr i hi, e]
      congr 2
      split <;> split <;> rfl
    · left
      rw [if_neg (fun q => z ((nI_eq (a := l) (b := 0) (by omega) (by omega)).mp (q.trans nI_0.symm)))]
      by_cases b : bt past j = true
      · rw [if_neg (fun q => by rw [has0 _ (by omega)] at q; rw [q] at b; cases b)]
        simp only [lt]
        rw [show (16 : Int32) = nI 16 from rfl, nI_mul, nI_add, putv_n (L := 256) (show j * 16 + t < 256 by omega) (by omega), atv_n (L := 256) (show j * 16 + t < 256 by omega) (by omega), hr _ (by omega)]
        refine ⟨_, rfl, nI_1 j, hf.tr (Fr.s rfl), fun i hi => ?_⟩
        dsimp only
        by_cases e : i = j * 16 + t
        · subst e
          rw [sI_at, nI_add]
          have e1 : (j * 16 + t) % 16 = t := by omega
          have e2 : (j * 16 + t) / 16 = j := by omega
          rw [e1, e2, if_neg (by omega), if_pos ⟨rfl, by omega⟩, hc j hj, if_pos b]
          rfl
        · rw [sI_at2 e, hr i hi]
          by_cases e1 : i % 16 = t ∧ i / 16 < j
          · rw [if_pos e1, if_pos ⟨e1.1, by omega⟩]
          · rw [if_neg e1, if_neg (by omega)]
      · rw [if_pos ((has0 _ (by omega)).mpr (by simpa using b))]
        refine ⟨_, rfl, nI_1 j, hf, fun i hi => ?_⟩
        dsimp only
        rw [hr i hi]
        by_cases e : i = j * 16 + t
        · subst e
          have e1 : (j * 16 + t) % 16 = t := by omega
          have e2 : (j * 16 + t) / 16 = j := by omega
          rw [e1, e2, if_neg (by omega), if_pos ⟨rfl, by omega⟩, hc j hj, if_neg b]
        · by_cases e1 : i % 16 = t ∧ i / 16 < j
          · rw [if_pos e1, if_pos ⟨e1.1, by omega⟩]
          · rw [if_neg e1, if_neg (by omega)]
  · rintro ⟨k, w⟩ ⟨h0, hf, hr⟩
    dsimp only at h0 hf hr
    subst h0
    unfold f_X8_addLifts_L113
    dsimp only
    rw [if_pos le16]
    refine ⟨w, rfl, hf, fun i hi => ?_⟩
    rw [hr i hi]
    by_cases e1 : i % 16 = t
    · rw [if_pos ⟨e1, by omega⟩, if_pos e1]
    · rw [if_neg (fun q => e1 q.1), if_neg e1]
  · dsimp only
    rw [hF i hi, if_neg (by omega)]
    rfl
theorem cg_n (hN : aOk N) {g a b : Nat} (h : nN N ≤ a ∨ nN N ≤ b) : cg (Ed N 100) (fun s => s = nRt N) g a b = 0 := by
  refine fb_ct_zero.mpr fun v _ => cb_f.mpr fun z => ?_
  rcases h with h | h
  · have := hN.rn z.2.1.all
    omega
  · have e : v = b := z.2.2.ind (P := fun v => v = b) (fun s p _ => p) (fun u w _ p e _ => by
      rcases e with ⟨a, a1, -, -, -, a2, -⟩ | e
      · have := hN.2.2.2.2.2.1 a a1
        omega
      · cases e)
    have := hN.rn z.1.1
    omega
theorem lift2 (h : CQ N fa tr xc) {g : Nat} (hg : g < 16) {F : Nat → Nat} (hF : ∀ i, i < 256 → xc.1 63 i = nI (F i)) :
    ∃ y, f_X8_addLifts fa xc (nI g) = some y ∧ Fr (fun q => q = 63) xc y ∧ ∀ i, i < 256 → y.1 63 i = nI (F i + cg (Ed N 100) (fun s => s = nRt N) g (i / 16) (i % 16)) := by
  have hN := h.2.1
  have hn16 := hN.n16
  have hE : E16 (Ed N 100) := hN.e16n (k1 := 100) (k2 := 100)
  have hG := h.2.2.2.2.1
  unfold f_X8_addLifts
  rw [atv_n (L := 16) hg (by omega)]
  simp only [lt]
  obtain ⟨kept, ek⟩ : ∃ kept, xc.1 (fa + 3) g = kept := ⟨_, rfl⟩
  have hk := hG.2.2.1 g hg
  rw [ek] at hk ⊢
  obtain ⟨past, ep⟩ : ∃ past, ((xc.1 fa 4) &&& (kept ^^^ (-1 : Int32))) &&& ((f_X9_only (nI g)) ^^^ (-1 : Int32)) = past := ⟨_, rfl⟩
  rw [ep]
  have hp : ∀ u, u < 16 → (bt past u = true ↔ Rc (Ed N 100) (fun s => s = nRt N) (fun s => s = g) u) := fun u hu => by
    rw [← past_iff, ← ep, but_bt hu (but_bt hu (hG.1.2 u hu) (hk.2 u hu)) (show bt (f_X9_only (nI g)) u = true ↔ u = g from bt_one16 hg u)]
    exact ⟨fun z => ⟨z.1.1, z.1.2, z.2⟩, fun z => ⟨⟨z.1, z.2.1⟩, z.2.2⟩⟩
  have key : ∃ y, lp (f_X8_addLifts_L34 fa (nI g) kept past) 2000 (0, xc) = some y ∧ Fr (fun q => q = 63) xc y ∧ ∀ i, i < 256 → y.1 63 i = nI (F i + cg (Ed N 100) (fun s => s = nRt N) g (i / 16) (i % 16)) := by
    refine lp_for (step := f_X8_addLifts_L34 fa (nI g) kept past) (nN N) (fun t s => s.1 = nI t ∧ Fr (fun q => q = 63) xc s.2 ∧ ∀ i, i < 256 → s.2.1 63 i = nI (F i + if i % 16 < t then cg (Ed N 100) (fun s => s = nRt N) g (i / 16) (i % 16) else 0)) _ ?_ ?_ ⟨rfl, Fr.rf, fun i hi => ?_⟩ (by omega)
    · rintro t ⟨k, w⟩ ht ⟨h0, hf, hr⟩
      dsimp only at h0 hf hr
      subst h0
      have hw := h.fr (hf.mono (fun c z => by unfold WS; omega))
      have step : ∀ l, l ≤ 16 → (∀ a, a < 16 → cg (Ed N 100) (fun s => s = nRt N) g a t = if bt past a = true then l else 0) → ∃ s', f_X8_addLifts_J108 fa w (nI g) kept past (nI t) (nI l) = some (.inl s') ∧ s'.1 = nI (t + 1) ∧ Fr (fun q => q = 63) xc s'.2 ∧ ∀ i, i < 256 → s'.2.1 63 i = nI (F i + if i % 16 < t + 1 then cg (Ed N 100) (fun s => s = nRt N) g (i / 16) (i % 16) else 0) := fun l hl hc => by
        obtain ⟨y, ey, y1, y2⟩ := lift1 (fa := fa) (b1 := nI g) (b2 := kept) (x := w) (t := t) (l := l) (by omega) hl hr hc
        unfold f_X8_addLifts_J108
        rw [ey]
        refine ⟨_, rfl, nI_1 t, hf.tr y1, fun i hi => ?_⟩
        dsimp only
        rw [y2 i hi]
        by_cases e : i % 16 = t
        · rw [if_neg (by omega), if_pos e, if_pos (by omega), e]
          rfl
        · rw [if_neg e, Nat.add_zero]
          by_cases e2 : i % 16 < t
          · rw [if_pos e2, if_pos (by omega)]
          · rw [if_neg e2, if_neg (by omega)]
      have none : (t = g ∨ Rc (Ed N 100) (fun s => s = nRt N) (fun s => s = g) t) → ∃ s', f_X8_addLifts_J72 fa w (nI g) kept past (nI t) = some (.inl s') ∧ s'.1 = nI (t + 1) ∧ Fr (fun q => q = 63) xc s'.2 ∧ ∀ i, i < 256 → s'.2.1 63 i = nI (F i + if i % 16 < t + 1 then cg (Ed N 100) (fun s => s = nRt N) g (i / 16) (i % 16) else 0) := fun z => by
        unfold f_X8_addLifts_J72 f_X8_addLifts_J73
        rw [if_pos rfl]
        exact step 0 (by omega) (fun a _ => by rw [cg_0 z]; split <;> rfl)
      unfold f_X8_addLifts_L34
      dsimp only
      rw [hw.2.2.1.1, if_neg (nI_ge ht (by omega)), if_neg (ge16 (by omega))]
      by_cases c1 : t = g
      · subst c1
        rw [if_pos rfl]
        exact none (Or.inl rfl)
      · rw [if_neg (fun q => c1 ((nI_eq (by omega) (by omega)).mp q))]
        by_cases c2 : bt past t = true
        · rw [if_neg (fun q => by rw [has0 _ (by omega)] at q; rw [q] at c2; cases c2)]
          exact none (Or.inr ((hp t (by omega)).mp c2))
        · rw [if_pos ((has0 _ (by omega)).mpr (by simpa using c2))]
          unfold f_X8_addLifts_J73
          rw [if_neg i1n0]
          obtain ⟨z, ez, z1, z2⟩ := spread_ok hE hw.2.2.2.1 (f_X9_only (nI t)) (f_X9_only (nI g)) (s16_one (by omega))
          rw [only_set (by omega), only_set hg] at z2
          rw [ez]
          simp only [Option.bind_some]
          rw [bc_ct z1.and]
          refine step _ (fb_ct_le _ 16) (fun a ha => ?_)
          rw [cg_eq]
          have e1 : fb_ct (fun v => cb (Dm (Ed N 100) (fun s => s = nRt N) g v ∧ Rc (Ed N 100) (fun s => s = t) (fun s => s = g) v)) 16 = fb_ct (bt (z &&& kept)) 16 := fb_ct_cong fun v hv => by
            apply Bool.eq_iff_iff.mpr
            rw [cb_t, both_bt (z2 v hv) (hk.2 v hv)]
            exact ⟨fun q => ⟨q.2, q.1⟩, fun q => ⟨q.2, q.1⟩⟩
          rw [e1]
          by_cases c3 : bt past a = true
          · rw [if_pos c3, if_pos (cb_t.mpr ((hp a ha).mp c3))]
          · rw [if_neg c3, if_neg (fun q => c3 ((hp a ha).mpr (cb_t.mp q)))]
    · rintro ⟨k, w⟩ ⟨h0, hf, hr⟩
      dsimp only at h0 hf hr
      subst h0
      have hw := h.fr (hf.mono (fun c z => by unfold WS; omega))
      unfold f_X8_addLifts_L34
      dsimp only
      rw [hw.2.2.1.1, if_pos (nI_le (Nat.le_refl _) (by omega))]
      refine ⟨w, rfl, hf, fun i hi => ?_⟩
      rw [hr i hi]
      by_cases e : i % 16 < nN N
      · rw [if_pos e]
      · rw [if_neg e, cg_n hN (Or.inr (by omega))]
    · dsimp only
      rw [hF i hi, if_neg (by omega)]
      rfl
  obtain ⟨z, ez, z1, z2⟩ := key
  rw [ez]
  exact ⟨z, rfl, z1, z2⟩
/-! the first of the greatest -/
def BS (f : Nat → Nat) (k : Nat) (i : Option Nat) (m : Nat) : Prop := (∀ j, j < k → f j ≤ m) ∧ ((m = 0 ∧ i = none) ∨ (0 < m ∧ ∃ n, n < k ∧ i = some n ∧ f n = m ∧ ∀ j, j < n → f j < m))
theorem BS.no {f : Nat → Nat} {k : Nat} {i : Option Nat} {m : Nat} (h : BS f k i m) (hk : f k ≤ m) : BS f (k + 1) i m := by
  refine ⟨fun j hj => ?_, ?_⟩
  · rcases Nat.lt_or_ge j k with q | q
    · exact h.1 j q
    · rw [show j = k by omega]
      exact hk
  · rcases h.2 with h | ⟨h1, n, h2, h3⟩
    · exact Or.inl h
    · exact Or.inr ⟨h1, n, by omega, h3⟩
theorem BS.yes {f : Nat → Nat} {k : Nat} {i : Option Nat} {m : Nat} (h : BS f k i m) (hk : m < f k) : BS f (k + 1) (some k) (f k) := by
  refine ⟨fun j hj => ?_, Or.inr ⟨by omega, k, by omega, rfl, rfl, fun j hj => by have := h.1 j hj; omega⟩⟩
  rcases Nat.lt_or_ge j k with q | q
  · have := h.1 j q
    omega
  · rw [show j = k by omega]
    omega
theorem BS.more {f : Nat → Nat} {k : Nat} {i : Option Nat} {m : Nat} (h : BS f k i m) : ∀ d, (∀ j, k ≤ j → j < k + d → f j = 0) → BS f (k + d) i m
  | 0, _ => h
  | d + 1, hz => (h.more d (fun j a b => hz j a (by omega))).no (by rw [hz (k + d) (by omega) (by omega)]; omega)
theorem BS.uniq {f : Nat → Nat} {k : Nat} {i i' : Option Nat} {m m' : Nat} (h : BS f k i m) (h' : BS f k i' m') : i = i' ∧ m = m' := by
  have em : m = m' := by
    rcases h.2 with ⟨a, -⟩ | ⟨a, n, b, -, c, -⟩
    · rcases h'.2 with ⟨a', -⟩ | ⟨a', n', b', -, c', -⟩
      · omega
      · have := h.1 n' b'
        omega
    · have := h'.1 n b
      rcases h'.2 with ⟨a', -⟩ | ⟨a', n', b', -, c', -⟩
      · omega
      · have := h.1 n' b'
        omega
  subst em
  refine ⟨?_, rfl⟩
  rcases h.2 with ⟨a, e⟩ | ⟨a, n, b, e, c, d⟩
  · rcases h'.2 with ⟨a', e'⟩ | ⟨a', n', b', e', c', d'⟩
    · rw [e, e']
    · omega
  · rcases h'.2 with ⟨a', e'⟩ | ⟨a', n', b', e', c', d'⟩
    · omega
    · rw [e, e']
      rcases Nat.lt_trichotomy n n' with q | q | q
      · have := d' n q
        omega
      · rw [q]
      · have := d n' q
        omega
def oI : Option Nat → Int32
  | none => -1
  | some n => nI n
noncomputable def lnf (N : aN) (i : Nat) : Nat := LN (Ed N 100) (fun s => s = nRt N) (i / 16) (i % 16)
theorem best_c (h : CQ N fa tr xc) : ∃ i m y, f_X8_bestPair fa xc = some (oI i, y) ∧ Fr (WS tr) xc y ∧ BS (lnf N) 256 i m ∧ ∀ j, j < 256 → y.1 63 j = nI (lnf N j) := by
  have hN := h.2.1
  obtain ⟨x, ex, x1, x2⟩ := fill_ok 63 256 (by omega) xc 0
  have f1 : Fr (WS tr) xc x := x2.mono fun c hc => by unfold WS; omega
  have key : ∃ y, lp (f_X8_bestPair_L10 fa) 2000 (0, x) = some y ∧ Fr (WS tr) xc y ∧ ∀ i, i < 256 → y.1 63 i = nI (lnf N i) := by
    refine lp_for (step := f_X8_bestPair_L10 fa) 16 (fun g s => s.1 = nI g ∧ Fr (WS tr) xc s.2 ∧ ∀ i, i < 256 → s.2.1 63 i = nI (fb_sm (fun g => cg (Ed N 100) (fun s => s = nRt N) g (i / 16) (i % 16)) g)) _ ?_ ?_ ⟨rfl, f1, fun i hi => x1 i hi⟩ (by omega)
    · rintro g ⟨k, w⟩ hg ⟨h0, hf, hr⟩
      dsimp only at h0 hf hr
      subst h0
      have hw := h.fr hf
      unfold f_X8_bestPair_L10
      dsimp only
      rw [if_neg (ge16 hg)]
      by_cases c : Rc (Ed N 100) (fun s => s = nRt N) nox g
      · rw [if_neg (fun q => (hw.2.2.2.2.1.r0 hg).mp q c)]
        obtain ⟨y, ey, y1, y2⟩ := lift2 hw hg hr
        rw [ey]
        exact ⟨_, rfl, nI_1 g, hf.tr (y1.mono fun c hc => by unfold WS; omega), y2⟩
      · rw [if_pos ((hw.2.2.2.2.1.r0 hg).mpr c)]
        refine ⟨_, rfl, nI_1 g, hf, fun i hi => ?_⟩
        dsimp only
        have e : cg (Ed N 100) (fun s => s = nRt N) g (i / 16) (i % 16) = 0 := fb_ct_zero.mpr fun v _ => cb_f.mpr fun z => c z.1.rg
        rw [fb_sm_succ, e]
        exact hr i hi
    · rintro ⟨k, w⟩ ⟨h0, hf, hr⟩
      dsimp only at h0 hf hr
      subst h0
      unfold f_X8_bestPair_L10
      dsimp only
      rw [if_pos le16]
      exact ⟨w, rfl, hf, hr⟩
  obtain ⟨y, ey, y1, y2⟩ := key
  have key2 : ∃ r, lp (f_X8_bestPair_L41 fa y) 2000 ((-1 : Int32), (0 : Int32), (0 : Int32)) = some r ∧ ∃ i m, r = oI i ∧ BS (lnf N) 256 i m := by
    refine lp_for (step := f_X8_bestPair_L41 fa y) 256 (fun j s => s.2.2 = nI j ∧ ∃ i m, s.1 = oI i ∧ s.2.1 = nI m ∧ m ≤ 256 ∧ BS (lnf N) j i m) _ ?_ ?_ ⟨rfl, none, 0, rfl, rfl, by omega, fun j hj => absurd hj (by omega), Or.inl ⟨rfl, rfl⟩⟩ (by omega)
    · rintro j ⟨a, b, k⟩ hj ⟨h0, i, m, h1, h2, h3, h4⟩
      dsimp only at h0 h1 h2 h3 h4
      subst h0 h1 h2
      have hb : lnf N j ≤ 256 := LN_256 _ _
      unfold f_X8_bestPair_L41
      dsimp only
      rw [if_neg (show ¬ (256 : Int32) ≤ nI j from nI_ge (a := j) (b := 256) hj (by omega)), atv_n (L := 256) hj (by omega), y2 j hj]
      by_cases c : lnf N j ≤ m
      · rw [if_pos (nI_le c (by omega))]
        exact ⟨_, rfl, nI_1 j, i, m, rfl, rfl, h3, h4.no c⟩
      · rw [if_neg (nI_ge (by omega) (by omega))]
        exact ⟨_, rfl, nI_1 j, some j, lnf N j, rfl, rfl, hb, h4.yes (by omega)⟩
    · rintro ⟨a, b, k⟩ ⟨h0, i, m, h1, h2, h3, h4⟩
      dsimp only at h0 h1 h2 h3 h4
      subst h0 h1 h2
      unfold f_X8_bestPair_L41
      dsimp only
      rw [if_pos (show (256 : Int32) ≤ nI 256 from Int32.le_refl _)]
      exact ⟨_, rfl, i, m, rfl, h4⟩
  obtain ⟨r, er, i, m, rfl, hb⟩ := key2
  refine ⟨i, m, y, ?_, y1, hb, y2⟩
  unfold f_X8_bestPair
  rw [ex]
  simp only [Option.bind_some]
  rw [ey]
  simp only [Option.bind_some]
  rw [er]
  rfl
end
