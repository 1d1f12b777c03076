/-! THE CLASS'S WALK -/
theorem nI_m1 (m : Nat) : nI (m + 1) + (-1 : Int32) = nI m := by
  rw [nI_succ, Int32.add_assoc, show (1 : Int32) + (-1) = 0 from rfl, Int32.add_zero]
section
variable {E : Nat → Nat → Prop} {S : Nat → Prop} {xc : gXH} {fa : Nat}
/-- what stands stacked: the one that comes off first on top -/
def StI (E : Nat → Nat → Prop) (S : Nat → Prop) (x : gXH) (Q : Nat → Prop) (h : Nat) : Prop := h = fb_ct (fun v => cb (Q v)) 16 ∧ ∀ s, s < 16 → Q s → x.1 61 (fb_ct (fun u => cb (Q u ∧ Lat E S s u)) 16) = nI s
theorem StI.cg {x : gXH} {Q Q' : Nat → Prop} {h : Nat} (hs : StI E S x Q h) (e : ∀ u, Q' u ↔ Q u) : StI E S x Q' h := by
  rw [show Q' = Q from funext fun u => propext (e u)]
  exact hs
theorem Lat.asym {s u : Nat} (h : Lat E S s u) : ¬ Lat E S u s := fun q => by
  unfold Lat at h q
  omega
theorem StI.push {x : gXH} {Q : Nat → Prop} {h n : Nat} (hs : StI E S x Q h) (hn : n < 16) (hq : ¬ Q n) (hl : ∀ u, Q u → Lat E S n u) : h < 16 ∧ StI E S (sI x 61 h (nI n)) (fun u => Q u ∨ u = n) (h + 1) := by
  have e := fb_ct_upd (fun v => cb (Q v)) true (i := n) (n := 16) hn
  rw [cb_f.mpr hq] at e
  have e2 : fb_ct (fun v => if v = n then true else cb (Q v)) 16 = fb_ct (fun v => cb (Q v ∨ v = n)) 16 := fb_ct_cong fun v _ => by
    apply Bool.eq_iff_iff.mpr
    rw [cb_t]
    by_cases c : v = n
    · rw [if_pos c]
      exact ⟨fun _ => Or.inr c, fun _ => rfl⟩
    · rw [if_neg c, cb_t]
      exact ⟨Or.inl, fun z => z.elim id (fun q => absurd q c)⟩
  rw [e2] at e
  have e3 := fb_ct_le (fun v => cb (Q v ∨ v = n)) 16
  have hh := hs.1
  change fb_ct _ 16 + 0 = fb_ct _ 16 + 1 at e
  refine ⟨by omega, (show h + 1 = fb_ct (fun v => cb (Q v ∨ v = n)) 16 from by omega), fun s hs16 hqs => ?_⟩
  by_cases c : s = n
  · subst c
    have e4 : fb_ct (fun u => cb ((Q u ∨ u = s) ∧ Lat E S s u)) 16 = h := by
      rw [hh]
      refine fb_ct_cong fun u _ => cb_congr ?_
      constructor
      · rintro ⟨z | z, w⟩
        · exact z
        · subst z
          unfold Lat at w
          omega
      · exact fun z => ⟨Or.inl z, hl u z⟩
    rw [e4, sI_at]
  · have hqs2 : Q s := hqs.elim id (fun q => absurd q c)
    have e4 : fb_ct (fun u => cb ((Q u ∨ u = n) ∧ Lat E S s u)) 16 = fb_ct (fun u => cb (Q u ∧ Lat E S s u)) 16 := fb_ct_cong fun u _ => cb_congr (by
      constructor
      · rintro ⟨z | z, w⟩
        · exact ⟨z, w⟩
        · subst z
          exact absurd w (hl s hqs2).asym
      · exact fun z => ⟨Or.inl z.1, z.2⟩)
    have e5 := fb_ct_upd (fun u => cb (Q u ∧ Lat E S s u)) true (i := s) (n := 16) hs16
    rw [cb_f.mpr (fun z => z.2.asym z.2)] at e5
    have e6 : fb_ct (fun v => if v = s then true else cb (Q v ∧ Lat E S s v)) 16 ≤ fb_ct (fun v => cb (Q v)) 16 := fb_ct_sub fun v _ hv => by
      apply cb_t.mpr
      by_cases d : v = s
      · rw [d]
        exact hqs2
      · rw [if_neg d] at hv
        exact (cb_t.mp hv).1
    change fb_ct _ 16 + 0 = fb_ct _ 16 + 1 at e5
    rw [e4, sI_at2 (by omega)]
    exact hs.2 s hs16 hqs2
theorem StI.pop {x : gXH} {Q : Nat → Prop} {h t : Nat} (hs : StI E S x Q h) (ht : Top E S Q t) (h16 : t < 16) : ∃ d, h = d + 1 ∧ d < 16 ∧ x.1 61 d = nI t ∧ StI E S x (fun u => Q u ∧ u ≠ t) d := by
  have e := fb_ct_upd (fun v => cb (Q v ∧ v ≠ t)) true (i := t) (n := 16) h16
  rw [cb_f.mpr (fun z => z.2 rfl)] at e
  have e2 : fb_ct (fun v => if v = t then true else cb (Q v ∧ v ≠ t)) 16 = fb_ct (fun v => cb (Q v)) 16 := fb_ct_cong fun v _ => by
    apply Bool.eq_iff_iff.mpr
    rw [cb_t]
    by_cases c : v = t
    · rw [if_pos c, c]
      exact ⟨fun _ => ht.1, fun _ => rfl⟩
    · rw [if_neg c, cb_t]
      exact ⟨fun z => z.1, fun z => ⟨z, c⟩⟩
  rw [e2] at e
  have e3 := fb_ct_le (fun v => cb (Q v)) 16
  have hh := hs.1
  change fb_ct _ 16 + 0 = fb_ct _ 16 + 1 at e
  refine ⟨fb_ct (fun v => cb (Q v ∧ v ≠ t)) 16, by omega, by omega, ?_, rfl, fun s hs16 hq => ?_⟩
  · rw [← hs.2 t h16 ht.1]
    refine congrArg (x.1 61) (fb_ct_cong fun u _ => cb_congr ?_)
    constructor
    · exact fun z => ⟨z.1, ht.2 u z.1 z.2⟩
    · exact fun z => ⟨z.1, fun q => by subst q; exact z.2.asym z.2⟩
  · rw [← hs.2 s hs16 hq.1]
    refine congrArg (x.1 61) (fb_ct_cong fun u _ => cb_congr ?_)
    constructor
    · exact fun z => ⟨z.1.1, z.2⟩
    · exact fun z => ⟨⟨z.1, fun q => by subst q; exact (ht.2 s hq.1 hq.2).asym z.2⟩, z.2⟩
theorem push_all (hE : E16 E) (hS : ∀ s, S s → s < 16) (hG : GF xc fa E S) (hfa : fa = 71 ∨ fa = 76) (b1 b3 : Int32) {n d : Nat} (hn : n < 16) (hs : StI E S xc (PdI E S n) d) :
    ∃ z, lp (f_X8_walked_L54 fa b1 b3 (nI n)) 2000 (nI d, (15 : Int32), xc) = some z ∧ Fr (fun c => c = 61) xc z.2 ∧ ∃ h, z.1 = nI h ∧ StI E S z.2 (QdI E S n) h := by
  refine lp_for (step := f_X8_walked_L54 fa b1 b3 (nI n)) 16 (fun j s => s.2.1 = nI (16 - j) + (-1) ∧ Fr (fun c => c = 61) xc s.2.2 ∧ ∃ h, s.1 = nI h ∧ StI E S s.2.2 (fun u => PdI E S n u ∨ (IsK E S n u ∧ 16 - j ≤ u)) h) _ ?_ ?_ ⟨rfl, Fr.rf, d, rfl, hs.cg fun u => ?_⟩ (by omega)
  · rintro j ⟨h, i, w⟩ hj ⟨h0, hf, d, h1, h2⟩
    dsimp only at h0 hf h1 h2
    subst h0 h1
    obtain ⟨v, hv⟩ : ∃ v, 16 - j = v + 1 := ⟨15 - j, by omega⟩
    have hv2 : 16 - (j + 1) = v := by omega
    rw [hv] at h2
    unfold f_X8_walked_L54
    dsimp only
    rw [hv, nI_m1, if_neg (nI_pos (by omega)), atv_n (L := 16) (show v < 16 by omega) (by omega)]
    have hk := KpI.iff hE hS ((hG.fr hf (fun c a b => by omega)).2.2.2 v (by omega)) (i := n) (by omega)
    by_cases c : IsK E S n v
    · rw [if_pos (hk.mpr c)]
      simp only [lt]
      have hq : ¬ (PdI E S n v ∨ (IsK E S n v ∧ v + 1 ≤ v)) := by
        rintro (z | z)
        · have := z.le hE hS
          have := c.dpk hE hS
          omega
        · omega
      obtain ⟨p1, p2⟩ := h2.push (n := v) (by omega) hq (fun u hu => by
        have e1 := c.dpk hE hS
        unfold Lat
        rcases hu with hu | ⟨hu, hu2⟩
        · have := hu.le hE hS
          omega
        · have := hu.dpk hE hS
          omega)
      rw [putv_n (L := 16) p1 (by omega)]
      refine ⟨_, rfl, by rw [hv2], hf.tr (Fr.s rfl), d + 1, nI_1 d, p2.cg fun u => ?_⟩
      rw [hv2]
      constructor
      · rintro (z | ⟨z1, z2⟩)
        · exact Or.inl (Or.inl z)
        · by_cases e : u = v
          · exact Or.inr e
          · exact Or.inl (Or.inr ⟨z1, by omega⟩)
      · rintro ((z | ⟨z1, z2⟩) | rfl)
        · exact Or.inl z
        · exact Or.inr ⟨z1, by omega⟩
        · exact Or.inr ⟨c, Nat.le_refl _⟩
    · rw [if_neg (fun z => c (hk.mp z))]
      refine ⟨_, rfl, by rw [hv2], hf, d, rfl, h2.cg fun u => ?_⟩
      rw [hv2]
      constructor
      · rintro (z | ⟨z1, z2⟩)
        · exact Or.inl z
        · refine Or.inr ⟨z1, ?_⟩
          rcases Nat.lt_or_ge v u with q | q
          · exact q
          · exact absurd (by rw [show v = u by omega]; exact z1) c
      · rintro (z | ⟨z1, z2⟩)
        · exact Or.inl z
        · exact Or.inr ⟨z1, by omega⟩
  · rintro ⟨h, i, w⟩ ⟨h0, hf, d, h1, h2⟩
    dsimp only at h0 hf h1 h2
    subst h0 h1
    unfold f_X8_walked_L54
    dsimp only
    rw [if_pos (by decide)]
    refine ⟨_, rfl, hf, d, rfl, h2.cg fun u => ?_⟩
    constructor
    · rintro (z | z)
      · exact Or.inr ⟨z, by omega⟩
      · exact Or.inl z
    · rintro (z | z)
      · exact Or.inr z
      · exact Or.inl z.1
  · constructor
    · rintro (z | ⟨z, z2⟩)
      · exact z
      · have := z.1.1.lt hE hS
        omega
    · exact Or.inl
end
theorem walked_c {N : aN} {xc : gXH} {fa tr : Nat} (h : CQ N fa tr xc) (a : Int32) : ∃ z x, f_X8_walked fa xc a = some (z, x) ∧ Fr (WS tr) xc x ∧ RWk (Ed N 100) (fun s => s = nRt N) (nRt N) a z := by
  have hN := h.2.1
  have hfa : fa = 71 ∨ fa = 76 := by have := h.1; omega
  have hE : E16 (Ed N 100) := hN.e16n (k1 := 100) (k2 := 100)
  have hS := hN.s16
  have hr := hN.r16
  obtain ⟨E, eE⟩ : ∃ E, Ed N 100 = E := ⟨_, rfl⟩
  obtain ⟨S, eS⟩ : ∃ S, (fun s => s = nRt N) = S := ⟨_, rfl⟩
  have hSr : S (nRt N) := by rw [← eS]
  have hG := h.2.2.2.2.1
  rw [eE] at hE hG ⊢
  rw [eS] at hS hG ⊢
  unfold f_X8_walked
  rw [h.2.2.1.2.1, show (0 : Int32) = nI 0 from rfl, putv_n (L := 16) (k := 0) (by omega) (by omega), show nI 0 = (0 : Int32) from rfl]
  simp only [lt]
  obtain ⟨x, ex⟩ : ∃ x, sI xc 61 0 (nI (nRt N)) = x := ⟨_, rfl⟩
  have hx : x.1 61 0 = nI (nRt N) := by rw [← ex, sI_at]
  have fx : Fr (fun c => c = 61) xc x := by rw [← ex]; exact Fr.s rfl
  rw [ex]
  have toW : ∀ {y : gXH}, Fr (fun c => c = 61) xc y → Fr (WS tr) xc y := fun f => f.mono fun c z => by unfold WS; omega
  have no : ∀ i, (∀ j, j < i → a ≠ nI j) → (∀ n, ¬ WK E S (nRt N) i n) → RWk E S (nRt N) a (-1) := fun i h1 h2 => Or.inr ⟨fun k n hk e hw => by
    rcases Nat.lt_or_ge k i with q | q
    · exact h1 k q e
    · obtain ⟨d, rfl⟩ : ∃ d, k = i + d := ⟨k - i, by omega⟩
      obtain ⟨m, hm⟩ := hw.pre d
      exact h2 m hm, rfl⟩
  have key : ∃ y, lp (f_X8_walked_L19 fa a) 2000 ((1 : Int32), (0 : Int32), x) = some y ∧ ((∃ v w, y = .inl (v, w) ∧ Fr (WS tr) xc w ∧ RWk E S (nRt N) a v) ∨ ∃ w, y = .inr w ∧ Fr (WS tr) xc w ∧ RWk E S (nRt N) a (-1)) := by
    refine lp_forx (step := f_X8_walked_L19 fa a) 16 (fun i s => s.2.1 = nI i ∧ Fr (fun c => c = 61) xc s.2.2 ∧ (∀ j, j < i → a ≠ nI j) ∧ ∃ Q d, s.1 = nI d ∧ StI E S s.2.2 Q d ∧ (∀ v, Q v → v < 16) ∧ (∀ t, WK E S (nRt N) i t ↔ Top E S Q t) ∧ ∀ t, Top E S Q t → ∀ s, PdI E S t s ↔ Q s ∧ s ≠ t) _ ?_ ?_ ⟨rfl, fx, fun j hj => absurd hj (by omega), fun v => v = nRt N, 1, rfl, ⟨?_, fun s hs q => ?_⟩, fun v q => by rw [q]; exact hr, fun t => ⟨fun z => ⟨z, fun s p q => absurd (p.trans (Eq.symm z)) q⟩, fun z => z.1⟩, fun t ht s => ⟨fun z => ?_, fun z => absurd (z.1.trans ht.1.symm) z.2⟩⟩ (by omega)
    · rintro i ⟨hh, k, w⟩ hi ⟨h0, hf, hlt, Q, d, h1, h2, h3, h4, h5⟩
      dsimp only at h0 hf h1 h2
      subst h0 h1
      unfold f_X8_walked_L19
      dsimp only
      rw [if_neg (ge16 hi)]
      by_cases c : ∃ v, Q v
      · obtain ⟨v, hv⟩ := c
        obtain ⟨t, ht⟩ := top_ex (E := E) (S := S) h3 hv
        have ht16 := h3 t ht.1
        obtain ⟨d', rfl, p1, p2, p3⟩ := h2.pop ht ht16
        rw [if_neg (nI_nle (by omega) (by omega)), nI_m1]
        simp only [lt]
        rw [atv_n (L := 16) p1 (by omega), p2]
        by_cases e : nI i = a
        · right
          rw [if_pos e]
          exact ⟨_, rfl, Or.inl ⟨_, _, rfl, toW hf, Or.inl ⟨i, t, hi, e.symm, (h4 t).mpr ht, rfl⟩⟩⟩
        · left
          rw [if_neg e]
          obtain ⟨z, ez, z1, d2, z2, z3⟩ := push_all hE hS (hG.fr hf (fun c a b => by omega)) hfa a (nI i) ht16 (p3.cg (h5 t ht))
          rw [ez]
          simp only [Option.bind_some]
          refine ⟨_, rfl, nI_1 i, hf.tr z1, fun j hj => ?_, QdI E S t, d2, z2, z3, fun v hv => ?_, fun t' => ?_, fun t' ht' => top_pd hE hS ht'⟩
          · rcases Nat.lt_or_ge j i with q | q
            · exact hlt j q
            · rw [show j = i by omega]
              exact fun z => e z.symm
          · rcases hv with hv | hv
            · exact hv.1.1.lt hE hS
            · exact hv.lt hE hS
          · constructor
            · rintro ⟨m, m1, m2⟩
              rw [((h4 m).mp m1).uniq ht] at m2
              exact m2
            · exact fun z => ⟨t, (h4 t).mpr ht, z⟩
      · right
        have e : d = 0 := by
          rw [h2.1]
          exact fb_ct_zero.mpr fun v _ => cb_f.mpr fun z => c ⟨v, z⟩
        subst e
        rw [if_pos (show nI 0 ≤ (0 : Int32) from Int32.le_refl _)]
        exact ⟨_, rfl, Or.inr ⟨_, rfl, toW hf, no i hlt fun n z => c ⟨n, ((h4 n).mp z).1⟩⟩⟩
    · rintro ⟨hh, k, w⟩ ⟨h0, hf, hlt, -⟩
      dsimp only at h0 hf
      subst h0
      unfold f_X8_walked_L19
      dsimp only
      rw [if_pos le16]
      exact ⟨_, rfl, Or.inr ⟨_, rfl, toW hf, no 16 hlt fun n z => by have := z.le hE hS hr; omega⟩⟩
    · have e := fb_ct_upd (fun _ => false) true (i := nRt N) (n := 16) hr
      rw [(fb_ct_zero (p := fun _ => false)).mpr (fun _ _ => rfl)] at e
      rw [show (fun v => cb (v = nRt N)) = fun k => if k = nRt N then true else false from funext fun v => by
        by_cases q : v = nRt N
        · rw [if_pos q, cb_t.mpr q]
        · rw [if_neg q, cb_f.mpr q]]
      exact e.symm
    · dsimp only
      rw [show fb_ct (fun u => cb (u = nRt N ∧ Lat E S s u)) 16 = 0 from fb_ct_zero.mpr fun u _ => cb_f.mpr fun z => by
        obtain ⟨z1, z2⟩ := z
        rw [z1, q] at z2
        exact z2.asym z2, hx, q]
    · have e : t = nRt N := ht.1
      obtain ⟨m, k, z1, z2, z3, z4⟩ := z
      exfalso
      have hm : m = nRt N := by
        rcases z1 with z1 | z1
        · rw [e] at z1
          exact absurd z1 (fun q => q.2.2 (Rc.base hSr (fun p => q.2.1 p.symm)))
        · rw [z1, e]
      subst hm
      exact z2.1.2.2 (Rc.base hSr (fun p => z2.1.2.1 p.symm))
  obtain ⟨y, ey, hy⟩ := key
  rw [ey]
  rcases hy with ⟨v, w, rfl, h1, h2⟩ | ⟨w, rfl, h1, h2⟩
  · exact ⟨_, _, rfl, h1, h2⟩
  · exact ⟨_, _, rfl, h1, h2⟩
