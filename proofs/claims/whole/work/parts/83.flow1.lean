/-! FLOWS: cuts -/
/-- the room that leads out of X -/
def cs (R : Nat → Nat → Nat) (X : Nat → Bool) : Nat := fb_sm (fun b => fb_sm (fun a => if (X a && !X b) = true then R a b else 0) 32) 32
def uR (R : Nat → Nat → Nat) (a b v : Nat) : Nat → Nat → Nat := fun i j => if i = a ∧ j = b then v else R i j
theorem cs_upd (R : Nat → Nat → Nat) (X : Nat → Bool) {a b : Nat} (v : Nat) (ha : a < 32) (hb : b < 32) : cs (uR R a b v) X + (if (X a && !X b) = true then R a b else 0) = cs R X + (if (X a && !X b) = true then v else 0) := by
  have e1 := fb_sm_upd (fun i => if (X i && !X b) = true then R i b else 0) (if (X a && !X b) = true then v else 0) ha
  have e2 := fb_sm_upd (fun j => fb_sm (fun i => if (X i && !X j) = true then R i j else 0) 32) (fb_sm (fun i => if i = a then (if (X a && !X b) = true then v else 0) else (if (X i && !X b) = true then R i b else 0)) 32) hb
  have e3 : cs (uR R a b v) X = fb_sm (fun k => if k = b then (fb_sm (fun i => if i = a then (if (X a && !X b) = true then v else 0) else (if (X i && !X b) = true then R i b else 0)) 32) else fb_sm (fun i => if (X i && !X k) = true then R i k else 0) 32) 32 := by
    unfold cs
    refine fb_sm_cong fun j _ => ?_
    by_cases c : j = b
    · subst c
      rw [if_pos rfl]
      refine fb_sm_cong fun i _ => ?_
      by_cases d : i = a
      · subst d
        rw [if_pos rfl, show uR R i j v i j = v from if_pos ⟨rfl, rfl⟩]
      · rw [if_neg d, show uR R a j v i j = R i j from if_neg (fun z => d z.1)]
    · rw [if_neg c]
      refine fb_sm_cong fun i _ => ?_
      rw [show uR R a b v i j = R i j from if_neg (fun z => c z.2)]
  rw [e3]
  have e4 : cs R X = fb_sm (fun j => fb_sm (fun i => if (X i && !X j) = true then R i j else 0) 32) 32 := rfl
  rw [e4]
  omega
/-- one step of a way more from p to s -/
theorem cs_step (R : Nat → Nat → Nat) (X : Nat → Bool) {p s : Nat} (hp : p < 32) (hs : s < 32) (hne : p ≠ s) (h : 0 < R p s) : cs (uR (uR R p s (R p s - 1)) s p (R s p + 1)) X + (if X p = true then 1 else 0) = cs R X + (if X s = true then 1 else 0) := by
  have e1 := cs_upd R X (R p s - 1) hp hs
  have e2 := cs_upd (uR R p s (R p s - 1)) X (R s p + 1) hs hp
  have e3 : uR R p s (R p s - 1) s p = R s p := by
    unfold uR
    rw [if_neg (fun z => hne z.1.symm)]
  rw [e3] at e2
  cases hx : X p <;> cases hy : X s <;> rw [hx, hy] at e1 e2 <;> simp at e1 e2 ⊢ <;> omega
def MinC (s t : Nat) (R : Nat → Nat → Nat) (f : Nat) : Prop := (∀ X : Nat → Bool, X s = true → X t = false → f ≤ cs R X) ∧ ∃ X : Nat → Bool, X s = true ∧ X t = false ∧ cs R X = f
/-! the class's rooms -/
def FlI (x : gXH) (R : Nat → Nat → Nat) : Prop := (∀ a b, a < 32 → b < 32 → x.1 67 (a * 32 + b) = nI (R a b) ∧ (bt (x.1 68 a) b = true ↔ 0 < R a b)) ∧ ∀ a b, R a b + R b a ≤ 200
theorem FlI.fr {W : Nat → Prop} {x y : gXH} {R : Nat → Nat → Nat} (h : FlI x R) (f : Fr W x y) (h1 : ¬ W 67) (h2 : ¬ W 68) : FlI y R := by
  unfold FlI
  rw [f.1 67 h1, f.1 68 h2]
  exact h
theorem widen_c {x : gXH} {R : Nat → Nat → Nat} (h : ∀ a b, a < 32 → b < 32 → x.1 67 (a * 32 + b) = nI (R a b) ∧ (bt (x.1 68 a) b = true ↔ 0 < R a b)) {a b v : Nat} {w : Int32} (ha : a < 32) (hb : b < 32) (hv : nI (R a b) + w = nI v) (hv2 : v ≤ 200) :
    ∃ y, f_X2_widen x (nI a) (nI b) w = y ∧ Fr (fun c => c = 67 ∨ c = 68) x y ∧ ∀ i j, i < 32 → j < 32 → y.1 67 (i * 32 + j) = nI (uR R a b v i j) ∧ (bt (y.1 68 i) j = true ↔ 0 < uR R a b v i j) := by
  unfold f_X2_widen
  simp only [lt]
  rw [show (32 : Int32) = nI 32 from rfl, nI_mul, nI_add, putv_n (L := 1024) (show a * 32 + b < 1024 by omega) (by omega), atv_n (xc := x) (L := 1024) (show a * 32 + b < 1024 by omega) (by omega), (h a b ha hb).1, hv]
  obtain ⟨x2, e2⟩ : ∃ x2, sI x 67 (a * 32 + b) (nI v) = x2 := ⟨_, rfl⟩
  have f2 : Fr (fun c => c = 67 ∨ c = 68) x x2 := by rw [← e2]; exact Fr.s (Or.inl rfl)
  have r68 : x2.1 68 = x.1 68 := by rw [← e2]; exact sI_row (by decide)
  have r67 : ∀ i j, i < 32 → j < 32 → x2.1 67 (i * 32 + j) = nI (uR R a b v i j) := fun i j hi hj => by
    rw [← e2]
    by_cases c : i = a ∧ j = b
    · obtain ⟨rfl, rfl⟩ := c
      rw [sI_at]
      unfold uR
      rw [if_pos ⟨rfl, rfl⟩]
    · rw [sI_at2 (by omega), (h i j hi hj).1]
      unfold uR
      rw [if_neg c]
  rw [e2, atv_n (L := 32) ha (by omega), atv_n (L := 1024) (show a * 32 + b < 1024 by omega) (by omega), r67 a b ha hb, r68]
  have eu : uR R a b v a b = v := by
    unfold uR
    rw [if_pos ⟨rfl, rfl⟩]
  rw [eu]
  have fin : ∀ m : Int32, (∀ j, j < 32 → (bt m j = true ↔ (j = b ∧ 0 < v) ∨ (j ≠ b ∧ 0 < R a j))) → ∃ y, f_X2_widen_J74 x2 (nI a) m = y ∧ Fr (fun c => c = 67 ∨ c = 68) x y ∧ ∀ i j, i < 32 → j < 32 → y.1 67 (i * 32 + j) = nI (uR R a b v i j) ∧ (bt (y.1 68 i) j = true ↔ 0 < uR R a b v i j) := fun m hm => by
    unfold f_X2_widen_J74
    rw [putv_n (L := 32) ha (by omega)]
    refine ⟨_, rfl, f2.tr (Fr.s (Or.inr rfl)), fun i j hi hj => ⟨?_, ?_⟩⟩
    · show (sI x2 68 a m).1 67 (i * 32 + j) = _
      rw [sI_row (by decide)]
      exact r67 i j hi hj
    · show bt ((sI x2 68 a m).1 68 i) j = true ↔ _
      unfold uR
      by_cases c : i = a
      · subst c
        rw [sI_at, hm j hj]
        by_cases d : j = b
        · subst d
          rw [if_pos ⟨rfl, rfl⟩]
          exact ⟨fun z => z.elim (fun q => q.2) (fun q => absurd rfl q.1), fun z => Or.inl ⟨rfl, z⟩⟩
        · rw [if_neg (fun z => d z.2)]
          exact ⟨fun z => z.elim (fun q => absurd q.1 d) (fun q => q.2), fun z => Or.inr ⟨d, z⟩⟩
      · rw [sI_at2 c, if_neg (fun z => c z.1), r68]
        exact (h i j hi hj).2
  have h68 := fun j hj => (h a j ha hj).2
  by_cases c : 0 < v
  · rw [if_neg (nI_nle c (by omega))]
    refine fin _ fun j hj => ?_
    rw [b_or, b_and, bt_not _ hj, bt_only hb hj, Bool.or_eq_true, Bool.and_eq_true, h68 j hj]
    by_cases d : j = b
    · simp [d, c]
    · simp [d]
  · rw [if_pos (show nI v ≤ (0 : Int32) from by rw [show v = 0 by omega]; exact Int32.le_refl _)]
    refine fin _ fun j hj => ?_
    rw [b_and, bt_not _ hj, bt_only hb hj, Bool.and_eq_true, h68 j hj]
    by_cases d : j = b
    · simp [d, c]
    · simp [d]
/-! a way with room -/
theorem par_c {x : gXH} (b2 b3 b4 b5 f u : Int32) : ∃ y, lp (f_X2_isFound_L48 b2 b3 b4 b5 u f) 2000 ((0 : Int32), x) = some y ∧ Fr (fun c => c = 69) x y ∧ ∀ v, v < 32 → y.1 69 v = if bt f v = true then u else x.1 69 v := by
  refine lp_forx (step := f_X2_isFound_L48 b2 b3 b4 b5 u f) 32 (fun j s => s.1 = nI j ∧ Fr (fun c => c = 69) x s.2 ∧ ∀ v, v < 32 → s.2.1 69 v = if v < j ∧ bt f v = true then u else x.1 69 v) _ ?_ ?_ ⟨rfl, Fr.rf, fun v hv => ?_⟩ (by omega)
  · rintro j ⟨k, w⟩ hj ⟨h0, hf, hr⟩
    dsimp only at h0 hf hr
    subst h0
    unfold f_X2_isFound_L48
    dsimp only
    rw [if_neg (show ¬ (32 : Int32) ≤ nI j from nI_ge (a := j) (b := 32) hj (by omega))]
    by_cases z : f = 0
    · right
      rw [if_pos z]
      refine ⟨w, rfl, hf, fun v hv => ?_⟩
      rw [hr v hv, if_neg (fun q => by rw [z, b_0] at q; cases q.2), if_neg (fun q => by rw [z, b_0] at q; cases q)]
    · left
      rw [if_neg z]
      by_cases b : bt f j = true
      · rw [if_neg (fun q => by rw [has0 _ (by omega)] at q; rw [q] at b; cases b)]
        simp only [lt]
        rw [putv_n (L := 32) hj (by omega)]
        refine ⟨_, rfl, nI_1 j, hf.tr (Fr.s rfl), fun v hv => ?_⟩
        dsimp only
        by_cases c : v = j
        · subst c
          rw [sI_at, if_pos ⟨by omega, b⟩]
        · rw [sI_at2 c, hr v hv]
          by_cases d : v < j ∧ bt f v = true
          · rw [if_pos d, if_pos ⟨by omega, d.2⟩]
          · rw [if_neg d, if_neg (fun q => d ⟨by omega, q.2⟩)]
      · rw [if_pos ((has0 _ (by omega)).mpr (by simpa using b))]
        refine ⟨_, rfl, nI_1 j, hf, fun v hv => ?_⟩
        dsimp only
        rw [hr v hv]
        by_cases d : v < j ∧ bt f v = true
        · rw [if_pos d, if_pos ⟨by omega, d.2⟩]
        · rw [if_neg d, if_neg (fun q => d ⟨by
            rcases Nat.lt_or_ge v j with p | p
            · exact p
            · exact absurd q.2 (by rw [show v = j by omega]; exact b), q.2⟩)]
  · rintro ⟨k, w⟩ ⟨h0, hf, hr⟩
    dsimp only at h0 hf hr
    subst h0
    unfold f_X2_isFound_L48
    dsimp only
    rw [if_pos (show (32 : Int32) ≤ nI 32 from Int32.le_refl _)]
    refine ⟨w, rfl, hf, fun v hv => ?_⟩
    rw [hr v hv]
    by_cases b : bt f v = true
    · rw [if_pos ⟨hv, b⟩, if_pos b]
    · rw [if_neg (fun q => b q.2), if_neg b]
  · dsimp only
    rw [if_neg (fun q => by omega)]
def WayI (x : gXH) (R : Nat → Nat → Nat) (s : Nat) (seen : Nat → Prop) (rk : Nat → Nat) : Prop := ∀ v, v < 32 → seen v → v ≠ s → ∃ p, p < 32 ∧ x.1 69 v = nI p ∧ seen p ∧ rk p < rk v ∧ 0 < R p v
theorem found_c {x : gXH} {R : Nat → Nat → Nat} (h : FlI x R) {s t : Nat} (hs : s < 32) (ht : t < 32) : ∃ b y, f_X2_isFound x (nI s) (nI t) = some (b, y) ∧ Fr (fun c => c = 69) x y ∧
    ((b = 1 ∧ ∃ (seen : Nat → Prop) (rk : Nat → Nat), seen t ∧ rk t ≤ 32 ∧ WayI y R s seen rk) ∨ (b = 0 ∧ ∃ X : Nat → Bool, X s = true ∧ X t = false ∧ cs R X = 0)) := by
  have key : ∃ r, lp (f_X2_isFound_L11 (nI t)) 2000 (f_X9_only (nI s), f_X9_only (nI s), (0 : Int32), x) = some r ∧ Fr (fun c => c = 69) x r.2 ∧ bt r.1 s = true ∧ (∀ u w, u < 32 → w < 32 → bt r.1 u = true → 0 < R u w → bt r.1 w = true) ∧ ∃ rk, (∀ v, rk v ≤ 32) ∧ WayI r.2 R s (fun v => bt r.1 v = true) rk := by
    refine lp_forx (step := f_X2_isFound_L11 (nI t)) 32
      (fun j z => z.2.2.1 = nI j ∧ Fr (fun c => c = 69) x z.2.2.2 ∧ bt z.1 s = true ∧ (∀ v, bt z.2.1 v = true → bt z.1 v = true) ∧ (∀ u w, u < 32 → w < 32 → bt z.1 u = true → ¬ bt z.2.1 u = true → 0 < R u w → bt z.1 w = true) ∧ fb_ct (fun v => bt z.1 v && !bt z.2.1 v) 32 = j ∧ ∃ rk, (∀ v, rk v ≤ j) ∧ WayI z.2.2.2 R s (fun v => bt z.1 v = true) rk) _ ?_ ?_ ⟨rfl, Fr.rf, ?_, fun v q => q, fun u w _ _ p q => absurd p q, ?_, fun _ => 0, fun _ => Nat.le_refl _, fun v hv p q => ?_⟩ (by omega)
    · rintro j ⟨seen, todo, i, w⟩ hj ⟨h0, hf, h1, h2, h3, h4, rk, k1, k2⟩
      dsimp only at h0 hf h1 h2 h3 h4 k1 k2
      subst h0
      unfold f_X2_isFound_L11
      dsimp only
      rw [if_neg (show ¬ (32 : Int32) ≤ nI j from nI_ge (a := j) (b := 32) hj (by omega))]
      by_cases c : todo = 0
      · right
        rw [if_pos c]
        refine ⟨_, rfl, hf, h1, fun u w hu hw p q => h3 u w hu hw p (by rw [c, b_0]; decide) q, rk, fun v => Nat.le_trans (k1 v) (by omega), k2⟩
      · left
        rw [if_neg c]
        obtain ⟨u, hu, u1, u2, u3, u4⟩ := least_of c
        simp only [lt, u3]
        have hw := h.fr hf (by decide) (by decide)
        rw [atv_n (L := 32) hu (by omega)]
        obtain ⟨f, ef⟩ : ∃ f, (w.1 68 u) &&& (seen ^^^ (-1 : Int32)) = f := ⟨_, rfl⟩
        have hfb : ∀ v, v < 32 → (bt f v = true ↔ 0 < R u v ∧ ¬ bt seen v = true) := fun v hv => by
          rw [← ef, b_and, bt_not _ hv, Bool.and_eq_true, (hw.1 u v hu hv).2]
          cases bt seen v <;> simp
        rw [ef]
        obtain ⟨z, ez, z1, z2⟩ := par_c (x := w) (nI t) seen todo (nI j) f (nI u)
        rw [ez]
        simp only [Option.bind_some]
        have hnew : ∀ v, v < 32 → (bt (f_X9_withoutLeast todo ||| f) v = true ↔ (bt todo v = true ∧ v ≠ u) ∨ bt f v = true) := fun v hv => by
          rw [b_or, u4 v hv]
          cases bt todo v <;> cases bt f v <;> simp
        have hso : ∀ v, bt (seen ||| f) v = true ↔ bt seen v = true ∨ bt f v = true := fun v => by rw [b_or, Bool.or_eq_true]
        have h32 : ∀ {q : Int32} {v : Nat}, bt q v = true → v < 32 := fun {q v} hq => by
          rcases Nat.lt_or_ge v 32 with p | p
          · exact p
          · rw [b_big p] at hq
            cases hq
        refine ⟨_, rfl, nI_1 j, hf.tr z1, (hso s).mpr (Or.inl h1), fun v hv => ?_, fun a b ha hb p q r => ?_, ?_, fun v => if bt f v = true then j + 1 else rk v, fun v => ?_, fun v hv p q => ?_⟩
        · dsimp only at hv ⊢
          rw [hso]
          rcases (hnew v (h32 hv)).mp hv with q | q
          · exact Or.inl (h2 v q.1)
          · exact Or.inr q
        · dsimp only at p q ⊢
          rw [hnew a ha] at q
          rw [hso]
          rcases (hso a).mp p with p | p
          · by_cases e : a = u
            · subst e
              by_cases d : bt seen b = true
              · exact Or.inl d
              · exact Or.inr ((hfb b hb).mpr ⟨r, d⟩)
            · exact Or.inl (h3 a b ha hb p (fun z => q (Or.inl ⟨z, e⟩)) r)
          · exact absurd (Or.inr p) q
        · have hc := fb_ct_upd (fun v => bt seen v && !bt todo v) true (i := u) (n := 32) hu
          simp only [h2 u u1, u1] at hc
          rw [h4] at hc
          have hc2 : fb_ct (fun v => bt (seen ||| f) v && !bt (f_X9_withoutLeast todo ||| f) v) 32 = fb_ct (fun v => if v = u then true else bt seen v && !bt todo v) 32 := by
            refine fb_ct_cong fun v hv => ?_
            by_cases hvk : v = u
            · subst hvk
              rw [if_pos rfl]
              have hnf : ¬ bt f v = true := fun q => ((hfb v hv).mp q).2 (h2 v u1)
              have h9 : ¬ bt (f_X9_withoutLeast todo ||| f) v = true := fun q => by
                rcases (hnew v hv).mp q with q | q
                · exact q.2 rfl
                · exact hnf q
              have h8 : bt (seen ||| f) v = true := (hso v).mpr (Or.inl (h2 v u1))
              rw [h8]
              simp only [Bool.true_and, Bool.not_eq_true'] at h9 ⊢
              simpa using h9
            · rw [if_neg hvk]
              apply Bool.eq_iff_iff.mpr
              have e1 := hso v
              have e2 := hnew v hv
              have e3 := hfb v hv
              simp only [Bool.and_eq_true, Bool.not_eq_true', ← Bool.not_eq_true]
              rw [e1, e2, e3]
              constructor
              · rintro ⟨q1, q2⟩
                rcases q1 with q1 | q1
                · exact ⟨q1, fun r => q2 (Or.inl ⟨r, hvk⟩)⟩
                · exact absurd (Or.inr q1) q2
              · rintro ⟨q1, q2⟩
                refine ⟨Or.inl q1, ?_⟩
                rintro (r | r)
                · exact q2 r.1
                · exact r.2 q1
          show fb_ct (fun v => bt (seen ||| f) v && !bt (f_X9_withoutLeast todo ||| f) v) 32 = j + 1
          rw [hc2]
          simpa using hc
        · dsimp only
          split
          · omega
          · have := k1 v
            omega
        · dsimp only at p ⊢
          rw [z2 v hv]
          by_cases d : bt f v = true
          · rw [if_pos d, if_pos d]
            have hnu : ¬ bt f u = true := fun q => ((hfb u hu).mp q).2 (h2 u u1)
            refine ⟨u, hu, rfl, (hso u).mpr (Or.inl (h2 u u1)), ?_, ((hfb v hv).mp d).1⟩
            rw [if_neg hnu]
            have := k1 u
            omega
          · rw [if_neg d, if_neg d]
            have p' : bt seen v = true := ((hso v).mp p).elim id (fun z => absurd z d)
            obtain ⟨a, a1, a2, a3, a4, a5⟩ := k2 v hv p' q
            have hna : ¬ bt f a = true := fun q => ((hfb a a1).mp q).2 a3
            exact ⟨a, a1, a2, (hso a).mpr (Or.inl a3), by rw [if_neg hna]; exact a4, a5⟩
    · rintro ⟨seen, todo, i, w⟩ ⟨h0, hf, h1, h2, h3, h4, rk, k1, k2⟩
      dsimp only at h0 hf h1 h2 h3 h4 k1 k2
      subst h0
      unfold f_X2_isFound_L11
      dsimp only
      rw [if_pos (show (32 : Int32) ≤ nI 32 from Int32.le_refl _)]
      have hall := fb_ct_all.mp h4
      refine ⟨_, rfl, hf, h1, fun u w hu hw p q => h3 u w hu hw p ?_ q, rk, k1, k2⟩
      have := hall u hu
      simp only [Bool.and_eq_true, Bool.not_eq_true'] at this
      rw [this.2]
      decide
    · dsimp only
      rw [bt_only hs hs]
      simp
    · refine fb_ct_zero.mpr fun v _ => ?_
      dsimp only
      cases bt (f_X9_only (nI s)) v <;> rfl
    · dsimp only at p
      rw [bt_only hs hv] at p
      exact absurd (of_decide_eq_true p) q
  obtain ⟨r, er, r1, r2, r3, rk, r4, r5⟩ := key
  unfold f_X2_isFound
  simp only [lt]
  rw [er]
  simp only [Option.bind_some]
  rw [has_eq _ ht, nb01]
  by_cases c : bt r.1 t = true
  · rw [if_pos c]
    exact ⟨_, _, rfl, r1, Or.inl ⟨rfl, _, rk, c, r4 t, r5⟩⟩
  · rw [if_neg c]
    refine ⟨_, _, rfl, r1, Or.inr ⟨rfl, bt r.1, r2, by simpa using c, ?_⟩⟩
    unfold cs
    refine (fb_sm_cong (g := fun _ => 0) fun b hb => ?_).trans (by rw [fb_sm_const])
    refine (fb_sm_cong (g := fun _ => 0) fun a ha => ?_).trans (by rw [fb_sm_const])
    by_cases d : (bt r.1 a && !bt r.1 b) = true
    · rw [if_pos d]
      rw [Bool.and_eq_true, Bool.not_eq_true'] at d
      apply Classical.byContradiction
      intro q
      rw [r3 a b ha hb d.1 (by omega)] at d
      cases d.2
    · rw [if_neg d]
