/-! NETS AND WAYS -/
noncomputable def cb (p : Prop) : Bool := @decide p (Classical.propDecidable p)
theorem cb_t {p : Prop} : cb p = true ↔ p := by
  unfold cb
  exact @decide_eq_true_iff p (Classical.propDecidable p)
theorem cb_f {p : Prop} : cb p = false ↔ ¬ p := by
  by_cases h : p
  · rw [cb_t.mpr h]; simp [h]
  · cases hc : cb p with
    | false => simp [h]
    | true => exact absurd (cb_t.mp hc) h
theorem cb_congr {p q : Prop} (h : p ↔ q) : cb p = cb q := by rw [propext h]
/-- reached from S by E, past X -/
def Rc (E : Nat → Nat → Prop) (S X : Nat → Prop) (v : Nat) : Prop := ∀ P : Nat → Prop, (∀ s, S s → ¬ X s → P s) → (∀ u w, P u → E u w → ¬ X w → P w) → P v
theorem Rc.base {E : Nat → Nat → Prop} {S X : Nat → Prop} {s : Nat} (h : S s) (hx : ¬ X s) : Rc E S X s := fun _ hb _ => hb s h hx
theorem Rc.step {E : Nat → Nat → Prop} {S X : Nat → Prop} {u w : Nat} (h : Rc E S X u) (he : E u w) (hx : ¬ X w) : Rc E S X w := fun P hb hs => hs u w (h P hb hs) he hx
theorem Rc.ind {E : Nat → Nat → Prop} {S X : Nat → Prop} {v : Nat} (h : Rc E S X v) {P : Nat → Prop} (hb : ∀ s, S s → ¬ X s → P s) (hs : ∀ u w, Rc E S X u → P u → E u w → ¬ X w → P w) : P v :=
  (h (fun v => Rc E S X v ∧ P v) (fun s a b => ⟨Rc.base a b, hb s a b⟩) (fun u w a b c => ⟨Rc.step a.1 b c, hs u w a.1 a.2 b c⟩)).2
theorem Rc.notX {E : Nat → Nat → Prop} {S X : Nat → Prop} {v : Nat} (h : Rc E S X v) : ¬ X v := h.ind (fun _ _ b => b) (fun _ _ _ _ _ c => c)
theorem Rc.mono {E E' : Nat → Nat → Prop} {S S' X X' : Nat → Prop} {v : Nat} (h : Rc E S X v) (hE : ∀ u w, E u w → E' u w) (hS : ∀ s, S s → ¬ X s → Rc E' S' X' s) (hX : ∀ x, X' x → X x) : Rc E' S' X' v :=
  h.ind hS (fun _ _ _ a b c => Rc.step a (hE _ _ b) (fun q => c (hX _ q)))
theorem Rc.congr {E E' : Nat → Nat → Prop} {S S' X X' : Nat → Prop} {v : Nat} (hE : ∀ u w, E u w ↔ E' u w) (hS : ∀ s, S s ↔ S' s) (hX : ∀ x, X x ↔ X' x) : Rc E S X v ↔ Rc E' S' X' v :=
  ⟨fun h => h.mono (fun _ _ => (hE _ _).mp) (fun s a b => Rc.base ((hS s).mp a) (fun q => b ((hX s).mpr q))) (fun x => (hX x).mpr), fun h => h.mono (fun _ _ => (hE _ _).mpr) (fun s a b => Rc.base ((hS s).mpr a) (fun q => b ((hX s).mp q))) (fun x => (hX x).mp)⟩
theorem Rc.trans {E : Nat → Nat → Prop} {S X : Nat → Prop} {m v : Nat} (h1 : Rc E S X m) (h2 : Rc E (fun s => s = m) X v) : Rc E S X v :=
  h2.ind (fun s a _ => by subst a; exact h1) (fun _ _ _ a b c => Rc.step a b c)
/-- relations between numbers below 16 -/
def E16 (E : Nat → Nat → Prop) : Prop := ∀ u v, E u v → u < 16 ∧ v < 16
theorem Rc.lt {E : Nat → Nat → Prop} {S X : Nat → Prop} {v : Nat} (hE : E16 E) (hS : ∀ s, S s → s < 16) (h : Rc E S X v) : v < 16 := h.ind (fun s a _ => hS s a) (fun _ _ _ _ b _ => (hE _ _ b).2)
/-! the nets: nodes, root, exit, arcs, from, to, open, tolls -/
abbrev aN : Type := Nat × Nat × Nat × Nat × (Nat → Nat) × (Nat → Nat) × (Nat → Bool) × (Nat → Nat)
def nN (N : aN) : Nat := N.1
def nRt (N : aN) : Nat := N.2.1
def nEx (N : aN) : Nat := N.2.2.1
def nM (N : aN) : Nat := N.2.2.2.1
def nF (N : aN) : Nat → Nat := N.2.2.2.2.1
def nT (N : aN) : Nat → Nat := N.2.2.2.2.2.1
def nO (N : aN) : Nat → Bool := N.2.2.2.2.2.2.1
def nL (N : aN) : Nat → Nat := N.2.2.2.2.2.2.2
def aOk (N : aN) : Prop := 2 ≤ nN N ∧ nN N ≤ 16 ∧ nRt N < nN N ∧ nEx N < nN N ∧ nM N ≤ 60 ∧ (∀ i, i < nM N → nF N i < nN N ∧ nT N i < nN N) ∧ ∀ v, v < 16 → nL N v ≤ 99
/-- an arc from u to v that is open, neither k1 nor k2; or one more -/
def EdX (N : aN) (k1 k2 : Nat) (xt : Option (Nat × Nat)) (u v : Nat) : Prop := (∃ a, a < nM N ∧ nO N a = true ∧ a ≠ k1 ∧ a ≠ k2 ∧ nF N a = u ∧ nT N a = v) ∨ xt = some (u, v)
abbrev Ed (N : aN) (k : Nat) : Nat → Nat → Prop := EdX N k 100 none
theorem EdX_comm (N : aN) (k1 k2 : Nat) (xt : Option (Nat × Nat)) : EdX N k1 k2 xt = EdX N k2 k1 xt := by
  funext u v
  apply propext
  constructor
  · rintro (⟨a, h1, h2, h3, h4, h5⟩ | h)
    · exact Or.inl ⟨a, h1, h2, h4, h3, h5⟩
    · exact Or.inr h
  · rintro (⟨a, h1, h2, h3, h4, h5⟩ | h)
    · exact Or.inl ⟨a, h1, h2, h4, h3, h5⟩
    · exact Or.inr h
theorem aOk.e16 {N : aN} (h : aOk N) {k1 k2 : Nat} {xt : Option (Nat × Nat)} (hx : ∀ p, xt = some p → p.1 < 16 ∧ p.2 < 16) : E16 (EdX N k1 k2 xt) := by
  obtain ⟨h1, h2, h3, h4, h5, h6, h7⟩ := h
  rintro u v (⟨a, a1, -, -, -, a2, a3⟩ | h)
  · have := h6 a a1
    omega
  · exact hx _ h
theorem aOk.e16n {N : aN} (h : aOk N) {k1 k2 : Nat} : E16 (EdX N k1 k2 none) := h.e16 (fun p q => by cases q)
/-- how the class holds a net, at the cell g -/
def CNet (xc : gXH) (g : Nat) (N : aN) : Prop := xc.1 g 3 = nI (nN N) ∧ xc.1 g 4 = nI (nRt N) ∧ xc.1 g 5 = nI (nEx N) ∧ xc.1 g 6 = nI (nM N) ∧ (∀ i, i < nM N → xc.1 (g + 1) i = nI (nF N i) ∧ xc.1 (g + 2) i = nI (nT N i)) ∧ (∀ i, i < 64 → (xc.2 g 7).toBitVec.getLsbD i = (decide (i < nM N) && nO N i)) ∧ ∀ v, v < 16 → xc.1 (g + 3) v = nI (nL N v)
/-- how the reference holds one, at the cell w, from o on -/
def MNet (hm : gIH) (w o : Nat) (N : aN) : Prop := hm w (o + 0) = nI (nN N) ∧ hm w (o + 1) = nI (nRt N) ∧ hm w (o + 2) = nI (nEx N) ∧ hm w (o + 3) = nI (nM N) ∧ (∀ i, i < nM N → hm w (o + (20 + i)) = nI (nF N i) ∧ hm w (o + (80 + i)) = nI (nT N i) ∧ hm w (o + (140 + i)) = if nO N i = true then 1 else 0) ∧ ∀ v, v < 16 → hm w (o + (4 + v)) = nI (nL N v)
/-- rows of sets that tell a relation -/
def NX (xc : gXH) (c : Nat) (E : Nat → Nat → Prop) : Prop := ∀ u, u < 16 → S16 (xc.1 c u) ∧ ∀ v, v < 16 → (bt (xc.1 c u) v = true ↔ E u v)
theorem atv_n {xc : gXH} {c L k : Nat} (hk : k < L) (hL : L < 2 ^ 31) : atv xc c L (nI k) = xc.1 c k := by
  unfold atv
  rw [if_pos ⟨nI_pos' (by omega), nI_lt hk hL⟩, nI_clamp (by omega)]
theorem putv_n {xc : gXH} {c L k : Nat} {v : Int32} (hk : k < L) (hL : L < 2 ^ 31) : putv xc c L (nI k) v = sI xc c k v := by
  unfold putv
  rw [if_pos ⟨nI_pos' (by omega), nI_lt hk hL⟩, nI_clamp (by omega)]
/-- THE CLASS'S SPREAD: who is reached, past the barred -/
theorem spread_ok {xc : gXH} {c : Nat} {E : Nat → Nat → Prop} (hE : E16 E) (hN : NX xc c E) (a b : Int32) (ha : S16 a) :
    ∃ y, f_X9_spread c xc a b = some y ∧ S16 y ∧ ∀ v, v < 16 → (bt y v = true ↔ Rc E (fun s => bt a s = true) (fun s => bt b s = true) v) := by
  have hlt : ∀ {s : Int32}, S16 s → ∀ {i : Nat}, bt s i = true → i < 16 := fun hs i hi => by
    rcases Nat.lt_or_ge i 16 with q | q
    · exact q
    · rw [hs i q] at hi; cases hi
  have hend : ∀ (seen todo : Int32), S16 seen → (∀ v, v < 16 → bt todo v = false) → (∀ v, bt seen v = true → Rc E (fun s => bt a s = true) (fun s => bt b s = true) v) → (∀ v, bt a v = true → ¬ bt b v = true → bt seen v = true) → (∀ u w, bt seen u = true → ¬ bt todo u = true → E u w → ¬ bt b w = true → bt seen w = true) →
      S16 seen ∧ ∀ v, v < 16 → (bt seen v = true ↔ Rc E (fun s => bt a s = true) (fun s => bt b s = true) v) := by
    intro seen todo h1 h2 h3 h4 h5
    refine ⟨h1, fun v hv => ⟨h3 v, fun hr => ?_⟩⟩
    exact hr.ind (fun s p q => h4 s p q) (fun u w _ p q r => h5 u w p (by rw [h2 u (hE u w q).1]; decide) q r)
  refine Exists.elim (lp_forx (step := f_X9_spread_L12 c xc b) 16
    (fun j s => s.2.2 = nI j ∧ S16 s.1 ∧ S16 s.2.1 ∧ (∀ v, bt s.2.1 v = true → bt s.1 v = true) ∧ (∀ v, bt s.1 v = true → Rc E (fun s => bt a s = true) (fun s => bt b s = true) v) ∧ (∀ v, bt a v = true → ¬ bt b v = true → bt s.1 v = true) ∧ (∀ u w, bt s.1 u = true → ¬ bt s.2.1 u = true → E u w → ¬ bt b w = true → bt s.1 w = true) ∧ fb_ct (fun v => bt s.1 v && !bt s.2.1 v) 16 = j)
    (fun y => S16 y ∧ ∀ v, v < 16 → (bt y v = true ↔ Rc E (fun s => bt a s = true) (fun s => bt b s = true) v)) (s := (a &&& (b ^^^ (-1)), a &&& (b ^^^ (-1)), 0)) (k := 2000) ?_ ?_ ?_ (by omega)) (fun y hh => ?_)
  · rintro j ⟨seen, todo, i⟩ hj ⟨h0, h1, h2, h3, h4, h5, h6, h7⟩
    simp only at h0 h1 h2 h3 h4 h5 h6 h7
    subst h0
    unfold f_X9_spread_L12
    rw [if_neg (by show ¬ nI 16 ≤ nI j; rw [nI_leI (by omega) (by omega)]; omega)]
    by_cases ht : todo = 0
    · right
      refine ⟨seen, by rw [if_pos ht], hend seen todo h1 (fun v hv => by rw [ht, b_0]) h4 h5 h6⟩
    · left
      obtain ⟨k, hk, k1, k2, k3, k4⟩ := least_of ht
      have hk16 : k < 16 := hlt h2 k1
      rw [if_neg ht]
      simp only [lt, k3]
      rw [atv_n (L := 16) hk16 (by omega)]
      obtain ⟨hn1, hn2⟩ := hN k hk16
      obtain ⟨f, hf⟩ : ∃ f, (xc.1 c k &&& (seen ^^^ (-1))) &&& (b ^^^ (-1)) = f := ⟨_, rfl⟩
      have hfs : S16 f := by rw [← hf]; exact (hn1.and).and
      have hfb : ∀ v, v < 16 → (bt f v = true ↔ (E k v ∧ ¬ bt seen v = true ∧ ¬ bt b v = true)) := by
        intro v hv
        rw [← hf, b_and, b_and, bt_not _ (by omega), bt_not _ (by omega), ← hn2 v hv]
        cases bt (xc.1 c k) v <;> cases bt seen v <;> cases bt b v <;> simp
      rw [hf]
      have hw : ∀ v, v < 16 → (bt (f_X9_withoutLeast todo ||| f) v = true ↔ (bt todo v = true ∧ v ≠ k) ∨ bt f v = true) := by
        intro v hv
        rw [b_or, k4 v (by omega)]
        cases bt todo v <;> cases bt f v <;> simp
      have hws : S16 (f_X9_withoutLeast todo ||| f) := by
        refine S16.or ?_ hfs
        exact h2.and
      have hso : ∀ v, bt (seen ||| f) v = true ↔ bt seen v = true ∨ bt f v = true := fun v => by rw [b_or, Bool.or_eq_true]
      refine ⟨_, rfl, nI_1 j, h1.or hfs, hws, ?_, ?_, ?_, ?_, ?_⟩
      · intro v hv
        have hv : bt (f_X9_withoutLeast todo ||| f) v = true := hv
        show bt (seen ||| f) v = true
        rw [hso]
        rcases (hw v (hlt hws hv)).mp hv with q | q
        · exact Or.inl (h3 v q.1)
        · exact Or.inr q
      · intro v hv
        rcases (hso v).mp hv with q | q
        · exact h4 v q
        · obtain ⟨q1, q2, q3⟩ := (hfb v (hlt hfs q)).mp q
          exact Rc.step (h4 k (h3 k k1)) q1 q3
      · intro v hv hb
        exact (hso v).mpr (Or.inl (h5 v hv hb))
      · intro u w hu hnt he hb
        have hu : bt (seen ||| f) u = true := hu
        have hnt : ¬ bt (f_X9_withoutLeast todo ||| f) u = true := hnt
        show bt (seen ||| f) w = true
        have hu16 := (hE u w he).1
        have hw16 := (hE u w he).2
        rw [hw u hu16] at hnt
        rw [hso]
        rcases (hso u).mp hu with q | q
        · by_cases huk : u = k
          · subst huk
            by_cases hs : bt seen w = true
            · exact Or.inl hs
            · exact Or.inr ((hfb w hw16).mpr ⟨he, hs, hb⟩)
          · exact Or.inl (h6 u w q (fun r => hnt (Or.inl ⟨r, huk⟩)) he hb)
        · exact absurd (Or.inr q) hnt
      · have hc := fb_ct_upd (fun v => bt seen v && !bt todo v) true (i := k) (n := 16) hk16
        simp only [h3 k k1, k1] at hc
        rw [h7] at hc
        have hc2 : fb_ct (fun v => bt (seen ||| f) v && !bt (f_X9_withoutLeast todo ||| f) v) 16 = fb_ct (fun v => if v = k then true else bt seen v && !bt todo v) 16 := by
          refine fb_ct_cong fun v hv => ?_
          by_cases hvk : v = k
          · subst hvk
            rw [if_pos rfl]
            have hnf : ¬ bt f v = true := fun q => ((hfb v hv).mp q).2.1 (h3 v k1)
            have h9 : ¬ bt (f_X9_withoutLeast todo ||| f) v = true := fun q => by
              rcases (hw v hv).mp q with q | q
              · exact q.2 rfl
              · exact hnf q
            have h8 : bt (seen ||| f) v = true := (hso v).mpr (Or.inl (h3 v k1))
            rw [h8]
            simp only [Bool.true_and, Bool.not_eq_true'] at h9 ⊢
            simpa using h9
          · rw [if_neg hvk]
            apply Bool.eq_iff_iff.mpr
            have e1 := hso v
            have e2 := hw v hv
            have e3 := hfb v hv
            simp only [Bool.and_eq_true, Bool.not_eq_true', ← Bool.not_eq_true]
            rw [e1, e2, e3]
            constructor
            · rintro ⟨q1, q2⟩
              rcases q1 with q1 | q1
              · exact ⟨q1, fun r => q2 (Or.inl ⟨r, hvk⟩)⟩
              · exact absurd (Or.inr q1) q2
            · rintro ⟨q1, q2⟩
              refine ⟨Or.inl q1, ?_⟩
              rintro (r | r)
              · exact q2 r.1
              · exact r.2.1 q1
        show fb_ct (fun v => bt (seen ||| f) v && !bt (f_X9_withoutLeast todo ||| f) v) 16 = j + 1
        rw [hc2]
        simpa using hc
  · rintro ⟨seen, todo, i⟩ ⟨h0, h1, h2, h3, h4, h5, h6, h7⟩
    simp only at h0 h1 h2 h3 h4 h5 h6 h7
    subst h0
    unfold f_X9_spread_L12
    rw [if_pos (by show nI 16 ≤ nI 16; exact Int32.le_refl _)]
    have hall := fb_ct_all.mp h7
    refine ⟨seen, rfl, hend seen todo h1 (fun v hv => ?_) h4 h5 h6⟩
    have := hall v hv
    simp only [Bool.and_eq_true, Bool.not_eq_true'] at this
    exact this.2
  · refine ⟨rfl, ha.and, ha.and, fun v hv => hv, ?_, ?_, ?_, ?_⟩
    · intro v hv
      have hv : bt (a &&& (b ^^^ (-1))) v = true := hv
      have hv16 := hlt (ha.and) hv
      rw [b_and, bt_not _ (by omega), Bool.and_eq_true] at hv
      exact Rc.base hv.1 (by have := hv.2; simpa using this)
    · intro v hv hb
      show bt (a &&& (b ^^^ (-1))) v = true
      have := hlt ha hv
      rw [b_and, bt_not _ (by omega), hv]
      simpa using hb
    · intro u w hu hnt _ _
      exact absurd hu hnt
    · refine fb_ct_zero.mpr fun v _ => ?_
      cases bt (a &&& (b ^^^ (-1))) v <;> rfl
  · obtain ⟨e, hy⟩ := hh
    refine ⟨y, ?_, hy⟩
    unfold f_X9_spread
    simp only [lt]
    rw [e]
    rfl
