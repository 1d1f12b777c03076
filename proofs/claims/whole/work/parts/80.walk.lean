/-! THE WALK: who comes next -/
section
variable {E : Nat → Nat → Prop} {S : Nat → Prop}
/-- left over when n is told: later ones of those that n or who is ahead of it stands beside -/
def PdI (E : Nat → Nat → Prop) (S : Nat → Prop) (n s : Nat) : Prop := ∃ m k, Up E S m n ∧ IsK E S k m ∧ IsK E S k s ∧ m < s
def QdI (E : Nat → Nat → Prop) (S : Nat → Prop) (n s : Nat) : Prop := IsK E S n s ∨ PdI E S n s
def Lat (E : Nat → Nat → Prop) (S : Nat → Prop) (s u : Nat) : Prop := dp E S u < dp E S s ∨ (dp E S u = dp E S s ∧ s < u)
def Top (E : Nat → Nat → Prop) (S : Nat → Prop) (Q : Nat → Prop) (t : Nat) : Prop := Q t ∧ ∀ s, Q s → s ≠ t → Lat E S t s
theorem Top.uniq {Q : Nat → Prop} {t t' : Nat} (h : Top E S Q t) (h' : Top E S Q t') : t = t' := by
  apply Classical.byContradiction
  intro q
  have h1 := h.2 t' h'.1 (fun z => q z.symm)
  have h2 := h'.2 t h.1 q
  unfold Lat at h1 h2
  omega
theorem IsK.sib (hE : E16 E) (hS : ∀ s, S s → s < 16) {k m s : Nat} (h : IsK E S k m) (h' : IsK E S k s) : dp E S m = dp E S s := by
  rw [h.dpk hE hS, h'.dpk hE hS]
theorem PdI.le (hE : E16 E) (hS : ∀ s, S s → s < 16) {n s : Nat} (h : PdI E S n s) : dp E S s ≤ dp E S n := by
  obtain ⟨m, k, h1, h2, h3, h4⟩ := h
  rw [← h2.sib hE hS h3]
  exact h1.le hE hS
theorem PdI.no (hE : E16 E) (hS : ∀ s, S s → s < 16) {n s : Nat} (h : PdI E S n s) : ¬ Up E S s n := by
  obtain ⟨m, k, h1, h2, h3, h4⟩ := h
  intro q
  have := h1.one hE hS q (h2.sib hE hS h3)
  omega
theorem PdI.lt (hE : E16 E) (hS : ∀ s, S s → s < 16) {n s : Nat} (h : PdI E S n s) : s < 16 := by
  obtain ⟨m, k, h1, h2, h3, h4⟩ := h
  exact h3.1.1.lt hE hS
theorem up_le (hE : E16 E) (hS : ∀ s, S s → s < 16) {a b n : Nat} (ha : Up E S a n) (hb : Up E S b n) (h : dp E S a < dp E S b) : Dm E S a b := by
  rcases hb with hb | rfl
  · rcases ha with ha | rfl
    · rcases ha.tot hb (fun e => by rw [e] at h; omega) with q | q
      · exact q
      · have := dp_lt (q.lt hE hS) q
        omega
    · have := dp_lt (hb.lt hE hS) hb
      omega
  · rcases ha with ha | rfl
    · exact ha
    · omega
theorem top_pd (hE : E16 E) (hS : ∀ s, S s → s < 16) {n t : Nat} (h : Top E S (QdI E S n) t) (s : Nat) : PdI E S t s ↔ QdI E S n s ∧ s ≠ t := by
  rcases h.1 with hk | ⟨m, k, h1, h2, h3, h4⟩
  · have ht := hk.dpk hE hS
    constructor
    · rintro ⟨m, k, hm | rfl, h2, h3, h4⟩
      · have hp : PdI E S n s := ⟨m, k, by
          by_cases c : m = n
          · exact Or.inr c
          · exact Or.inl (hk.2 m hm c), h2, h3, h4⟩
        refine ⟨Or.inr hp, fun e => ?_⟩
        have := hp.le hE hS
        rw [e] at this
        omega
      · have e := h2.uniq hk
        subst e
        exact ⟨Or.inl h3, by omega⟩
    · rintro ⟨q | ⟨m, k, g1, g2, g3, g4⟩, ne⟩
      · have hl := h.2 s (Or.inl q) ne
        have e := q.sib hE hS hk
        unfold Lat at hl
        exact ⟨t, n, Or.inr rfl, hk, q, by omega⟩
      · exact ⟨m, k, g1.tr (Or.inl hk.1), g2, g3, g4⟩
  · have e1 := h2.sib hE hS h3
    constructor
    · rintro ⟨m', k', g1, g2, g3, g4⟩
      rcases g1 with g1 | rfl
      · have u : Up E S m' m := by
          by_cases c : m' = k
          · rw [c]
            exact Or.inl h2.1
          · exact Or.inl ((h3.2 m' g1 c).trans h2.1)
        refine ⟨Or.inr ⟨m', k', u.tr h1, g2, g3, g4⟩, fun e => ?_⟩
        have e2 := g2.sib hE hS g3
        have e3 := dp_lt (g1.lt hE hS) g1
        rw [e] at e2
        omega
      · have e := g2.uniq h3
        subst e
        exact ⟨Or.inr ⟨m, k', h1, h2, g3, by omega⟩, by omega⟩
    · rintro ⟨q, ne⟩
      have hl := h.2 s q ne
      have e4 := h1.le hE hS
      rcases q with q | ⟨m', k', g1, g2, g3, g4⟩
      · have e3 := q.dpk hE hS
        unfold Lat at hl
        omega
      · have e2 := g2.sib hE hS g3
        rcases hl with hl | ⟨hl, hl2⟩
        · have d := up_le hE hS g1 h1 (by omega)
          refine ⟨m', k', Or.inl ?_, g2, g3, g4⟩
          by_cases c : m' = k
          · rw [c]
            exact h3.1
          · exact (h2.2 m' d c).trans h3.1
        · have e := g1.one hE hS h1 (by omega)
          subst e
          have e := g2.uniq h2
          subst e
          exact ⟨t, k', Or.inr rfl, h3, g3, hl2⟩
def RmI (E : Nat → Nat → Prop) (S : Nat → Prop) (n v : Nat) : Prop := Dm E S n v ∨ ∃ s, PdI E S n s ∧ Up E S s v
theorem RmI.no (hE : E16 E) (hS : ∀ s, S s → s < 16) {n : Nat} : ¬ RmI E S n n := by
  rintro (h | ⟨s, h1, h2⟩)
  · exact h.2.1 rfl
  · exact h1.no hE hS h2
theorem rm_lt (hE : E16 E) (hS : ∀ s, S s → s < 16) {n t : Nat} (h : Top E S (QdI E S n) t) : fb_ct (fun v => cb (RmI E S t v)) 16 < fb_ct (fun v => cb (RmI E S n v)) 16 := by
  have ht : t < 16 := by
    rcases h.1 with q | q
    · exact q.1.1.lt hE hS
    · exact q.lt hE hS
  have e := fb_ct_upd (fun v => cb (RmI E S t v)) true (i := t) (n := 16) ht
  rw [cb_f.mpr (RmI.no hE hS)] at e
  have e2 : fb_ct (fun v => if v = t then true else cb (RmI E S t v)) 16 ≤ fb_ct (fun v => cb (RmI E S n v)) 16 := fb_ct_sub fun v _ hv => by
    apply cb_t.mpr
    by_cases c : v = t
    · subst c
      rcases h.1 with q | q
      · exact Or.inl q.1
      · exact Or.inr ⟨v, q, Or.inr rfl⟩
    · rw [if_neg c] at hv
      rcases cb_t.mp hv with q | ⟨s, q1, q2⟩
      · rcases h.1 with z | z
        · exact Or.inl (z.1.trans q)
        · exact Or.inr ⟨t, z, Or.inl q⟩
      · rcases ((top_pd hE hS h s).mp q1).1 with z | z
        · rcases q2 with q2 | rfl
          · exact Or.inl (z.1.trans q2)
          · exact Or.inl z.1
        · exact Or.inr ⟨s, z, q2⟩
  change fb_ct _ 16 + 0 = fb_ct _ 16 + 1 at e
  omega
def WK (E : Nat → Nat → Prop) (S : Nat → Prop) (r : Nat) : Nat → Nat → Prop
  | 0, n => n = r
  | i + 1, n => ∃ m, WK E S r i m ∧ Top E S (QdI E S m) n
theorem WK.uniq {r : Nat} : ∀ {i n n' : Nat}, WK E S r i n → WK E S r i n' → n = n'
  | 0, _, _, h, h' => Eq.trans h (Eq.symm h')
  | i + 1, _, _, ⟨m, h1, h2⟩, ⟨m', h1', h2'⟩ => by
    have e := WK.uniq h1 h1'
    subst e
    exact h2.uniq h2'
theorem WK.rc {r : Nat} (hr : S r) : ∀ {i n : Nat}, WK E S r i n → Rc E S nox n
  | 0, n, h => by
    have h : n = r := h
    subst h
    exact Rc.base hr (fun q => q)
  | i + 1, n, ⟨m, h1, h2⟩ => by
    rcases h2.1 with q | ⟨_, _, _, _, q, _⟩
    · exact q.1.1
    · exact q.1.1
theorem WK.le (hE : E16 E) (hS : ∀ s, S s → s < 16) {r : Nat} (hr : r < 16) : ∀ {i n : Nat}, WK E S r i n → fb_ct (fun v => cb (RmI E S n v)) 16 + i ≤ 15
  | 0, n, h => by
    have h : n = r := h
    subst h
    have e := fb_ct_upd (fun v => cb (RmI E S n v)) true (i := n) (n := 16) hr
    rw [cb_f.mpr (RmI.no hE hS)] at e
    change fb_ct _ 16 + 0 = fb_ct _ 16 + 1 at e
    have := fb_ct_le (fun v => if v = n then true else cb (RmI E S n v)) 16
    omega
  | i + 1, n, ⟨m, h1, h2⟩ => by
    have := WK.le hE hS hr h1
    have := rm_lt hE hS h2
    omega
theorem WK.pre {r i : Nat} : ∀ (d : Nat) {n : Nat}, WK E S r (i + d) n → ∃ m, WK E S r i m
  | 0, n, h => ⟨n, h⟩
  | d + 1, n, ⟨m, h, _⟩ => WK.pre d h
/-- what a walk tells -/
def RWk (E : Nat → Nat → Prop) (S : Nat → Prop) (r : Nat) (a z : Int32) : Prop := (∃ k n, k < 16 ∧ a = nI k ∧ WK E S r k n ∧ z = nI n) ∨ ((∀ k n, k < 2 ^ 31 → a = nI k → ¬ WK E S r k n) ∧ z = -1)
theorem RWk.uniq {r : Nat} {a z z' : Int32} (h : RWk E S r a z) (h' : RWk E S r a z') : z = z' := by
  rcases h with ⟨k, n, h1, h2, h3, h4⟩ | ⟨h1, h2⟩
  · rcases h' with ⟨k', n', h1', h2', h3', h4'⟩ | ⟨h1', h2'⟩
    · have e : k = k' := (nI_eq (by omega) (by omega)).mp (h2.symm.trans h2')
      subst e
      rw [h4, h4', h3.uniq h3']
    · exact absurd h3 (h1' k n (by omega) h2)
  · rcases h' with ⟨k', n', h1', h2', h3', h4'⟩ | ⟨h1', h2'⟩
    · exact absurd h3' (h1 k' n' (by omega) h2')
    · rw [h2, h2']
/-- a set that isn't empty has a top -/
theorem top_ex {Q : Nat → Prop} (hQ : ∀ v, Q v → v < 16) {v : Nat} (hv : Q v) : ∃ t, Top E S Q t := by
  obtain ⟨t, ht, h1, -⟩ := fb_best (fun s => if cb (Q s) = true then (((dp E S s * 16 + (16 - s) : Nat)) : Int) else 0) (n := 16) (by omega)
  have h0 := h1 v (hQ v hv)
  simp only [cb_t.mpr hv, if_true] at h0
  have hq : Q t := by
    apply Classical.byContradiction
    intro q
    rw [if_neg (fun z => q (cb_t.mp z))] at h0
    have := hQ v hv
    omega
  refine ⟨t, hq, fun s hs hne => ?_⟩
  have h2 := h1 s (hQ s hs)
  simp only [cb_t.mpr hs, cb_t.mpr hq, if_true] at h2
  have := hQ s hs
  unfold Lat
  omega
end
