/-! HOW MUCH ONE MORE ARC LIFTS -/
section
variable {E E' : Nat → Nat → Prop} {S X : Nat → Prop}
theorem rc_more {a b v : Nat} (hE : ∀ u w, E' u w ↔ E u w ∨ (u = a ∧ w = b)) : Rc E' S X v ↔ Rc E S X v ∨ (Rc E S X a ∧ Rc E (fun s => s = b) X v) := by
  constructor
  · intro h
    refine h.ind (P := fun v => Rc E S X v ∨ (Rc E S X a ∧ Rc E (fun s => s = b) X v)) (fun s p q => Or.inl (Rc.base p q)) (fun u w _ hp he hx => ?_)
    rcases (hE u w).mp he with he | ⟨rfl, rfl⟩
    · rcases hp with hp | ⟨h1, h2⟩
      · exact Or.inl (hp.step he hx)
      · exact Or.inr ⟨h1, h2.step he hx⟩
    · rcases hp with hp | ⟨h1, h2⟩
      · exact Or.inr ⟨hp, Rc.base rfl hx⟩
      · exact Or.inr ⟨h1, Rc.base rfl hx⟩
  · have up : ∀ {T : Nat → Prop} {w : Nat}, Rc E T X w → Rc E' T X w := fun h => h.mono (fun u w e => (hE u w).mpr (Or.inl e)) (fun s p q => Rc.base p q) (fun _ z => z)
    rintro (h | ⟨h1, h2⟩)
    · exact up h
    · refine h2.ind (P := Rc E' S X) (fun s p q => ?_) (fun u w _ hp he hx => hp.step ((hE u w).mpr (Or.inl he)) hx)
      subst p
      exact (up h1).step ((hE _ _).mpr (Or.inr ⟨rfl, rfl⟩)) q
/-- the gate g goes from v with an arc from a to b -/
def LfP (E : Nat → Nat → Prop) (S : Nat → Prop) (a b g v : Nat) : Prop := Dm E S g v ∧ Rc E S (fun s => s = g) a ∧ Rc E (fun s => s = b) (fun s => s = g) v
noncomputable def cg (E : Nat → Nat → Prop) (S : Nat → Prop) (g a b : Nat) : Nat := fb_ct (fun v => cb (LfP E S a b g v)) 16
noncomputable def LN (E : Nat → Nat → Prop) (S : Nat → Prop) (a b : Nat) : Nat := fb_sm (fun g => cg E S g a b) 16
theorem dm_more {a b g v : Nat} (hE : ∀ u w, E' u w ↔ E u w ∨ (u = a ∧ w = b)) (hv : Rc E S nox v) : Dm E S g v ↔ Dm E' S g v ∨ LfP E S a b g v := by
  constructor
  · intro h
    by_cases c : Rc E' S (fun s => s = g) v
    · rcases (rc_more hE).mp c with d | d
      · exact absurd d h.2.2
      · exact Or.inr ⟨h, d⟩
    · exact Or.inl ⟨(rc_more hE).mpr (Or.inl hv), h.2.1, c⟩
  · rintro (h | h)
    · exact ⟨hv, h.2.1, fun q => h.2.2 ((rc_more hE).mpr (Or.inl q))⟩
    · exact h.1
theorem dp_more {a b v : Nat} (hE : ∀ u w, E' u w ↔ E u w ∨ (u = a ∧ w = b)) (hv : Rc E S nox v) : dp E S v = dp E' S v + fb_ct (fun g => cb (LfP E S a b g v)) 16 := by
  unfold dp
  rw [← fb_ct_or (fun g _ z => ?_)]
  · refine fb_ct_cong fun g _ => ?_
    apply Bool.eq_iff_iff.mpr
    rw [Bool.or_eq_true, cb_t, cb_t, cb_t]
    exact dm_more hE hv
  · exact (cb_t.mp z.1).2.2 ((rc_more hE).mpr (Or.inr (cb_t.mp z.2).2))
theorem lfS_more {a b : Nat} (hE : ∀ u w, E' u w ↔ E u w ∨ (u = a ∧ w = b)) : ∀ n, lfS E S E' S n = nI (fb_sm (fun v => fb_ct (fun g => cb (LfP E S a b g v)) 16) n)
  | 0 => rfl
  | n + 1 => by
    rw [fb_sm_succ]
    by_cases c : Rc E S nox n
    · rw [lfS_y c ((rc_more hE).mpr (Or.inl c)), lfS_more hE n, dp_more hE c, sub_n (Nat.le_add_right _ _), Nat.add_sub_cancel_left, nI_add]
    · rw [lfS_n (fun z => c z.1), lfS_more hE n, fb_ct_zero.mpr (fun g _ => cb_f.mpr fun z => c z.1.1), Nat.add_zero]
theorem fb_sm_swap (f : Nat → Nat → Nat) (m : Nat) : ∀ n, fb_sm (fun v => fb_sm (f v) m) n = fb_sm (fun g => fb_sm (fun v => f v g) n) m
  | 0 => by
    rw [show fb_sm (fun g => fb_sm (fun v => f v g) 0) m = fb_sm (fun _ => 0) m from rfl, fb_sm_const]
    rfl
  | n + 1 => by
    rw [fb_sm_succ, fb_sm_swap f m n, ← fb_sm_add]
    rfl
theorem lfS_LN {a b : Nat} (hE : ∀ u w, E' u w ↔ E u w ∨ (u = a ∧ w = b)) : lfS E S E' S 16 = nI (LN E S a b) := by
  rw [lfS_more hE 16]
  unfold LN cg
  simp only [← fb_sm_ct]
  rw [fb_sm_swap]
theorem cg_16 (g a b : Nat) : cg E S g a b ≤ 16 := fb_ct_le _ 16
theorem LN_256 (a b : Nat) : LN E S a b ≤ 256 := fb_sm_bound (c := 16) (n := 16) fun g _ => cg_16 g a b
theorem past_iff {g u : Nat} : Rc E S nox u ∧ ¬ Dm E S g u ∧ u ≠ g ↔ Rc E S (fun s => s = g) u := by
  constructor
  · rintro ⟨h1, h2, h3⟩
    apply Classical.byContradiction
    intro q
    exact h2 ⟨h1, fun z => h3 z.symm, q⟩
  · intro h
    exact ⟨h.all, fun z => z.2.2 h, fun z => h.notX z⟩
/-- what an arc from a to b lifts of those that g keeps -/
theorem cg_eq {g a b : Nat} : cg E S g a b = if cb (Rc E S (fun s => s = g) a) = true then fb_ct (fun v => cb (Dm E S g v ∧ Rc E (fun s => s = b) (fun s => s = g) v)) 16 else 0 := by
  unfold cg
  by_cases c : Rc E S (fun s => s = g) a
  · rw [if_pos (cb_t.mpr c)]
    refine fb_ct_cong fun v _ => cb_congr ?_
    exact ⟨fun z => ⟨z.1, z.2.2⟩, fun z => ⟨z.1, c, z.2⟩⟩
  · rw [if_neg (fun z => c (cb_t.mp z))]
    exact fb_ct_zero.mpr fun v _ => cb_f.mpr fun z => c z.2.1
theorem cg_0 {g a b : Nat} (h : b = g ∨ Rc E S (fun s => s = g) b) : cg E S g a b = 0 := by
  refine fb_ct_zero.mpr fun v _ => cb_f.mpr fun z => ?_
  rcases h with rfl | h
  · exact z.2.2.ind (P := fun _ => False) (fun s p q => q p) (fun _ _ _ p _ _ => p)
  · exact z.1.2.2 (h.trans z.2.2)
end
