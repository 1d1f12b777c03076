/-! THE LEAST TOLLS OF WAYS -/
section
variable {E : Nat → Nat → Prop} {L : Nat → Nat} {r : Nat}
/-- a way of at most so many arcs to v, of toll c -/
def Wk (E : Nat → Nat → Prop) (L : Nat → Nat) (r : Nat) : Nat → Nat → Nat → Prop
  | 0, v, c => v = r ∧ c = L r
  | i + 1, v, c => Wk E L r i v c ∨ ∃ u c', Wk E L r i u c' ∧ E u v ∧ c = c' + L v
theorem Wk.le {i v c : Nat} (h : Wk E L r i v c) : ∀ d, Wk E L r (i + d) v c
  | 0 => h
  | d + 1 => Or.inl (Wk.le h d)
theorem Wk.mono {i j v c : Nat} (h : Wk E L r i v c) (hij : i ≤ j) : Wk E L r j v c := by
  obtain ⟨d, rfl⟩ : ∃ d, j = i + d := ⟨j - i, by omega⟩
  exact h.le d
theorem Wk.rc : ∀ {i v c : Nat}, Wk E L r i v c → Rc E (fun s => s = r) nox v
  | 0, v, c, h => Rc.base h.1 (fun z => z)
  | i + 1, v, c, h => by
    rcases h with h | ⟨u, c', h1, h2, -⟩
    · exact Wk.rc h
    · exact Rc.step (Wk.rc h1) h2 (fun z => z)
theorem Wk.ex {v : Nat} (h : Rc E (fun s => s = r) nox v) : ∃ i c, Wk E L r i v c := by
  refine h.ind (P := fun v => ∃ i c, Wk E L r i v c) (fun s a _ => ⟨0, L r, a, rfl⟩) (fun u w _ p e _ => ?_)
  obtain ⟨i, c, h⟩ := p
  exact ⟨i + 1, c + L w, Or.inr ⟨u, c, h, e, rfl⟩⟩
/-- the least toll -/
def Lt (E : Nat → Nat → Prop) (L : Nat → Nat) (r v c : Nat) : Prop := (∃ i, Wk E L r i v c) ∧ ∀ i c', Wk E L r i v c' → c ≤ c'
theorem least_nat {P : Nat → Prop} : ∀ (n : Nat), P n → ∃ m, P m ∧ ∀ k, P k → m ≤ k := by
  intro n
  induction n using Nat.strongRecOn with
  | ind n ih =>
    intro hn
    by_cases c : ∃ k, k < n ∧ P k
    · obtain ⟨k, k1, k2⟩ := c
      exact ih k k1 k2
    · refine ⟨n, hn, fun k hk => ?_⟩
      rcases Nat.lt_or_ge k n with o | o
      · exact absurd ⟨k, o, hk⟩ c
      · exact o
theorem Lt.ex {v : Nat} (h : Rc E (fun s => s = r) nox v) : ∃ c, Lt E L r v c := by
  obtain ⟨i, c, hw⟩ := Wk.ex (L := L) h
  obtain ⟨m, ⟨j, hj⟩, hm⟩ := least_nat (P := fun c => ∃ i, Wk E L r i v c) c ⟨i, hw⟩
  exact ⟨m, ⟨j, hj⟩, fun i c' hc => hm c' ⟨i, hc⟩⟩
theorem Lt.uniq {v a b : Nat} (h1 : Lt E L r v a) (h2 : Lt E L r v b) : a = b := by
  obtain ⟨i, hi⟩ := h1.1
  obtain ⟨j, hj⟩ := h2.1
  exact Nat.le_antisymm (h1.2 j b hj) (h2.2 i a hi)
theorem Lt.rc {v c : Nat} (h : Lt E L r v c) : Rc E (fun s => s = r) nox v := by
  obtain ⟨i, hi⟩ := h.1
  exact hi.rc
theorem Lt.root : Lt E L r r (L r) := by
  refine ⟨⟨0, rfl, rfl⟩, ?_⟩
  intro i
  induction i with
  | zero => intro c h; exact Nat.le_of_eq h.2.symm
  | succ i ih =>
    intro c h
    rcases h with h | ⟨u, c', -, -, h⟩
    · exact ih c h
    · omega
theorem Lt.step {u v a b : Nat} (h : Lt E L r u a) (e : E u v) (hv : Lt E L r v b) : b ≤ a + L v := by
  obtain ⟨i, hi⟩ := h.1
  exact hv.2 (i + 1) _ (Or.inr ⟨u, a, hi, e, rfl⟩)
/-- the last arc of a best way: its begin is come to by a best way too -/
theorem Lt.pred {i v c : Nat} (h : Lt E L r v c) (hw : Wk E L r (i + 1) v c) : Wk E L r i v c ∨ ∃ u c', Lt E L r u c' ∧ Wk E L r i u c' ∧ E u v ∧ c = c' + L v := by
  rcases hw with hw | ⟨u, c', h1, h2, h3⟩
  · exact Or.inl hw
  · refine Or.inr ⟨u, c', ⟨⟨i, h1⟩, fun j d hd => ?_⟩, h1, h2, h3⟩
    have := h.2 (j + 1) (d + L v) (Or.inr ⟨u, d, hd, h2, rfl⟩)
    omega
def At (E : Nat → Nat → Prop) (L : Nat → Nat) (r i v : Nat) : Prop := ∃ c, Lt E L r v c ∧ Wk E L r i v c
theorem At.mono {i j v : Nat} (h : At E L r i v) (hij : i ≤ j) : At E L r j v := by
  obtain ⟨c, h1, h2⟩ := h
  exact ⟨c, h1, h2.mono hij⟩
theorem At.stop {i : Nat} (h : ∀ v, At E L r (i + 1) v → At E L r i v) : ∀ d v, At E L r (i + d) v → At E L r i v
  | 0, v, hv => hv
  | d + 1, v, ⟨c, h1, h2⟩ => by
    rcases h1.pred h2 with w | ⟨u, c', l, w, e, hc⟩
    · exact At.stop h d v ⟨c, h1, w⟩
    · obtain ⟨c2, l2, w2⟩ := At.stop h d u ⟨c', l, w⟩
      have := l.uniq l2
      subst this
      exact h v ⟨c, h1, Or.inr ⟨u, c', w2, e, hc⟩⟩
theorem At.grow (hE : E16 E) (hr : r < 16) : ∀ i, (∃ j, j < i ∧ ∀ v, At E L r (j + 1) v → At E L r j v) ∨ i + 1 ≤ fb_ct (fun v => cb (At E L r i v)) 16
  | 0 => Or.inr (fb_ct_pos.mpr ⟨r, hr, cb_t.mpr ⟨L r, Lt.root, rfl, rfl⟩⟩)
  | i + 1 => by
    rcases At.grow hE hr i with ⟨j, hj, h⟩ | h
    · exact Or.inl ⟨j, by omega, h⟩
    · by_cases c : ∀ v, At E L r (i + 1) v → At E L r i v
      · exact Or.inl ⟨i, by omega, c⟩
      · right
        obtain ⟨v, hv⟩ : ∃ v, ¬ (At E L r (i + 1) v → At E L r i v) := Classical.not_forall.mp c
        have h1 : At E L r (i + 1) v := Classical.byContradiction fun z => hv (fun y => absurd y z)
        have h2 : ¬ At E L r i v := fun z => hv (fun _ => z)
        obtain ⟨c', l, -⟩ := id h1
        have hv16 : v < 16 := l.rc.lt hE (fun s hs => by rw [show s = r from hs]; exact hr)
        have u := fb_ct_upd (fun v => cb (At E L r i v)) true hv16
        rw [if_neg (fun z => h2 (cb_t.mp z)), if_pos rfl] at u
        have s : fb_ct (fun k => if k = v then true else cb (At E L r i k)) 16 ≤ fb_ct (fun v => cb (At E L r (i + 1) v)) 16 := fb_ct_sub fun k hk hh => by
          by_cases d : k = v
          · rw [d]
            exact cb_t.mpr h1
          · rw [if_neg d] at hh
            exact cb_t.mpr ((cb_t.mp hh).mono (by omega))
        omega
/-- 15 arcs are enough -/
theorem At.all (hE : E16 E) (hr : r < 16) {v c : Nat} (h : Lt E L r v c) : Wk E L r 15 v c := by
  obtain ⟨i, hi⟩ := h.1
  have ha : At E L r i v := ⟨c, h, hi⟩
  rcases At.grow (L := L) hE hr 16 with ⟨j, hj, hs⟩ | hs
  · have hb : At E L r j v := by
      rcases Nat.le_total i j with o | o
      · exact ha.mono o
      · obtain ⟨d, rfl⟩ : ∃ d, i = j + d := ⟨i - j, by omega⟩
        exact At.stop hs d v ha
    obtain ⟨c', l, w⟩ := hb.mono (show j ≤ 15 by omega)
    rw [h.uniq l]
    exact w
  · have := fb_ct_le (fun v => cb (At E L r 16 v)) 16
    omega
theorem Wk.bound (hL : ∀ v, v < 16 → L v ≤ 99) (hE : E16 E) (hr : r < 16) : ∀ {i v c : Nat}, Wk E L r i v c → c ≤ 99 * (i + 1)
  | 0, v, c, h => by
    have := hL r hr
    rw [h.2]
    omega
  | i + 1, v, c, h => by
    rcases h with h | ⟨u, c', h1, h2, h3⟩
    · have := Wk.bound hL hE hr h
      omega
    · have := Wk.bound hL hE hr h1
      have := hL v (hE u v h2).2
      omega
theorem Lt.bound (hL : ∀ v, v < 16 → L v ≤ 99) (hE : E16 E) (hr : r < 16) {v c : Nat} (h : Lt E L r v c) : c ≤ 1584 := (At.all hE hr h).bound hL hE hr
end
