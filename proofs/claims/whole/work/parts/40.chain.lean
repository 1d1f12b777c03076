/-! CHAIN, COMMON, VIA -/
section
variable {E : Nat → Nat → Prop} {S : Nat → Prop}
def Up (E : Nat → Nat → Prop) (S : Nat → Prop) (x v : Nat) : Prop := Dm E S x v ∨ x = v
theorem Up.rx {x v : Nat} (h : Up E S x v) (hv : Rc E S nox v) : Rc E S nox x := by
  rcases h with h | h
  · exact h.rg
  · rw [h]; exact hv
theorem Up.le {x v : Nat} (hE : E16 E) (hS : ∀ s, S s → s < 16) (h : Up E S x v) : dp E S x ≤ dp E S v := by
  rcases h with h | h
  · exact Nat.le_of_lt (dp_lt (h.lt hE hS) h)
  · rw [h]; exact Nat.le_refl _
theorem Up.tr {x y v : Nat} (h : Up E S x y) (h2 : Up E S y v) : Up E S x v := by
  rcases h2 with h2 | h2
  · rcases h with h | h
    · exact Or.inl (h.trans h2)
    · subst h; exact Or.inl h2
  · subst h2; exact h
theorem Up.one {x y v : Nat} (hE : E16 E) (hS : ∀ s, S s → s < 16) (hx : Up E S x v) (hy : Up E S y v) (he : dp E S x = dp E S y) : x = y := by
  apply Classical.byContradiction
  intro hne
  have key : Dm E S x y ∨ Dm E S y x := by
    rcases hx with hx | hx
    · rcases hy with hy | hy
      · exact hx.tot hy hne
      · subst hy; exact Or.inl hx
    · subst hx
      rcases hy with hy | hy
      · exact Or.inr hy
      · exact absurd hy.symm hne
  rcases key with q | q
  · have := dp_lt (q.lt hE hS) q; omega
  · have := dp_lt (q.lt hE hS) q; omega
theorem dp_gate {v : Nat} (h : 0 < dp E S v) : ∃ g, g < 16 ∧ Dm E S g v := by
  obtain ⟨g, h1, h2⟩ := fb_ct_pos.mp h
  exact ⟨g, h1, cb_t.mp h2⟩
theorem Up.level (hE : E16 E) (hS : ∀ s, S s → s < 16) : ∀ (d v j : Nat), dp E S v = j + d → ∃ u, Up E S u v ∧ dp E S u = j := by
  intro d
  induction d with
  | zero => intro v j h; exact ⟨v, Or.inr rfl, h⟩
  | succ d ih =>
    intro v j h
    obtain ⟨g, hg, hd⟩ := dp_gate (E := E) (S := S) (v := v) (by omega)
    obtain ⟨k, hk, hK⟩ := IsK.ex hE hS hd
    have := hK.dpk hE hS
    obtain ⟨u, hu, he⟩ := ih k j (by omega)
    exact ⟨u, hu.tr (Or.inl hK.1), he⟩
/-- the one of depth a on the way to v, as an answer -/
def LinkI (E : Nat → Nat → Prop) (S : Nat → Prop) (v : Nat) (a y : Int32) : Prop :=
  (¬ Rc E S nox v → y = -1) ∧ (Rc E S nox v → (∀ u, Up E S u v → a = nI (dp E S u) → y = nI u) ∧ ((∀ u, Up E S u v → a ≠ nI (dp E S u)) → y = -1))
theorem LinkI.uniq {v : Nat} {a y z : Int32} (h1 : LinkI E S v a y) (h2 : LinkI E S v a z) : y = z := by
  by_cases hr : Rc E S nox v
  · by_cases c : ∃ u, Up E S u v ∧ a = nI (dp E S u)
    · obtain ⟨u, u1, u2⟩ := c
      rw [(h1.2 hr).1 u u1 u2, (h2.2 hr).1 u u1 u2]
    · have c' : ∀ u, Up E S u v → a ≠ nI (dp E S u) := fun u u1 u2 => c ⟨u, u1, u2⟩
      rw [(h1.2 hr).2 c', (h2.2 hr).2 c']
  · rw [h1.1 hr, h2.1 hr]
theorem link_ok {xc : gXH} {g : Nat} (hE : E16 E) (hS : ∀ s, S s → s < 16) (h : GF xc g E S) {v : Nat} (hv : v < 16) (a : Int32) : ∃ y, f_X8_link g xc (nI v) a = some y ∧ LinkI E S v a y := by
  obtain ⟨up1, up2'⟩ := h.up hv
  have key : ∃ y, lp (f_X8_link_L2 g xc (nI v) a) 2000 0 = some y ∧ (Sum.elim (fun z => ∃ u, u < 16 ∧ Rc E S nox v ∧ Up E S u v ∧ a = nI (dp E S u) ∧ z = nI u) (fun _ => Rc E S nox v → ∀ u, Up E S u v → a ≠ nI (dp E S u)) y) := by
    refine lp_forx (step := f_X8_link_L2 g xc (nI v) a) 16 (fun j s => s = nI j ∧ ∀ u, u < j → Rc E S nox v → Up E S u v → a ≠ nI (dp E S u)) _ ?_ ?_ ⟨rfl, fun u hu => by omega⟩ (by omega)
    · rintro j s hj ⟨rfl, h1⟩
      unfold f_X8_link_L2
      rw [if_neg (by show ¬ nI 16 ≤ nI j; rw [nI_leI (by omega) (by omega)]; omega)]
      simp only [lt]
      have nxt : (Rc E S nox v → Up E S j v → a ≠ nI (dp E S j)) → (nI j + 1 = nI (j + 1) ∧ ∀ u, u < j + 1 → Rc E S nox v → Up E S u v → a ≠ nI (dp E S u)) := fun hno => ⟨nI_1 j, fun u hu hr hup => by
        rcases Nat.lt_or_ge u j with q | q
        · exact h1 u q hr hup
        · rw [show u = j by omega]
          exact hno hr (by rw [← show u = j by omega]; exact hup)⟩
      by_cases c : bt (f_X8_upTo g xc (nI v)) j = true
      · rw [if_neg (by rw [has0 _ (by omega), c]; decide)]
        obtain ⟨c1, c2⟩ := (up2' j hj).mp c
        have c3 : Up E S j v := c2
        rw [h.d1 hj (c3.rx c1)]
        by_cases c4 : nI (dp E S j) = a
        · rw [if_pos c4]
          exact Or.inr ⟨_, rfl, j, hj, c1, c3, c4.symm, rfl⟩
        · rw [if_neg c4]
          exact Or.inl ⟨_, rfl, nxt fun _ _ z => c4 z.symm⟩
      · rw [if_pos (by rw [has0 _ (by omega)]; simpa using c)]
        exact Or.inl ⟨_, rfl, nxt fun z1 z2 => absurd ((up2' j hj).mpr ⟨z1, z2⟩) c⟩
    · rintro s ⟨rfl, h1⟩
      unfold f_X8_link_L2
      rw [if_pos (by show nI 16 ≤ nI 16; exact Int32.le_refl _)]
      refine ⟨_, rfl, fun hr u hu => h1 u ?_ hr hu⟩
      exact (hu.rx hr).lt hE hS
  obtain ⟨y, ey, hy⟩ := key
  unfold f_X8_link
  rw [ey]
  cases y with
  | inl z =>
    obtain ⟨u, u1, u2, u3, u4, u5⟩ := hy
    refine ⟨z, rfl, fun z => absurd u2 z, fun _ => ⟨fun w w1 w2 => ?_, fun z => absurd u4 (z u u3)⟩⟩
    have d1 := dp_16 (E := E) (S := S) u
    have d2 := dp_16 (E := E) (S := S) w
    rw [u4, nI_eq (by omega) (by omega)] at w2
    rw [u5, Up.one hE hS u3 w1 w2]
  | inr z =>
    exact ⟨-1, rfl, fun _ => rfl, fun hr => ⟨fun u u1 u2 => absurd u2 (hy hr u u1), fun _ => rfl⟩⟩
theorem chain_ok {hm : gIH} (hE : E16 E) (hS : ∀ s, S s → s < 16) (h : MF hm E S) {v : Nat} (hv : v < 16) (a : Int32) : ∃ y, f_X10_chainOf hm (nI v) a = some y ∧ LinkI E S v a y := by
  unfold f_X10_chainOf
  by_cases hr : Rc E S nox v
  · have d16 := dp_16 (E := E) (S := S) v
    rw [if_neg (fun z => (h.r0 hv).mp z hr), gck_ni hv (by omega), nI_clamp (by omega), (h.2.2.1 v hv).1 hr, m_in0 (by omega)]
    by_cases c : ∃ k, k ≤ dp E S v ∧ a = nI k
    · rw [if_pos c, if_neg i1n0]
      obtain ⟨j, hj, rfl⟩ := c
      obtain ⟨y, ey, u, u1, u2, u3, u4⟩ := lp_run (step := f_X10_chainOf_L29 hm (nI j)) (fun s => ∃ u, u < 16 ∧ s = nI u ∧ Up E S u v ∧ j ≤ dp E S u) (fun s => dp E S s.toNatClampNeg) (fun y => ∃ u, u < 16 ∧ y = nI u ∧ Up E S u v ∧ dp E S u = j) (by
        rintro s ⟨u, u1, rfl, u2, u3⟩
        have hru := u2.rx hr
        have du := dp_16 (E := E) (S := S) u
        unfold f_X10_chainOf_L29
        rw [gck_ni u1 (by omega), nI_clamp (by omega), (h.2.2.1 u u1).1 hru]
        by_cases c : dp E S u ≤ j
        · rw [if_pos (nI_le c (by omega))]
          exact Or.inr ⟨_, rfl, u, u1, rfl, u2, by omega⟩
        · rw [if_neg (nI_ge (by omega) (by omega)), gck_ni u1 (by omega)]
          simp only [lt]
          obtain ⟨g, hg, hd⟩ := dp_gate (E := E) (S := S) (v := u) (by omega)
          obtain ⟨k, hk, hK⟩ := IsK.ex hE hS hd
          have hdk := hK.dpk hE hS
          rw [(h.2.2.2 u u1).1 k hK]
          refine Or.inl ⟨_, rfl, ⟨k, hk, rfl, Up.tr (Or.inl hK.1) u2, by omega⟩, ?_⟩
          rw [nI_clamp (by omega)]
          omega) (k := 2000) (s := nI v) ⟨v, hv, rfl, Or.inr rfl, hj⟩ (by rw [nI_clamp (by omega)]; omega)
      rw [ey]
      refine ⟨_, rfl, fun z => absurd hr z, fun _ => ⟨fun w w1 w2 => ?_, fun z => absurd (by rw [u4]) (z u u3)⟩⟩
      have d2 := dp_16 (E := E) (S := S) w
      rw [nI_eq (by omega) (by omega)] at w2
      rw [u2, Up.one hE hS u3 w1 (by omega)]
    · rw [if_neg c, if_pos rfl]
      exact ⟨_, rfl, fun _ => rfl, fun _ => ⟨fun u u1 u2 => absurd ⟨_, u1.le hE hS, u2⟩ c, fun _ => rfl⟩⟩
  · rw [if_pos ((h.r0 hv).mpr hr)]
    exact ⟨_, rfl, fun _ => rfl, fun z => absurd z hr⟩
end
theorem M20_ok : M20 Rel := by
  rintro xc fa tr pm hm ⟨N, k, Ms, im, h⟩ a1 a2
  obtain ⟨hN, hC, hM, hz, hX, hG, hR⟩ := h.go
  obtain ⟨y, q, hr, c⟩ := one_node h a1
  unfold f_X10_chain f_X9_chain
  rcases c with ⟨i, hi, hi16, rfl, e, t, c⟩ | ⟨e, t, c⟩
  · rw [e, if_neg c]
    obtain ⟨z1, e1, l1⟩ := link_ok (hN.e16n (k1 := 100) (k2 := 100)) hN.s16 hG hi16 a2
    obtain ⟨z2, e2, l2⟩ := chain_ok (hN.e16n (k1 := 100) (k2 := 100)) hN.s16 q.2.2.1 hi16 a2
    rw [e1]
    simp only [Option.bind_some, if_true]
    rw [e2]
    exact ⟨_, rfl, _, rfl, hr.rel, agr_L t (l2.uniq l1)⟩
  · rw [e, if_pos c]
    simp only [Option.bind_some, if_neg i1n0]
    exact ⟨_, rfl, _, rfl, hr.rel, agr_R1 t⟩
/-- the deepest that both have -/
def ComI (E : Nat → Nat → Prop) (S : Nat → Prop) (a b : Nat) (y : Int32) : Prop :=
  ((¬ (Rc E S nox a ∧ Rc E S nox b)) → y = -1) ∧ (Rc E S nox a ∧ Rc E S nox b → (∃ u, Up E S u a ∧ Up E S u b ∧ y = nI u ∧ ∀ w, Up E S w a → Up E S w b → dp E S w ≤ dp E S u) ∨ ((∀ u, Up E S u a → ¬ Up E S u b) ∧ y = -1))
theorem ComI.uniq {E : Nat → Nat → Prop} {S : Nat → Prop} {a b : Nat} {y z : Int32} (hE : E16 E) (hS : ∀ s, S s → s < 16) (h1 : ComI E S a b y) (h2 : ComI E S a b z) : y = z := by
  by_cases c : Rc E S nox a ∧ Rc E S nox b
  · rcases h1.2 c with ⟨u, u1, u2, u3, u4⟩ | ⟨u1, u2⟩ <;> rcases h2.2 c with ⟨w, w1, w2, w3, w4⟩ | ⟨w1, w2⟩
    · have := u4 w w1 w2
      have := w4 u u1 u2
      rw [u3, w3, Up.one hE hS u1 w1 (by omega)]
    · exact absurd u2 (w1 u u1)
    · exact absurd w2 (u1 w w1)
    · rw [u2, w2]
  · rw [h1.1 c, h2.1 c]
theorem M15_ok : M15 Rel := by
  rintro xc fa tr pm hm ⟨N, k, Ms, im, h⟩ a1 a2
  obtain ⟨hN, hC, hM, hz, hX, hG, hR⟩ := h.go
  obtain ⟨E, hE⟩ : ∃ E, Ed N 100 = E := ⟨_, rfl⟩
  obtain ⟨S, hS⟩ : ∃ S : Nat → Prop, (fun s => s = nRt N) = S := ⟨_, rfl⟩
  have hE16 : E16 E := by rw [← hE]; exact hN.e16n
  have hS16 : ∀ s, S s → s < 16 := by rw [← hS]; exact hN.s16
  obtain ⟨y, q, hr, c⟩ := one_node h a1
  unfold f_X10_common f_X9_common
  rcases c with ⟨i, hi, hi16, rfl, e, t, c⟩ | ⟨e, t, c⟩
  · rw [e, if_neg c]
    simp only [Option.bind_some, if_true]
    obtain ⟨y2, q2, hr2, c2⟩ := one_node hr a2
    rcases c2 with ⟨j, hj, hj16, rfl, e2, t2, c2⟩ | ⟨e2, t2, c2⟩
    · rw [e2, if_neg c2]
      simp only [Option.bind_some, if_true]
      have hF := q2.2.2.1
      have hG' := hG
      rw [hE, hS] at hF hG'
      obtain ⟨a1, a2⟩ := hG'.up hi16
      obtain ⟨b1, b2⟩ := hG'.up hj16
      obtain ⟨w, ew, w1, w2⟩ := deepest_ok (xc := xc) (g := fa) (fun v hv => (hG'.2.1 v hv).1) (f_X8_upTo fa xc (nI i) &&& f_X8_upTo fa xc (nI j)) a1.and
      have hb : ∀ x, x < 16 → (bt (f_X8_upTo fa xc (nI i) &&& f_X8_upTo fa xc (nI j)) x = true ↔ (Rc E S nox i ∧ Rc E S nox j) ∧ Up E S x i ∧ Up E S x j) := fun x hx => by
        rw [b_and, Bool.and_eq_true, a2 x hx, b2 x hx]
        exact ⟨fun z => ⟨⟨z.1.1, z.2.1⟩, z.1.2, z.2.2⟩, fun z => ⟨⟨z.1.1, z.2.1⟩, z.1.2, z.2.2⟩⟩
      have hcom : ComI E S i j w := by
        refine ⟨fun z => w1 fun v hv => ?_, fun z => ?_⟩
        · cases hb2 : bt (f_X8_upTo fa xc (nI i) &&& f_X8_upTo fa xc (nI j)) v with
          | false => rfl
          | true => exact absurd ((hb v hv).mp hb2).1 z
        · by_cases cc : ∃ x, x < 16 ∧ Up E S x i ∧ Up E S x j
          · obtain ⟨x, x1, x2, x3⟩ := cc
            obtain ⟨u, u1, u2, u3, u4⟩ := w2 x x1 ((hb x x1).mpr ⟨z, x2, x3⟩)
            obtain ⟨-, u5, u6⟩ := (hb u u1).mp u2
            refine Or.inl ⟨u, u5, u6, u3, fun v v1 v2 => ?_⟩
            have hv : v < 16 := (v1.rx z.1).lt hE16 hS16
            have := u4 v hv ((hb v hv).mpr ⟨z, v1, v2⟩)
            rw [ct_dm (hG'.2.1 v hv).2, ct_dm (hG'.2.1 u u1).2] at this
            exact this
          · have cc' : ∀ u, Up E S u i → ¬ Up E S u j := fun u u1 u2 => cc ⟨u, (u1.rx z.1).lt hE16 hS16, u1, u2⟩
            refine Or.inr ⟨cc', w1 fun v hv => ?_⟩
            cases hb2 : bt (f_X8_upTo fa xc (nI i) &&& f_X8_upTo fa xc (nI j)) v with
            | false => rfl
            | true => exact absurd ((hb v hv).mp hb2).2.2 (cc' v ((hb v hv).mp hb2).2.1)
      rw [ew]
      refine ⟨_, rfl, ?_⟩
      have j38 : f_X10_common_J38 y2 = some (-1, y2) := by
        unfold f_X10_common_J38
        rw [t2, if_pos (Int32.le_refl _)]
      by_cases r1 : Rc E S nox i
      · rw [if_neg (fun z => (hF.r0 hi16).mp z r1)]
        by_cases r2 : Rc E S nox j
        · rw [if_neg (fun z => (hF.r0 hj16).mp z r2), gck_ni hi16 (by omega), gck_ni hj16 (by omega), nI_clamp (by omega), nI_clamp (by omega)]
          simp only [lt]
          obtain ⟨s, es⟩ : ∃ s, (y2 86 i ||| 1 <<< (nI i &&& 31)) &&& (y2 86 j ||| 1 <<< (nI j &&& 31)) = s := ⟨_, rfl⟩
          rw [es]
          have hs : ∀ x, x < 16 → (bt s x = true ↔ Up E S x i ∧ Up E S x j) := fun x hx => by
            rw [← es, b_and, Bool.and_eq_true, (bt_set hi16 (hF.2.1 i hi16).1).2, (bt_set hj16 (hF.2.1 j hj16).1).2, (hF.2.1 i hi16).2 x hx, (hF.2.1 j hj16).2 x hx]
            exact Iff.rfl
          have key : ∃ z, lp (f_X10_common_L79 y2 s) 2000 (-1, 0) = some z ∧ ComI E S i j z := by
            refine lp_for (step := f_X10_common_L79 y2 s) (nN N) (fun n t => t.2 = nI n ∧ ((∃ u, u < n ∧ Up E S u i ∧ Up E S u j ∧ t.1 = nI u ∧ ∀ w, w < n → Up E S w i → Up E S w j → dp E S w ≤ dp E S u) ∨ ((∀ u, u < n → Up E S u i → ¬ Up E S u j) ∧ t.1 = -1))) _ ?_ ?_ ⟨rfl, Or.inr ⟨fun u hu => by omega, rfl⟩⟩ (by have := hN.n16; omega)
            · rintro n ⟨f, c⟩ hn ⟨h0, h1⟩
              simp only at h0 h1
              subst h0
              have hn16 : n < 16 := by have := hN.n16; omega
              unfold f_X10_common_L79
              rw [m_nodes q2.2.1]
              simp only [Option.bind_some, lt]
              rw [if_neg (by rw [nI_leI (by have := hN.n16; omega) (by omega)]; omega)]
              by_cases hb2 : bt s n = true
              · rw [if_neg (by rw [holds0 _ (by omega), hb2]; decide)]
                obtain ⟨n1, n2⟩ := (hs n hn16).mp hb2
                rcases h1 with ⟨u, u1, u2, u3, u4, u5⟩ | ⟨u1, u2⟩
                · have hu16 : u < 16 := by omega
                  rw [if_neg (by rw [u4]; exact nI_ne_m1 (by omega)), u4, gck_ni hn16 (by omega), gck_ni hu16 (by omega), nI_clamp (by omega), nI_clamp (by omega), (hF.2.2.1 n hn16).1 (n1.rx r1), (hF.2.2.1 u hu16).1 (u2.rx r1)]
                  have d16n := dp_16 (E := E) (S := S) n
                  have d16u := dp_16 (E := E) (S := S) u
                  by_cases hle : dp E S n ≤ dp E S u
                  · rw [if_pos (nI_le hle (by omega))]
                    refine ⟨_, rfl, nI_1 n, Or.inl ⟨u, by omega, u2, u3, rfl, fun w hw w1 w2 => ?_⟩⟩
                    rcases Nat.lt_or_ge w n with o | o
                    · exact u5 w o w1 w2
                    · rw [show w = n by omega]; exact hle
                  · rw [if_neg (nI_ge (by omega) (by omega))]
                    refine ⟨_, rfl, nI_1 n, Or.inl ⟨n, by omega, n1, n2, rfl, fun w hw w1 w2 => ?_⟩⟩
                    rcases Nat.lt_or_ge w n with o | o
                    · have := u5 w o w1 w2; omega
                    · rw [show w = n by omega]; exact Nat.le_refl _
                · rw [if_pos u2]
                  refine ⟨_, rfl, nI_1 n, Or.inl ⟨n, by omega, n1, n2, rfl, fun w hw w1 w2 => ?_⟩⟩
                  rcases Nat.lt_or_ge w n with o | o
                  · exact absurd w2 (u1 w o w1)
                  · rw [show w = n by omega]; exact Nat.le_refl _
              · rw [if_pos (by rw [holds0 _ (by omega)]; simpa using hb2)]
                have hno : Up E S n i → ¬ Up E S n j := fun z1 z2 => hb2 ((hs n hn16).mpr ⟨z1, z2⟩)
                refine ⟨_, rfl, nI_1 n, ?_⟩
                rcases h1 with ⟨u, u1, u2, u3, u4, u5⟩ | ⟨u1, u2⟩
                · refine Or.inl ⟨u, by omega, u2, u3, u4, fun w hw w1 w2 => ?_⟩
                  rcases Nat.lt_or_ge w n with o | o
                  · exact u5 w o w1 w2
                  · have : w = n := by omega
                    subst this
                    exact absurd w2 (hno w1)
                · refine Or.inr ⟨fun w hw w1 => ?_, u2⟩
                  rcases Nat.lt_or_ge w n with o | o
                  · exact u1 w o w1
                  · have : w = n := by omega
                    subst this
                    exact hno w1
            · rintro ⟨f, c⟩ ⟨h0, h1⟩
              simp only at h0 h1
              subst h0
              unfold f_X10_common_L79
              rw [m_nodes q2.2.1]
              simp only [Option.bind_some]
              rw [if_pos (Int32.le_refl _)]
              have hRn : ∀ u, Up E S u i → u < nN N := fun u hu => by
                have := hu.rx r1
                rw [← hE, ← hS] at this
                exact hN.rn this
              refine ⟨f, rfl, fun z => absurd ⟨r1, r2⟩ z, fun _ => ?_⟩
              rcases h1 with ⟨u, u1, u2, u3, u4, u5⟩ | ⟨u1, u2⟩
              · exact Or.inl ⟨u, u2, u3, u4, fun w w1 w2 => u5 w (hRn w w1) w1 w2⟩
              · exact Or.inr ⟨fun u hu => u1 u (hRn u hu) hu, u2⟩
          obtain ⟨z, ez, hz2⟩ := key
          rw [ez]
          exact ⟨_, rfl, hr2.rel, agr_L t2 (hz2.uniq hE16 hS16 hcom)⟩
        · rw [if_pos ((hF.r0 hj16).mpr r2), j38]
          exact ⟨_, rfl, hr2.rel, agr_L t2 (hcom.1 (fun z => r2 z.2)).symm⟩
      · rw [if_pos ((hF.r0 hi16).mpr r1), j38]
        exact ⟨_, rfl, hr2.rel, agr_L t2 (hcom.1 (fun z => r1 z.1)).symm⟩
    · rw [e2, if_pos c2]
      simp only [Option.bind_some, if_neg i1n0]
      have j38 : f_X10_common_J38 y2 = some (0, y2) := by
        unfold f_X10_common_J38
        rw [t2, if_neg (by decide)]
      rw [j38]
      exact ⟨_, rfl, _, rfl, hr2.rel, agr_R1 t2⟩
  · rw [e, if_pos c]
    simp only [Option.bind_some, if_neg i1n0]
    have j38 : f_X10_common_J38 y = some (0, y) := by
      unfold f_X10_common_J38
      rw [t, if_neg (by decide)]
    rw [j38]
    exact ⟨_, rfl, _, rfl, hr.rel, agr_R1 t⟩
