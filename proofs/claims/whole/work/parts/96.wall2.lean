/-! THE WALL: cuts and nodes left out -/
def Sp (N : aN) (n : Nat) (Y : Nat → Prop) : Prop := (∀ v, Y v → v < nN N ∧ v ≠ n ∧ v ≠ nRt N) ∧ ¬ Rc (Ed N 100) (fun s => s = nRt N) Y n
noncomputable def cN (Y : Nat → Prop) : Nat := fb_ct (fun v => cb (Y v)) 16
/-- so many are to be left out -/
def WlI (N : aN) (n f : Nat) : Prop := (∀ Y : Nat → Prop, Sp N n Y → f ≤ cN Y) ∧ ∃ Y : Nat → Prop, Sp N n Y ∧ cN Y ≤ f
theorem WlI.uniq {N : aN} {n f f' : Nat} (h : WlI N n f) (h' : WlI N n f') : f = f' := by
  obtain ⟨h1, Y, h2, h3⟩ := h
  obtain ⟨h1', Y', h2', h3'⟩ := h'
  have := h1 Y' h2'
  have := h1' Y h2
  omega
section
variable {N : aN} {n : Nat}
/-- the column of b in a cut -/
noncomputable def col (N : aN) (n : Nat) (X : Nat → Bool) (b : Nat) : Nat := fb_sm (fun a => if (X a && !X b) = true then RW N n a b else 0) 32
theorem cs_col (X : Nat → Bool) : cs (RW N n) X = fb_sm (col N n X) 16 + fb_sm (fun b => col N n X (16 + b)) 16 := by
  have e : cs (RW N n) X = fb_sm (col N n X) (16 + 16) := rfl
  rw [e, fb_sm_split]
theorem col_0 {X : Nat → Bool} {b : Nat} (h : ∀ a, a < 32 → WE N n a b → X a = true → X b = false → False) : col N n X b = 0 := by
  unfold col
  refine (fb_sm_cong (g := fun _ => 0) fun a ha => ?_).trans (by rw [fb_sm_const])
  by_cases c : (X a && !X b) = true
  · rw [if_pos c]
    rw [Bool.and_eq_true, Bool.not_eq_true'] at c
    unfold RW
    rw [if_neg (fun z => h a ha (cb_t.mp z) c.1 c.2)]
  · rw [if_neg c]
theorem RW_1 {a b : Nat} (h : WE N n a b) : RW N n a b = 1 := if_pos (cb_t.mpr h)
theorem col_1 {X : Nat → Bool} {a b : Nat} (ha : a < 32) (h1 : WE N n a b) (h2 : X a = true) (h3 : X b = false) : 1 ≤ col N n X b := by
  have h := fb_sm_part (fun a => if (X a && !X b) = true then RW N n a b else 0) ha
  have e : (if (X a && !X b) = true then RW N n a b else 0) = 1 := by rw [if_pos (by rw [h2, h3]; rfl), RW_1 h1]
  unfold col
  rw [e] at h
  omega
theorem cut_of_sep (hN : aOk N) (hn : n < nN N) {Y : Nat → Prop} (h : Sp N n Y) : ∃ X : Nat → Bool, X (nRt N + 16) = true ∧ X n = false ∧ cs (RW N n) X ≤ cN Y := by
  have hr := hN.r16
  have hn16 := hN.n16
  have hE : E16 (Ed N 100) := hN.e16n (k1 := 100) (k2 := 100)
  obtain ⟨R, eR⟩ : ∃ R, Rc (Ed N 100) (fun s => s = nRt N) Y = R := ⟨_, rfl⟩
  have hroot : R (nRt N) := by
    rw [← eR]
    exact Rc.base rfl (fun z => (h.1 _ z).2.2 rfl)
  have hstep : ∀ u w, R u → Ed N 100 u w → ¬ Y w → R w := fun u w a b c => by
    rw [← eR] at a ⊢
    exact a.step b c
  have hnR : ¬ R n := by
    rw [← eR]
    exact h.2
  obtain ⟨X, eX⟩ : ∃ X : Nat → Bool, (fun a => if a < 16 then cb (R a ∨ Y a) else cb (R (a - 16))) = X := ⟨_, rfl⟩
  have X1 : ∀ a, a < 16 → X a = cb (R a ∨ Y a) := fun a ha => by
    rw [← eX]
    exact if_pos ha
  have X2 : ∀ a, X (a + 16) = cb (R a) := fun a => by
    rw [← eX]
    show (if a + 16 < 16 then cb (R (a + 16) ∨ Y (a + 16)) else cb (R (a + 16 - 16))) = cb (R a)
    rw [if_neg (by omega), Nat.add_sub_cancel]
  refine ⟨X, ?_, ?_, ?_⟩
  · rw [X2]
    exact cb_t.mpr hroot
  · rw [X1 n (by omega)]
    exact cb_f.mpr fun z => z.elim hnR (fun q => (h.1 n q).2.1 rfl)
  · rw [cs_col]
    have e1 : fb_sm (col N n X) 16 = 0 := by
      refine (fb_sm_cong (g := fun _ => 0) fun b hb => ?_).trans (by rw [fb_sm_const])
      refine col_0 fun a ha hw h1 h2 => ?_
      rw [X1 b hb] at h2
      have h3 := cb_f.mp h2
      rcases hw with ⟨-, -, -, e⟩ | ⟨u, rfl, -, he⟩
      · omega
      · rw [X2] at h1
        have h4 := cb_t.mp h1
        by_cases c : Y b
        · exact h3 (Or.inr c)
        · exact h3 (Or.inl (hstep u b h4 he c))
    rw [e1, Nat.zero_add]
    unfold cN
    rw [← fb_sm_ct]
    refine fb_sm_le fun b hb => ?_
    by_cases c : Y b
    · rw [if_pos (cb_t.mpr c)]
      unfold col
      have hle : fb_sm (fun a => if (X a && !X (16 + b)) = true then RW N n a (16 + b) else 0) 32 ≤ fb_sm (fun a => if a = b then 1 else 0) 32 := fb_sm_le fun a _ => by
        by_cases e : a = b
        · rw [if_pos e]
          split
          · exact cb10
          · omega
        · rw [if_neg e]
          split
          · unfold RW
            rw [if_neg]
            · omega
            · intro z
              rcases cb_t.mp z with ⟨-, -, -, q⟩ | ⟨u, -, -, q⟩
              · omega
              · have := (hE _ _ q).2
                omega
          · omega
      have h2 := fb_sm_upd (fun _ => 0) 1 (i := b) (n := 32) (by omega)
      rw [fb_sm_const] at h2
      have e : fb_sm (fun k => if k = b then 1 else (fun _ => 0) k) 32 = fb_sm (fun a => if a = b then 1 else 0) 32 := rfl
      rw [e] at h2
      have h3 : fb_sm (fun a => if a = b then 1 else 0) 32 + 0 = 32 * 0 + 1 := h2
      omega
    · rw [if_neg (fun z => c (cb_t.mp z)), col_0]
      · omega
      · intro a ha hw h1 h2
        rcases hw with ⟨q1, -, -, q⟩ | ⟨u, -, -, q⟩
        · have e : a = b := by omega
          subst e
          rw [X1 a hb] at h1
          rw [Nat.add_comm, X2] at h2
          exact (cb_t.mp h1).elim (cb_f.mp h2) c
        · have := (hE _ _ q).2
          omega
theorem sep_of_cut (hN : aOk N) (hn : n < nN N) (hne : n ≠ nRt N) (hnd : ¬ Ed N 100 (nRt N) n) {X : Nat → Bool} (hs : X (nRt N + 16) = true) (ht : X n = false) : ∃ Y : Nat → Prop, Sp N n Y ∧ cN Y ≤ cs (RW N n) X := by
  have hr := hN.r16
  have hn16 := hN.n16
  have hE : E16 (Ed N 100) := hN.e16n (k1 := 100) (k2 := 100)
  obtain ⟨Y, eY⟩ : ∃ Y : Nat → Prop, (fun v => v < nN N ∧ v ≠ n ∧ v ≠ nRt N ∧ ((X v = true ∧ X (v + 16) = false) ∨ (X v = false ∧ ∃ u, u ≠ v ∧ X (u + 16) = true ∧ Ed N 100 u v) ∨ (X (v + 16) = true ∧ Ed N 100 v n))) = Y := ⟨_, rfl⟩
  have hY : ∀ v, Y v ↔ v < nN N ∧ v ≠ n ∧ v ≠ nRt N ∧ ((X v = true ∧ X (v + 16) = false) ∨ (X v = false ∧ ∃ u, u ≠ v ∧ X (u + 16) = true ∧ Ed N 100 u v) ∨ (X (v + 16) = true ∧ Ed N 100 v n)) := fun v => by
    rw [← eY]
  refine ⟨Y, ⟨fun v hv => ?_, fun hR => ?_⟩, ?_⟩
  · have := (hY v).mp hv
    exact ⟨this.1, this.2.1, this.2.2.1⟩
  · have key : X (n + 16) = true ∧ n ≠ n := hR.ind (P := fun v => X (v + 16) = true ∧ v ≠ n) (fun s p _ => by
      rw [p]
      exact ⟨hs, fun z => hne z.symm⟩) (fun u w hu hp he hw => by
      have hwn : w ≠ n := fun e => by
        rw [e] at he
        by_cases c : u = nRt N
        · rw [c] at he
          exact hnd he
        · exact hu.notX ((hY u).mpr ⟨he.un hN, hp.2, c, Or.inr (Or.inr ⟨hp.1, he⟩)⟩)
      refine ⟨?_, hwn⟩
      by_cases c : w = nRt N
      · rw [c]
        exact hs
      · by_cases d : u = w
        · rw [← d]
          exact hp.1
        · have hX : X w = true := by
            cases hb : X w with
            | true => rfl
            | false => exact absurd ((hY w).mpr ⟨he.vn hN, hwn, c, Or.inr (Or.inl ⟨hb, u, d, hp.1, he⟩)⟩) hw
          cases hb : X (w + 16) with
          | true => rfl
          | false => exact absurd ((hY w).mpr ⟨he.vn hN, hwn, c, Or.inl ⟨hX, hb⟩⟩) hw)
    exact key.2 rfl
  · rw [cs_col]
    obtain ⟨c3, e3⟩ : ∃ c3 : Nat → Nat, (fun v => if cb (X (v + 16) = true ∧ v ≠ n ∧ Ed N 100 v n) = true then 1 else 0) = c3 := ⟨_, rfl⟩
    have h3 : ∀ v, c3 v = if cb (X (v + 16) = true ∧ v ≠ n ∧ Ed N 100 v n) = true then 1 else 0 := fun v => by rw [← e3]
    obtain ⟨g, eg⟩ : ∃ g : Nat → Nat, (fun b => if b = n then 0 else col N n X b) = g := ⟨_, rfl⟩
    have hg : ∀ b, b ≠ n → g b = col N n X b := fun b hb => by
      rw [← eg]
      exact if_neg hb
    have e1 := fb_sm_upd (col N n X) 0 (i := n) (n := 16) (by omega)
    rw [eg] at e1
    have e2 : fb_sm c3 16 ≤ col N n X n := by
      have e : col N n X n = fb_sm (fun a => if (X a && !X n) = true then RW N n a n else 0) (16 + 16) := rfl
      rw [e, fb_sm_split]
      refine Nat.le_trans (fb_sm_le fun v hv => ?_) (Nat.le_add_left _ _)
      rw [h3]
      by_cases c : X (v + 16) = true ∧ v ≠ n ∧ Ed N 100 v n
      · rw [if_pos (cb_t.mpr c)]
        have c1 := c.1
        rw [Nat.add_comm] at c1
        rw [c1, ht, RW_1 (Or.inr ⟨v, Nat.add_comm _ _, fun z => c.2.1 z.symm, c.2.2⟩)]
        exact Nat.le_refl _
      · rw [if_neg (fun z => c (cb_t.mp z))]
        exact Nat.zero_le _
    have e4 : cN Y ≤ fb_sm (fun b => (g b + col N n X (16 + b)) + c3 b) 16 := by
      unfold cN
      rw [← fb_sm_ct]
      refine fb_sm_le fun v hv => ?_
      by_cases c : Y v
      · rw [if_pos (cb_t.mpr c)]
        obtain ⟨d1, d2, d3, d4⟩ := (hY v).mp c
        rcases d4 with ⟨d4, d5⟩ | ⟨d4, u, d5, d6, d7⟩ | ⟨d4, d5⟩
        · have := col_1 (N := N) (n := n) (X := X) (a := v) (b := 16 + v) (by omega) (Or.inl ⟨d1, d3, d2, Nat.add_comm _ _⟩) d4 (by rw [Nat.add_comm]; exact d5)
          omega
        · have hu := (hE _ _ d7).1
          have := col_1 (N := N) (n := n) (X := X) (a := u + 16) (b := v) (by omega) (Or.inr ⟨u, rfl, fun z => d5 z.symm, d7⟩) d6 d4
          rw [← hg v d2] at this
          omega
        · have := h3 v
          rw [if_pos (cb_t.mpr ⟨d4, d2, d5⟩)] at this
          omega
      · rw [if_neg (fun z => c (cb_t.mp z))]
        exact Nat.zero_le _
    rw [fb_sm_add, fb_sm_add] at e4
    omega
theorem wl_of (hN : aOk N) (hn : n < nN N) (hne : n ≠ nRt N) (hnd : ¬ Ed N 100 (nRt N) n) {f : Nat} (h : MinC (nRt N + 16) n (RW N n) f) : WlI N n f := by
  refine ⟨fun Y hY => ?_, ?_⟩
  · obtain ⟨X, h1, h2, h3⟩ := cut_of_sep hN hn hY
    have := h.1 X h1 h2
    omega
  · obtain ⟨X, h1, h2, h3⟩ := h.2
    obtain ⟨Y, h4, h5⟩ := sep_of_cut hN hn hne hnd h1 h2
    exact ⟨Y, h4, by omega⟩
end
/-! THE REFERENCE'S WALL -/
/-- a set as a number -/
def mkN (p : Nat → Bool) : Nat → Nat
  | 0 => 0
  | k + 1 => if p k = true then mkN p k ||| 2 ^ k else mkN p k
theorem mkN_ok (p : Nat → Bool) : ∀ k, mkN p k < 2 ^ k ∧ ∀ i, (mkN p k).testBit i = (decide (i < k) && p i)
  | 0 => ⟨Nat.zero_lt_one, fun i => by
    show Nat.testBit 0 i = _
    rw [Nat.zero_testBit]
    simp⟩
  | k + 1 => by
    obtain ⟨h1, h2⟩ := mkN_ok p k
    have h3 : 2 ^ k < 2 ^ (k + 1) := by
      rw [Nat.pow_succ]
      have := Nat.two_pow_pos k
      omega
    by_cases c : p k = true
    · rw [show mkN p (k + 1) = mkN p k ||| 2 ^ k from if_pos c]
      refine ⟨Nat.or_lt_two_pow (by omega) h3, fun i => ?_⟩
      rw [Nat.testBit_or, h2, Nat.testBit_two_pow]
      by_cases d : i = k
      · subst d
        simp [c]
      · rw [show decide (k = i) = false from decide_eq_false (fun z => d z.symm), Bool.or_false]
        congr 1
        apply Bool.eq_iff_iff.mpr
        rw [decide_eq_true_iff, decide_eq_true_iff]
        omega
    · rw [show mkN p (k + 1) = mkN p k from if_neg c]
      refine ⟨by omega, fun i => ?_⟩
      rw [h2]
      by_cases d : i = k
      · subst d
        simp [c]
      · congr 1
        apply Bool.eq_iff_iff.mpr
        rw [decide_eq_true_iff, decide_eq_true_iff]
        omega
theorem shl_n : ∀ k, k < 17 → (1 : Int32) <<< (nI k &&& 31) = nI (2 ^ k) := by decide +kernel
section
variable {N : aN} {hm y : gIH}
theorem wall_l1 (hN : aOk N) (hM : MNet y 82 0 N) {n : Nat} (hn : n < nN N) : ∃ r, lp (f_X10_wallOf_L12 y (nI n)) 2000 (0 : Int32) = some r ∧ ((r = .inl () ∧ Ed N 100 (nRt N) n) ∨ (r = .inr () ∧ ¬ Ed N 100 (nRt N) n)) := by
  have h60 := hN.m60
  have hr := hN.r16
  have hn16 := hN.n16
  refine lp_forx (step := f_X10_wallOf_L12 y (nI n)) (nM N) (fun j s => s = nI j ∧ ∀ a, a < j → ¬ (nO N a = true ∧ nF N a = nRt N ∧ nT N a = n)) _ ?_ ?_ ⟨rfl, fun a ha => absurd ha (by omega)⟩ (by omega)
  · rintro j s hj ⟨rfl, h1⟩
    have f16 := hN.f16 hj
    have t16 := hN.t16 hj
    have next : ¬ (nO N j = true ∧ nF N j = nRt N ∧ nT N j = n) → ∀ a, a < j + 1 → ¬ (nO N a = true ∧ nF N a = nRt N ∧ nT N a = n) := fun h a ha => by
      rcases Nat.lt_or_ge a j with q | q
      · exact h1 a q
      · rw [show a = j by omega]
        exact h
    unfold f_X10_wallOf_L12
    rw [m_arcs hM]
    simp only [Option.bind_some]
    rw [if_neg (nI_ge hj (by omega)), m_open hN hM hj]
    simp only [Option.bind_some, lt]
    by_cases ho : nO N j = true
    · rw [if_pos ho, if_neg i1n0, m_from hN hM hj]
      simp only [Option.bind_some]
      rw [m_root hM]
      simp only [Option.bind_some]
      by_cases c : nF N j = nRt N
      · rw [if_pos (by rw [c]), m_to hN hM hj]
        simp only [Option.bind_some]
        by_cases d : nT N j = n
        · right
          rw [if_pos (by rw [d])]
          exact ⟨_, rfl, Or.inl ⟨rfl, Or.inl ⟨j, hj, ho, by omega, by omega, c, d⟩⟩⟩
        · left
          rw [if_neg (fun z => d ((nI_eq (by omega) (by omega)).mp z))]
          exact ⟨_, rfl, nI_1 j, next fun z => d z.2.2⟩
      · left
        rw [if_neg (fun z => c ((nI_eq (by omega) (by omega)).mp z))]
        exact ⟨_, rfl, nI_1 j, next fun z => c z.2.1⟩
    · left
      rw [if_neg ho, if_pos rfl]
      exact ⟨_, rfl, nI_1 j, next fun z => ho z.1⟩
  · rintro s ⟨rfl, h1⟩
    unfold f_X10_wallOf_L12
    rw [m_arcs hM]
    simp only [Option.bind_some]
    rw [if_pos (nI_le (Nat.le_refl _) (by omega))]
    refine ⟨_, rfl, Or.inr ⟨rfl, ?_⟩⟩
    rintro (⟨a, a1, a2, -, -, a3, a4⟩ | z)
    · exact h1 a a1 ⟨a2, a3, a4⟩
    · cases z
theorem wall_l2 (hN : aOk N) (q : QM N hm y) {n : Nat} (hn : n < nN N) (hne : n ≠ nRt N) (hnd : ¬ Ed N 100 (nRt N) n) {others : Int32} (ho : ∀ v, v < 32 → (bt others v = true ↔ v < nN N ∧ v ≠ n ∧ v ≠ nRt N)) :
    ∃ r, lp (f_X10_wallOf_L87 y (nI n) others) 70000 ((16 : Int32), (0 : Int32)) = some r ∧ ∃ f, r = nI f ∧ WlI N n f := by
  have hM := q.2.1
  have hr := hN.r16
  have hn16 := hN.n16
  have hE : E16 (Ed N 100) := hN.e16n (k1 := 100) (k2 := 100)
  have hpow : 2 ^ nN N ≤ 65536 := by
    have := Nat.pow_le_pow_right (show 0 < 2 by omega) hn16
    exact this
  obtain ⟨Z, eZ⟩ : ∃ Z : Nat → Nat → Prop, (fun i v => (nI i |> fun s => bt s v) = true) = Z := ⟨_, rfl⟩
  have hZ : ∀ i v, Z i v ↔ bt (nI i) v = true := fun i v => by rw [← eZ]
  have hct : ∀ i, cN (Z i) = fb_ct (bt (nI i)) 16 := fun i => by
    unfold cN
    refine fb_ct_cong fun v _ => ?_
    apply Bool.eq_iff_iff.mpr
    rw [cb_t]
    exact hZ i v
  have hsub : ∀ i, ((nI i) &&& (others ^^^ (-1 : Int32))) = 0 ↔ ∀ v, Z i v → v < nN N ∧ v ≠ n ∧ v ≠ nRt N := fun i => by
    rw [b_zero]
    constructor
    · intro h v hv
      have hv := (hZ i v).mp hv
      have hv32 : v < 32 := by
        rcases Nat.lt_or_ge v 32 with p | p
        · exact p
        · rw [b_big p] at hv
          cases hv
      have h2 := h v hv32
      rw [b_and, bt_not _ hv32, hv] at h2
      have h3 : bt others v = true := by simpa using h2
      exact (ho v hv32).mp h3
    · intro h v hv
      rw [b_and, bt_not _ hv]
      cases hb : bt (nI i) v with
      | false => rfl
      | true =>
        rw [(ho v hv).mpr (h v ((hZ i v).mpr hb))]
        rfl
  have hrc : ∀ i, ∃ s, f_X10_reachedBut y (nI i) (-1) = some s ∧ (bt s n = true ↔ Rc (Ed N 100) (fun s => s = nRt N) (Z i) n) := fun i => by
    obtain ⟨s, e, -, h3⟩ := m_reachedBut hN hM 100 100 (by rw [q.2.2.2.2]; rfl) none q.2.2.2.1 (nI i)
    refine ⟨s, e, ?_⟩
    rw [h3 n (by omega)]
    exact Rc.congr (fun _ _ => Iff.rfl) (fun _ => Iff.rfl) (fun v => (hZ i v).symm)
  refine lp_forx (step := f_X10_wallOf_L87 y (nI n) others) (2 ^ nN N)
    (fun i s => s.2 = nI i ∧ ∃ l, s.1 = nI l ∧ l ≤ 16 ∧ (∀ j, j < i → Sp N n (Z j) → l ≤ cN (Z j)) ∧ (l = 16 ∨ ∃ Y : Nat → Prop, Sp N n Y ∧ cN Y ≤ l)) _ ?_ ?_ ⟨rfl, 16, rfl, by omega, fun j hj => absurd hj (by omega), Or.inl rfl⟩ (by omega)
  · rintro i ⟨a, k⟩ hi ⟨h0, l, h1, h2, h3, h4⟩
    dsimp only at h0 h1
    subst h0 h1
    left
    have stay : ¬ (Sp N n (Z i) ∧ cN (Z i) < l) → ∃ l', nI l = nI l' ∧ l' ≤ 16 ∧ (∀ j, j < i + 1 → Sp N n (Z j) → l' ≤ cN (Z j)) ∧ (l' = 16 ∨ ∃ Y : Nat → Prop, Sp N n Y ∧ cN Y ≤ l') := fun hz => by
      refine ⟨l, rfl, h2, fun j hj hs => ?_, h4⟩
      rcases Nat.lt_or_ge j i with p | p
      · exact h3 j p hs
      · have e : j = i := by omega
        rw [e] at hs ⊢
        rcases Nat.lt_or_ge (cN (Z i)) l with p2 | p2
        · exact absurd ⟨hs, p2⟩ hz
        · exact p2
    unfold f_X10_wallOf_L87
    dsimp only
    rw [m_nodes hM]
    simp only [Option.bind_some]
    rw [shl_n _ (by omega), if_neg (nI_ge hi (by omega))]
    by_cases c : ∀ v, Z i v → v < nN N ∧ v ≠ n ∧ v ≠ nRt N
    · rw [if_pos ((hsub i).mpr c), bits_ct, ← hct]
      simp only [Option.bind_some]
      have h16 := fb_ct_le (fun v => cb (Z i v)) 16
      have h16 : cN (Z i) ≤ 16 := h16
      by_cases d : cN (Z i) < l
      · rw [if_pos (nI_lt d (by omega))]
        obtain ⟨s, es, hs⟩ := hrc i
        rw [es]
        simp only [Option.bind_some, lt]
        by_cases e : bt s n = true
        · rw [if_neg (fun z => by rw [holds0 _ (by omega)] at z; rw [z] at e; cases e)]
          exact ⟨_, rfl, nI_1 i, stay fun z => z.1.2 (hs.mp e)⟩
        · rw [if_pos ((holds0 _ (by omega)).mpr (by simpa using e))]
          have hsp : Sp N n (Z i) := ⟨c, fun z => e (hs.mpr z)⟩
          refine ⟨_, rfl, nI_1 i, cN (Z i), rfl, h16, fun j hj hs => ?_, Or.inr ⟨Z i, hsp, Nat.le_refl _⟩⟩
          rcases Nat.lt_or_ge j i with p | p
          · have := h3 j p hs
            omega
          · rw [show j = i by omega]
            exact Nat.le_refl _
      · rw [if_neg (nI_nlt (by omega) (by omega))]
        exact ⟨_, rfl, nI_1 i, stay fun z => d z.2⟩
    · rw [if_neg (fun z => c ((hsub i).mp z))]
      exact ⟨_, rfl, nI_1 i, stay fun z => c z.1.1⟩
  · rintro ⟨a, k⟩ ⟨h0, l, h1, h2, h3, h4⟩
    dsimp only at h0 h1
    subst h0 h1
    unfold f_X10_wallOf_L87
    dsimp only
    rw [m_nodes hM]
    simp only [Option.bind_some]
    rw [shl_n _ (by omega), if_pos (nI_le (Nat.le_refl _) (by omega))]
    have low : ∀ Y : Nat → Prop, Sp N n Y → l ≤ cN Y := fun Y hY => by
      obtain ⟨k1, k2⟩ := mkN_ok (fun v => cb (Y v)) (nN N)
      have hYZ : ∀ v, Z (mkN (fun v => cb (Y v)) (nN N)) v ↔ Y v := fun v => by
        rw [hZ]
        constructor
        · intro z
          have hv32 : v < 32 := by
            rcases Nat.lt_or_ge v 32 with p | p
            · exact p
            · rw [b_big p] at z
              cases z
          rw [bt_nI _ hv32, k2, Bool.and_eq_true] at z
          exact cb_t.mp z.2
        · intro z
          have hv := (hY.1 v z).1
          rw [bt_nI _ (by omega), k2, Bool.and_eq_true, decide_eq_true_iff]
          exact ⟨hv, cb_t.mpr z⟩
      have eY : Z (mkN (fun v => cb (Y v)) (nN N)) = Y := funext fun v => propext (hYZ v)
      have := h3 _ k1 (by rw [eY]; exact hY)
      rw [eY] at this
      exact this
    refine ⟨_, rfl, l, rfl, low, ?_⟩
    rcases h4 with h4 | h4
    · -- all others, left out
      refine ⟨fun v => v < nN N ∧ v ≠ n ∧ v ≠ nRt N, ⟨fun v hv => hv, fun z => ?_⟩, ?_⟩
      · have key : n = nRt N := z.ind (P := fun v => v = nRt N) (fun s p _ => p) (fun u w _ hp he hw => by
          subst hp
          by_cases c : w = n
          · subst c
            exact absurd he hnd
          · apply Classical.byContradiction
            intro c2
            exact hw ⟨he.vn hN, c, c2⟩)
        exact hne key
      · rw [h4]
        exact fb_ct_le _ 16
    · exact h4
theorem wall_m (hN : aOk N) (q : QM N hm y) {n : Nat} (hn : n < nN N) : ∃ z, f_X10_wallOf y (nI n) = some z ∧ (((n = nRt N ∨ Ed N 100 (nRt N) n) ∧ z = -1) ∨ (n ≠ nRt N ∧ ¬ Ed N 100 (nRt N) n ∧ ∃ f, z = nI f ∧ WlI N n f)) := by
  have hM := q.2.1
  have hr := hN.r16
  have hn16 := hN.n16
  unfold f_X10_wallOf
  rw [m_root hM]
  simp only [Option.bind_some]
  by_cases c : n = nRt N
  · rw [if_pos (by rw [c])]
    exact ⟨_, rfl, Or.inl ⟨Or.inl c, rfl⟩⟩
  · rw [if_neg (fun z => c ((nI_eq (by omega) (by omega)).mp z))]
    obtain ⟨r, er, hr2⟩ := wall_l1 hN hM hn
    rw [er]
    simp only [Option.bind_some]
    rcases hr2 with ⟨rfl, d⟩ | ⟨rfl, d⟩
    · exact ⟨_, rfl, Or.inl ⟨Or.inr d, rfl⟩⟩
    · simp only [Sum.elim_inr]
      rw [m_nodes hM]
      simp only [Option.bind_some, lt]
      obtain ⟨r2, er2, f, rfl, hf⟩ := wall_l2 hN q hn c d (others := ((((1 : Int32) <<< (nI (nN N) &&& 31)) - (1 : Int32)) &&& (((1 : Int32) <<< (nI n &&& 31)) ^^^ (-1 : Int32))) &&& (((1 : Int32) <<< (nI (nRt N) &&& 31)) ^^^ (-1 : Int32))) (fun v hv => by
        have e1 : bt ((1 : Int32) <<< (nI (nN N) &&& 31) - 1) v = decide (v < nN N) := by
          rw [bt_pred (k := nN N) (by rw [bt_one (by omega) (by omega)]; simp) (fun j hj => by rw [bt_one (by omega) (by omega)]; simp; omega) hv, bt_one (by omega) hv]
          by_cases d1 : v < nN N
          · rw [if_pos d1, decide_eq_true d1]
          · rw [if_neg d1, decide_eq_false d1]
            by_cases d2 : v = nN N
            · rw [if_pos d2]
            · rw [if_neg d2, decide_eq_false d2]
        rw [b_and, b_and, bt_not _ hv, bt_not _ hv, bt_one (by omega) hv, bt_one (by omega) hv, e1, Bool.and_eq_true, Bool.and_eq_true, decide_eq_true_iff, Bool.not_eq_true', Bool.not_eq_true', decide_eq_false_iff_not, decide_eq_false_iff_not]
        exact ⟨fun z => ⟨z.1.1, z.1.2, z.2⟩, fun z => ⟨⟨z.1, z.2.1⟩, z.2.2⟩⟩)
      rw [er2]
      exact ⟨_, rfl, Or.inr ⟨c, d, f, rfl, hf⟩⟩
end
