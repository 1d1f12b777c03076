/-! ROW -/
/-- going through the numbers below n that have c, counting l down -/
def rwS (c : Nat → Bool) (l : Int32) : Nat → Nat ⊕ Int32
  | 0 => .inr l
  | j + 1 => Sum.elim (fun x => .inl x) (fun l => if c j = true then (if l = 0 then .inl j else .inr (l + -1)) else .inr l) (rwS c l j)
def rwO (c : Nat → Nat → Bool) (l : Int32) : Nat → Nat ⊕ Int32
  | 0 => .inr l
  | f + 1 => Sum.elim (fun x => .inl x) (fun l => rwS (c f) l 16) (rwO c l f)
theorem rwS_ext {c : Nat → Bool} {l : Int32} {n : Nat} (h : ∀ j, n ≤ j → c j = false) : ∀ d, rwS c l (n + d) = rwS c l n
  | 0 => rfl
  | d + 1 => by
    show Sum.elim _ _ (rwS c l (n + d)) = _
    rw [rwS_ext h d]
    cases e : rwS c l n with
    | inl x => rfl
    | inr x => show (if c (n + d) = true then _ else _) = _; rw [if_neg (by rw [h _ (by omega)]; decide)]
theorem rwS_lt {c : Nat → Bool} {l : Int32} {x : Nat} : ∀ {n : Nat}, rwS c l n = .inl x → x < n
  | 0, h => by cases h
  | n + 1, h => by
    have h : Sum.elim (fun x => .inl x) (fun l => if c n = true then (if l = 0 then .inl n else .inr (l + -1)) else .inr l) (rwS c l n) = (.inl x : Nat ⊕ Int32) := h
    cases e : rwS c l n with
    | inl y =>
      rw [e] at h
      cases h
      have := rwS_lt e
      omega
    | inr y =>
      rw [e] at h
      have h : (if c n = true then (if y = 0 then .inl n else .inr (y + -1)) else .inr y) = (.inl x : Nat ⊕ Int32) := h
      split at h
      · split at h
        · cases h; omega
        · cases h
      · cases h
/-- from a number that isn't below 0 it never goes below -/
theorem dec_pos {l : Int32} (h : 0 ≤ l) (h0 : l ≠ 0) : 0 ≤ l + -1 := by
  obtain ⟨j, hj, rfl⟩ := nI_of (x := l) (fun q => by
    have a := Int32.le_iff_toInt_le.mp h
    have b := Int32.lt_iff_toInt_lt.mp q
    omega)
  obtain ⟨i, rfl⟩ : ∃ i, j = i + 1 := ⟨j - 1, by
    rcases Nat.eq_zero_or_pos j with q | q
    · subst q; exact absurd rfl h0
    · omega⟩
  have : nI (i + 1) + -1 = nI i := by
    rw [← nI_pred i, ← Int32.sub_eq_add_neg]
  rw [this]
  exact nI_pos' (by omega)
theorem rwS_pos {c : Nat → Bool} {l m : Int32} (h : 0 ≤ l) : ∀ {n : Nat}, rwS c l n = .inr m → 0 ≤ m
  | 0, e => by cases e; exact h
  | n + 1, e => by
    have e : Sum.elim (fun x => .inl x) (fun l => if c n = true then (if l = 0 then .inl n else .inr (l + -1)) else .inr l) (rwS c l n) = (.inr m : Nat ⊕ Int32) := e
    cases e2 : rwS c l n with
    | inl y => rw [e2] at e; cases e
    | inr y =>
      rw [e2] at e
      have hy := rwS_pos h e2
      have e : (if c n = true then (if y = 0 then .inl n else .inr (y + -1)) else .inr y) = (.inr m : Nat ⊕ Int32) := e
      split at e
      · split at e
        · cases e
        · rename_i q
          rw [← Sum.inr.inj e]
          exact dec_pos hy q
      · rw [← Sum.inr.inj e]; exact hy
theorem rwO_pos {c : Nat → Nat → Bool} {l m : Int32} (h : 0 ≤ l) : ∀ {f : Nat}, rwO c l f = .inr m → 0 ≤ m
  | 0, e => by cases e; exact h
  | f + 1, e => by
    have e : Sum.elim (fun x => .inl x) (fun l => rwS (c f) l 16) (rwO c l f) = (.inr m : Nat ⊕ Int32) := e
    cases e2 : rwO c l f with
    | inl y => rw [e2] at e; cases e
    | inr y =>
      rw [e2] at e
      exact rwS_pos (rwO_pos h e2) e
/-- below 0 it never finds -/
def Neg (l : Int32) (b : Nat) (m : Int32) : Prop := ∃ d, d ≤ b ∧ m = l - nI d
theorem Neg.ne0 {l m : Int32} {b : Nat} (hl : l < 0) (hb : b ≤ 1000) (h : Neg l b m) : m ≠ 0 := by
  obtain ⟨d, hd, rfl⟩ := h
  intro q
  have h1 : l = nI d := by
    have := congrArg (fun z => z + nI d) q
    simpa [Int32.sub_add_cancel] using this
  rw [h1] at hl
  exact nI_pos (by omega) hl
theorem Neg.dec {l m : Int32} {b : Nat} (h : Neg l b m) : Neg l (b + 1) (m + -1) := by
  obtain ⟨d, hd, rfl⟩ := h
  refine ⟨d + 1, by omega, ?_⟩
  rw [← Int32.sub_eq_add_neg, Int32.sub_sub, nI_succ]
theorem Neg.mono {l m : Int32} {b b' : Nat} (h : Neg l b m) (hb : b ≤ b') : Neg l b' m := by
  obtain ⟨d, hd, e⟩ := h
  exact ⟨d, by omega, e⟩
theorem rwS_neg {c : Nat → Bool} {l k : Int32} {b : Nat} (hl : l < 0) (hk : Neg l b k) : ∀ {n : Nat}, b + n ≤ 1000 → ∃ m, rwS c k n = .inr m ∧ Neg l (b + n) m
  | 0, _ => ⟨k, rfl, hk⟩
  | n + 1, hn => by
    obtain ⟨m, e, h⟩ := rwS_neg (c := c) hl hk (n := n) (by omega)
    show ∃ m, Sum.elim _ _ (rwS c k n) = _ ∧ _
    rw [e]
    show ∃ m', (if c n = true then (if m = 0 then .inl n else .inr (m + -1)) else .inr m) = (.inr m' : Nat ⊕ Int32) ∧ _
    by_cases hc : c n = true
    · rw [if_pos hc, if_neg (h.ne0 hl (by omega))]
      exact ⟨_, rfl, h.dec⟩
    · rw [if_neg hc]
      exact ⟨_, rfl, h.mono (by omega)⟩
theorem rwO_neg {c : Nat → Nat → Bool} {l : Int32} (hl : l < 0) : ∀ {f : Nat}, f ≤ 16 → ∃ m, rwO c l f = .inr m ∧ Neg l (16 * f) m
  | 0, _ => ⟨l, rfl, 0, by omega, by rw [show nI 0 = 0 from rfl]; simp⟩
  | f + 1, hf => by
    obtain ⟨m, e, h⟩ := rwO_neg (c := c) hl (f := f) (by omega)
    show ∃ m, Sum.elim _ _ (rwO c l f) = _ ∧ _
    rw [e]
    obtain ⟨m2, e2, h2⟩ := rwS_neg (c := c f) hl h (n := 16) (by omega)
    exact ⟨m2, e2, h2.mono (by omega)⟩
def rwI (o : Nat ⊕ Int32) : Int32 := Sum.elim nI (fun _ => -1) o
theorem row_c {E : Nat → Nat → Prop} {r : Nat} {xc : gXH} {fa : Nat} (hE : E16 E) (hr : r < 16) (hX : NX xc (fa + 1) E) (h4 : xc.1 7 4 = nI r) (a : Int32) : f_X8_inRow fa xc a = some (rwI (rwO (fun f n => cb (Ds E r f n)) a 16)) := by
  unfold f_X8_inRow
  simp only [lt]
  rw [h4]
  by_cases hneg : a < 0
  · obtain ⟨m, em, -⟩ := rwO_neg (c := fun f n => cb (Ds E r f n)) hneg (f := 16) (by omega)
    rw [em]
    have : lp (f_X8_inRow_L19 fa xc) 2000 (f_X9_only (nI r), f_X9_only (nI r), a, 0) = some (.inr ()) := by
      show (f_X8_inRow_L19 fa xc (f_X9_only (nI r), f_X9_only (nI r), a, 0)).bind _ = _
      unfold f_X8_inRow_L19
      rw [if_neg (show ¬ (16 : Int32) ≤ 0 by decide), if_pos hneg]
      rfl
    rw [this]
    rfl
  have hpos : 0 ≤ a := Int32.not_lt.mp hneg
  have key : ∃ y, lp (f_X8_inRow_L19 fa xc) 2000 (f_X9_only (nI r), f_X9_only (nI r), a, 0) = some y ∧ Sum.elim (fun z => ∃ x, rwO (fun f n => cb (Ds E r f n)) a 16 = .inl x ∧ z = nI x) (fun _ => ∃ m, rwO (fun f n => cb (Ds E r f n)) a 16 = .inr m) y := by
    refine lp_forx (step := f_X8_inRow_L19 fa xc) 16 (fun j s => s.2.2.2 = nI j ∧ S16 s.1 ∧ S16 s.2.1 ∧ (∀ w, w < 16 → (bt s.1 w = true ↔ Ds E r j w)) ∧ (∀ w, w < 16 → (bt s.2.1 w = true ↔ Bk E r j w)) ∧ rwO (fun f n => cb (Ds E r f n)) a j = .inr s.2.2.1) _ ?_ ?_ ⟨rfl, s16_one hr, s16_one hr, fun w hw => ?_, fun w hw => bt_one16 hr w, rfl⟩ (by omega)
    · rintro j ⟨f, s, l, c⟩ hj ⟨h0, h1, h2, h3, h5, h6⟩
      simp only at h0 h1 h2 h3 h5 h6
      subst h0
      have hl0 := rwO_pos hpos h6
      unfold f_X8_inRow_L19
      rw [if_neg (ge16 hj)]
      dsimp only
      rw [if_neg (fun q => Int32.not_lt.mpr hl0 q)]
      have inner : ∃ y, lp (f_X8_inRow_L34 fa xc f s (nI j)) 2000 (l, 0) = some y ∧ Sum.elim (fun z => ∃ x, rwS (fun n => cb (Ds E r j n)) l 16 = .inl x ∧ z = nI x) (fun z => rwS (fun n => cb (Ds E r j n)) l 16 = .inr z) y := by
        refine lp_forx (step := f_X8_inRow_L34 fa xc f s (nI j)) 16 (fun n t => t.2 = nI n ∧ rwS (fun n => cb (Ds E r j n)) l n = .inr t.1) _ ?_ ?_ ⟨rfl, rfl⟩ (by omega)
        · rintro n ⟨t, c⟩ hn ⟨g0, g1⟩
          simp only at g0 g1
          subst g0
          have nx : rwS (fun n => cb (Ds E r j n)) l (n + 1) = if cb (Ds E r j n) = true then (if t = 0 then .inl n else .inr (t + -1)) else .inr t := by
            show Sum.elim _ _ (rwS _ l n) = _
            rw [g1]
            rfl
          unfold f_X8_inRow_L34
          rw [if_neg (ge16 hn)]
          simp only [lt]
          by_cases hb : bt f n = true
          · rw [if_neg (by rw [has0 _ (by omega), hb]; decide)]
            rw [if_pos (cb_t.mpr ((h3 n hn).mp hb))] at nx
            by_cases ht : t = 0
            · rw [if_pos ht]
              rw [if_pos ht] at nx
              right
              refine ⟨_, rfl, n, ?_, rfl⟩
              -- found: it stays so
              have : ∀ d, rwS (fun n => cb (Ds E r j n)) l (n + 1 + d) = .inl n := by
                intro d
                induction d with
                | zero => exact nx
                | succ d ih =>
                  show Sum.elim _ _ (rwS _ l (n + 1 + d)) = _
                  rw [ih]
                  rfl
              have h16 := this (16 - (n + 1))
              rwa [show n + 1 + (16 - (n + 1)) = 16 by omega] at h16
            · rw [if_neg ht]
              rw [if_neg ht] at nx
              exact Or.inl ⟨_, rfl, nI_1 n, nx⟩
          · rw [if_pos (by rw [has0 _ (by omega)]; simpa using hb)]
            rw [if_neg (fun z => hb ((h3 n hn).mpr (cb_t.mp z)))] at nx
            exact Or.inl ⟨_, rfl, nI_1 n, nx⟩
        · rintro ⟨t, c⟩ ⟨g0, g1⟩
          simp only at g0 g1
          subst g0
          unfold f_X8_inRow_L34
          rw [if_pos le16]
          exact ⟨_, rfl, g1⟩
      obtain ⟨y, ey, hy⟩ := inner
      rw [ey]
      simp only [Option.bind_some]
      have nx : rwO (fun f n => cb (Ds E r f n)) a (j + 1) = rwS (fun n => cb (Ds E r j n)) l 16 := by
        show Sum.elim _ _ (rwO _ a j) = _
        rw [h6]
        rfl
      cases y with
      | inl z =>
        obtain ⟨x, hx, rfl⟩ := hy
        right
        refine ⟨_, rfl, x, ?_, rfl⟩
        have : ∀ d, rwO (fun f n => cb (Ds E r f n)) a (j + 1 + d) = .inl x := by
          intro d
          induction d with
          | zero => exact nx.trans hx
          | succ d ih =>
            show Sum.elim _ _ (rwO _ a (j + 1 + d)) = _
            rw [ih]
            rfl
        have h16 := this (16 - (j + 1))
        rwa [show j + 1 + (16 - (j + 1)) = 16 by omega] at h16
      | inr z =>
        left
        have hy : rwS (fun n => cb (Ds E r j n)) l 16 = .inr z := hy
        obtain ⟨q, eq, q1, q2⟩ := step_c (fa := fa) hX f
        show ∃ s', (f_X8_step fa xc f).bind _ = _ ∧ _
        rw [eq]
        simp only [Option.bind_some, lt]
        have hB : ∀ w, w < 16 → (bt (s ||| (q &&& (s ^^^ (-1)))) w = true ↔ Bk E r (j + 1) w) := by
          intro w hw
          rw [b_or, b_and, bt_not _ (by omega), Bool.or_eq_true, Bool.and_eq_true, h5 w hw, q2 w hw]
          constructor
          · rintro (p | ⟨⟨u, u1, u2, u3⟩, -⟩)
            · exact Or.inl p
            · exact Or.inr ⟨u, ((h3 u u1).mp u2).1, u3⟩
          · rintro (p | ⟨u, u1, u2⟩)
            · exact Or.inl p
            · by_cases hw2 : Bk E r j w
              · exact Or.inl hw2
              · have hu16 := (hE _ _ u2).1
                have hd : Ds E r j u := ⟨u1, fun i hi p => hw2 (Bk.le (k := j) (j := i + 1) (Or.inr ⟨u, p, u2⟩) (by omega))⟩
                refine Or.inr ⟨⟨u, hu16, (h3 u hu16).mpr hd, u2⟩, ?_⟩
                cases hbs : bt s w with
                | false => rfl
                | true => exact absurd ((h5 w hw).mp hbs) hw2
        refine ⟨_, rfl, nI_1 j, q1.and, h2.or q1.and, fun w hw => ?_, hB, nx.trans hy⟩
        show bt (q &&& (s ^^^ (-1))) w = true ↔ _
        have hb2 := hB w hw
        rw [b_or, Bool.or_eq_true, h5 w hw] at hb2
        have hn : bt (q &&& (s ^^^ (-1))) w = true → ¬ Bk E r j w := fun p => by
          rw [b_and, bt_not _ (by omega), Bool.and_eq_true] at p
          intro p2
          rw [(h5 w hw).mpr p2] at p
          exact absurd p.2 (by decide)
        constructor
        · intro p
          exact ⟨hb2.mp (Or.inr p), fun i hi p2 => hn p (p2.le (by omega))⟩
        · intro p
          rcases hb2.mpr p.1 with p2 | p2
          · exact absurd p2 (p.2 j (by omega))
          · exact p2
    · rintro ⟨f, s, l, c⟩ ⟨h0, h1, h2, h3, h5, h6⟩
      simp only at h0 h1 h2 h3 h5 h6
      subst h0
      unfold f_X8_inRow_L19
      rw [if_pos le16]
      exact ⟨_, rfl, l, h6⟩
    · show bt (f_X9_only (nI r)) w = true ↔ _
      rw [show bt (f_X9_only (nI r)) w = true ↔ w = r from bt_one16 hr w]
      exact ⟨fun q => ⟨q, fun j hj => by omega⟩, fun q => q.1⟩
  obtain ⟨y, ey, hy⟩ := key
  rw [ey]
  cases y with
  | inl z =>
    obtain ⟨x, hx, rfl⟩ := hy
    rw [hx]
    rfl
  | inr z =>
    obtain ⟨m, hm⟩ := hy
    rw [hm]
    rfl
theorem M25_ok : M25 Rel := by
  rintro xc fa tr pm hm ⟨N, k, Ms, im, h⟩ a1
  obtain ⟨hN, hC, hM, hz, hX, hG, hR⟩ := h.go
  have hn := hN.n16
  have hE16 := hN.e16n (k1 := 100) (k2 := 100)
  obtain ⟨y, e, q, t⟩ := lays_q hN hM hz.1 hz.2 0
  obtain ⟨c, hc⟩ : ∃ c : Nat → Nat → Bool, (fun f n => cb (Ds (Ed N 100) (nRt N) f n)) = c := ⟨_, rfl⟩
  have hce : ∀ f n, c f n = true ↔ Ds (Ed N 100) (nRt N) f n := fun f n => by rw [← hc]; exact cb_t
  refine ⟨rwI (rwO c a1 16), ?_, (rwI (rwO c a1 16), y), ?_, (h.q q).rel, rfl⟩
  · unfold f_X9_row
    rw [row_c hE16 hN.r16 hX hC.2.1, hc]
    rfl
  · have inner : ∀ (f : Nat) (l : Int32), f < 16 → ∃ z, lp (f_X10_row_L22 y (nI f)) 2000 (l, 0) = some z ∧ Sum.elim (fun z => ∃ x, rwS (c f) l 16 = .inl x ∧ z = nI x) (fun z => rwS (c f) l 16 = .inr z) z := by
      intro f l hf
      have hx : rwS (c f) l 16 = rwS (c f) l (nN N) := by
        have := rwS_ext (c := c f) (l := l) (n := nN N) (fun j hj => by
          cases hcj : c f j with
          | false => rfl
          | true =>
            have := ((hce f j).mp hcj).1.rc
            have := hN.rn this
            omega) (16 - nN N)
        rwa [show nN N + (16 - nN N) = 16 by omega] at this
      rw [hx]
      refine lp_forx (step := f_X10_row_L22 y (nI f)) (nN N) (fun n t => t.2 = nI n ∧ rwS (c f) l n = .inr t.1) _ ?_ ?_ ⟨rfl, rfl⟩ (by omega)
      · rintro n ⟨s, cc⟩ hn2 ⟨g0, g1⟩
        simp only at g0 g1
        subst g0
        have nx : rwS (c f) l (n + 1) = if c f n = true then (if s = 0 then .inl n else .inr (s + -1)) else .inr s := by
          show Sum.elim _ _ (rwS _ l n) = _
          rw [g1]
          rfl
        unfold f_X10_row_L22
        rw [q.nodes]
        simp only [Option.bind_some, lt]
        rw [if_neg (nI_ge hn2 (by omega))]
        by_cases hr : Rc (Ed N 100) (fun s => s = nRt N) nox n
        · rw [if_neg (fun z => (q.2.2.1.r0 (by omega)).mp z hr)]
          obtain ⟨z, ez, hz2⟩ := near_m hN q (v := n) (by omega)
          rw [ez]
          simp only [Option.bind_some]
          obtain ⟨kk, hkk⟩ := hr.bk
          obtain ⟨d, -, hd⟩ := hkk.ds
          have hzd := hz2.1 d hd
          have hd16 := hd.lt16 hE16 hN.r16
          by_cases hdf : d = f
          · rw [if_pos (by rw [hzd, hdf])]
            rw [if_pos ((hce f n).mpr (by rw [← hdf]; exact hd))] at nx
            by_cases ht : s = 0
            · rw [if_pos ht]
              rw [if_pos ht] at nx
              right
              refine ⟨_, rfl, n, ?_, rfl⟩
              have : ∀ d, rwS (c f) l (n + 1 + d) = .inl n := by
                intro d
                induction d with
                | zero => exact nx
                | succ d ih =>
                  show Sum.elim _ _ (rwS _ l (n + 1 + d)) = _
                  rw [ih]
                  rfl
              have h16 := this (nN N - (n + 1))
              rwa [show n + 1 + (nN N - (n + 1)) = nN N by omega] at h16
            · rw [if_neg ht]
              rw [if_neg ht] at nx
              exact Or.inl ⟨_, rfl, nI_1 n, nx⟩
          · rw [if_neg (by rw [hzd, nI_eq (by omega) (by omega)]; exact hdf)]
            rw [if_neg (fun z => hdf (hd.one ((hce f n).mp z)))] at nx
            exact Or.inl ⟨_, rfl, nI_1 n, nx⟩
        · rw [if_pos ((q.2.2.1.r0 (by omega)).mpr hr)]
          rw [if_neg (fun z => hr ((hce f n).mp z).1.rc)] at nx
          exact Or.inl ⟨_, rfl, nI_1 n, nx⟩
      · rintro ⟨s, cc⟩ ⟨g0, g1⟩
        simp only at g0 g1
        subst g0
        unfold f_X10_row_L22
        rw [q.nodes]
        simp only [Option.bind_some]
        rw [if_pos (Int32.le_refl _)]
        exact ⟨_, rfl, g1⟩
    have outer : ∃ z, lp (f_X10_row_L13 y) 2000 (a1, 0) = some z ∧ Sum.elim (fun z => ∃ x, rwO c a1 16 = .inl x ∧ z = nI x) (fun _ => ∃ m, rwO c a1 16 = .inr m) z := by
      refine lp_forx (step := f_X10_row_L13 y) 16 (fun j s => s.2 = nI j ∧ rwO c a1 j = .inr s.1) _ ?_ ?_ ⟨rfl, rfl⟩ (by omega)
      · rintro j ⟨l, cc⟩ hj ⟨g0, g1⟩
        simp only at g0 g1
        subst g0
        have nx : rwO c a1 (j + 1) = rwS (c j) l 16 := by
          show Sum.elim _ _ (rwO _ a1 j) = _
          rw [g1]
          rfl
        unfold f_X10_row_L13
        rw [if_neg (ge16 hj)]
        obtain ⟨z, ez, hz2⟩ := inner j l hj
        dsimp only
        rw [ez]
        simp only [Option.bind_some]
        cases z with
        | inl z =>
          obtain ⟨x, hx, rfl⟩ := hz2
          right
          refine ⟨_, rfl, x, ?_, rfl⟩
          have : ∀ d, rwO c a1 (j + 1 + d) = .inl x := by
            intro d
            induction d with
            | zero => exact nx.trans hx
            | succ d ih =>
              show Sum.elim _ _ (rwO _ a1 (j + 1 + d)) = _
              rw [ih]
              rfl
          have h16 := this (16 - (j + 1))
          rwa [show j + 1 + (16 - (j + 1)) = 16 by omega] at h16
        | inr z => exact Or.inl ⟨_, rfl, nI_1 j, nx.trans hz2⟩
      · rintro ⟨l, cc⟩ ⟨g0, g1⟩
        simp only at g0 g1
        subst g0
        unfold f_X10_row_L13
        rw [if_pos le16]
        exact ⟨_, rfl, l, g1⟩
    obtain ⟨z, ez, hz2⟩ := outer
    unfold f_X10_row
    simp only [lt]
    rw [e]
    simp only [Option.bind_some]
    rw [ez]
    cases z with
    | inl z =>
      obtain ⟨x, hx, rfl⟩ := hz2
      rw [hx]
      rfl
    | inr z =>
      obtain ⟨m, hm2⟩ := hz2
      rw [hm2]
      rfl
