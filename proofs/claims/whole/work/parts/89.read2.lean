/-! THE TEXT: numbers, signs -/
def dv (T : Nat → Nat) (b : Nat) : Nat → Nat
  | 0 => 0
  | k + 1 => 10 * dv T b k + (T (b + k) - 48)
theorem dv_s (T : Nat → Nat) (b k : Nat) : dv T b (k + 1) = 10 * dv T b k + (T (b + k) - 48) := rfl
theorem dv_1 {T : Nat → Nat} {b k : Nat} (h : T (b + k) ≤ 57) : dv T b (k + 1) ≤ 10 * dv T b k + 9 := by
  rw [dv_s]
  omega
theorem dv_3 {T : Nat → Nat} {b : Nat} : ∀ k, k ≤ 3 → (∀ i, b ≤ i → i < b + k → rg 48 57 (T i) = true) → dv T b k ≤ 999 ∧ (k ≤ 2 → dv T b k ≤ 99) ∧ (k ≤ 1 → dv T b k ≤ 9) ∧ (k = 0 → dv T b k = 0)
  | 0, _, _ => ⟨by show 0 ≤ 999; omega, fun _ => by show 0 ≤ 99; omega, fun _ => by show 0 ≤ 9; omega, fun _ => rfl⟩
  | k + 1, hk, h => by
    obtain ⟨h1, h2, h3, h4⟩ := dv_3 k (by omega) (fun i a c => h i a (by omega))
    have h5 := dv_1 (T := T) (b := b) (k := k) (rg_iff.mp (h (b + k) (by omega) (by omega))).2
    refine ⟨?_, fun z => ?_, fun z => ?_, fun z => by omega⟩
    · have := h2 (by omega)
      omega
    · have := h3 (by omega)
      omega
    · have := h4 (by omega)
      omega
/-- the value's next figure -/
theorem fig_n {v d : Nat} (h : 48 ≤ d) : ((nI v * (10 : Int32)) + nI d) - (48 : Int32) = nI (10 * v + (d - 48)) ∧ (((10 : Int32) * nI v) + nI d) - (48 : Int32) = nI (10 * v + (d - 48)) := by
  have e : ∀ w, w = 10 * v → nI w + nI d - (48 : Int32) = nI (10 * v + (d - 48)) := fun w hw => by
    rw [nI_add, show (48 : Int32) = nI 48 from rfl, sub_n (by omega), hw]
    congr 1
    omega
  rw [show (10 : Int32) = nI 10 from rfl, nI_mul, nI_mul]
  exact ⟨e _ (by omega), e _ rfl⟩
def NOk (T : Nat → Nat) (b q lo hi : Nat) : Prop := 1 ≤ q - b ∧ q - b ≤ 2 ∧ lo ≤ dv T b (q - b) ∧ dv T b (q - b) ≤ hi
theorem digit_e : f_X7_isDigit (-1 : Int32) = 0 := by decide +kernel
theorem dig_stop {y : gXH} {b1 b2 b3 v d w : Int32} {j p : Nat} (hj : j < 400) (h7 : y.1 5 3 = nI p) (hg : f_X0_get_1 y (nI p) = some w) (hd : f_X7_isDigit w = 0) : f_X7_readNumber_L14 b1 b2 b3 (v, d, nI j, y) = some (.inr (v, d, y)) := by
  unfold f_X7_readNumber_L14
  dsimp only
  rw [if_neg (show ¬ (400 : Int32) ≤ nI j from nI_ge (a := j) (b := 400) hj (by omega)), h7, hg]
  simp only [Option.bind_some]
  rw [if_pos hd]
theorem digits_c {x1 : gXH} {T : Nat → Nat} {t b lo hi : Nat} (T1 : TC x1 T t) (g1 : x1.1 5 3 = nI b) (hbt : b ≤ t) : ∃ r, lp (f_X7_readNumber_L14 (nI lo) (nI hi) (nI b)) 2000 ((0 : Int32), (0 : Int32), (0 : Int32), x1) = some r ∧ ∃ q, Sk (rg 48 57) T t b q ∧ r.1 = nI (dv T b (min (q - b) 3)) ∧ r.2.1 = nI (min (q - b) 3) ∧ Fr (fun c => c = 5) x1 r.2.2 ∧ r.2.2.1 5 3 = nI q ∧ ∀ j, j ≠ 3 → r.2.2.1 5 j = x1.1 5 j := by
  have h400 := T1.1
  refine lp_forx (step := f_X7_readNumber_L14 (nI lo) (nI hi) (nI b)) 400 (fun j s => s.1 = nI (dv T b (min j 3)) ∧ s.2.1 = nI (min j 3) ∧ s.2.2.1 = nI j ∧ b + j ≤ t ∧ (∀ i, b ≤ i → i < b + j → rg 48 57 (T i) = true) ∧ Fr (fun c => c = 5) x1 s.2.2.2 ∧ s.2.2.2.1 5 3 = nI (b + j) ∧ ∀ j, j ≠ 3 → s.2.2.2.1 5 j = x1.1 5 j) _ ?_ ?_ ⟨by rw [Nat.zero_min]; exact nI_0.symm, by rw [Nat.zero_min]; exact nI_0.symm, rfl, hbt, fun i a c => absurd c (by omega), Fr.rf, g1, fun _ _ => rfl⟩ (by omega)
  · rintro j ⟨v, d, k, y⟩ hj ⟨h0, h1, h3, h4, h5, h6, h7, h8⟩
    dsimp only at h0 h1 h3 h4 h5 h6 h7 h8
    subst h0 h1 h3
    have Ty := T1.fr (fr5 h6)
    have stop : ∀ z : Prop, ¬ (b + j < t ∧ rg 48 57 (T (b + j)) = true) → ∃ q, Sk (rg 48 57) T t b q ∧ nI (dv T b (min j 3)) = nI (dv T b (min (q - b) 3)) ∧ nI (min j 3) = nI (min (q - b) 3) ∧ Fr (fun c => c = 5) x1 y ∧ y.1 5 3 = nI q ∧ ∀ j, j ≠ 3 → y.1 5 j = x1.1 5 j := fun _ hz => by
      refine ⟨b + j, ⟨by omega, h4, h5, fun z => ?_⟩, by rw [Nat.add_sub_cancel_left], by rw [Nat.add_sub_cancel_left], h6, h7, h8⟩
      cases hb : rg 48 57 (T (b + j)) with
      | false => rfl
      | true => exact absurd ⟨z, hb⟩ hz
    by_cases c : b + j < t
    · have g := (Ty.2.2 (b + j) c).1
      unfold f_X7_readNumber_L14
      dsimp only
      rw [if_neg (show ¬ (400 : Int32) ≤ nI j from nI_ge (a := j) (b := 400) hj (by omega)), h7]
      rw [get_c Ty c]
      simp only [Option.bind_some]
      rw [digit_n (by omega)]
      by_cases d : rg 48 57 (T (b + j)) = true
      · left
        rw [if_pos d, if_neg i1n0]
        have h9 : ∀ i, b ≤ i → i < b + (j + 1) → rg 48 57 (T i) = true := fun i a e => by
          rcases Nat.lt_or_ge i (b + j) with u | u
          · exact h5 i a u
          · rw [show i = b + j by omega]
            exact d
        have go : ∀ v' d' : Int32, v' = nI (dv T b (min (j + 1) 3)) → d' = nI (min (j + 1) 3) → ∃ s', f_X7_readNumber_J70 y (nI lo) (nI hi) (nI b) v' d' (nI j) = some (.inl s') ∧ s'.1 = nI (dv T b (min (j + 1) 3)) ∧ s'.2.1 = nI (min (j + 1) 3) ∧ s'.2.2.1 = nI (j + 1) ∧ b + (j + 1) ≤ t ∧ (∀ i, b ≤ i → i < b + (j + 1) → rg 48 57 (T i) = true) ∧ Fr (fun c => c = 5) x1 s'.2.2.2 ∧ s'.2.2.2.1 5 3 = nI (b + (j + 1)) ∧ ∀ j, j ≠ 3 → s'.2.2.2.1 5 j = x1.1 5 j := fun v' d' ev ed => by
          unfold f_X7_readNumber_J70
          simp only [lt]
          refine ⟨_, rfl, ev, ed, nI_1 j, by omega, h9, h6.tr (Fr.s rfl), ?_, fun i hi => ?_⟩
          · dsimp only
            rw [sI_at, h7, nI_1]
            rfl
          · dsimp only
            rw [sI_at2 hi]
            exact h8 i hi
        by_cases e : 3 ≤ j
        · rw [if_pos (show (3 : Int32) ≤ nI (min j 3) from nI_le (a := 3) (by omega) (by omega))]
          exact go _ _ (by rw [Nat.min_eq_right e, Nat.min_eq_right (by omega)]) (by rw [Nat.min_eq_right e, Nat.min_eq_right (by omega)])
        · rw [if_neg (show ¬ (3 : Int32) ≤ nI (min j 3) from nI_ge (b := 3) (by omega) (by omega))]
          simp only [lt]
          have m1 : min j 3 = j := by omega
          have m2 : min (j + 1) 3 = j + 1 := by omega
          rw [m1]
          exact go _ _ (by rw [(fig_n (rg_iff.mp d).1).1, m2, dv_s]) (by rw [nI_1, m2])
      · right
        rw [if_neg d, if_pos rfl]
        obtain ⟨q, w1, w2, w3, w4, w5, w6⟩ := stop True (fun z => d z.2)
        exact ⟨_, rfl, q, w1, w2, w3, w4, w5, w6⟩
    · right
      refine ⟨_, dig_stop hj h7 (get_end Ty (by omega) (by omega)) digit_e, ?_⟩
      obtain ⟨q, w1, w2, w3, w4, w5, w6⟩ := stop True (fun z => c z.1)
      exact ⟨q, w1, w2, w3, w4, w5, w6⟩
  · rintro ⟨v, d, k, y⟩ ⟨h0, h1, h3, h4, h5, h6, h7, h8⟩
    dsimp only at h0 h1 h3 h4 h5 h6 h7 h8
    subst h0 h1 h3
    unfold f_X7_readNumber_L14
    dsimp only
    rw [if_pos (show (400 : Int32) ≤ nI 400 from Int32.le_refl _)]
    exact ⟨_, rfl, b + 400, ⟨by omega, h4, h5, fun z => by omega⟩, by rw [Nat.add_sub_cancel_left], by rw [Nat.add_sub_cancel_left], h6, h7, h8⟩
theorem num_c {x : gXH} {T : Nat → Nat} {t p n lo hi : Nat} (h : TC x T t) (hp : x.1 5 3 = nI p) (hpt : p ≤ t) (hn : n < 400) (h2 : x.1 5 2 = nI n) (hlh : lo < 100) (hh : hi < 100) :
    ∃ b q y, Sk (rg 32 32) T t p b ∧ Sk (rg 48 57) T t b q ∧ Fr W56 x y ∧ y.1 5 3 = nI q ∧ y.1 5 4 = x.1 5 4 ∧ (∀ i, i ≠ n → y.1 6 i = x.1 6 i) ∧
      ((NOk T b q lo hi ∧ f_X7_readNumber x (nI lo) (nI hi) = some (1, y) ∧ y.1 5 2 = nI (n + 1) ∧ y.1 6 n = nI (dv T b (q - b))) ∨ (¬ NOk T b q lo hi ∧ f_X7_readNumber x (nI lo) (nI hi) = some (0, y) ∧ y.1 5 5 = nI b)) := by
  have h400 := h.1
  obtain ⟨b, x1, e1, s1, f1, g1, g2⟩ := next_c h hp hpt
  have hbt := s1.2.1
  have T1 := h.fr (fr5 f1)
  have key := digits_c (lo := lo) (hi := hi) T1 g1 hbt
  obtain ⟨⟨v, d, y⟩, er, q, s2, k1, k2, k3, k4, k5⟩ := key
  dsimp only at k1 k2 k3 k4 k5
  subst k1 k2
  have hbq := s2.1
  have dig : ∀ i, b ≤ i → i < q → rg 48 57 (T i) = true := s2.2.2.1
  have dle := (dv_3 (T := T) (b := b) (min (q - b) 3) (by omega) (fun i a c => dig i a (by omega)))
  have fy : Fr (fun c => c = 5) x y := f1.tr k3
  have v4 : y.1 5 4 = x.1 5 4 := (k5 4 (by decide)).trans (g2 4 (by decide))
  have v2 : y.1 5 2 = nI n := ((k5 2 (by decide)).trans (g2 2 (by decide))).trans h2
  have v6 : y.1 6 = x.1 6 := fy.1 6 (by decide)
  unfold f_X7_readNumber
  rw [e1]
  simp only [Option.bind_some]
  rw [er]
  simp only [Option.bind_some]
  have bad : ¬ NOk T b q lo hi → ∃ b' q' y', Sk (rg 32 32) T t p b' ∧ Sk (rg 48 57) T t b' q' ∧ Fr W56 x y' ∧ y'.1 5 3 = nI q' ∧ y'.1 5 4 = x.1 5 4 ∧ (∀ i, i ≠ n → y'.1 6 i = x.1 6 i) ∧
      ((NOk T b' q' lo hi ∧ f_X7_readNumber_J110 y (nI b) = some (1, y') ∧ y'.1 5 2 = nI (n + 1) ∧ y'.1 6 n = nI (dv T b' (q' - b'))) ∨ (¬ NOk T b' q' lo hi ∧ f_X7_readNumber_J110 y (nI b) = some (0, y') ∧ y'.1 5 5 = nI b')) := fun hb => by
    refine ⟨b, q, sI y 5 5 (nI b), s1, s2, fr5 (fy.tr (Fr.s rfl)), ?_, ?_, fun i _ => ?_, Or.inr ⟨hb, rfl, sI_at⟩⟩
    · rw [sI_at2 (by decide)]
      exact k4
    · rw [sI_at2 (by decide)]
      exact v4
    · rw [sI_row (by decide), v6]
  by_cases c1 : q - b < 1
  · rw [if_pos (show nI (min (q - b) 3) < (1 : Int32) from nI_lt (b := 1) (by omega) (by omega))]
    exact bad (fun z => by have := z.1; omega)
  · rw [if_neg (show ¬ nI (min (q - b) 3) < (1 : Int32) from nI_nlt (b := 1) (by omega) (by omega))]
    by_cases c2 : 2 < q - b
    · rw [if_pos (show (2 : Int32) < nI (min (q - b) 3) from nI_lt (a := 2) (by omega) (by omega))]
      exact bad (fun z => by have := z.2.1; omega)
    · rw [if_neg (show ¬ (2 : Int32) < nI (min (q - b) 3) from nI_nlt (a := 2) (by omega) (by omega))]
      have m1 : min (q - b) 3 = q - b := by omega
      rw [m1] at dle ⊢
      by_cases c3 : lo ≤ dv T b (q - b)
      · rw [if_neg (nI_nlt c3 (by omega))]
        by_cases c4 : dv T b (q - b) ≤ hi
        · rw [if_pos (nI_le c4 (by omega)), v2]
          simp only [lt]
          rw [putv_n (L := 400) hn (by omega)]
          refine ⟨b, q, sI (sI y 6 n (nI (dv T b (q - b)))) 5 2 (nI (n + 1)), s1, s2, ((fr5 fy).tr (Fr.s (Or.inr rfl))).tr (Fr.s (Or.inl rfl)), ?_, ?_, fun i hi => ?_, Or.inl ⟨⟨by omega, by omega, c3, c4⟩, ?_, sI_at, ?_⟩⟩
          · rw [sI_at2 (by decide), sI_row (by decide)]
            exact k4
          · rw [sI_at2 (by decide), sI_row (by decide)]
            exact v4
          · rw [sI_row (by decide), sI_at2 hi, v6]
          · rw [sI_row (show (5 : Nat) ≠ 6 by decide), v2, nI_1]
          · rw [sI_row (by decide), sI_at]
        · rw [if_neg (nI_ge (by omega) (by omega))]
          exact bad (fun z => c4 z.2.2.2)
      · rw [if_pos (nI_lt (by omega) (by omega))]
        exact bad (fun z => c3 z.2.2.1)
theorem num_m {m : gIH} {T : Nat → Nat} {t p n lo hi : Nat} (h : TM m T t) (hp : m 81 24 = nI p) (hpt : p ≤ t) (hn : n < 400) (hlh : lo < 100) (hh : hi < 100) :
    ∃ b q y, Sk (rg 32 32) T t p b ∧ Sk (rg 48 57) T t b q ∧ FrM WRr m y ∧ y 81 24 = nI q ∧ y 81 26 = nI b ∧ (∀ i, i ≠ n → y 93 i = m 93 i) ∧
      ((NOk T b q lo hi ∧ f_X10_reads m (nI n) (nI lo) (nI hi) = some (1, y) ∧ y 93 n = nI (dv T b (q - b))) ∨ (¬ NOk T b q lo hi ∧ f_X10_reads m (nI n) (nI lo) (nI hi) = some (0, y))) := by
  have h400 := h.1
  obtain ⟨b, x1, e1, s1, f1, g1, g2⟩ := blanks_m h hp hpt
  have hbt := s1.2.1
  have T1 := h.fr (frr f1)
  have key : ∃ r, lp (f_X10_reads_L7 (nI n) (nI lo) (nI hi)) 2000 ((0 : Int32), x1) = some r ∧ ∃ q, Sk (rg 48 57) T t b q ∧ r.1 = nI (dv T b (min (q - b) 2)) ∧ FrM (fun c j => c = 81 ∧ (j = 24 ∨ j = 26)) x1 r.2 ∧ r.2 81 24 = nI q ∧ r.2 81 26 = nI b := by
    refine lp_forx (step := f_X10_reads_L7 (nI n) (nI lo) (nI hi)) 400 (fun j s => s.1 = nI (dv T b (min j 2)) ∧ b + j ≤ t ∧ (∀ i, b ≤ i → i < b + j → rg 48 57 (T i) = true) ∧ FrM (fun c j => c = 81 ∧ (j = 24 ∨ j = 26)) x1 s.2 ∧ s.2 81 24 = nI (b + j) ∧ s.2 81 26 = nI b) _ ?_ ?_ ⟨by rw [Nat.zero_min]; exact nI_0.symm, hbt, fun i a c => absurd c (by omega), FrM.rf, g1, g2⟩ (by omega)
    · rintro j ⟨v, y⟩ hj ⟨h0, h4, h5, h6, h7, h8⟩
      dsimp only at h0 h4 h5 h6 h7 h8
      subst h0
      have Ty := T1.fr (frr h6)
      unfold f_X10_reads_L7
      dsimp only
      rw [show f_X10_isAt y (48 : Int32) (57 : Int32) = _ from isAt_m (lo := 48) (hi := 57) Ty h7 h4 (by omega) (by omega)]
      simp only [Option.bind_some]
      by_cases c : b + j < t ∧ rg 48 57 (T (b + j)) = true
      · left
        rw [if_pos c, if_neg i1n0]
        have hsub : (y 81 24) - (y 81 26) = nI j := by rw [h7, h8, sub_n (a := b + j) (b := b) (by omega), Nat.add_sub_cancel_left]
        have g := Ty.2.2 (b + j) c.1
        have d := rg_iff.mp c.2
        have h9 : ∀ i, b ≤ i → i < b + (j + 1) → rg 48 57 (T i) = true := fun i a e => by
          rcases Nat.lt_or_ge i (b + j) with u | u
          · exact h5 i a u
          · rw [show i = b + j by omega]
            exact c.2
        have go : ∀ v' : Int32, v' = nI (dv T b (min (j + 1) 2)) → ∃ s', f_X10_reads_J54 y (nI n) (nI lo) (nI hi) v' = some (.inl s') ∧ s'.1 = nI (dv T b (min (j + 1) 2)) ∧ b + (j + 1) ≤ t ∧ (∀ i, b ≤ i → i < b + (j + 1) → rg 48 57 (T i) = true) ∧ FrM (fun c j => c = 81 ∧ (j = 24 ∨ j = 26)) x1 s'.2 ∧ s'.2 81 24 = nI (b + (j + 1)) ∧ s'.2 81 26 = nI b := fun v' ev => by
          unfold f_X10_reads_J54
          simp only [lt]
          refine ⟨_, rfl, ev, by omega, h9, h6.tr (FrM.s ⟨rfl, Or.inl rfl⟩), ?_, ?_⟩
          · dsimp only
            rw [up2_at, h7, nI_1]
            rfl
          · dsimp only
            rw [up2_at2 (Or.inr (by decide))]
            exact h8
        by_cases e : 2 ≤ j
        · rw [if_pos (show (2 : Int32) ≤ (y 81 24) - (y 81 26) by rw [hsub]; exact nI_le (a := 2) e (by omega))]
          exact go _ (by rw [Nat.min_eq_right e, Nat.min_eq_right (by omega)])
        · rw [if_neg (show ¬ (2 : Int32) ≤ (y 81 24) - (y 81 26) by rw [hsub]; exact nI_ge (b := 2) (by omega) (by omega)), h7, gck_ni (show b + j < 400 by omega) (by omega), nI_clamp (show b + j < 2 ^ 31 by omega), g.2, i8_lo _ (by omega)]
          have m1 : min j 2 = j := by omega
          have m2 : min (j + 1) 2 = j + 1 := by omega
          rw [m1]
          exact go _ (by rw [(fig_n d.1).2, m2, dv_s])
      · right
        rw [if_neg c, if_pos rfl]
        refine ⟨_, rfl, b + j, ⟨by omega, h4, h5, fun z => ?_⟩, by rw [Nat.add_sub_cancel_left], h6, h7, h8⟩
        cases hb : rg 48 57 (T (b + j)) with
        | false => rfl
        | true => exact absurd ⟨z, hb⟩ c
    · rintro ⟨v, y⟩ ⟨h0, h4, h5, h6, h7, h8⟩
      dsimp only at h0 h4 h5 h6 h7 h8
      subst h0
      have Ty := T1.fr (frr h6)
      unfold f_X10_reads_L7
      dsimp only
      rw [show f_X10_isAt y (48 : Int32) (57 : Int32) = _ from isAt_m (lo := 48) (hi := 57) Ty h7 h4 (by omega) (by omega)]
      simp only [Option.bind_some]
      rw [if_neg (show ¬ (b + 400 < t ∧ rg 48 57 (T (b + 400)) = true) from fun z => by omega), if_pos rfl]
      exact ⟨_, rfl, b + 400, ⟨by omega, h4, h5, fun z => by omega⟩, by rw [Nat.add_sub_cancel_left], h6, h7, h8⟩
  obtain ⟨⟨v, y⟩, er, q, s2, k1, k3, k4, k5⟩ := key
  dsimp only at k1 k3 k4 k5
  subst k1
  have hbq := s2.1
  have hqt := s2.2.1
  have dig : ∀ i, b ≤ i → i < q → rg 48 57 (T i) = true := s2.2.2.1
  have dle := (dv_3 (T := T) (b := b) (min (q - b) 2) (by omega) (fun i a c => dig i a (by omega)))
  have fy : FrM (fun c j => c = 81 ∧ (j = 24 ∨ j = 26)) m y := f1.tr k3
  unfold f_X10_reads
  rw [e1]
  simp only [Option.bind_some]
  rw [er]
  simp only [Option.bind_some]
  rw [gck_ni hn (by omega), nI_clamp (show n < 2 ^ 31 by omega)]
  simp only [lt]
  obtain ⟨z, ez⟩ : ∃ z, up2 y 93 n (nI (dv T b (min (q - b) 2))) = z := ⟨_, rfl⟩
  have fz : FrM WRr m z := by
    rw [← ez]
    exact (frr fy).tr (FrM.s (Or.inr rfl))
  have z1 : z 81 24 = nI q := by
    rw [← ez, up2_at2 (Or.inl (by decide))]
    exact k4
  have z2 : z 81 26 = nI b := by
    rw [← ez, up2_at2 (Or.inl (by decide))]
    exact k5
  have z3 : ∀ i, i ≠ n → z 93 i = m 93 i := fun i hi => by
    rw [← ez, up2_at2 (Or.inr hi)]
    exact fy 93 i (by omega)
  have z4 : z 93 n = nI (dv T b (min (q - b) 2)) := by rw [← ez, up2_at]
  rw [ez, z1, z2, sub_n (a := q) (b := b) hbq, show f_X10_in (nI (q - b)) (1 : Int32) (2 : Int32) = _ from in_n (b := q - b) (lo := 1) (hi := 2) (by omega) (by omega) (by omega), in_n (by omega) (by omega) (by omega)]
  refine ⟨b, q, z, s1, s2, fz, z1, z2, z3, ?_⟩
  by_cases c : rg 1 2 (q - b) = true
  · rw [if_pos c, if_neg i1n0]
    have d := rg_iff.mp c
    have m1 : min (q - b) 2 = q - b := by omega
    rw [m1] at z4 ⊢
    by_cases c2 : rg lo hi (dv T b (q - b)) = true
    · rw [if_pos c2, if_neg i1n0]
      have d2 := rg_iff.mp c2
      exact Or.inl ⟨⟨d.1, d.2, d2.1, d2.2⟩, rfl, z4⟩
    · rw [if_neg c2, if_pos rfl]
      exact Or.inr ⟨fun w => c2 (rg_iff.mpr ⟨w.2.2.1, w.2.2.2⟩), rfl⟩
  · rw [if_neg c, if_pos rfl]
    exact Or.inr ⟨fun w => c (rg_iff.mpr ⟨w.1, w.2.1⟩), rfl⟩
/-! both at once -/
def Bo (x : gXH) (m : gIH) (T : Nat → Nat) (t p : Nat) : Prop := TC x T t ∧ TM m T t ∧ p ≤ t ∧ x.1 5 3 = nI p ∧ m 81 24 = nI p
def TD (x : gXH) (m : gIH) (n : Nat) (f : Nat → Nat) : Prop := x.1 5 2 = nI n ∧ ∀ i, i < n → x.1 6 i = nI (f i) ∧ m 93 i = nI (f i)
def uf (f : Nat → Nat) (n v : Nat) : Nat → Nat := fun i => if i = n then v else f i
theorem num_sim {x : gXH} {m : gIH} {T f : Nat → Nat} {t p n lo hi : Nat} (h : Bo x m T t p) (hd : TD x m n f) (hn : n < 400) (hlh : lo < 100) (hh : hi < 100) :
    ∃ q y z, Bo y z T t q ∧ p ≤ q ∧ Fr W56 x y ∧ FrM WRr m z ∧ y.1 5 4 = x.1 5 4 ∧
      ((f_X7_readNumber x (nI lo) (nI hi) = some (1, y) ∧ f_X10_reads m (nI n) (nI lo) (nI hi) = some (1, z) ∧ p < q ∧ ∃ v, lo ≤ v ∧ v ≤ hi ∧ TD y z (n + 1) (uf f n v)) ∨
       (f_X7_readNumber x (nI lo) (nI hi) = some (0, y) ∧ f_X10_reads m (nI n) (nI lo) (nI hi) = some (0, z) ∧ ∃ b, b ≤ t ∧ y.1 5 5 = nI b ∧ z 81 26 = nI b)) := by
  obtain ⟨h1, h2, h3, h4, h5⟩ := h
  obtain ⟨b, q, y, s1, s2, y1, y2, y3, y4, y5⟩ := num_c h1 h4 h3 hn hd.1 hlh hh
  obtain ⟨b', q', z, s1', s2', z1, z2, z3, z4, z5⟩ := num_m h2 h5 h3 hn hlh hh
  have eb := s1.uniq s1'
  subst eb
  have eq := s2.uniq s2'
  subst eq
  have hpb := s1.1
  have hbq := s2.1
  refine ⟨q, y, z, ⟨h1.fr y1, h2.fr z1, s2.2.1, y2, z2⟩, by omega, y1, z1, y3, ?_⟩
  rcases y5 with ⟨c, r1, r2, r3⟩ | ⟨c, r1, r2⟩
  · rcases z5 with ⟨c', w1, w2⟩ | ⟨c', w1⟩
    · refine Or.inl ⟨r1, w1, by have := c.1; omega, _, c.2.2.1, c.2.2.2, r2, fun i hi => ?_⟩
      unfold uf
      by_cases e : i = n
      · subst e
        rw [if_pos rfl]
        exact ⟨r3, w2⟩
      · rw [if_neg e, y4 i e, z4 i e]
        exact hd.2 i (by omega)
    · exact absurd c c'
  · rcases z5 with ⟨c', w1, w2⟩ | ⟨c', w1⟩
    · exact absurd c' c
    · exact Or.inr ⟨r1, w1, b, s1.2.1, r2, z3⟩
theorem take_c {x : gXH} {T : Nat → Nat} {t p s : Nat} (h : TC x T t) (hp : x.1 5 3 = nI p) (hpt : p ≤ t) (hs : s < 256) : ∃ q y, Sk (rg 32 32) T t p q ∧ Fr (fun c => c = 5) x y ∧ (∀ j, j ≠ 3 → y.1 5 j = x.1 5 j) ∧ ((q < t ∧ T q = s ∧ f_X7_take x (nI s) = some (1, y) ∧ y.1 5 3 = nI (q + 1)) ∨ (¬ (q < t ∧ T q = s) ∧ f_X7_take x (nI s) = some (0, y) ∧ y.1 5 3 = nI q)) := by
  have h400 := h.1
  obtain ⟨q, x1, e1, s1, f1, g1, g2⟩ := next_c h hp hpt
  have T1 := h.fr (fr5 f1)
  have hqt := s1.2.1
  unfold f_X7_take
  rw [e1]
  simp only [Option.bind_some]
  by_cases c : q < t
  · have g := (T1.2.2 q c).1
    rw [get_c T1 c]
    simp only [Option.bind_some]
    by_cases d : T q = s
    · rw [if_pos (by rw [d])]
      simp only [lt]
      refine ⟨q, sI x1 5 3 (nI (q + 1)), s1, f1.tr (Fr.s rfl), fun j hj => ?_, Or.inl ⟨c, d, ?_, sI_at⟩⟩
      · rw [sI_at2 hj]
        exact g2 j hj
      · rw [g1, nI_1]
    · rw [if_neg (fun z => d ((nI_eq (by omega) (by omega)).mp z))]
      exact ⟨q, x1, s1, f1, g2, Or.inr ⟨fun z => d z.2, rfl, g1⟩⟩
  · rw [get_end T1 (by omega) (by omega)]
    simp only [Option.bind_some]
    rw [if_neg (fun z => nI_ne_m1 (by omega) z.symm)]
    exact ⟨q, x1, s1, f1, g2, Or.inr ⟨fun z => c z.1, rfl, g1⟩⟩
theorem comma_m {m : gIH} {T : Nat → Nat} {t p : Nat} (h : TM m T t) (hp : m 81 24 = nI p) (hpt : p ≤ t) : ∃ q z, Sk (rg 32 32) T t p q ∧ FrM (fun c j => c = 81 ∧ (j = 24 ∨ j = 26)) m z ∧ ((q < t ∧ T q = 44 ∧ f_X10_comma m = some (1, z) ∧ z 81 24 = nI (q + 1)) ∨ (¬ (q < t ∧ T q = 44) ∧ f_X10_comma m = some (0, z) ∧ z 81 24 = nI q)) := by
  obtain ⟨q, y, e1, s1, f1, g1, g2⟩ := blanks_m h hp hpt
  have T1 := h.fr (frr f1)
  have hqt := s1.2.1
  unfold f_X10_comma
  rw [e1]
  simp only [Option.bind_some]
  rw [show f_X10_isAt y (44 : Int32) (44 : Int32) = _ from isAt_m (lo := 44) (hi := 44) T1 g1 hqt (by omega) (by omega)]
  simp only [Option.bind_some]
  by_cases c : q < t ∧ rg 44 44 (T q) = true
  · rw [if_pos c, if_neg i1n0]
    simp only [lt]
    have d := rg_iff.mp c.2
    exact ⟨q, up2 y 81 24 (nI (q + 1)), s1, f1.tr (FrM.s ⟨rfl, Or.inl rfl⟩), Or.inl ⟨c.1, by omega, by rw [g1, nI_1], up2_at⟩⟩
  · rw [if_neg c, if_pos rfl]
    exact ⟨q, y, s1, f1, Or.inr ⟨fun z => c ⟨z.1, rg_iff.mpr (by omega)⟩, rfl, g1⟩⟩
theorem comma_sim {x : gXH} {m : gIH} {T : Nat → Nat} {t p : Nat} (h : Bo x m T t p) : ∃ q y z, Bo y z T t q ∧ Fr (fun c => c = 5) x y ∧ FrM (fun c j => c = 81 ∧ (j = 24 ∨ j = 26)) m z ∧ (∀ j, j ≠ 3 → y.1 5 j = x.1 5 j) ∧ ((f_X7_take x (nI 44) = some (1, y) ∧ f_X10_comma m = some (1, z) ∧ p < q) ∨ (f_X7_take x (nI 44) = some (0, y) ∧ f_X10_comma m = some (0, z) ∧ p ≤ q)) := by
  obtain ⟨h1, h2, h3, h4, h5⟩ := h
  obtain ⟨q, y, s1, f1, y1, y2⟩ := take_c h1 h4 h3 (s := 44) (by omega)
  obtain ⟨q', z, s1', g1, z2⟩ := comma_m h2 h5 h3
  have e := s1.uniq s1'
  subst e
  have hpq := s1.1
  have hqt := s1.2.1
  rcases y2 with ⟨c1, c2, c3, c4⟩ | ⟨c1, c3, c4⟩
  · rcases z2 with ⟨d1, d2, d3, d4⟩ | ⟨d1, d3, d4⟩
    · exact ⟨q + 1, y, z, ⟨h1.fr (fr5 f1), h2.fr (frr g1), c1, c4, d4⟩, f1, g1, y1, Or.inl ⟨c3, d3, by omega⟩⟩
    · exact absurd ⟨c1, c2⟩ d1
  · rcases z2 with ⟨d1, d2, d3, d4⟩ | ⟨d1, d3, d4⟩
    · exact absurd ⟨d1, d2⟩ c1
    · exact ⟨q, y, z, ⟨h1.fr (fr5 f1), h2.fr (frr g1), hqt, c4, d4⟩, f1, g1, y1, Or.inr ⟨c3, d3, hpq⟩⟩
