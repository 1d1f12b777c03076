/-! THE TEXT: what both read of it -/
/-- from p on as long as P holds of the bytes: up to q -/
def Sk (P : Nat → Bool) (T : Nat → Nat) (t p q : Nat) : Prop := p ≤ q ∧ q ≤ t ∧ (∀ i, p ≤ i → i < q → P (T i) = true) ∧ (q < t → P (T q) = false)
theorem Sk.uniq {P : Nat → Bool} {T : Nat → Nat} {t p q q' : Nat} (h : Sk P T t p q) (h' : Sk P T t p q') : q = q' := by
  obtain ⟨a1, a2, a3, a4⟩ := h
  obtain ⟨b1, b2, b3, b4⟩ := h'
  rcases Nat.lt_trichotomy q q' with c | c | c
  · have := b3 q a1 c
    rw [a4 (by omega)] at this
    cases this
  · exact c
  · have := a3 q' b1 c
    rw [b4 (by omega)] at this
    cases this
theorem Sk.again {P : Nat → Bool} {T : Nat → Nat} {t p q : Nat} (h : Sk P T t p q) : Sk P T t q q := ⟨Nat.le_refl _, h.2.1, fun i a b => absurd b (by omega), h.2.2.2⟩
def rg (lo hi b : Nat) : Bool := decide (lo ≤ b ∧ b ≤ hi)
theorem rg_iff {lo hi b : Nat} : rg lo hi b = true ↔ lo ≤ b ∧ b ≤ hi := decide_eq_true_iff
theorem rg_f {lo hi b : Nat} (h : ¬ (lo ≤ b ∧ b ≤ hi)) : rg lo hi b = false := decide_eq_false h
theorem rgI {b lo hi : Nat} (hb : b < 2 ^ 31) (hl : lo < 2 ^ 31) (hh : hi < 2 ^ 31) : (if nI b < nI lo then (0 : Int32) else if nI hi < nI b then 0 else 1) = if rg lo hi b = true then 1 else 0 := by
  by_cases c1 : lo ≤ b
  · rw [if_neg (nI_nlt c1 hb)]
    by_cases c2 : b ≤ hi
    · rw [if_neg (nI_nlt c2 hh), if_pos (rg_iff.mpr ⟨c1, c2⟩)]
    · rw [if_pos (nI_lt (by omega) hb), if_neg (fun z => c2 (rg_iff.mp z).2)]
  · rw [if_pos (nI_lt (by omega) hl), if_neg (fun z => c1 (rg_iff.mp z).1)]
theorem in_n {b lo hi : Nat} (hb : b < 2 ^ 31) (hl : lo < 2 ^ 31) (hh : hi < 2 ^ 31) : f_X10_in (nI b) (nI lo) (nI hi) = if rg lo hi b = true then 1 else 0 := rgI hb hl hh
def TC (x : gXH) (T : Nat → Nat) (t : Nat) : Prop := t ≤ 400 ∧ x.1 1 1 = nI t ∧ ∀ i, i < t → T i < 256 ∧ x.1 2 i = nI (T i)
def TM (m : gIH) (T : Nat → Nat) (t : Nat) : Prop := t ≤ 400 ∧ m 81 25 = nI t ∧ ∀ i, i < t → T i < 256 ∧ m 91 i = (nI (T i)).toInt8.toInt32
def W56 : Nat → Prop := fun c => c = 5 ∨ c = 6
def WRr : Nat → Nat → Prop := fun c j => (c = 81 ∧ (j = 24 ∨ j = 26)) ∨ c = 93
theorem TC.cg {x y : gXH} {T : Nat → Nat} {t : Nat} (h : TC x T t) (h1 : y.1 1 = x.1 1) (h2 : y.1 2 = x.1 2) : TC y T t := by
  unfold TC
  rw [h1, h2]
  exact h
theorem TC.fr {x y : gXH} {T : Nat → Nat} {t : Nat} (h : TC x T t) (f : Fr W56 x y) : TC y T t := h.cg (f.1 1 (by unfold W56; omega)) (f.1 2 (by unfold W56; omega))
theorem TM.cg {x y : gIH} {T : Nat → Nat} {t : Nat} (h : TM x T t) (h1 : y 81 25 = x 81 25) (h2 : ∀ i, y 91 i = x 91 i) : TM y T t := ⟨h.1, h1.trans h.2.1, fun i hi => ⟨(h.2.2 i hi).1, (h2 i).trans (h.2.2 i hi).2⟩⟩
theorem TM.fr {x y : gIH} {T : Nat → Nat} {t : Nat} (h : TM x T t) (f : FrM WRr x y) : TM y T t := h.cg (f 81 25 (by unfold WRr; omega)) (fun i => f 91 i (by unfold WRr; omega))
theorem fr5 {x y : gXH} (f : Fr (fun c => c = 5) x y) : Fr W56 x y := f.mono fun c h => Or.inl h
theorem frr {x y : gIH} (f : FrM (fun c j => c = 81 ∧ (j = 24 ∨ j = 26)) x y) : FrM WRr x y := f.mono fun c j h => Or.inl h
theorem get_c {x : gXH} {T : Nat → Nat} {t p : Nat} (h : TC x T t) (hp : p < t) : f_X0_get_1 x (nI p) = some (nI (T p)) := by
  obtain ⟨h1, h2, h3⟩ := h
  unfold f_X0_get_1
  rw [if_neg (nI_pos (by omega)), h2, if_neg (nI_ge hp (by omega)), if_neg (show ¬ (400 : Int32) ≤ nI p from nI_ge (a := p) (b := 400) (by omega) (by omega)), gck_ni (by omega) (by omega), nI_clamp (by omega), (h3 p hp).2]
theorem get_end {x : gXH} {T : Nat → Nat} {t p : Nat} (h : TC x T t) (hp : t ≤ p) (hp2 : p < 2 ^ 31) : f_X0_get_1 x (nI p) = some (-1) := by
  unfold f_X0_get_1
  rw [if_neg (nI_pos hp2), h.2.1, if_pos (nI_le hp hp2)]
theorem skip_c {x : gXH} {T : Nat → Nat} {t p : Nat} {P : Nat → Bool} (h : TC x T t) (hp : x.1 5 3 = nI p) (hpt : p ≤ t) (step : Int32 × gXH → Option ((Int32 × gXH) ⊕ gXH))
    (hs : ∀ j y p', j < 400 → TC y T t → y.1 5 3 = nI p' → p' ≤ t → step (nI j, y) = if p' < t ∧ P (T p') = true then some (.inl (nI j + 1, sI y 5 3 (nI p' + 1))) else some (.inr y))
    (he : ∀ y, step (nI 400, y) = some (.inr y)) : ∃ q y, lp step 2000 ((0 : Int32), x) = some y ∧ Sk P T t p q ∧ Fr (fun c => c = 5) x y ∧ y.1 5 3 = nI q ∧ ∀ j, j ≠ 3 → y.1 5 j = x.1 5 j := by
  have key : ∃ y, lp step 2000 ((0 : Int32), x) = some y ∧ ∃ q, Sk P T t p q ∧ Fr (fun c => c = 5) x y ∧ y.1 5 3 = nI q ∧ ∀ j, j ≠ 3 → y.1 5 j = x.1 5 j := by
    have h400 := h.1
    refine lp_forx (step := step) 400 (fun j s => s.1 = nI j ∧ p + j ≤ t ∧ s.2.1 5 3 = nI (p + j) ∧ (∀ i, p ≤ i → i < p + j → P (T i) = true) ∧ Fr (fun c => c = 5) x s.2 ∧ ∀ j, j ≠ 3 → s.2.1 5 j = x.1 5 j) _ ?_ ?_ ⟨rfl, hpt, hp, fun i a b => absurd b (by omega), Fr.rf, fun _ _ => rfl⟩ (by omega)
    · rintro j ⟨k, y⟩ hj ⟨h0, h1, h2, h3, h4, h5⟩
      dsimp only at h0 h1 h2 h3 h4 h5
      subst h0
      rw [hs j y (p + j) hj (h.fr (fr5 h4)) h2 h1]
      by_cases c : p + j < t ∧ P (T (p + j)) = true
      · left
        rw [if_pos c]
        refine ⟨_, rfl, nI_1 j, by omega, ?_, fun i a b => ?_, h4.tr (Fr.s rfl), fun i hi => ?_⟩
        · dsimp only
          rw [sI_at, nI_1]
          rfl
        · rcases Nat.lt_or_ge i (p + j) with d | d
          · exact h3 i a d
          · rw [show i = p + j by omega]
            exact c.2
        · dsimp only
          rw [sI_at2 hi]
          exact h5 i hi
      · right
        rw [if_neg c]
        refine ⟨_, rfl, p + j, ⟨by omega, h1, h3, fun z => ?_⟩, h4, h2, h5⟩
        cases hb : P (T (p + j)) with
        | false => rfl
        | true => exact absurd ⟨z, hb⟩ c
    · rintro ⟨k, y⟩ ⟨h0, h1, h2, h3, h4, h5⟩
      dsimp only at h0 h1 h2 h3 h4 h5
      subst h0
      rw [he y]
      exact ⟨_, rfl, p + 400, ⟨by omega, h1, h3, fun z => by omega⟩, h4, h2, h5⟩
  obtain ⟨y, ey, q, hq⟩ := key
  exact ⟨q, y, ey, hq⟩
theorem next_c {x : gXH} {T : Nat → Nat} {t p : Nat} (h : TC x T t) (hp : x.1 5 3 = nI p) (hpt : p ≤ t) : ∃ q y, f_X7_next x = some (nI q, y) ∧ Sk (rg 32 32) T t p q ∧ Fr (fun c => c = 5) x y ∧ y.1 5 3 = nI q ∧ ∀ j, j ≠ 3 → y.1 5 j = x.1 5 j := by
  have h400 := h.1
  obtain ⟨q, y, e, h1, h2, h3, h4⟩ := skip_c (P := rg 32 32) h hp hpt f_X7_next_L2 (fun j y p' hj hy h5 h6 => by
    unfold f_X7_next_L2
    dsimp only
    rw [if_neg (show ¬ (400 : Int32) ≤ nI j from nI_ge (a := j) (b := 400) hj (by omega)), h5]
    by_cases c : p' < t
    · rw [get_c hy c]
      simp only [Option.bind_some]
      have g := (hy.2.2 p' c).1
      by_cases d : T p' = 32
      · rw [if_pos (show nI (T p') = (32 : Int32) by rw [d]; rfl), if_pos ⟨c, rg_iff.mpr (by omega)⟩]
        rfl
      · rw [if_neg (show ¬ nI (T p') = (32 : Int32) from fun z => d ((nI_eq (a := T p') (b := 32) (by omega) (by omega)).mp z)), if_neg (fun z => d (by have := rg_iff.mp z.2; omega))]
    · rw [get_end hy (by omega) (by omega)]
      simp only [Option.bind_some]
      rw [if_neg (by decide), if_neg (fun z => c z.1)]) (fun y => by
    unfold f_X7_next_L2
    dsimp only
    rw [if_pos (show (400 : Int32) ≤ nI 400 from Int32.le_refl _)])
  refine ⟨q, y, ?_, h1, h2, h3, h4⟩
  unfold f_X7_next
  rw [e]
  simp only [Option.bind_some]
  rw [h3]
theorem letter_n {b : Nat} (hb : b < 2 ^ 31) : f_X7_isLetter (nI b) = if rg 97 122 b = true then 1 else 0 := rgI (lo := 97) (hi := 122) hb (by omega) (by omega)
theorem digit_n {b : Nat} (hb : b < 2 ^ 31) : f_X7_isDigit (nI b) = if rg 48 57 b = true then 1 else 0 := rgI (lo := 48) (hi := 57) hb (by omega) (by omega)
theorem letters_c {x : gXH} {T : Nat → Nat} {t p : Nat} (h : TC x T t) (hp : x.1 5 3 = nI p) (hpt : p ≤ t) (b1 : Int32) : ∃ q y, lp (f_X7_readWord_L7 b1) 2000 ((0 : Int32), x) = some y ∧ Sk (rg 97 122) T t p q ∧ Fr (fun c => c = 5) x y ∧ y.1 5 3 = nI q ∧ ∀ j, j ≠ 3 → y.1 5 j = x.1 5 j := by
  have h400 := h.1
  exact skip_c (P := rg 97 122) h hp hpt (f_X7_readWord_L7 b1) (fun j y p' hj hy h5 h6 => by
    unfold f_X7_readWord_L7
    dsimp only
    rw [if_neg (show ¬ (400 : Int32) ≤ nI j from nI_ge (a := j) (b := 400) hj (by omega)), h5]
    by_cases c : p' < t
    · rw [get_c hy c]
      simp only [Option.bind_some]
      have g := (hy.2.2 p' c).1
      rw [letter_n (by omega)]
      by_cases d : rg 97 122 (T p') = true
      · rw [if_pos d, if_neg i1n0, if_pos ⟨c, d⟩]
        rfl
      · rw [if_neg d, if_pos rfl, if_neg (fun z => d z.2)]
    · rw [get_end hy (by omega) (by omega)]
      simp only [Option.bind_some]
      rw [if_pos (by decide), if_neg (fun z => c z.1)]) (fun y => by
    unfold f_X7_readWord_L7
    dsimp only
    rw [if_pos (show (400 : Int32) ≤ nI 400 from Int32.le_refl _)])
/-! the reference's -/
theorem i8_lo : ∀ b, b < 128 → (nI b).toInt8.toInt32 = nI b := by decide +kernel
theorem i8_hi : ∀ b, b < 256 → 128 ≤ b → (nI b).toInt8.toInt32 < 0 := by decide +kernel
theorem neg_lt {x : Int32} (h : x < 0) {n : Nat} (hn : n < 2 ^ 31) : x < nI n := by
  have e1 := Int32.lt_iff_toInt_lt.mp h
  apply Int32.lt_iff_toInt_lt.mpr
  rw [nI_toInt hn]
  have e2 : (0 : Int32).toInt = 0 := rfl
  omega
theorem isAt_m {m : gIH} {T : Nat → Nat} {t p : Nat} (h : TM m T t) (hp : m 81 24 = nI p) (hpt : p ≤ t) {lo hi : Nat} (hl : lo < 128) (hh : hi < 128) : f_X10_isAt m (nI lo) (nI hi) = some (if p < t ∧ rg lo hi (T p) = true then 1 else 0) := by
  obtain ⟨h1, h2, h3⟩ := h
  unfold f_X10_isAt
  rw [h2, hp]
  by_cases c : p < t
  · obtain ⟨g1, g2⟩ := h3 p c
    rw [if_neg (nI_ge c (by omega)), gck_ni (show p < 400 by omega) (by omega), nI_clamp (show p < 2 ^ 31 by omega), g2, gck_ni (show p < 400 by omega) (by omega)]
    rcases Nat.lt_or_ge (T p) 128 with d | d
    · rw [i8_lo _ d]
      by_cases c1 : lo ≤ T p
      · rw [if_neg (nI_nlt c1 (by omega))]
        by_cases c2 : T p ≤ hi
        · rw [if_neg (nI_nlt c2 (by omega)), if_pos ⟨c, rg_iff.mpr ⟨c1, c2⟩⟩]
        · rw [if_pos (nI_lt (by omega) (by omega)), if_neg (fun z => c2 (rg_iff.mp z.2).2)]
      · rw [if_pos (nI_lt (by omega) (by omega)), if_neg (fun z => c1 (rg_iff.mp z.2).1)]
    · rw [if_pos (neg_lt (i8_hi _ g1 d) (by omega)), if_neg (fun z => by have := rg_iff.mp z.2; omega)]
  · rw [if_pos (nI_le (by omega) (by omega)), if_neg (fun z => c z.1)]
theorem skip_m {m : gIH} {T : Nat → Nat} {t p lo hi : Nat} (hl : lo < 128) (hh : hi < 128) (h : TM m T t) (hp : m 81 24 = nI p) (hpt : p ≤ t) (step : gIH → Option (gIH ⊕ gIH))
    (hs : ∀ s, step s = (f_X10_isAt s (nI lo) (nI hi)).bind (fun y1 => if y1 = (0 : Int32) then some (.inr s) else some (.inl (up2 s 81 24 ((s 81 24) + 1))))) :
    ∃ q y, lp step 2000 m = some y ∧ Sk (rg lo hi) T t p q ∧ FrM (fun c j => c = 81 ∧ (j = 24 ∨ j = 26)) m y ∧ y 81 24 = nI q ∧ y 81 26 = m 81 26 := by
  have h400 := h.1
  have key : ∃ y, lp step 2000 m = some y ∧ ∃ q, Sk (rg lo hi) T t p q ∧ FrM (fun c j => c = 81 ∧ (j = 24 ∨ j = 26)) m y ∧ y 81 24 = nI q ∧ y 81 26 = m 81 26 := by
    refine lp_forx (step := step) 400 (fun j s => p + j ≤ t ∧ s 81 24 = nI (p + j) ∧ (∀ i, p ≤ i → i < p + j → rg lo hi (T i) = true) ∧ FrM (fun c j => c = 81 ∧ (j = 24 ∨ j = 26)) m s ∧ s 81 26 = m 81 26) _ ?_ ?_ ⟨hpt, hp, fun i a b => absurd b (by omega), FrM.rf, rfl⟩ (by omega)
    · rintro j y hj ⟨h1, h2, h3, h4, h5⟩
      rw [hs y, isAt_m (h.fr (frr h4)) h2 h1 hl hh]
      simp only [Option.bind_some]
      by_cases c : p + j < t ∧ rg lo hi (T (p + j)) = true
      · left
        rw [if_pos c, if_neg i1n0]
        refine ⟨_, rfl, by omega, ?_, fun i a b => ?_, h4.tr (FrM.s ⟨rfl, Or.inl rfl⟩), ?_⟩
        · rw [up2_at, h2, nI_1]
          rfl
        · rcases Nat.lt_or_ge i (p + j) with d | d
          · exact h3 i a d
          · rw [show i = p + j by omega]
            exact c.2
        · rw [up2_at2 (Or.inr (by decide))]
          exact h5
      · right
        rw [if_neg c, if_pos rfl]
        refine ⟨_, rfl, p + j, ⟨by omega, h1, h3, fun z => ?_⟩, h4, h2, h5⟩
        cases hb : rg lo hi (T (p + j)) with
        | false => rfl
        | true => exact absurd ⟨z, hb⟩ c
    · rintro y ⟨h1, h2, h3, h4, h5⟩
      rw [hs y, isAt_m (h.fr (frr h4)) h2 h1 hl hh]
      simp only [Option.bind_some]
      rw [if_neg (show ¬ (p + 400 < t ∧ rg lo hi (T (p + 400)) = true) from fun z => by omega), if_pos rfl]
      exact ⟨_, rfl, p + 400, ⟨by omega, h1, h3, fun z => by omega⟩, h4, h2, h5⟩
  obtain ⟨y, ey, q, hq⟩ := key
  exact ⟨q, y, ey, hq⟩
theorem blanks_m {m : gIH} {T : Nat → Nat} {t p : Nat} (h : TM m T t) (hp : m 81 24 = nI p) (hpt : p ≤ t) : ∃ q y, f_X10_blanks m = some y ∧ Sk (rg 32 32) T t p q ∧ FrM (fun c j => c = 81 ∧ (j = 24 ∨ j = 26)) m y ∧ y 81 24 = nI q ∧ y 81 26 = nI q := by
  obtain ⟨q, y, e, h1, h2, h3, h4⟩ := skip_m (lo := 32) (hi := 32) (by omega) (by omega) h hp hpt f_X10_blanks_L0 (fun s => rfl)
  refine ⟨q, up2 y 81 26 (nI q), ?_, h1, h2.tr (FrM.s ⟨rfl, Or.inr rfl⟩), ?_, up2_at⟩
  · unfold f_X10_blanks
    rw [e]
    simp only [Option.bind_some, lt]
    rw [h3]
  · rw [up2_at2 (Or.inr (by decide))]
    exact h3
theorem letters_m {m : gIH} {T : Nat → Nat} {t p : Nat} (h : TM m T t) (hp : m 81 24 = nI p) (hpt : p ≤ t) : ∃ b q y, f_X10_letters m = some y ∧ Sk (rg 32 32) T t p b ∧ Sk (rg 97 122) T t b q ∧ FrM (fun c j => c = 81 ∧ (j = 24 ∨ j = 26)) m y ∧ y 81 24 = nI q ∧ y 81 26 = nI b := by
  obtain ⟨b, y, e, h1, h2, h3, h4⟩ := blanks_m h hp hpt
  obtain ⟨q, z, e2, g1, g2, g3, g4⟩ := skip_m (lo := 97) (hi := 122) (by omega) (by omega) (h.fr (frr h2)) h3 h1.2.1 f_X10_letters_L4 (fun s => rfl)
  refine ⟨b, q, z, ?_, h1, g1, h2.tr g2, g3, g4.trans h4⟩
  unfold f_X10_letters
  rw [e]
  simp only [Option.bind_some]
  rw [e2]
  rfl
