/-! BASE: ints by numbers, sets by bits, counting, loops. The rows on bt and fb_ began as the kit's starting texts (BITS, COUNTS) -/
def bt (x : Int32) (i : Nat) : Bool := x.toBitVec.getLsbD i
theorem b_ext {x y : Int32} (h : ∀ i, i < 32 → bt x i = bt y i) : x = y := Int32.toBitVec_inj.mp (BitVec.eq_of_getLsbD_eq (fun i hi => h i hi))
theorem b_or (x y : Int32) (i : Nat) : bt (x ||| y) i = (bt x i || bt y i) := by unfold bt; rw [Int32.toBitVec_or, BitVec.getLsbD_or]
theorem b_and (x y : Int32) (i : Nat) : bt (x &&& y) i = (bt x i && bt y i) := by unfold bt; rw [Int32.toBitVec_and, BitVec.getLsbD_and]
theorem b_xor (x y : Int32) (i : Nat) : bt (x ^^^ y) i = (bt x i ^^ bt y i) := by unfold bt; rw [Int32.toBitVec_xor, BitVec.getLsbD_xor]
theorem b_big {x : Int32} {i : Nat} (h : 32 ≤ i) : bt x i = false := BitVec.getLsbD_of_ge _ _ h
theorem b_255 (i : Nat) : bt 255 i = decide (i < 8) := by
  rcases Nat.lt_or_ge i 32 with h | h
  · exact (by decide +kernel : ∀ i, i < 32 → bt 255 i = decide (i < 8)) i h
  · rw [b_big h, decide_eq_false (by omega)]
theorem b_65535 (i : Nat) : bt 65535 i = decide (i < 16) := by
  rcases Nat.lt_or_ge i 32 with h | h
  · exact (by decide +kernel : ∀ i, i < 32 → bt 65535 i = decide (i < 16)) i h
  · rw [b_big h, decide_eq_false (by omega)]
theorem b_m1 : ∀ i, i < 32 → bt (-1) i = true := by decide +kernel
theorem b_0 (i : Nat) : bt 0 i = false := BitVec.getLsbD_zero
theorem s_l : ∀ n, n < 32 → ((nI n &&& 31).toBitVec.smod 32).toNat = n := by decide +kernel
theorem s_u : ∀ n, n < 32 → (((nI n).toUInt32 &&& Int32.toUInt32 31).toBitVec % 32).toNat = n := by decide +kernel
theorem b_shl (n : Nat) (hn : n < 32) (x : Int32) {i : Nat} (hi : i < 32) : bt (x <<< (nI n &&& 31)) i = (decide (n ≤ i) && bt x (i - n)) := by
  unfold bt
  rw [Int32.toBitVec_shiftLeft]
  show (x.toBitVec <<< ((nI n &&& 31).toBitVec.smod 32).toNat).getLsbD i = _
  rw [s_l n hn, BitVec.getLsbD_shiftLeft]
  rcases Nat.lt_or_ge i n with h | h
  · simp [h, Nat.not_le.mpr h]
  · simp [hi, h, Nat.not_lt.mpr h]
theorem b_ushr (n : Nat) (hn : n < 32) (x : Int32) (i : Nat) : bt ((x.toUInt32 >>> ((nI n).toUInt32 &&& Int32.toUInt32 31)).toInt32) i = bt x (n + i) := by
  show (x.toUInt32 >>> ((nI n).toUInt32 &&& Int32.toUInt32 31)).toBitVec.getLsbD i = x.toUInt32.toBitVec.getLsbD (n + i)
  rw [UInt32.toBitVec_shiftRight]
  show (x.toUInt32.toBitVec >>> (((nI n).toUInt32 &&& Int32.toUInt32 31).toBitVec % 32).toNat).getLsbD i = _
  rw [s_u n hn, BitVec.getLsbD_ushiftRight]
theorem b_sshr (n : Nat) (hn : n < 32) (x : Int32) {i : Nat} (hi : i < 32) : bt (x >>> (nI n &&& 31)) i = if n + i < 32 then bt x (n + i) else bt x 31 := by
  unfold bt
  rw [Int32.toBitVec_shiftRight]
  show (x.toBitVec.sshiftRight ((nI n &&& 31).toBitVec.smod 32).toNat).getLsbD i = _
  rw [s_l n hn, BitVec.getLsbD_sshiftRight, BitVec.msb_eq_getLsbD_last]
  simp [hi]
theorem fb_holes : ∀ (m n : Nat) (f : Nat → Nat), (∀ i, i < n → f i < m) → (∀ i j, i < j → j < n → f i ≠ f j) → n ≤ m := by
  intro m
  induction m with
  | zero =>
    intro n f h1 _
    rcases Nat.eq_zero_or_pos n with h | h
    · omega
    · exact absurd (h1 0 h) (Nat.not_lt_zero _)
  | succ m ih =>
    intro n f h1 h2
    by_cases hx : ∃ i, i < n ∧ f i = m
    · obtain ⟨a, ha, hfa⟩ := hx
      have hg := ih (n - 1) (fun i => if i < a then f i else f (i + 1)) (by
        intro i hi
        by_cases q : i < a
        · simp only [if_pos q]
          have b1 := h1 i (by omega)
          have b2 := h2 i a q ha
          omega
        · simp only [if_neg q]
          have b1 := h1 (i + 1) (by omega)
          have b2 := h2 a (i + 1) (by omega) (by omega)
          omega) (by
        intro i j hij hj
        by_cases q : i < a
        · by_cases r : j < a
          · simp only [if_pos q, if_pos r]
            exact h2 i j hij (by omega)
          · simp only [if_pos q, if_neg r]
            exact h2 i (j + 1) (by omega) (by omega)
        · have r : ¬ j < a := by omega
          simp only [if_neg q, if_neg r]
          exact h2 (i + 1) (j + 1) (by omega) (by omega))
      omega
    · have hg := ih n f (fun i hi => by
        have b1 := h1 i hi
        have b2 : f i ≠ m := fun e => hx ⟨i, hi, e⟩
        omega) h2
      omega
/-- two of them in one place -/
theorem fb_twice {m n : Nat} {f : Nat → Nat} (h : ∀ i, i < n → f i < m) (hm : m < n) : ∃ i j, i < j ∧ j < n ∧ f i = f j := by
  refine Classical.byContradiction fun hx => ?_
  have := fb_holes m n f h (fun i j hij hj e => hx ⟨i, j, hij, hj, e⟩)
  omega
/-- as many as places, none twice: each place is taken -/
theorem fb_onto {n : Nat} {f : Nat → Nat} (h : ∀ i, i < n → f i < n) (h2 : ∀ i j, i < j → j < n → f i ≠ f j) {y : Nat} (hy : y < n) : ∃ i, i < n ∧ f i = y := by
  refine Classical.byContradiction fun hx => ?_
  have hne : ∀ i, i < n → f i ≠ y := fun i hi e => hx ⟨i, hi, e⟩
  have := fb_holes (n - 1) n (fun i => if f i < y then f i else f i - 1) (by
    intro i hi
    have b1 := h i hi
    have b2 := hne i hi
    by_cases q : f i < y
    · simp only [if_pos q]; omega
    · simp only [if_neg q]; omega) (by
    intro i j hij hj
    have b1 := hne i (by omega)
    have b2 := hne j hj
    have b3 := h2 i j hij hj
    by_cases q : f i < y
    · by_cases r : f j < y
      · simp only [if_pos q, if_pos r]; exact b3
      · simp only [if_pos q, if_neg r]; omega
    · by_cases r : f j < y
      · simp only [if_neg q, if_pos r]; omega
      · simp only [if_neg q, if_neg r]; omega)
  omega
/-! ===== how many places have a property ===== -/
def fb_ct (p : Nat → Bool) : Nat → Nat
  | 0 => 0
  | n + 1 => fb_ct p n + (if p n then 1 else 0)
theorem fb_ct_succ (p : Nat → Bool) (n : Nat) : fb_ct p (n + 1) = fb_ct p n + (if p n then 1 else 0) := rfl
theorem fb_ct_le (p : Nat → Bool) : ∀ n, fb_ct p n ≤ n
  | 0 => Nat.le_refl _
  | n + 1 => by
    have h := fb_ct_le p n
    rw [fb_ct_succ]
    split <;> omega
theorem fb_ct_step (p : Nat → Bool) (m : Nat) : ∀ n, fb_ct p m ≤ fb_ct p (m + n)
  | 0 => Nat.le_refl _
  | n + 1 => by
    have h := fb_ct_step p m n
    show fb_ct p m ≤ fb_ct p (m + n + 1)
    rw [fb_ct_succ]
    omega
theorem fb_ct_mono (p : Nat → Bool) {m n : Nat} (h : m ≤ n) : fb_ct p m ≤ fb_ct p n := by
  have := fb_ct_step p m (n - m)
  rwa [Nat.add_sub_cancel' h] at this
theorem fb_ct_cong {p q : Nat → Bool} : ∀ {n : Nat}, (∀ k, k < n → p k = q k) → fb_ct p n = fb_ct q n
  | 0, _ => rfl
  | n + 1, h => by
    rw [fb_ct_succ, fb_ct_succ, fb_ct_cong (fun k hk => h k (by omega)), h n (by omega)]
/-- one place changed -/
theorem fb_ct_out (p : Nat → Bool) (b : Bool) {i n : Nat} (h : n ≤ i) : fb_ct (fun k => if k = i then b else p k) n = fb_ct p n :=
  fb_ct_cong fun k hk => if_neg (by omega)
theorem fb_ct_upd (p : Nat → Bool) (b : Bool) {i : Nat} : ∀ {n : Nat}, i < n → fb_ct (fun k => if k = i then b else p k) n + (if p i then 1 else 0) = fb_ct p n + (if b then 1 else 0)
  | 0, h => absurd h (Nat.not_lt_zero i)
  | n + 1, h => by
    rw [fb_ct_succ, fb_ct_succ]
    rcases Nat.lt_or_ge i n with q | q
    · have := fb_ct_upd p b q
      have e : (if n = i then b else p n) = p n := if_neg (by omega)
      rw [e]
      omega
    · have e : i = n := by omega
      subst e
      rw [fb_ct_out p b (Nat.le_refl _)]
      simp only [if_true]
      omega
theorem fb_ct_sub {p q : Nat → Bool} : ∀ {n : Nat}, (∀ k, k < n → p k = true → q k = true) → fb_ct p n ≤ fb_ct q n
  | 0, _ => Nat.le_refl _
  | n + 1, h => by
    have h1 := fb_ct_sub (n := n) (p := p) (q := q) (fun k hk => h k (by omega))
    have h2 := h n (by omega)
    rw [fb_ct_succ, fb_ct_succ]
    cases hp : p n <;> cases hq : q n <;> simp_all <;> omega
theorem fb_ct_or {p q : Nat → Bool} : ∀ {n : Nat}, (∀ k, k < n → ¬ (p k = true ∧ q k = true)) → fb_ct (fun k => p k || q k) n = fb_ct p n + fb_ct q n
  | 0, _ => rfl
  | n + 1, h => by
    have h1 := fb_ct_or (n := n) (p := p) (q := q) (fun k hk => h k (by omega))
    have h2 := h n (by omega)
    rw [fb_ct_succ, fb_ct_succ, fb_ct_succ, h1]
    cases hp : p n <;> cases hq : q n <;> simp_all <;> omega
theorem fb_ct_not (p : Nat → Bool) : ∀ n, fb_ct p n + fb_ct (fun k => !p k) n = n
  | 0 => rfl
  | n + 1 => by
    have h := fb_ct_not p n
    rw [fb_ct_succ, fb_ct_succ]
    cases p n <;> simp <;> omega
theorem fb_ct_split (p : Nat → Bool) (m : Nat) : ∀ n, fb_ct p (m + n) = fb_ct p m + fb_ct (fun k => p (m + k)) n
  | 0 => rfl
  | n + 1 => by
    have h := fb_ct_split p m n
    show fb_ct p (m + n + 1) = _
    rw [fb_ct_succ, fb_ct_succ, h, Nat.add_assoc]
theorem fb_ct_zero {p : Nat → Bool} : ∀ {n : Nat}, fb_ct p n = 0 ↔ ∀ k, k < n → p k = false
  | 0 => ⟨fun _ k hk => absurd hk (Nat.not_lt_zero k), fun _ => rfl⟩
  | n + 1 => by
    have h := fb_ct_zero (p := p) (n := n)
    rw [fb_ct_succ]
    constructor
    · intro e k hk
      have e1 : fb_ct p n = 0 := by omega
      rcases Nat.lt_or_ge k n with q | q
      · exact h.mp e1 k q
      · have ek : k = n := by omega
        subst ek
        cases hp : p k
        · rfl
        · simp [hp] at e
    · intro a
      rw [h.mpr (fun k hk => a k (by omega)), a n (by omega)]
      rfl
theorem fb_ct_pos {p : Nat → Bool} {n : Nat} : 0 < fb_ct p n ↔ ∃ k, k < n ∧ p k = true := by
  constructor
  · intro h
    refine Classical.byContradiction fun hx => ?_
    have := fb_ct_zero.mpr (fun k hk => by
      cases hp : p k
      · rfl
      · exact absurd ⟨k, hk, hp⟩ hx : ∀ k, k < n → p k = false)
    omega
  · rintro ⟨k, hk, hp⟩
    rcases Nat.eq_zero_or_pos (fb_ct p n) with e | e
    · have := fb_ct_zero.mp e k hk
      rw [this] at hp
      cases hp
    · exact e
theorem fb_ct_all {p : Nat → Bool} {n : Nat} : fb_ct p n = n ↔ ∀ k, k < n → p k = true := by
  have h := fb_ct_not p n
  constructor
  · intro e k hk
    have z : fb_ct (fun k => !p k) n = 0 := by omega
    have := fb_ct_zero.mp z k hk
    cases hp : p k
    · simp [hp] at this
    · rfl
  · intro a
    have z : fb_ct (fun k => !p k) n = 0 := fb_ct_zero.mpr (fun k hk => by simp [a k hk])
    omega
/-- the k-th place with the property -/
theorem fb_ct_kth {p : Nat → Bool} {k : Nat} : ∀ {n : Nat}, k < fb_ct p n → ∃ i, i < n ∧ p i = true ∧ fb_ct p i = k
  | 0, h => absurd h (Nat.not_lt_zero k)
  | n + 1, h => by
    rcases Nat.lt_or_ge k (fb_ct p n) with q | q
    · obtain ⟨i, h1, h2⟩ := fb_ct_kth q
      exact ⟨i, by omega, h2⟩
    · rw [fb_ct_succ] at h
      cases hp : p n
      · simp [hp] at h; omega
      · simp [hp] at h
        exact ⟨n, by omega, hp, by omega⟩
theorem fb_ct_kth_one {p : Nat → Bool} {i j : Nat} (hi : p i = true) (hj : p j = true) (e : fb_ct p i = fb_ct p j) : i = j := by
  have key : ∀ a b : Nat, a < b → p a = true → fb_ct p a < fb_ct p b := by
    intro a b hab ha
    have h := fb_ct_mono p (show a + 1 ≤ b from hab)
    rw [fb_ct_succ, ha] at h
    simp at h
    omega
  rcases Nat.lt_trichotomy i j with q | q | q
  · have := key i j q hi; omega
  · exact q
  · have := key j i q hj; omega
/-! ===== sums over a range: one place changed, parts, bounds ===== -/
def fb_sm (f : Nat → Nat) : Nat → Nat
  | 0 => 0
  | n + 1 => fb_sm f n + f n
theorem fb_sm_succ (f : Nat → Nat) (n : Nat) : fb_sm f (n + 1) = fb_sm f n + f n := rfl
theorem fb_sm_cong {f g : Nat → Nat} : ∀ {n : Nat}, (∀ k, k < n → f k = g k) → fb_sm f n = fb_sm g n
  | 0, _ => rfl
  | n + 1, h => by rw [fb_sm_succ, fb_sm_succ, fb_sm_cong (fun k hk => h k (by omega)), h n (by omega)]
theorem fb_sm_out (f : Nat → Nat) (v : Nat) {i n : Nat} (h : n ≤ i) : fb_sm (fun k => if k = i then v else f k) n = fb_sm f n :=
  fb_sm_cong fun k hk => if_neg (by omega)
theorem fb_sm_upd (f : Nat → Nat) (v : Nat) {i : Nat} : ∀ {n : Nat}, i < n → fb_sm (fun k => if k = i then v else f k) n + f i = fb_sm f n + v
  | 0, h => absurd h (Nat.not_lt_zero i)
  | n + 1, h => by
    rw [fb_sm_succ, fb_sm_succ]
    rcases Nat.lt_or_ge i n with q | q
    · have := fb_sm_upd f v q
      have e : (if n = i then v else f n) = f n := if_neg (by omega)
      rw [e]
      omega
    · have e : i = n := by omega
      subst e
      rw [fb_sm_out f v (Nat.le_refl _)]
      simp only [if_true]
      omega
theorem fb_sm_add (f g : Nat → Nat) : ∀ n, fb_sm (fun k => f k + g k) n = fb_sm f n + fb_sm g n
  | 0 => rfl
  | n + 1 => by
    have h := fb_sm_add f g n
    rw [fb_sm_succ, fb_sm_succ, fb_sm_succ, h]
    omega
theorem fb_sm_le {f g : Nat → Nat} : ∀ {n : Nat}, (∀ k, k < n → f k ≤ g k) → fb_sm f n ≤ fb_sm g n
  | 0, _ => Nat.le_refl _
  | n + 1, h => by
    have h1 := fb_sm_le (n := n) (f := f) (g := g) (fun k hk => h k (by omega))
    have h2 := h n (by omega)
    rw [fb_sm_succ, fb_sm_succ]
    omega
theorem fb_sm_const (c : Nat) : ∀ n, fb_sm (fun _ => c) n = n * c
  | 0 => by rw [Nat.zero_mul]; rfl
  | n + 1 => by rw [fb_sm_succ, fb_sm_const c n, Nat.succ_mul]
theorem fb_sm_bound {f : Nat → Nat} {c n : Nat} (h : ∀ k, k < n → f k ≤ c) : fb_sm f n ≤ n * c := by
  rw [← fb_sm_const c n]
  exact fb_sm_le h
theorem fb_sm_mono (f : Nat → Nat) (m : Nat) : ∀ n, fb_sm f m ≤ fb_sm f (m + n)
  | 0 => Nat.le_refl _
  | n + 1 => by
    have h := fb_sm_mono f m n
    show fb_sm f m ≤ fb_sm f (m + n + 1)
    rw [fb_sm_succ]
    omega
theorem fb_sm_part (f : Nat → Nat) {i n : Nat} (h : i < n) : fb_sm f i + f i ≤ fb_sm f n := by
  have := fb_sm_mono f (i + 1) (n - (i + 1))
  rw [fb_sm_succ, show i + 1 + (n - (i + 1)) = n by omega] at this
  exact this
theorem fb_sm_split (f : Nat → Nat) (m : Nat) : ∀ n, fb_sm f (m + n) = fb_sm f m + fb_sm (fun k => f (m + k)) n
  | 0 => rfl
  | n + 1 => by
    have h := fb_sm_split f m n
    show fb_sm f (m + n + 1) = _
    rw [fb_sm_succ, fb_sm_succ, h, Nat.add_assoc]
theorem fb_sm_zero {f : Nat → Nat} {n : Nat} (h : fb_sm f n = 0) : ∀ k, k < n → f k = 0 := fun k hk => by
  have := fb_sm_part f hk
  omega
/-- the same over whole numbers -/
def fb_si (f : Nat → Int) : Nat → Int
  | 0 => 0
  | n + 1 => fb_si f n + f n
theorem fb_si_succ (f : Nat → Int) (n : Nat) : fb_si f (n + 1) = fb_si f n + f n := rfl
theorem fb_si_cong {f g : Nat → Int} : ∀ {n : Nat}, (∀ k, k < n → f k = g k) → fb_si f n = fb_si g n
  | 0, _ => rfl
  | n + 1, h => by rw [fb_si_succ, fb_si_succ, fb_si_cong (fun k hk => h k (by omega)), h n (by omega)]
theorem fb_si_out (f : Nat → Int) (v : Int) {i n : Nat} (h : n ≤ i) : fb_si (fun k => if k = i then v else f k) n = fb_si f n :=
  fb_si_cong fun k hk => if_neg (by omega)
theorem fb_si_upd (f : Nat → Int) (v : Int) {i : Nat} : ∀ {n : Nat}, i < n → fb_si (fun k => if k = i then v else f k) n = fb_si f n - f i + v
  | 0, h => absurd h (Nat.not_lt_zero i)
  | n + 1, h => by
    rw [fb_si_succ, fb_si_succ]
    rcases Nat.lt_or_ge i n with q | q
    · have := fb_si_upd f v q
      have e : (if n = i then v else f n) = f n := if_neg (by omega)
      rw [e]
      omega
    · have e : i = n := by omega
      subst e
      rw [fb_si_out f v (Nat.le_refl _)]
      simp only [if_true]
      omega
theorem fb_si_add (f g : Nat → Int) : ∀ n, fb_si (fun k => f k + g k) n = fb_si f n + fb_si g n
  | 0 => rfl
  | n + 1 => by
    have h := fb_si_add f g n
    rw [fb_si_succ, fb_si_succ, fb_si_succ, h]
    omega
theorem fb_si_sub (f g : Nat → Int) : ∀ n, fb_si (fun k => f k - g k) n = fb_si f n - fb_si g n
  | 0 => rfl
  | n + 1 => by
    have h := fb_si_sub f g n
    rw [fb_si_succ, fb_si_succ, fb_si_succ, h]
    omega
theorem fb_si_mul (c : Int) (f : Nat → Int) : ∀ n, fb_si (fun k => c * f k) n = c * fb_si f n
  | 0 => (Int.mul_zero c).symm
  | n + 1 => by
    have h := fb_si_mul c f n
    rw [fb_si_succ, fb_si_succ, h, Int.mul_add]
theorem fb_si_split (f : Nat → Int) (m : Nat) : ∀ n, fb_si f (m + n) = fb_si f m + fb_si (fun k => f (m + k)) n
  | 0 => (Int.add_zero _).symm
  | n + 1 => by
    have h := fb_si_split f m n
    show fb_si f (m + n + 1) = _
    rw [fb_si_succ, fb_si_succ, h, Int.add_assoc]
theorem fb_si_nat (f : Nat → Nat) : ∀ n, fb_si (fun k => (f k : Int)) n = (fb_sm f n : Int)
  | 0 => rfl
  | n + 1 => by
    have h := fb_si_nat f n
    rw [fb_si_succ, fb_sm_succ, h]
    omega
theorem fb_si_bound {f : Nat → Int} {c : Int} (hc : 0 ≤ c) : ∀ {n : Nat}, (∀ k, k < n → -c ≤ f k ∧ f k ≤ c) → -(n * c) ≤ fb_si f n ∧ fb_si f n ≤ n * c
  | 0, _ => by simp [fb_si]
  | n + 1, h => by
    have h1 := fb_si_bound (n := n) (f := f) hc (fun k hk => h k (by omega))
    have h2 := h n (by omega)
    have e : ((n + 1 : Nat) : Int) * c = n * c + c := by rw [Int.natCast_add, Int.add_mul]; simp
    rw [fb_si_succ, e]
    omega
theorem fb_first {p : Nat → Prop} [DecidablePred p] : ∀ {n : Nat}, (∃ i, i < n ∧ p i) → ∃ i, i < n ∧ p i ∧ ∀ j, j < i → ¬ p j
  | 0, h => by obtain ⟨i, hi, -⟩ := h; exact absurd hi (Nat.not_lt_zero i)
  | n + 1, h => by
    by_cases q : ∃ i, i < n ∧ p i
    · obtain ⟨i, h1, h2⟩ := fb_first q
      exact ⟨i, by omega, h2⟩
    · obtain ⟨i, h1, h2⟩ := h
      have e : i = n := by
        rcases Nat.lt_or_ge i n with r | r
        · exact absurd ⟨i, r, h2⟩ q
        · omega
      subst e
      exact ⟨i, by omega, h2, fun j hj hp => q ⟨j, hj, hp⟩⟩
theorem fb_first_one {p : Nat → Prop} {i j : Nat} (hi : p i) (hi2 : ∀ k, k < i → ¬ p k) (hj : p j) (hj2 : ∀ k, k < j → ¬ p k) : i = j := by
  rcases Nat.lt_trichotomy i j with q | q | q
  · exact absurd hi (hj2 i q)
  · exact q
  · exact absurd hj (hi2 j q)
theorem fb_last {p : Nat → Prop} [DecidablePred p] : ∀ {n : Nat}, (∃ i, i < n ∧ p i) → ∃ i, i < n ∧ p i ∧ ∀ j, i < j → j < n → ¬ p j
  | 0, h => by obtain ⟨i, hi, -⟩ := h; exact absurd hi (Nat.not_lt_zero i)
  | n + 1, h => by
    by_cases q : p n
    · exact ⟨n, by omega, q, fun j h1 h2 => by omega⟩
    · obtain ⟨i, h1, h2⟩ := h
      have hi : i < n := by
        rcases Nat.lt_or_ge i n with r | r
        · exact r
        · have e : i = n := by omega
          subst e
          exact absurd h2 q
      obtain ⟨i2, a1, a2, a3⟩ := fb_last (n := n) ⟨i, hi, h2⟩
      refine ⟨i2, by omega, a2, fun j b1 b2 => ?_⟩
      rcases Nat.lt_or_ge j n with r | r
      · exact a3 j b1 r
      · have e : j = n := by omega
        subst e
        exact q
/-- the first greatest -/
theorem fb_best (f : Nat → Int) : ∀ {n : Nat}, 0 < n → ∃ i, i < n ∧ (∀ j, j < n → f j ≤ f i) ∧ ∀ j, j < i → f j < f i
  | 0, h => absurd h (Nat.lt_irrefl 0)
  | 1, _ => ⟨0, by omega, fun j hj => by have e : j = 0 := by omega
                                         subst e; exact Int.le_refl _, fun j hj => absurd hj (Nat.not_lt_zero j)⟩
  | n + 2, _ => by
    obtain ⟨i, h1, h2, h3⟩ := fb_best f (n := n + 1) (by omega)
    by_cases q : f i < f (n + 1)
    · refine ⟨n + 1, by omega, fun j hj => ?_, fun j hj => ?_⟩
      · rcases Nat.lt_or_ge j (n + 1) with r | r
        · have := h2 j r; omega
        · have e : j = n + 1 := by omega
          subst e; exact Int.le_refl _
      · have := h2 j hj; omega
    · refine ⟨i, by omega, fun j hj => ?_, h3⟩
      rcases Nat.lt_or_ge j (n + 1) with r | r
      · exact h2 j r
      · have e : j = n + 1 := by omega
        subst e; omega
theorem fb_best_one {f : Nat → Int} {n i j : Nat} (hi : i < n) (hi2 : ∀ k, k < n → f k ≤ f i) (hi3 : ∀ k, k < i → f k < f i) (hj : j < n) (hj2 : ∀ k, k < n → f k ≤ f j) (hj3 : ∀ k, k < j → f k < f j) : i = j := by
  rcases Nat.lt_trichotomy i j with q | q | q
  · have a := hj3 i q
    have b := hi2 j hj
    omega
  · exact q
  · have a := hi3 j q
    have b := hj2 i hi
    omega
/-- the first least -/
theorem fb_low (f : Nat → Int) {n : Nat} (h : 0 < n) : ∃ i, i < n ∧ (∀ j, j < n → f i ≤ f j) ∧ ∀ j, j < i → f i < f j := by
  obtain ⟨i, h1, h2, h3⟩ := fb_best (fun k => -f k) h
  exact ⟨i, h1, fun j hj => by have := h2 j hj; omega, fun j hj => by have := h3 j hj; omega⟩
/-! ===== signed ints as whole numbers, within bounds ===== -/
theorem fa_lit (n : Nat) : (OfNat.ofNat n : Int32) = nI n := rfl
theorem b_1 : ∀ i, i < 32 → bt 1 i = decide (i = 0) := by decide +kernel
theorem gck_ni {α : Type} {L i : Nat} {k : Option α} (h : i < L) (hL : L < 2 ^ 31) : gck L (nI i) k = k := gck_in (nI_in h hL)
theorem bt_nI (n : Nat) {i : Nat} (hi : i < 32) : bt (nI n) i = n.testBit i := by
  show (BitVec.ofNat 32 n).getLsbD i = _
  rw [BitVec.getLsbD_ofNat]
  simp [hi]
theorem and1_0 (x : Int32) : x &&& 1 = 0 ↔ bt x 0 = false := by
  constructor
  · intro h
    have h2 := congrArg (fun z => bt z 0) h
    simp only [b_and, b_0, b_1 0 (by omega)] at h2
    simpa using h2
  · intro h
    refine b_ext fun i hi => ?_
    rw [b_and, b_1 i hi, b_0]
    by_cases h0 : i = 0
    · subst h0; simp [h]
    · simp [h0]
theorem and1_1 (x : Int32) : x &&& 1 = 1 ↔ bt x 0 = true := by
  constructor
  · intro h
    have h2 := congrArg (fun z => bt z 0) h
    simp only [b_and, b_1 0 (by omega)] at h2
    simpa using h2
  · intro h
    refine b_ext fun i hi => ?_
    rw [b_and, b_1 i hi]
    by_cases h0 : i = 0
    · subst h0; simp [h]
    · simp [h0]
theorem has_eq (s : Int32) {k : Nat} (hk : k < 32) : f_X9_has s (nI k) = if bt s k = true then 1 else 0 := by
  unfold f_X9_has iush
  have h := b_ushr k hk s 0
  rw [Nat.add_zero] at h
  by_cases hb : bt s k = true
  · rw [if_pos hb, if_neg]
    intro q
    rw [and1_0, h, hb] at q
    cases q
  · rw [if_neg hb, if_pos]
    rw [and1_0, h]
    simpa using hb
theorem holds_eq (s : Int32) {k : Nat} (hk : k < 32) : f_X10_holds s (nI k) = if bt s k = true then 1 else 0 := by
  unfold f_X10_holds
  have h := b_sshr k hk s (i := 0) (by omega)
  rw [Nat.add_zero, if_pos hk] at h
  by_cases hb : bt s k = true
  · rw [if_pos hb, if_pos]
    rw [and1_1, h, hb]
  · rw [if_neg hb, if_neg]
    intro q
    rw [and1_1, h] at q
    exact hb q
theorem has0 (s : Int32) {k : Nat} (hk : k < 32) : (f_X9_has s (nI k) = 0) ↔ bt s k = false := by
  rw [has_eq s hk]
  cases bt s k <;> decide
theorem holds0 (s : Int32) {k : Nat} (hk : k < 32) : (f_X10_holds s (nI k) = 0) ↔ bt s k = false := by
  rw [holds_eq s hk]
  cases bt s k <;> decide
theorem bt_one {k i : Nat} (hk : k < 32) (hi : i < 32) : bt ((1 : Int32) <<< (nI k &&& 31)) i = decide (i = k) := by
  rw [b_shl k hk 1 hi]
  by_cases h : k ≤ i
  · rw [b_1 (i - k) (by omega)]
    simp only [h, decide_true, Bool.true_and]
    congr 1
    apply propext
    omega
  · rw [decide_eq_false h, decide_eq_false (by omega)]
    rfl
theorem bt_only {k i : Nat} (hk : k < 32) (hi : i < 32) : bt (f_X9_only (nI k)) i = decide (i = k) := bt_one hk hi
theorem bt_not (x : Int32) {i : Nat} (hi : i < 32) : bt (x ^^^ (-1)) i = !bt x i := by
  rw [b_xor, b_m1 i hi]
  cases bt x i <;> rfl
/-- no bits from 16 on -/
def S16 (s : Int32) : Prop := ∀ i, 16 ≤ i → bt s i = false
theorem S16.ext {x y : Int32} (hx : S16 x) (hy : S16 y) (h : ∀ i, i < 16 → bt x i = bt y i) : x = y := by
  refine b_ext fun i _ => ?_
  by_cases hi : i < 16
  · exact h i hi
  · rw [hx i (by omega), hy i (by omega)]
theorem s16_0 : S16 0 := fun i _ => b_0 i
theorem S16.or {x y : Int32} (hx : S16 x) (hy : S16 y) : S16 (x ||| y) := fun i hi => by rw [b_or, hx i hi, hy i hi]; rfl
theorem S16.and {x y : Int32} (hx : S16 x) : S16 (x &&& y) := fun i hi => by rw [b_and, hx i hi]; rfl
theorem s16_one {k : Nat} (hk : k < 16) : S16 ((1 : Int32) <<< (nI k &&& 31)) := fun i hi => by
  by_cases h : i < 32
  · rw [bt_one (by omega) h, decide_eq_false (by omega)]
  · exact b_big (by omega)
theorem b_zero (s : Int32) : s = 0 ↔ ∀ i, i < 32 → bt s i = false := ⟨fun h i _ => by rw [h, b_0], fun h => b_ext fun i hi => by rw [h i hi, b_0]⟩
theorem S16.zero {s : Int32} (h : S16 s) : s = 0 ↔ ∀ i, i < 16 → bt s i = false := by
  rw [b_zero]
  refine ⟨fun q i hi => q i (by omega), fun q i _ => ?_⟩
  by_cases hi : i < 16
  · exact q i hi
  · exact h i (by omega)
/-- a number of the set's bits -/
theorem of_bv (s : Int32) : s = nI s.toBitVec.toNat := Int32.toBitVec_inj.mp (by show _ = BitVec.ofNat 32 _; simp)
theorem bt_tn (s : Int32) (i : Nat) : bt s i = s.toBitVec.toNat.testBit i := rfl
theorem S16.lt {s : Int32} (h : S16 s) : s.toBitVec.toNat < 65536 := Nat.lt_pow_two_of_testBit (n := 16) _ fun i hi => by rw [← bt_tn]; exact h i hi
theorem ush_n {a k : Nat} (ha : a < 2 ^ 32) (hk : k < 32) : iush (nI a) (nI k) = nI (a >>> k) := by
  refine b_ext fun i hi => ?_
  unfold iush
  rw [b_ushr k hk, bt_nI _ hi, Nat.testBit_shiftRight]
  by_cases h : k + i < 32
  · rw [bt_nI _ h]
  · rw [b_big (by omega), Nat.testBit_lt_two_pow]
    exact Nat.lt_of_lt_of_le ha (Nat.pow_le_pow_right (by omega) (by omega))
theorem and_n (a b : Nat) : nI a &&& nI b = nI (a &&& b) := by
  refine b_ext fun i hi => ?_
  rw [b_and, bt_nI _ hi, bt_nI _ hi, bt_nI _ hi, Nat.testBit_and]
theorem sub_n {a b : Nat} (h : b ≤ a) : nI a - nI b = nI (a - b) := by
  apply Int32.toBitVec_inj.mp
  show BitVec.ofNat 32 a - BitVec.ofNat 32 b = BitVec.ofNat 32 (a - b)
  apply BitVec.eq_of_toNat_eq
  simp only [BitVec.toNat_sub, BitVec.toNat_ofNat]
  omega
def sw1 (n : Nat) : Nat := n - ((n >>> 1) &&& 1431655765)
def sw2 (n : Nat) : Nat := (n &&& 858993459) + ((n >>> 2) &&& 858993459)
def sw3 (n : Nat) : Nat := (n + (n >>> 4)) &&& 252645135
def sw4 (n : Nat) : Nat := n + (n >>> 8)
def sw5 (n : Nat) : Nat := n + (n >>> 16)
def sw (n : Nat) : Nat := sw5 (sw4 (sw3 (sw2 (sw1 n)))) &&& 63
theorem shr_le (n k : Nat) : n >>> k ≤ n := by
  rw [Nat.shiftRight_eq_div_pow]
  exact Nat.div_le_self _ _
theorem bc_sw {n : Nat} (h : n < 2 ^ 32) : f_J6_bitCount_0f7a4 (nI n) = nI (sw n) := by
  have h1 : sw1 n < 2 ^ 32 := Nat.lt_of_le_of_lt (Nat.sub_le _ _) h
  have h2 : sw2 (sw1 n) ≤ 1717986918 := by
    have a1 := @Nat.and_le_right (sw1 n) 858993459
    have a2 := @Nat.and_le_right (sw1 n >>> 2) 858993459
    unfold sw2
    omega
  have h3 : sw3 (sw2 (sw1 n)) ≤ 252645135 := Nat.and_le_right
  have h4 : sw4 (sw3 (sw2 (sw1 n))) ≤ 505290270 := by
    have := shr_le (sw3 (sw2 (sw1 n))) 8
    unfold sw4
    omega
  have hs : (n >>> 1) &&& 1431655765 ≤ n := Nat.le_trans Nat.and_le_left (shr_le n 1)
  have e1 : nI n - (iush (nI n) 1 &&& 1431655765) = nI (sw1 n) := by
    rw [show (1 : Int32) = nI 1 from rfl, show (1431655765 : Int32) = nI 1431655765 from rfl, ush_n h (by omega), and_n, sub_n hs]
    rfl
  have e2 : (nI (sw1 n) &&& 858993459) + (iush (nI (sw1 n)) 2 &&& 858993459) = nI (sw2 (sw1 n)) := by
    rw [show (2 : Int32) = nI 2 from rfl, show (858993459 : Int32) = nI 858993459 from rfl, ush_n h1 (by omega), and_n, and_n, nI_add]
    rfl
  have e3 : (nI (sw2 (sw1 n)) + iush (nI (sw2 (sw1 n))) 4) &&& 252645135 = nI (sw3 (sw2 (sw1 n))) := by
    rw [show (4 : Int32) = nI 4 from rfl, show (252645135 : Int32) = nI 252645135 from rfl, ush_n (by omega) (by omega), nI_add, and_n]
    rfl
  have e4 : nI (sw3 (sw2 (sw1 n))) + iush (nI (sw3 (sw2 (sw1 n)))) 8 = nI (sw4 (sw3 (sw2 (sw1 n)))) := by
    rw [show (8 : Int32) = nI 8 from rfl, ush_n (by omega) (by omega), nI_add]
    rfl
  have e5 : nI (sw4 (sw3 (sw2 (sw1 n)))) + iush (nI (sw4 (sw3 (sw2 (sw1 n))))) 16 = nI (sw5 (sw4 (sw3 (sw2 (sw1 n))))) := by
    rw [show (16 : Int32) = nI 16 from rfl, ush_n (by omega) (by omega), nI_add]
    rfl
  unfold f_J6_bitCount_0f7a4 lt
  simp only [e1, e2, e3, e4, e5]
  rw [show (63 : Int32) = nI 63 from rfl, and_n]
  rfl
theorem sw_two : ∀ a, a < 256 → ∀ b, b < 256 → sw (2 ^ 8 * a + b) = fb_ct b.testBit 8 + fb_ct a.testBit 8 := by decide +kernel
/-- bitCount counts the bits -/
theorem bc_ct {s : Int32} (h : S16 s) : f_J6_bitCount_0f7a4 s = nI (fb_ct (bt s) 16) := by
  have hn := h.lt
  obtain ⟨n, hne⟩ : ∃ n, s.toBitVec.toNat = n := ⟨_, rfl⟩
  rw [of_bv s, bc_sw (by omega)]
  have hb : fb_ct (bt (nI s.toBitVec.toNat)) 16 = fb_ct n.testBit 16 := fb_ct_cong fun k hk => by rw [← of_bv s, bt_tn, hne]
  rw [hb, hne]
  rw [hne] at hn
  congr 1
  have hd : n = 2 ^ 8 * (n / 256) + n % 256 := by omega
  have e1 : fb_ct n.testBit 16 = fb_ct n.testBit 8 + fb_ct (fun k => n.testBit (8 + k)) 8 := fb_ct_split n.testBit 8 8
  have e2 : fb_ct n.testBit 8 = fb_ct (n % 256).testBit 8 := fb_ct_cong fun k hk => by
    conv => lhs; rw [hd]
    rw [Nat.testBit_two_pow_mul_add _ (show n % 256 < 2 ^ 8 by omega), if_pos hk]
  have e3 : fb_ct (fun k => n.testBit (8 + k)) 8 = fb_ct (n / 256).testBit 8 := fb_ct_cong fun k hk => by
    conv => lhs; rw [hd]
    rw [Nat.testBit_two_pow_mul_add _ (show n % 256 < 2 ^ 8 by omega), if_neg (by omega), Nat.add_sub_cancel_left]
  rw [e1, e2, e3, ← sw_two (n / 256) (by omega) (n % 256) (by omega), ← hd]
/-- the least bit -/
theorem low_split {n k : Nat} (h1 : n.testBit k = true) (h2 : ∀ j, j < k → n.testBit j = false) : n = 2 ^ (k + 1) * (n / 2 ^ (k + 1)) + 2 ^ k := by
  have hm : n % 2 ^ (k + 1) = 2 ^ k := by
    apply Nat.eq_of_testBit_eq
    intro i
    rw [Nat.testBit_mod_two_pow, Nat.testBit_two_pow]
    by_cases hi : i = k
    · subst hi
      simp [h1]
    · by_cases hl : i < k
      · simp [h2 i hl]
        omega
      · rw [decide_eq_false (by omega), decide_eq_false (by omega)]
        rfl
  have := Nat.div_add_mod n (2 ^ (k + 1))
  omega
theorem low_bits {n k : Nat} (h1 : n.testBit k = true) (h2 : ∀ j, j < k → n.testBit j = false) (i : Nat) : (n - 1).testBit i = if i < k then true else if i = k then false else n.testBit i := by
  have hs := low_split h1 h2
  have hp : 0 < 2 ^ k := Nat.two_pow_pos k
  have hd : n - 1 = 2 ^ (k + 1) * (n / 2 ^ (k + 1)) + (2 ^ k - 1) := by omega
  have hlt : 2 ^ k - 1 < 2 ^ (k + 1) := by rw [Nat.pow_succ]; omega
  have hlt2 : 2 ^ k < 2 ^ (k + 1) := by rw [Nat.pow_succ]; omega
  have e2 : n.testBit i = if i < k + 1 then (2 ^ k).testBit i else (n / 2 ^ (k + 1)).testBit (i - (k + 1)) := by
    conv => lhs; rw [hs]
    exact Nat.testBit_two_pow_mul_add _ hlt2 i
  rw [hd, Nat.testBit_two_pow_mul_add _ hlt, Nat.testBit_two_pow_sub_one]
  by_cases a1 : i < k
  · rw [if_pos (by omega), if_pos a1, decide_eq_true a1]
  · by_cases a2 : i = k
    · rw [if_pos (by omega), if_neg a1, if_pos a2, decide_eq_false a1]
    · rw [if_neg (by omega), if_neg a1, if_neg a2, e2, if_neg (by omega)]
theorem sub_one_n {t : Int32} {k : Nat} (hk : bt t k = true) : t - 1 = nI (t.toBitVec.toNat - 1) := by
  have h : 1 ≤ t.toBitVec.toNat := by
    rcases Nat.eq_zero_or_pos t.toBitVec.toNat with h | h
    · rw [bt_tn, h] at hk
      simp at hk
    · exact h
  conv => lhs; rw [of_bv t]
  exact sub_n (b := 1) h
theorem bt_pred {t : Int32} {k : Nat} (h1 : bt t k = true) (h2 : ∀ j, j < k → bt t j = false) {i : Nat} (hi : i < 32) : bt (t - 1) i = if i < k then true else if i = k then false else bt t i := by
  rw [sub_one_n h1, bt_nI _ hi, low_bits (k := k) h1 h2]
  rfl
theorem neg_n (t : Int32) : -t = (t - 1) ^^^ (-1) := by
  apply Int32.toBitVec_inj.mp
  show -t.toBitVec = (t.toBitVec - 1#32) ^^^ BitVec.allOnes 32
  rw [BitVec.xor_allOnes, ← BitVec.allOnes_sub_eq_not]
  have : BitVec.allOnes 32 = 4294967295#32 := by decide
  rw [this]
  bv_omega
theorem least_fin : ∀ k, k < 32 → f_J6_bitCount_0f7a4 (((1 : Int32) <<< (nI k &&& 31)) - 1) = nI k := by decide +kernel
theorem least_eq {t : Int32} {k : Nat} (hk : k < 32) (h1 : bt t k = true) (h2 : ∀ j, j < k → bt t j = false) : f_X9_least t = nI k := by
  unfold f_X9_least
  rw [show t &&& -t = (1 : Int32) <<< (nI k &&& 31) from b_ext fun i hi => by
    rw [b_and, neg_n, bt_not _ hi, bt_pred h1 h2 hi, bt_one hk hi]
    by_cases a1 : i < k
    · rw [h2 i a1, decide_eq_false (by omega)]; rfl
    · by_cases a2 : i = k
      · subst a2
        simp [h1]
      · rw [if_neg a1, if_neg a2, decide_eq_false a2]
        cases bt t i <;> rfl]
  exact least_fin k hk
theorem woLeast_bt {t : Int32} {k : Nat} (h1 : bt t k = true) (h2 : ∀ j, j < k → bt t j = false) {i : Nat} (hi : i < 32) : bt (f_X9_withoutLeast t) i = (bt t i && !decide (i = k)) := by
  unfold f_X9_withoutLeast
  rw [b_and, bt_pred h1 h2 hi]
  by_cases a1 : i < k
  · rw [h2 i a1]; rfl
  · by_cases a2 : i = k
    · simp [a2]
    · rw [if_neg a1, if_neg a2, decide_eq_false a2]
      cases bt t i <;> rfl
theorem least_of {t : Int32} (h : t ≠ 0) : ∃ k, k < 32 ∧ bt t k = true ∧ (∀ j, j < k → bt t j = false) ∧ f_X9_least t = nI k ∧ ∀ i, i < 32 → bt (f_X9_withoutLeast t) i = (bt t i && !decide (i = k)) := by
  have hx : ∃ i, i < 32 ∧ bt t i = true := by
    apply Classical.byContradiction
    intro q
    refine h ((b_zero t).mpr fun i hi => ?_)
    cases hb : bt t i with
    | false => rfl
    | true => exact absurd ⟨i, hi, hb⟩ q
  obtain ⟨k, hk, h1, h2⟩ := fb_first hx
  have h2' : ∀ j, j < k → bt t j = false := fun j hj => by simpa using h2 j hj
  exact ⟨k, hk, h1, h2', least_eq hk h1 h2', fun i hi => woLeast_bt h1 h2' hi⟩
/-! loops -/
theorem lp_run {σ ρ : Type} {step : σ → Option (σ ⊕ ρ)} (I : σ → Prop) (μ : σ → Nat) (Q : ρ → Prop) (hb : ∀ s, I s → (∃ s', step s = some (.inl s') ∧ I s' ∧ μ s' < μ s) ∨ ∃ y, step s = some (.inr y) ∧ Q y) : ∀ {k : Nat} {s : σ}, I s → μ s < k → ∃ y, lp step k s = some y ∧ Q y
  | 0, s, _, hk => absurd hk (Nat.not_lt_zero _)
  | k + 1, s, hs, hk => by
    rcases hb s hs with ⟨s', e, h1, h2⟩ | ⟨y, e, hq⟩
    · obtain ⟨y, e2, hq⟩ := lp_run I μ Q hb (k := k) (s := s') h1 (by omega)
      exact ⟨y, by rw [lp, e]; exact e2, hq⟩
    · exact ⟨y, by rw [lp, e]; rfl, hq⟩
/-- a loop over j = 0, 1, .., with a way out -/
theorem lp_forx {σ ρ : Type} {step : σ → Option (σ ⊕ ρ)} (n : Nat) (I : Nat → σ → Prop) (Q : ρ → Prop) (hstep : ∀ j s, j < n → I j s → (∃ s', step s = some (.inl s') ∧ I (j + 1) s') ∨ ∃ y, step s = some (.inr y) ∧ Q y) (hend : ∀ s, I n s → ∃ y, step s = some (.inr y) ∧ Q y) {k : Nat} {s : σ} (h0 : I 0 s) (hk : n < k) : ∃ y, lp step k s = some y ∧ Q y := by
  have key : ∀ d j s k, j + d = n → d < k → I j s → ∃ y, lp step k s = some y ∧ Q y := by
    intro d
    induction d with
    | zero =>
      intro j s k hj hk hs
      obtain ⟨k, rfl⟩ : ∃ k', k = k' + 1 := ⟨k - 1, by omega⟩
      obtain ⟨y, e, hq⟩ := hend s (by have : j = n := by omega
                                      rw [← this]; exact hs)
      exact ⟨y, by rw [lp, e]; rfl, hq⟩
    | succ d ih =>
      intro j s k hj hk hs
      obtain ⟨k, rfl⟩ : ∃ k', k = k' + 1 := ⟨k - 1, by omega⟩
      rcases hstep j s (by omega) hs with ⟨s', e, h1⟩ | ⟨y, e, hq⟩
      · obtain ⟨y, e2, hq⟩ := ih (j + 1) s' k (by omega) (by omega) h1
        exact ⟨y, by rw [lp, e]; exact e2, hq⟩
      · exact ⟨y, by rw [lp, e]; rfl, hq⟩
  exact key n 0 s k (by omega) hk h0
theorem lp_for {σ ρ : Type} {step : σ → Option (σ ⊕ ρ)} (n : Nat) (I : Nat → σ → Prop) (Q : ρ → Prop) (hstep : ∀ j s, j < n → I j s → ∃ s', step s = some (.inl s') ∧ I (j + 1) s') (hend : ∀ s, I n s → ∃ y, step s = some (.inr y) ∧ Q y) {k : Nat} {s : σ} (h0 : I 0 s) (hk : n < k) : ∃ y, lp step k s = some y ∧ Q y :=
  lp_forx n I Q (fun j s hj hs => Or.inl (hstep j s hj hs)) hend h0 hk
/-- a loop that gathers a set of the numbers below n: state (set, counter) -/
theorem lp_set {step : Int32 × Int32 → Option ((Int32 × Int32) ⊕ Int32)} (n : Nat) (hn : n ≤ 16) (P : Nat → Prop) (s0 : Int32) (h0 : S16 s0)
    (hy : ∀ j s, j < n → P j → step (s, nI j) = some (.inl (s ||| ((1 : Int32) <<< (nI j &&& 31)), nI (j + 1)))) (hno : ∀ j s, j < n → ¬ P j → step (s, nI j) = some (.inl (s, nI (j + 1)))) (he : ∀ s, step (s, nI n) = some (.inr s)) {k : Nat} (hk : n < k) :
    ∃ y, lp step k (s0, 0) = some y ∧ S16 y ∧ ∀ i, i < 16 → (bt y i = true ↔ bt s0 i = true ∨ (i < n ∧ P i)) := by
  refine lp_for n (fun j s => s.2 = nI j ∧ S16 s.1 ∧ ∀ i, i < 16 → (bt s.1 i = true ↔ bt s0 i = true ∨ (i < j ∧ P i))) _ ?_ ?_ ⟨rfl, h0, fun i _ => by simp⟩ hk
  · rintro j ⟨s, c⟩ hj ⟨rfl, h1, h2⟩
    by_cases hp : P j
    · refine ⟨_, hy j s hj hp, rfl, h1.or (s16_one (by omega)), fun i hi => ?_⟩
      show bt (s ||| _) i = true ↔ _
      rw [b_or, bt_one (by omega) (by omega), Bool.or_eq_true, h2 i hi]
      by_cases hij : i = j
      · subst hij
        simp [hp]
      · simp only [decide_eq_true_eq, hij, or_false]
        constructor
        · rintro (q | ⟨q1, q2⟩)
          · exact Or.inl q
          · exact Or.inr ⟨by omega, q2⟩
        · rintro (q | ⟨q1, q2⟩)
          · exact Or.inl q
          · exact Or.inr ⟨by omega, q2⟩
    · refine ⟨_, hno j s hj hp, rfl, h1, fun i hi => ?_⟩
      show bt s i = true ↔ _
      rw [h2 i hi]
      constructor
      · rintro (q | ⟨q1, q2⟩)
        · exact Or.inl q
        · exact Or.inr ⟨by omega, q2⟩
      · rintro (q | ⟨q1, q2⟩)
        · exact Or.inl q
        · refine Or.inr ⟨?_, q2⟩
          rcases Nat.lt_or_ge i j with q | q
          · exact q
          · exact absurd (by rw [← show i = j by omega]; exact q2) hp
  · rintro ⟨s, c⟩ ⟨rfl, h1, h2⟩
    exact ⟨s, he s, h1, h2⟩
/-- a loop that adds numbers up: state (sum, counter) -/
theorem lp_sum {step : Int32 × Int32 → Option ((Int32 × Int32) ⊕ Int32)} (n : Nat) (f : Nat → Nat) (a0 : Nat) (hs : ∀ j a, j < n → step (nI a, nI j) = some (.inl (nI (a + f j), nI (j + 1)))) (he : ∀ a, step (nI a, nI n) = some (.inr (nI a))) {k : Nat} (hk : n < k) :
    lp step k (nI a0, 0) = some (nI (a0 + fb_sm f n)) := by
  have key := lp_for (step := step) n (fun j s => s = (nI (a0 + fb_sm f j), nI j)) (fun y => y = nI (a0 + fb_sm f n)) (by
    rintro j s hj rfl
    refine ⟨_, hs j _ hj, ?_⟩
    show _ = _
    rw [fb_sm_succ, Nat.add_assoc]) (by
    rintro s rfl
    exact ⟨_, he _, rfl⟩) (s := (nI a0, 0)) (k := k) rfl hk
  obtain ⟨y, e, hq⟩ := key
  rw [e, hq]
theorem fb_sm_ct (p : Nat → Bool) : ∀ n, fb_sm (fun k => if p k = true then 1 else 0) n = fb_ct p n
  | 0 => rfl
  | n + 1 => by rw [fb_sm_succ, fb_ct_succ, fb_sm_ct p n]
theorem bits_bit (s : Int32) {j : Nat} (hj : j < 32) : (s >>> (nI j &&& 31)) &&& 1 = nI (if bt s j = true then 1 else 0) := by
  have h := b_sshr j hj s (i := 0) (by omega)
  rw [Nat.add_zero, if_pos hj] at h
  by_cases hb : bt s j = true
  · rw [if_pos hb]
    exact (and1_1 _).mpr (by rw [h, hb])
  · rw [if_neg hb]
    exact (and1_0 _).mpr (by rw [h]; simpa using hb)
/-- the reference's count of bits -/
theorem bits_ct (s : Int32) : f_X10_bits s = some (nI (fb_ct (bt s) 16)) := by
  unfold f_X10_bits
  have h := lp_sum (step := f_X10_bits_L4 s) 16 (fun k => if bt s k = true then 1 else 0) 0 (fun j a hj => by
    unfold f_X10_bits_L4
    rw [if_neg (by show ¬ nI 16 ≤ nI j; rw [nI_leI (by omega) (by omega)]; omega)]
    simp only [lt]
    rw [bits_bit s (by omega), nI_add, nI_1]) (fun a => by
    unfold f_X10_bits_L4
    rw [if_pos (by show nI 16 ≤ nI 16; exact Int32.le_refl _)]) (k := 2000) (by omega)
  rw [fb_sm_ct, Nat.zero_add] at h
  rw [show ((0 : Int32), (0 : Int32)) = (nI 0, 0) from rfl, h]
  rfl
