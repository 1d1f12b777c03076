/-! THE TEXT: words -/
def Spl (k : Nat) (T : Nat → Nat) (b q : Nat) : Prop := q - b = slenN k ∧ ∀ i, i < slenN k → nI (T (b + i)) = schar k (nI i)
theorem slen_n (k : Nat) : slen k = nI (slenN k) := rfl
theorem slen_4 : ∀ k, k < 7 → slenN k ≤ 4 := by decide +kernel
theorem sch8 : ∀ b, b < 256 → ∀ k, k < 7 → ∀ i, i < 4 → ((nI b).toInt8.toInt32 = schar k (nI i) ↔ nI b = schar k (nI i)) := by decide +kernel
theorem spelt_c {x : gXH} {T : Nat → Nat} {t b q k : Nat} (h : TC x T t) (hq : x.1 5 3 = nI q) (hb : b ≤ q) (hqt : q ≤ t) (hk : k < 7) : f_X7_isSpelt k x (nI b) = some (if cb (Spl k T b q) = true then 1 else 0) := by
  have h400 := h.1
  have h4 := slen_4 k hk
  unfold f_X7_isSpelt
  rw [hq, sub_n (a := q) (b := b) hb, slen_n]
  by_cases c : q - b = slenN k
  · rw [if_pos (by rw [c])]
    have key : ∃ r, lp (f_X7_isSpelt_L17 k x (nI b)) 2000 (0 : Int32) = some r ∧ ((r = .inl () ∧ ¬ Spl k T b q) ∨ (r = .inr () ∧ Spl k T b q)) := by
      refine lp_forx (step := f_X7_isSpelt_L17 k x (nI b)) (slenN k) (fun j s => s = nI j ∧ ∀ i, i < j → nI (T (b + i)) = schar k (nI i)) _ ?_ ?_ ⟨rfl, fun i hi => absurd hi (by omega)⟩ (by omega)
      · rintro j s hj ⟨rfl, h1⟩
        unfold f_X7_isSpelt_L17
        rw [slen_n, if_neg (nI_ge hj (by omega)), nI_add, get_c h (show b + j < t by omega)]
        simp only [Option.bind_some]
        rw [gck_ni hj (by omega)]
        by_cases d : nI (T (b + j)) = schar k (nI j)
        · left
          rw [if_pos d]
          refine ⟨_, rfl, nI_1 j, fun i hi => ?_⟩
          rcases Nat.lt_or_ge i j with e | e
          · exact h1 i e
          · rw [show i = j by omega]
            exact d
        · right
          rw [if_neg d]
          exact ⟨_, rfl, Or.inl ⟨rfl, fun z => d (z.2 j hj)⟩⟩
      · rintro s ⟨rfl, h1⟩
        unfold f_X7_isSpelt_L17
        rw [slen_n, if_pos (nI_le (Nat.le_refl _) (by omega))]
        exact ⟨_, rfl, Or.inr ⟨rfl, c, h1⟩⟩
    obtain ⟨r, er, hr⟩ := key
    rw [er]
    rcases hr with ⟨rfl, d⟩ | ⟨rfl, d⟩
    · rw [if_neg (fun z => d (cb_t.mp z))]
      rfl
    · rw [if_pos (cb_t.mpr d)]
      rfl
  · rw [if_neg (fun z => c ((nI_eq (by omega) (by omega)).mp z)), if_neg (fun z => c (cb_t.mp z).1)]
theorem word_m {m : gIH} {T : Nat → Nat} {t b q k : Nat} (h : TM m T t) (hq : m 81 24 = nI q) (hb6 : m 81 26 = nI b) (hb : b ≤ q) (hqt : q ≤ t) (hk : k < 7) : f_X10_isWord k m = some (if cb (Spl k T b q) = true then 1 else 0) := by
  have h400 := h.1
  have h4 := slen_4 k hk
  unfold f_X10_isWord
  rw [hq, hb6, sub_n (a := q) (b := b) hb, slen_n]
  by_cases c : q - b = slenN k
  · rw [if_pos (by rw [c])]
    have key : ∃ r, lp (f_X10_isWord_L24 k m) 2000 ((1 : Int32), (0 : Int32)) = some r ∧ r = if cb (Spl k T b q) = true then 1 else 0 := by
      refine lp_forx (step := f_X10_isWord_L24 k m) (slenN k) (fun j s => s.2 = nI j ∧ ((s.1 = 1 ∧ ∀ i, i < j → nI (T (b + i)) = schar k (nI i)) ∨ (s.1 = 0 ∧ ¬ Spl k T b q))) _ ?_ ?_ ⟨rfl, Or.inl ⟨rfl, fun i hi => absurd hi (by omega)⟩⟩ (by omega)
      · rintro j ⟨v, s⟩ hj ⟨h0, h1⟩
        dsimp only at h0 h1
        subst h0
        unfold f_X10_isWord_L24
        dsimp only
        rcases h1 with ⟨rfl, h1⟩ | ⟨rfl, h1⟩
        · left
          have g := h.2.2 (b + j) (by omega)
          rw [if_neg i1n0, slen_n, if_neg (nI_ge hj (by omega)), hb6, nI_add, gck_ni (show b + j < 400 by omega) (by omega), nI_clamp (show b + j < 2 ^ 31 by omega), gck_ni hj (by omega), g.2]
          by_cases d : nI (T (b + j)) = schar k (nI j)
          · rw [if_pos ((sch8 _ g.1 k hk j (by omega)).mpr d)]
            refine ⟨_, rfl, nI_1 j, Or.inl ⟨rfl, fun i hi => ?_⟩⟩
            rcases Nat.lt_or_ge i j with e | e
            · exact h1 i e
            · rw [show i = j by omega]
              exact d
          · rw [if_neg (fun z => d ((sch8 _ g.1 k hk j (by omega)).mp z))]
            exact ⟨_, rfl, nI_1 j, Or.inr ⟨rfl, fun z => d (z.2 j hj)⟩⟩
        · right
          rw [if_pos rfl]
          exact ⟨_, rfl, by rw [if_neg (fun z => h1 (cb_t.mp z))]⟩
      · rintro ⟨v, s⟩ ⟨h0, h1⟩
        dsimp only at h0 h1
        subst h0
        unfold f_X10_isWord_L24
        dsimp only
        rcases h1 with ⟨rfl, h1⟩ | ⟨rfl, h1⟩
        · rw [if_neg i1n0, slen_n, if_pos (nI_le (Nat.le_refl _) (by omega))]
          exact ⟨_, rfl, by rw [if_pos (cb_t.mpr ⟨c, h1⟩)]⟩
        · rw [if_pos rfl]
          exact ⟨_, rfl, by rw [if_neg (fun z => h1 (cb_t.mp z))]⟩
    obtain ⟨r, er, hr⟩ := key
    unfold f_X10_isWord_J21
    rw [er, hr]
    simp only [Option.bind_some]
    rw [nb01]
  · rw [if_neg (fun z => c ((nI_eq (by omega) (by omega)).mp z)), if_neg (fun z => c (cb_t.mp z).1)]
    have key : ∃ r, lp (f_X10_isWord_L24 k m) 2000 ((0 : Int32), (0 : Int32)) = some r ∧ r = 0 := by
      refine lp_forx (step := f_X10_isWord_L24 k m) 0 (fun j s => s.1 = 0) _ (fun j s hj => absurd hj (by omega)) ?_ rfl (by omega)
      rintro ⟨v, s⟩ h0
      dsimp only at h0
      subst h0
      unfold f_X10_isWord_L24
      dsimp only
      rw [if_pos rfl]
      exact ⟨_, rfl, rfl⟩
    obtain ⟨r, er, hr⟩ := key
    unfold f_X10_isWord_J21
    rw [er, hr]
    simp only [Option.bind_some]
    rw [nb0]

noncomputable def KWd (T : Nat → Nat) (b q : Nat) : Nat := if cb (Spl 0 T b q) = true then 0 else if cb (Spl 1 T b q) = true then 1 else if cb (Spl 2 T b q) = true then 2 else if cb (Spl 3 T b q) = true then 3 else if cb (Spl 4 T b q) = true then 4 else if cb (Spl 5 T b q) = true then 5 else if cb (Spl 6 T b q) = true then 6 else 7
def kI (k : Nat) : Int32 := if k = 7 then -1 else nI k
theorem rword_c {x : gXH} {T : Nat → Nat} {t b : Nat} (h : TC x T t) (hp : x.1 5 3 = nI b) (hpt : b ≤ t) : ∃ q y, Sk (rg 97 122) T t b q ∧ f_X7_readWord x = some (kI (KWd T b q), y) ∧ Fr (fun c => c = 5) x y ∧ y.1 5 3 = nI q ∧ ∀ j, j ≠ 3 → y.1 5 j = x.1 5 j := by
  unfold f_X7_readWord
  simp only [lt]
  rw [hp]
  obtain ⟨q, y, ey, s1, f1, g1, g2⟩ := letters_c h hp hpt (nI b)
  refine ⟨q, y, s1, ?_, f1, g1, g2⟩
  rw [ey]
  simp only [Option.bind_some]
  have e : ∀ k, k < 7 → f_X7_isSpelt k y (nI b) = some (if cb (Spl k T b q) = true then 1 else 0) := fun k hk => spelt_c (h.fr (fr5 f1)) g1 s1.1 s1.2.1 hk
  unfold KWd
  rw [e 0 (by omega)]
  simp only [Option.bind_some]
  by_cases c0 : cb (Spl 0 T b q) = true
  · rw [if_pos c0, if_pos c0, if_neg i1n0]
    rfl
  rw [if_neg c0, if_neg c0, if_pos rfl]
  rw [e 1 (by omega)]
  simp only [Option.bind_some]
  by_cases c1 : cb (Spl 1 T b q) = true
  · rw [if_pos c1, if_pos c1, if_neg i1n0]
    rfl
  rw [if_neg c1, if_neg c1, if_pos rfl]
  rw [e 2 (by omega)]
  simp only [Option.bind_some]
  by_cases c2 : cb (Spl 2 T b q) = true
  · rw [if_pos c2, if_pos c2, if_neg i1n0]
    rfl
  rw [if_neg c2, if_neg c2, if_pos rfl]
  rw [e 3 (by omega)]
  simp only [Option.bind_some]
  by_cases c3 : cb (Spl 3 T b q) = true
  · rw [if_pos c3, if_pos c3, if_neg i1n0]
    rfl
  rw [if_neg c3, if_neg c3, if_pos rfl]
  rw [e 4 (by omega)]
  simp only [Option.bind_some]
  by_cases c4 : cb (Spl 4 T b q) = true
  · rw [if_pos c4, if_pos c4, if_neg i1n0]
    rfl
  rw [if_neg c4, if_neg c4, if_pos rfl]
  rw [e 5 (by omega)]
  simp only [Option.bind_some]
  by_cases c5 : cb (Spl 5 T b q) = true
  · rw [if_pos c5, if_pos c5, if_neg i1n0]
    rfl
  rw [if_neg c5, if_neg c5, if_pos rfl]
  rw [e 6 (by omega)]
  simp only [Option.bind_some]
  by_cases c6 : cb (Spl 6 T b q) = true
  · rw [if_pos c6, if_pos c6, if_neg i1n0]
    rfl
  rw [if_neg c6, if_neg c6, if_pos rfl]
  rfl
theorem lp_s {σ ρ : Type} {step : σ → Option (σ ⊕ ρ)} {s s' : σ} {k : Nat} (h : step s = some (.inl s')) : lp step (k + 1) s = lp step k s' := by
  rw [lp, h]
  rfl
theorem lp_e {σ ρ : Type} {step : σ → Option (σ ⊕ ρ)} {s : σ} {y : ρ} {k : Nat} (h : step s = some (.inr y)) : lp step (k + 1) s = some y := by
  rw [lp, h]
  rfl
theorem lp_simx {σ ρ τ π : Type} {f : σ → Option (σ ⊕ ρ)} {g : τ → Option (τ ⊕ π)} (n : Nat) (I : Nat → σ → τ → Prop) (Q : ρ → π → Prop)
    (hstep : ∀ j s t, I j s t → j < n ∧ ((∃ s' t', f s = some (.inl s') ∧ g t = some (.inl t') ∧ I (j + 1) s' t') ∨ ∃ y z, f s = some (.inr y) ∧ g t = some (.inr z) ∧ Q y z)) : ∀ (d j k l : Nat) (s : σ) (t : τ), j + d = n → d < k → d < l → I j s t → ∃ y z, lp f k s = some y ∧ lp g l t = some z ∧ Q y z
  | 0, j, k, l, s, t, hj, hk, hl, h => by
    have := (hstep j s t h).1
    omega
  | d + 1, j, k, l, s, t, hj, hk, hl, h => by
    obtain ⟨k, rfl⟩ : ∃ k', k = k' + 1 := ⟨k - 1, by omega⟩
    obtain ⟨l, rfl⟩ : ∃ l', l = l' + 1 := ⟨l - 1, by omega⟩
    rcases (hstep j s t h).2 with ⟨s', t', e1, e2, h2⟩ | ⟨y, z, e1, e2, h2⟩
    · obtain ⟨y, z, e3, e4, hq⟩ := lp_simx n I Q hstep d (j + 1) k l s' t' (by omega) (by omega) (by omega) h2
      exact ⟨y, z, by rw [lp_s e1]; exact e3, by rw [lp_s e2]; exact e4, hq⟩
    · exact ⟨y, z, lp_e e1, lp_e e2, h2⟩
theorem uf_le {f : Nat → Nat} {n v hi : Nat} (h : ∀ i, i < n → f i ≤ hi) (hv : v ≤ hi) : ∀ i, i < n + 1 → uf f n v i ≤ hi := fun i hi' => by
  unfold uf
  by_cases c : i = n
  · rw [if_pos c]
    exact hv
  · rw [if_neg c]
    exact h i (by omega)
theorem told_sim {x : gXH} {m : gIH} {T f : Nat → Nat} {t p n κ w hi : Nat} (hk : (κ = 3 ∧ w = 2 ∧ hi = 15) ∨ ((κ = 4 ∨ κ = 5) ∧ w = 1 ∧ hi = 59)) (h : Bo x m T t p) (hd : TD x m n f) (hf : ∀ i, i < n → f i ≤ hi) (hn : n + 1 < 400) :
    ∃ q y z, Bo y z T t q ∧ Fr W56 x y ∧ FrM WRr m z ∧ y.1 5 4 = x.1 5 4 ∧
      ((f_X7_readTold x (nI κ) = some (1, y) ∧ lp (f_X10_readsMany_L5 (nI w) (nI hi)) 2000 (nI n, (0 : Int32), m) = some (.inr (nI (n + w), z)) ∧ p + w ≤ q ∧ ∃ f', TD y z (n + w) f' ∧ ∀ i, i < n + w → f' i ≤ hi) ∨
       (f_X7_readTold x (nI κ) = some (0, y) ∧ lp (f_X10_readsMany_L5 (nI w) (nI hi)) 2000 (nI n, (0 : Int32), m) = some (.inl z) ∧ ∃ b, b ≤ t ∧ y.1 5 5 = nI b ∧ z 81 26 = nI b)) := by
  rcases hk with ⟨rfl, rfl, rfl⟩ | ⟨hk, rfl, rfl⟩
  · have cls : f_X7_readTold x (nI 3) = ((f_X7_readNumber x (nI 0) (nI 15)).bind (fun y6 => if y6.1 = (0 : Int32) then (some ((0 : Int32), y6.2)) else ((f_X7_readNumber y6.2 (nI 0) (nI 15)).bind (fun y7 => if y7.1 = (0 : Int32) then (some ((0 : Int32), y7.2)) else (some ((1 : Int32), y7.2)))))) := by
      unfold f_X7_readTold
      rw [if_neg (by decide), if_neg (by decide), if_neg (by decide), if_pos (by decide)]
      rfl
    rw [cls]
    obtain ⟨q, y, z, b1, l1, f1, g1, v1, r1⟩ := num_sim h hd (lo := 0) (hi := 15) (show n < 400 by omega) (by omega) (by omega)
    rcases r1 with ⟨e1, e2, pq, v, v2, v3, d1⟩ | ⟨e1, e2, b, w0, w1, w2⟩
    · obtain ⟨q', y', z', b2, l2, f2, g2, v4, r2⟩ := num_sim b1 d1 (lo := 0) (hi := 15) (show n + 1 < 400 by omega) (by omega) (by omega)
      have s1 : f_X10_readsMany_L5 (nI 2) (nI 15) (nI n, (0 : Int32), m) = some (.inl (nI (n + 1), nI 1, z)) := by
        unfold f_X10_readsMany_L5
        dsimp only
        rw [if_neg (by decide), show f_X10_reads m (nI n) (0 : Int32) (nI 15) = _ from e2]
        simp only [Option.bind_some]
        rw [if_neg i1n0]
        simp only [lt]
        rw [nI_1]
        rfl
      rw [e1]
      simp only [Option.bind_some]
      rw [if_neg i1n0]
      rcases r2 with ⟨e3, e4, pq2, u, u2, u3, d2⟩ | ⟨e3, e4, b, w0, w1, w2⟩
      · rw [e3]
        simp only [Option.bind_some]
        rw [if_neg i1n0]
        refine ⟨q', y', z', b2, f1.tr f2, g1.tr g2, v4.trans v1, Or.inl ⟨rfl, ?_, by omega, _, d2, uf_le (uf_le hf v3) u3⟩⟩
        refine (lp_s (k := 1999) s1).trans ((lp_s (k := 1998) (s' := (nI (n + 2), nI 2, z')) ?_).trans (lp_e (k := 1997) ?_))
        · unfold f_X10_readsMany_L5
          dsimp only
          rw [if_neg (by decide), show f_X10_reads z (nI (n + 1)) (0 : Int32) (nI 15) = _ from e4]
          simp only [Option.bind_some]
          rw [if_neg i1n0]
          simp only [lt]
          rw [nI_1]
          rfl
        · unfold f_X10_readsMany_L5
          dsimp only
          rw [if_pos (by decide)]
      · rw [e3]
        simp only [Option.bind_some]
        rw [if_pos trivial]
        refine ⟨q', y', z', b2, f1.tr f2, g1.tr g2, v4.trans v1, Or.inr ⟨rfl, ?_, b, w0, w1, w2⟩⟩
        refine (lp_s (k := 1999) s1).trans (lp_e (k := 1998) ?_)
        unfold f_X10_readsMany_L5
        dsimp only
        rw [if_neg (by decide), show f_X10_reads z (nI (n + 1)) (0 : Int32) (nI 15) = _ from e4]
        simp only [Option.bind_some]
        rw [if_pos trivial]
    · rw [e1]
      simp only [Option.bind_some]
      rw [if_pos trivial]
      refine ⟨q, y, z, b1, f1, g1, v1, Or.inr ⟨rfl, lp_e (k := 1999) ?_, b, w0, w1, w2⟩⟩
      unfold f_X10_readsMany_L5
      dsimp only
      rw [if_neg (by decide), show f_X10_reads m (nI n) (0 : Int32) (nI 15) = _ from e2]
      simp only [Option.bind_some]
      rw [if_pos trivial]
  · have cls : f_X7_readTold x (nI κ) = ((f_X7_readNumber x (nI 0) (nI 59)).bind (fun y5 => some (nb y5.1, y5.2))) := by
      unfold f_X7_readTold
      rcases hk with rfl | rfl
      · rw [if_neg (by decide), if_neg (by decide), if_neg (by decide), if_neg (by decide), if_pos (by decide)]
        rfl
      · rw [if_neg (by decide), if_neg (by decide), if_neg (by decide), if_neg (by decide), if_neg (by decide), if_pos (by decide)]
        rfl
    rw [cls]
    obtain ⟨q, y, z, b1, l1, f1, g1, v1, r1⟩ := num_sim h hd (lo := 0) (hi := 59) (show n < 400 by omega) (by omega) (by omega)
    rcases r1 with ⟨e1, e2, pq, v, v2, v3, d1⟩ | ⟨e1, e2, b, w0, w1, w2⟩
    · rw [e1]
      simp only [Option.bind_some]
      rw [nb1]
      refine ⟨q, y, z, b1, f1, g1, v1, Or.inl ⟨rfl, ?_, by omega, _, d1, uf_le hf v3⟩⟩
      refine (lp_s (k := 1999) (s' := (nI (n + 1), nI 1, z)) ?_).trans (lp_e (k := 1998) ?_)
      · unfold f_X10_readsMany_L5
        dsimp only
        rw [if_neg (by decide), show f_X10_reads m (nI n) (0 : Int32) (nI 59) = _ from e2]
        simp only [Option.bind_some]
        rw [if_neg i1n0]
        simp only [lt]
        rw [nI_1]
        rfl
      · unfold f_X10_readsMany_L5
        dsimp only
        rw [if_pos (by decide)]
    · rw [e1]
      simp only [Option.bind_some]
      rw [nb0]
      refine ⟨q, y, z, b1, f1, g1, v1, Or.inr ⟨rfl, lp_e (k := 1999) ?_, b, w0, w1, w2⟩⟩
      unfold f_X10_readsMany_L5
      dsimp only
      rw [if_neg (by decide), show f_X10_reads m (nI n) (0 : Int32) (nI 59) = _ from e2]
      simp only [Option.bind_some]
      rw [if_pos trivial]
/-- numbers behind commas -/
theorem many_sim {x : gXH} {m : gIH} {T f : Nat → Nat} {t p κ w hi : Nat} (hk : (κ = 3 ∧ w = 2 ∧ hi = 15) ∨ ((κ = 4 ∨ κ = 5) ∧ w = 1 ∧ hi = 59)) (h : Bo x m T t p) (hd : TD x m 0 f) :
    ∃ r q y z, lp (f_X7_readAct_L35 (nI κ)) 2000 ((0 : Int32), x) = some r ∧ Bo y z T t q ∧ Fr W56 x y ∧ FrM WRr m z ∧ y.1 5 4 = x.1 5 4 ∧
      (((r = .inr (.inl y) ∨ r = .inr (.inr y)) ∧ p ≤ q ∧ ∃ J f', 0 < J ∧ w * J < 400 ∧ f_X10_readsMany m (nI w) (nI hi) = some (nI (w * J), z) ∧ TD y z (w * J) f' ∧ ∀ i, i < w * J → f' i ≤ hi) ∨
       (r = .inl y ∧ f_X10_readsMany m (nI w) (nI hi) = some (-1, z) ∧ ∃ b, b ≤ t ∧ y.1 5 5 = nI b ∧ z 81 26 = nI b)) := by
  have h400 := h.1.1
  have hrep : f_X7_isRepeated (nI κ) = 1 := by
    rcases hk with ⟨rfl, -⟩ | ⟨rfl | rfl, -⟩ <;> decide
  have hw : w = 1 ∨ w = 2 := by omega
  have key := lp_simx (f := f_X7_readAct_L35 (nI κ)) (g := f_X10_readsMany_L2 (nI w) (nI hi)) 400
    (fun j s u => ∃ p' f', s.1 = nI j ∧ u.1 = nI (w * j) ∧ Bo s.2 u.2 T t p' ∧ p + (w + 1) * j ≤ p' ∧ Fr W56 x s.2 ∧ FrM WRr m u.2 ∧ s.2.1 5 4 = x.1 5 4 ∧ TD s.2 u.2 (w * j) f' ∧ ∀ i, i < w * j → f' i ≤ hi)
    (fun r u => ∃ q y z, Bo y z T t q ∧ Fr W56 x y ∧ FrM WRr m z ∧ y.1 5 4 = x.1 5 4 ∧
      (((r = .inr (.inl y) ∨ r = .inr (.inr y)) ∧ p ≤ q ∧ ∃ J f', 0 < J ∧ w * J < 400 ∧ u = .inr (nI (w * J), z) ∧ TD y z (w * J) f' ∧ ∀ i, i < w * J → f' i ≤ hi) ∨
       (r = .inl y ∧ u = .inl z ∧ ∃ b, b ≤ t ∧ y.1 5 5 = nI b ∧ z 81 26 = nI b)))
    (by
      rintro j ⟨k, y⟩ ⟨n, z⟩ ⟨p', f', h0, h1, h2, h3, h4, h5, h6, h7, h8⟩
      dsimp only at h0 h1 h2 h3 h4 h5 h6 h7 h8
      subst h0 h1
      have hp' := h2.2.2.1
      have hj : w * j + 1 < 400 ∧ j < 400 := by
        rcases hw with rfl | rfl <;> omega
      refine ⟨hj.2, ?_⟩
      unfold f_X7_readAct_L35 f_X10_readsMany_L2
      dsimp only
      rw [if_neg (show ¬ (400 : Int32) ≤ nI j from nI_ge (a := j) (b := 400) hj.2 (by omega))]
      obtain ⟨q, y1, z1, b1, f1, g1, v1, r1⟩ := told_sim hk h2 h7 h8 hj.1
      rcases r1 with ⟨e1, e2, pq, f2, d1, d2⟩ | ⟨e1, e2, b, w0, w1, w2⟩
      · rw [e1, e2]
        simp only [Option.bind_some, Sum.elim_inr]
        rw [if_neg i1n0, hrep, if_neg i1n0]
        obtain ⟨q2, y2, z2, b2, f3, g3, k1, r2⟩ := comma_sim b1
        have ew : w * j + w = w * (j + 1) := by rw [Nat.mul_succ]
        rw [ew] at d1 d2
        have d3 : TD y2 z2 (w * (j + 1)) f2 := ⟨(k1 2 (by decide)).trans d1.1, fun i hi => by
          rw [f3.1 6 (by decide), g3 93 i (by omega)]
          exact d1.2 i hi⟩
        have hq2 := b2.2.2.1
        rcases r2 with ⟨e3, e4, pq2⟩ | ⟨e3, e4, pq2⟩
        · left
          rw [show f_X7_take y1 (44 : Int32) = _ from e3, e4]
          simp only [Option.bind_some]
          rw [if_neg i1n0, if_neg i1n0]
          refine ⟨_, _, rfl, rfl, q2, f2, nI_1 j, by rw [ew], b2, ?_, (h4.tr f1).tr (fr5 f3), (h5.tr g1).tr (frr g3), ((k1 4 (by decide)).trans v1).trans h6, d3, d2⟩
          rcases hw with rfl | rfl <;> omega
        · right
          rw [show f_X7_take y1 (44 : Int32) = _ from e3, e4]
          simp only [Option.bind_some]
          rw [if_pos trivial, if_pos trivial]
          refine ⟨_, _, rfl, rfl, q2, y2, z2, b2, (h4.tr f1).tr (fr5 f3), (h5.tr g1).tr (frr g3), ((k1 4 (by decide)).trans v1).trans h6, Or.inl ⟨Or.inl rfl, ?_, j + 1, f2, by omega, ?_, by rw [ew], d3, d2⟩⟩
          · rcases hw with rfl | rfl <;> omega
          · rcases hw with rfl | rfl <;> omega
      · right
        rw [e1, e2]
        simp only [Option.bind_some, Sum.elim_inl]
        rw [if_pos trivial]
        exact ⟨_, _, rfl, rfl, q, y1, z1, b1, h4.tr f1, h5.tr g1, v1.trans h6, Or.inr ⟨rfl, rfl, b, w0, w1, w2⟩⟩)
    400 0 2000 2000 ((0 : Int32), x) ((0 : Int32), m) (by omega) (by omega) (by omega) ⟨p, f, rfl, (by
      show (0 : Int32) = nI (w * 0)
      simp only [Nat.mul_zero]
      exact nI_0.symm), h, by omega, Fr.rf, FrM.rf, rfl, hd, fun i hi => absurd hi (by omega)⟩
  obtain ⟨r, u, er, eu, q, y, z, k1, k2, k3, k4, k5⟩ := key
  refine ⟨r, q, y, z, er, k1, k2, k3, k4, ?_⟩
  unfold f_X10_readsMany
  rw [eu]
  rcases k5 with ⟨c1, c2, J, f', c3, c4, rfl, c5, c6⟩ | ⟨c1, rfl, c2⟩
  · exact Or.inl ⟨c1, c2, J, f', c3, c4, rfl, c5, c6⟩
  · exact Or.inr ⟨c1, rfl, c2⟩
