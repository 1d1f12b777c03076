/-! RINGS, SOUND -/
def Rg (N : aN) (u v : Nat) : Prop := Rc (Ed N 100) (fun s => s = u) nox v ∧ Rc (Ed N 100) (fun s => s = v) nox u
theorem Rg.rf {N : aN} (u : Nat) : Rg N u u := ⟨Rc.base rfl (fun z => z), Rc.base rfl (fun z => z)⟩
theorem Rg.sy {N : aN} {u v : Nat} (h : Rg N u v) : Rg N v u := ⟨h.2, h.1⟩
theorem Rg.tr {N : aN} {u v w : Nat} (h : Rg N u v) (h2 : Rg N v w) : Rg N u w := ⟨Rc.trans h.1 h2.1, Rc.trans h2.2 h.2⟩
/-- the least of its ring -/
def Lr (N : aN) (k : Nat) : Prop := Rc (Ed N 100) (fun s => s = nRt N) nox k ∧ ∀ j, j < k → ¬ Rg N k j
section
variable {N : aN} {hm y : gIH} {xc : gXH} {fa : Nat}
theorem rings_q (hN : aOk N) (q : QM N hm y) (hX : NX xc (fa + 1) (Ed N 100)) (hG : GF xc fa (Ed N 100) (fun s => s = nRt N)) (hR : RX xc N) : ∃ z, f_X8_rings fa xc = some z ∧ f_X10_rings y = some z := by
  have hn := hN.n16
  have key : ∃ z, lp (f_X8_rings_L12 fa xc) 2000 (0, xc.1 fa 4, 0) = some z ∧ z = nI (fb_ct (fun k => cb (Lr N k)) 16) := by
    refine lp_forx (step := f_X8_rings_L12 fa xc) 16 (fun i s => ∃ t, i ≤ t ∧ s.2.2 = nI i ∧ s.1 = nI (fb_ct (fun k => cb (Lr N k)) t) ∧ S16 s.2.1 ∧ ∀ v, v < 16 → (bt s.2.1 v = true ↔ Rc (Ed N 100) (fun s => s = nRt N) nox v ∧ ∀ j, j < t → ¬ Rg N v j)) _ ?_ ?_ ⟨0, Nat.le_refl _, rfl, rfl, hG.1.1, fun v hv => ?_⟩ (by omega)
    · rintro i ⟨c, l, ii⟩ hi ⟨t, t1, h0, h1, h2, h3⟩
      simp only at h0 h1 h2 h3
      subst h0 h1
      have done : l = 0 → nI (fb_ct (fun k => cb (Lr N k)) t) = nI (fb_ct (fun k => cb (Lr N k)) 16) := fun hz => by
        congr 1
        rcases Nat.le_total t 16 with o | o
        · refine (fb_ct_ext o fun k hk => cb_f.mpr fun z => ?_).symm
          have hk16 : k < 16 := Nat.lt_of_lt_of_le (hN.rn z.1) hn
          have := (h3 k hk16).mpr ⟨z.1, fun j hj => z.2 j (by omega)⟩
          rw [hz, b_0] at this
          cases this
        · refine fb_ct_ext o fun k hk => cb_f.mpr fun z => ?_
          have := hN.rn z.1
          omega
      unfold f_X8_rings_L12
      rw [if_neg (ge16 hi)]
      by_cases hz : l = 0
      · rw [if_pos hz]
        exact Or.inr ⟨_, rfl, done hz⟩
      · rw [if_neg hz]
        left
        obtain ⟨k, hk, k1, k2, k3, -⟩ := least_of hz
        have hk16 := h2.of_bt k1
        obtain ⟨kr, kj⟩ := (h3 k hk16).mp k1
        simp only
        rw [k3]
        obtain ⟨r, er, -, r1, -, r2⟩ := ring_q hN q hX hG hR hk16
        rw [er]
        simp only [Option.bind_some, lt]
        have htk : t ≤ k := by
          rcases Nat.lt_or_ge k t with o | o
          · exact absurd (Rg.rf k) (kj k o)
          · exact o
        -- between t and k nobody is left
        have mid : ∀ j, t ≤ j → j < k → Rc (Ed N 100) (fun s => s = nRt N) nox j → ∃ j', j' < t ∧ Rg N j j' := fun j j1 j2 jr => by
          apply Classical.byContradiction
          intro no
          have := (h3 j (by omega)).mpr ⟨jr, fun j' hj' z => no ⟨j', hj', z⟩⟩
          rw [k2 j j2] at this
          cases this
        have hLk : Lr N k := ⟨kr, fun j hj z => by
          rcases Nat.lt_or_ge j t with o | o
          · exact kj j o z
          · have jr : Rc (Ed N 100) (fun s => s = nRt N) nox j := Rc.trans kr z.1
            obtain ⟨j', a, b⟩ := mid j o hj jr
            exact kj j' a (z.tr b)⟩
        have hct : fb_ct (fun k => cb (Lr N k)) (k + 1) = fb_ct (fun k => cb (Lr N k)) t + 1 := by
          rw [fb_ct_succ, if_pos (cb_t.mpr hLk)]
          have : fb_ct (fun k => cb (Lr N k)) k = fb_ct (fun k => cb (Lr N k)) t := by
            obtain ⟨d, rfl⟩ : ∃ d, k = t + d := ⟨k - t, by omega⟩
            rw [fb_ct_split]
            have : fb_ct (fun k => cb (Lr N (t + k))) d = 0 := fb_ct_zero.mpr fun x hx => cb_f.mpr fun z => by
              obtain ⟨j', a, b⟩ := mid (t + x) (by omega) (by omega) z.1
              exact z.2 j' (by omega) b
            omega
          rw [this]
        refine ⟨_, rfl, k + 1, by omega, nI_1 i, ?_, h2.and, fun v hv => ?_⟩
        · show nI (fb_ct (fun k => cb (Lr N k)) t) + 1 = _
          rw [nI_1, hct]
        · show bt (l &&& (r ^^^ (-1))) v = true ↔ _
          rw [b_and, bt_not _ (by omega), Bool.and_eq_true, h3 v hv]
          have rv := r2 kr v hv
          have rv' : (!bt r v) = true ↔ ¬ Rg N k v := by
            cases hb : bt r v with
            | false => exact ⟨fun _ z => (by have := rv.mpr z; rw [hb] at this; cases this), fun _ => rfl⟩
            | true => exact ⟨fun z => (by cases z), fun z => absurd (rv.mp hb) z⟩
          rw [rv']
          constructor
          · rintro ⟨⟨a, b⟩, c⟩
            refine ⟨a, fun j hj z => ?_⟩
            rcases Nat.lt_or_ge j t with o | o
            · exact b j o z
            · by_cases hjk : j = k
              · subst hjk
                exact c z.sy
              · obtain ⟨j', a', b'⟩ := mid j o (by omega) (Rc.trans a z.1)
                exact b j' a' (z.tr b')
          · rintro ⟨a, b⟩
            exact ⟨⟨a, fun j hj => b j (by omega)⟩, fun z => b k (by omega) z.sy⟩
    · rintro ⟨c, l, ii⟩ ⟨t, t1, h0, h1, h2, h3⟩
      simp only at h0 h1 h2 h3
      subst h0 h1
      unfold f_X8_rings_L12
      rw [if_pos le16]
      refine ⟨_, rfl, ?_⟩
      show nI (fb_ct (fun k => cb (Lr N k)) t) = nI (fb_ct (fun k => cb (Lr N k)) 16)
      congr 1
      refine fb_ct_ext t1 fun k hk => cb_f.mpr fun z => ?_
      have := hN.rn z.1
      omega
    · rw [hG.1.2 v hv]
      exact ⟨fun z => ⟨z, fun j hj => by omega⟩, fun z => z.1⟩
  obtain ⟨z, ez, hz⟩ := key
  have h2 := lp_sum (step := f_X10_rings_L4 y) (nN N) (fun k => if cb (Lr N k) = true then 1 else 0) 0 (fun j a hj => by
    unfold f_X10_rings_L4
    rw [q.nodes]
    simp only [Option.bind_some, lt]
    rw [if_neg (nI_ge hj (by omega))]
    have hj16 : j < 16 := by omega
    by_cases c : Rc (Ed N 100) (fun s => s = nRt N) nox j
    · rw [if_neg (fun z => (q.2.2.1.r0 hj16).mp z c)]
      obtain ⟨r, -, er, r1, -, r2⟩ := ring_q hN q hX hG hR hj16
      rw [er]
      simp only [Option.bind_some]
      have e : (r &&& (((1 : Int32) <<< (nI j &&& 31)) - 1) = 0) ↔ Lr N j := by
        rw [(S16.and r1).zero]
        constructor
        · intro z
          refine ⟨c, fun i hi w => ?_⟩
          have := z i (by omega)
          rw [b_and, show bt (((1 : Int32) <<< (nI j &&& 31)) - 1) i = decide (i < j) from bt_all j (by omega) (by omega), decide_eq_true hi, Bool.and_true, ← Bool.not_eq_true, r2 c i (by omega)] at this
          exact this w
        · intro z i hi
          rw [b_and, show bt (((1 : Int32) <<< (nI j &&& 31)) - 1) i = decide (i < j) from bt_all j (by omega) (by omega)]
          by_cases hij : i < j
          · rw [decide_eq_true hij, Bool.and_true, ← Bool.not_eq_true, r2 c i hi]
            exact z.2 i hij
          · rw [decide_eq_false hij, Bool.and_false]
      by_cases c2 : Lr N j
      · rw [if_pos (e.mpr c2), if_pos (cb_t.mpr c2), nI_1, nI_1]
      · rw [if_neg (fun z => c2 (e.mp z)), if_neg (fun z => c2 (cb_t.mp z)), nI_1, show (0 : Int32) = nI 0 from rfl, nI_add]
    · rw [if_pos ((q.2.2.1.r0 hj16).mpr c), if_neg (fun z => c (cb_t.mp z).1), nI_1, show (0 : Int32) = nI 0 from rfl, nI_add]) (fun a => by
    unfold f_X10_rings_L4
    rw [q.nodes]
    simp only [Option.bind_some]
    rw [if_pos (Int32.le_refl _)]) (k := 2000) (by omega)
  rw [fb_sm_ct, Nat.zero_add, nI_0] at h2
  have e16 : fb_ct (fun k => cb (Lr N k)) 16 = fb_ct (fun k => cb (Lr N k)) (nN N) := fb_ct_ext hn fun k hk => cb_f.mpr fun z => by
    have := hN.rn z.1
    omega
  refine ⟨z, ?_, ?_⟩
  · unfold f_X8_rings
    simp only [lt]
    rw [ez]
    rfl
  · unfold f_X10_rings
    rw [h2, hz, e16]
    rfl
/-! sound: no circle of open arcs that aren't back ones, among who is reached -/
def Fw (N : aN) (u v : Nat) : Prop := Rc (Ed N 100) (fun s => s = nRt N) nox u ∧ Ed N 100 u v ∧ ¬ (u = v ∨ Dm (Ed N 100) (fun s => s = nRt N) v u)
def Cl (F : Nat → Nat → Prop) (C : Nat → Prop) : Prop := (∀ v, C v → v < 16) ∧ (∃ v, C v) ∧ ∀ v, C v → ∃ w, C w ∧ F v w
/-- who all have followers among themselves: then others have ones ahead of them -/
theorem Cl.rev {F : Nat → Nat → Prop} {C : Nat → Prop} (h : Cl F C) : ∃ D, Cl (fun u v => F v u) D ∧ ∀ v, D v → C v := by
  obtain ⟨h1, ⟨v0, h2⟩, h3⟩ := h
  have hx : ∀ v, ∃ w, C v → C w ∧ F v w := fun v => by
    by_cases c : C v
    · obtain ⟨w, a, b⟩ := h3 v c
      exact ⟨w, fun _ => ⟨a, b⟩⟩
    · exact ⟨0, fun z => absurd z c⟩
  obtain ⟨f, hf⟩ : ∃ f : Nat → Nat, ∀ v, C v → C (f v) ∧ F v (f v) := ⟨fun v => (hx v).choose, fun v => (hx v).choose_spec⟩
  obtain ⟨s, hs0, hsn⟩ : ∃ s : Nat → Nat, s 0 = v0 ∧ ∀ n, s (n + 1) = f (s n) := ⟨fun n => Nat.rec v0 (fun _ x => f x) n, rfl, fun _ => rfl⟩
  have hC : ∀ n, C (s n) := by
    intro n
    induction n with
    | zero => rw [hs0]; exact h2
    | succ n ih => rw [hsn]; exact (hf _ ih).1
  have hF : ∀ n, F (s n) (s (n + 1)) := fun n => by rw [hsn]; exact (hf _ (hC n)).2
  obtain ⟨i, j, hij, hj, e⟩ := fb_twice (m := 16) (n := 17) (f := s) (fun i _ => h1 _ (hC i)) (by omega)
  refine ⟨fun v => ∃ k, i ≤ k ∧ k < j ∧ s k = v, ⟨fun v => ?_, ⟨s i, i, Nat.le_refl _, hij, rfl⟩, fun v => ?_⟩, fun v => ?_⟩
  · rintro ⟨k, -, -, rfl⟩
    exact h1 _ (hC k)
  · rintro ⟨k, k1, k2, rfl⟩
    by_cases c : k = i
    · subst c
      refine ⟨s (j - 1), ⟨j - 1, by omega, by omega, rfl⟩, ?_⟩
      have := hF (j - 1)
      rw [show j - 1 + 1 = j by omega, ← e] at this
      exact this
    · refine ⟨s (k - 1), ⟨k - 1, by omega, by omega, rfl⟩, ?_⟩
      have := hF (k - 1)
      rw [show k - 1 + 1 = k by omega] at this
      exact this
  · rintro ⟨k, -, -, rfl⟩
    exact hC k
theorem fw_lt (hN : aOk N) {u v : Nat} (h : Fw N u v) : u < 16 ∧ v < 16 := hN.e16n (k1 := 100) (k2 := 100) _ _ h.2.1
theorem sound_nx (hX : NX xc (fa + 1) (Ed N 100)) (hG : GF xc fa (Ed N 100) (fun s => s = nRt N)) (l : Int32) (v : Nat) (hl : S16 l) (hv : v < 16) (hr : Rc (Ed N 100) (fun s => s = nRt N) nox v) : (((xc.1 (fa + 1) v &&& (f_X8_upTo fa xc (nI v) ^^^ (-1))) &&& l = 0) ↔ ¬ ∃ w, w < 16 ∧ bt l w = true ∧ Fw N v w) := by
    obtain ⟨u1, u2⟩ := hG.up hv
    have e : ∀ w, w < 16 → (bt ((xc.1 (fa + 1) v &&& (f_X8_upTo fa xc (nI v) ^^^ (-1))) &&& l) w = true ↔ bt l w = true ∧ Fw N v w) := fun w hw => by
      have hu := u2 w hw
      have hb : (!bt (f_X8_upTo fa xc (nI v)) w) = true ↔ ¬ (v = w ∨ Dm (Ed N 100) (fun s => s = nRt N) w v) := by
        cases hbb : bt (f_X8_upTo fa xc (nI v)) w with
        | false => exact ⟨fun _ z => (by
            have := hu.mpr ⟨hr, z.elim (fun z => Or.inr z.symm) (fun z => Or.inl z)⟩
            rw [hbb] at this
            cases this), fun _ => rfl⟩
        | true => exact ⟨fun z => (by cases z), fun z => absurd ((hu.mp hbb).2.elim (fun z => Or.inr z) (fun z => Or.inl z.symm)) z⟩
      rw [b_and, b_and, bt_not _ (by omega), Bool.and_eq_true, Bool.and_eq_true, (hX v hv).2 w hw, hb]
      exact ⟨fun z => ⟨z.2, hr, z.1.1, z.1.2⟩, fun z => ⟨⟨z.2.2.1, z.2.2.2⟩, z.1⟩⟩
    rw [(S16.and (S16.and (hX v hv).1)).zero]
    constructor
    · rintro z ⟨w, w1, w2, w3⟩
      have := z w w1
      rw [(e w w1).mpr ⟨w2, w3⟩] at this
      cases this
    · intro z w w1
      cases hb : bt ((xc.1 (fa + 1) v &&& (f_X8_upTo fa xc (nI v) ^^^ (-1))) &&& l) w with
      | false => rfl
      | true => exact absurd ⟨w, w1, (e w w1).mp hb⟩ z
theorem sound_in (hX : NX xc (fa + 1) (Ed N 100)) (hG : GF xc fa (Ed N 100) (fun s => s = nRt N)) : ∀ (i l0 : Int32), S16 l0 → (∀ v, v < 16 → bt l0 v = true → Rc (Ed N 100) (fun s => s = nRt N) nox v) → ∃ z, lp (f_X8_isSound_L22 fa xc i) 2000 (l0, 0) = some z ∧ S16 z ∧ (∀ v, bt z v = true → bt l0 v = true) ∧ (∀ C, Cl (Fw N) C → (∀ v, C v → bt l0 v = true) → ∀ v, C v → bt z v = true) ∧ ((z = l0 ∧ ∀ v, v < 16 → bt l0 v = true → ∃ w, w < 16 ∧ bt l0 w = true ∧ Fw N v w) ∨ fb_ct (bt z) 16 < fb_ct (bt l0) 16) := by
    intro i l0 hl0 hlr
    refine lp_for (step := f_X8_isSound_L22 fa xc i) 16 (fun j s => s.2 = nI j ∧ S16 s.1 ∧ (∀ v, bt s.1 v = true → bt l0 v = true) ∧ (∀ C, Cl (Fw N) C → (∀ v, C v → bt l0 v = true) → ∀ v, C v → bt s.1 v = true) ∧ ((s.1 = l0 ∧ ∀ v, v < j → bt l0 v = true → ∃ w, w < 16 ∧ bt l0 w = true ∧ Fw N v w) ∨ fb_ct (bt s.1) 16 < fb_ct (bt l0) 16)) _ ?_ ?_ ⟨rfl, hl0, fun v z => z, fun C _ hc => hc, Or.inl ⟨rfl, fun v hv => by omega⟩⟩ (by omega)
    · rintro j ⟨l, c⟩ hj ⟨h0, h1, h2, h3, h4⟩
      simp only at h0 h1 h2 h3 h4
      subst h0
      unfold f_X8_isSound_L22
      rw [if_neg (ge16 hj), atv_n (L := 16) hj (by omega)]
      simp only [lt]
      by_cases hlj : bt l j = true
      · have hr := hlr j hj (h2 j hlj)
        have e := sound_nx hX hG l j h1 hj hr
        by_cases cc : ∃ w, w < 16 ∧ bt l w = true ∧ Fw N j w
        · rw [if_neg (fun z => (e.mp z) cc)]
          refine ⟨_, rfl, nI_1 j, h1, h2, h3, ?_⟩
          rcases h4 with ⟨a, b⟩ | a
          · refine Or.inl ⟨a, fun v hv hb => ?_⟩
            rcases Nat.lt_or_ge v j with o | o
            · exact b v o hb
            · rw [show v = j by omega]
              rw [a] at cc
              exact cc
          · exact Or.inr a
        · rw [if_pos (e.mpr cc)]
          have hbl : ∀ v, v < 16 → (bt (l &&& (f_X9_only (nI j) ^^^ (-1))) v = true ↔ bt l v = true ∧ v ≠ j) := fun v hv => by
            rw [b_and, bt_not _ (by omega), bt_only (by omega) (by omega)]
            cases bt l v <;> simp
          refine ⟨_, rfl, nI_1 j, h1.and, fun v hv => ?_, fun C hC hc v hv => ?_, Or.inr ?_⟩
          · have hv16 := (S16.and h1).of_bt hv
            exact h2 v ((hbl v hv16).mp hv).1
          · refine (hbl v (hC.1 v hv)).mpr ⟨h3 C hC hc v hv, fun z => ?_⟩
            subst z
            obtain ⟨w, w1, w2⟩ := hC.2.2 v hv
            exact cc ⟨w, hC.1 w w1, h3 C hC hc w w1, w2⟩
          · have hlt : fb_ct (bt (l &&& (f_X9_only (nI j) ^^^ (-1)))) 16 < fb_ct (bt l) 16 := ct_lt (fun v hv hb => ((hbl v hv).mp hb).1) hj hlj (by
              cases hb : bt (l &&& (f_X9_only (nI j) ^^^ (-1))) j with
              | false => rfl
              | true => exact absurd rfl ((hbl j hj).mp hb).2)
            have hle : fb_ct (bt l) 16 ≤ fb_ct (bt l0) 16 := fb_ct_sub fun v _ hb => h2 v hb
            show fb_ct (bt (l &&& (f_X9_only (nI j) ^^^ (-1)))) 16 < _
            omega
      · -- who isn't left: nothing changes
        have same : l &&& (f_X9_only (nI j) ^^^ (-1)) = l := by
          refine b_ext fun v hv => ?_
          rw [b_and, bt_not _ hv, bt_only (by omega) hv]
          by_cases c2 : v = j
          · subst c2
            rw [show bt l v = false by simpa using hlj]
            rfl
          · rw [decide_eq_false c2]
            cases bt l v <;> rfl
        have nx : (nI j + 1 = nI (j + 1) ∧ S16 l ∧ (∀ v, bt l v = true → bt l0 v = true) ∧ (∀ C, Cl (Fw N) C → (∀ v, C v → bt l0 v = true) → ∀ v, C v → bt l v = true) ∧ ((l = l0 ∧ ∀ v, v < j + 1 → bt l0 v = true → ∃ w, w < 16 ∧ bt l0 w = true ∧ Fw N v w) ∨ fb_ct (bt l) 16 < fb_ct (bt l0) 16)) := by
          refine ⟨nI_1 j, h1, h2, h3, h4.imp (fun ⟨a, b⟩ => ⟨a, fun v hv hb => ?_⟩) id⟩
          rcases Nat.lt_or_ge v j with o | o
          · exact b v o hb
          · rw [show v = j by omega] at hb
            rw [← a] at hb
            exact absurd hb hlj
        rw [same]
        split
        · exact ⟨_, rfl, nx⟩
        · exact ⟨_, rfl, nx⟩
    · rintro ⟨l, c⟩ ⟨h0, h1, h2, h3, h4⟩
      simp only at h0 h1 h2 h3 h4
      subst h0
      unfold f_X8_isSound_L22
      rw [if_pos le16]
      exact ⟨l, rfl, h1, h2, h3, h4⟩
theorem sound_c (hN : aOk N) (hX : NX xc (fa + 1) (Ed N 100)) (hG : GF xc fa (Ed N 100) (fun s => s = nRt N)) : f_X8_isSound fa xc = some (if cb (∃ C, Cl (Fw N) C) = true then 0 else 1) := by
  have inner := sound_in hX hG
  have hrall : ∀ v, v < 16 → bt (xc.1 fa 4) v = true → Rc (Ed N 100) (fun s => s = nRt N) nox v := fun v hv => (hG.1.2 v hv).mp
  have hCall : ∀ C, Cl (Fw N) C → ∀ v, C v → bt (xc.1 fa 4) v = true := fun C hC v hv => by
    obtain ⟨w, -, hw⟩ := hC.2.2 v hv
    exact (hG.1.2 v (hC.1 v hv)).mpr hw.1
  have outer : ∃ z, lp (f_X8_isSound_L10 fa xc) 2000 (xc.1 fa 4, 0) = some z ∧ (z = 0 ↔ ¬ ∃ C, Cl (Fw N) C) := by
    have fin0 : ∀ l : Int32, S16 l → (∀ C, Cl (Fw N) C → ∀ v, C v → bt l v = true) → l = 0 → ¬ ∃ C, Cl (Fw N) C := fun l h1 h3 hz ⟨C, hC⟩ => by
      obtain ⟨v, hv⟩ := hC.2.1
      have := h3 C hC v hv
      rw [hz, b_0] at this
      cases this
    refine lp_forx (step := f_X8_isSound_L10 fa xc) 16 (fun i s => s.2 = nI i ∧ S16 s.1 ∧ (∀ v, v < 16 → bt s.1 v = true → Rc (Ed N 100) (fun s => s = nRt N) nox v) ∧ (∀ C, Cl (Fw N) C → ∀ v, C v → bt s.1 v = true) ∧ ((∀ v, v < 16 → bt s.1 v = true → ∃ w, w < 16 ∧ bt s.1 w = true ∧ Fw N v w) ∨ fb_ct (bt s.1) 16 + i ≤ 16)) _ ?_ ?_ ⟨rfl, hG.1.1, hrall, hCall, Or.inr (by dsimp only; rw [Nat.add_zero]; exact fb_ct_le _ 16)⟩ (by omega)
    · rintro i ⟨l, c⟩ hi ⟨h0, h1, h2, h3, h4⟩
      simp only at h0 h1 h2 h3 h4
      subst h0
      unfold f_X8_isSound_L10
      rw [if_neg (ge16 hi)]
      by_cases hz : l = 0
      · rw [if_pos hz]
        exact Or.inr ⟨_, rfl, fun _ => fin0 l h1 h3 hz, fun _ => hz⟩
      · rw [if_neg hz]
        left
        obtain ⟨z, ez, z1, z2, z3, z4⟩ := inner (nI i) l h1 h2
        simp only
        rw [ez]
        simp only [Option.bind_some, lt]
        refine ⟨_, rfl, nI_1 i, z1, fun v hv hb => h2 v hv (z2 v hb), fun C hC => z3 C hC (h3 C hC), ?_⟩
        rcases z4 with ⟨a, b⟩ | a
        · left
          simp only
          rw [a]
          exact b
        · rcases h4 with h4 | h4
          · -- it was stable: then it stays
            left
            have hall : ∀ v, bt l v = true → bt z v = true := by
              by_cases hne : ∃ v, bt l v = true
              · exact z3 (fun v => bt l v = true) ⟨fun v hv => h1.of_bt hv, hne, fun v hv => by
                  obtain ⟨w, -, w2, w3⟩ := h4 v (h1.of_bt hv) hv
                  exact ⟨w, w2, w3⟩⟩ (fun v hv => hv)
              · exact fun v hv => absurd ⟨v, hv⟩ hne
            have : z = l := z1.ext h1 fun v hv => by
              apply Bool.eq_iff_iff.mpr
              exact ⟨z2 v, hall v⟩
            simp only
            rw [this]
            exact h4
          · right
            show fb_ct (bt z) 16 + (i + 1) ≤ 16
            omega
    · rintro ⟨l, c⟩ ⟨h0, h1, h2, h3, h4⟩
      simp only at h0 h1 h2 h3 h4
      subst h0
      unfold f_X8_isSound_L10
      rw [if_pos le16]
      refine ⟨l, rfl, fin0 l h1 h3, fun hno => ?_⟩
      rcases h4 with h4 | h4
      · rw [h1.zero]
        intro v hv
        cases hb : bt l v with
        | false => rfl
        | true =>
          refine absurd ⟨fun v => bt l v = true, fun v hv => h1.of_bt hv, ⟨v, hb⟩, fun v hv => ?_⟩ hno
          obtain ⟨w, -, w2, w3⟩ := h4 v (h1.of_bt hv) hv
          exact ⟨w, w2, w3⟩
      · rw [h1.zero]
        exact fb_ct_zero.mp (by omega)
  obtain ⟨z, ez, hz⟩ := outer
  unfold f_X8_isSound
  simp only [lt]
  rw [ez]
  simp only [Option.bind_some]
  by_cases c : ∃ C, Cl (Fw N) C
  · rw [if_neg (fun w => (hz.mp w) c), if_pos (cb_t.mpr c)]
  · rw [if_pos (hz.mpr c), if_neg (fun w => c (cb_t.mp w))]
theorem sound_m (hN : aOk N) (q : QM N hm y) : f_X10_isSound y = some (if cb (∃ C, Cl (fun u v => Fw N v u) C) = true then 0 else 1) := by
  have h60 := hN.m60
  have hF := q.2.2.1
  have inner : ∀ (f l : Int32), S16 l → (∀ v, v < 16 → bt l v = true → Rc (Ed N 100) (fun s => s = nRt N) nox v) → ∃ z, lp (f_X10_isSound_L19 y l f) 2000 (0, 0) = some z ∧ S16 z ∧ ∀ v, v < 16 → (bt z v = true ↔ ∃ u, bt l u = true ∧ Fw N u v) := by
    intro f l hl hlr
    obtain ⟨z, ez, z1, z2⟩ := lp_arcs hN (step := f_X10_isSound_L19 y l f) (fun a => nO N a = true ∧ ¬ BkA N a ∧ bt l (nF N a) = true) (nT N) (fun a ha => hN.t16 ha) (fun j s hj hp => by
        unfold f_X10_isSound_L19
        rw [m_arcs q.2.1]
        simp only [Option.bind_some, lt]
        rw [if_neg (nI_ge hj (by omega)), m_open hN q.2.1 hj]
        simp only [Option.bind_some]
        rw [if_neg (by rw [bi01, hp.1]; decide), isBack_m hN q hj]
        simp only [Option.bind_some]
        rw [if_pos (by rw [bi01]; exact cb_f.mpr hp.2.1), m_from hN q.2.1 hj]
        simp only [Option.bind_some]
        rw [if_neg (by rw [holds0 _ (by have := hN.f16 hj; omega), hp.2.2]; decide), m_to hN q.2.1 hj]
        simp only [Option.bind_some]
        rw [nI_1]) (fun j s hj hp => by
        unfold f_X10_isSound_L19
        rw [m_arcs q.2.1]
        simp only [Option.bind_some, lt, nI_1]
        rw [if_neg (nI_ge hj (by omega)), m_open hN q.2.1 hj]
        simp only [Option.bind_some]
        by_cases c1 : nO N j = true
        · rw [if_neg (by rw [bi01, c1]; decide), isBack_m hN q hj]
          simp only [Option.bind_some]
          by_cases c2 : BkA N j
          · rw [if_neg (by rw [bi01, cb_t.mpr c2]; decide)]
          · rw [if_pos (by rw [bi01]; exact cb_f.mpr c2), m_from hN q.2.1 hj]
            simp only [Option.bind_some]
            rw [if_pos]
            rw [holds0 _ (by have := hN.f16 hj; omega)]
            cases hb : bt l (nF N j) with
            | false => rfl
            | true => exact absurd ⟨c1, c2, hb⟩ hp
        · rw [if_pos (by rw [bi01]; simpa using c1)]) (fun s => by
        unfold f_X10_isSound_L19
        rw [m_arcs q.2.1]
        simp only [Option.bind_some]
        rw [if_pos (Int32.le_refl _)])
    refine ⟨z, ez, z1, fun v hv => ?_⟩
    rw [z2 v hv]
    constructor
    · rintro ⟨a, a1, ⟨a2, a3, a4⟩, rfl⟩
      have hr := hlr _ (hN.f16 a1) a4
      refine ⟨nF N a, a4, hr, Or.inl ⟨a, a1, a2, by omega, by omega, rfl, rfl⟩, fun z => a3 ⟨a2, hr, z⟩⟩
    · rintro ⟨u, u1, u2, ⟨a, a1, a2, a3, a4, rfl, rfl⟩ | w, u4⟩
      · exact ⟨a, a1, ⟨a2, fun z => u4 z.2.2, u1⟩, rfl⟩
      · cases w
  have hrall : ∀ v, v < 16 → bt (y 81 11) v = true → Rc (Ed N 100) (fun s => s = nRt N) nox v := fun v hv => (hF.1.2 v hv).mp
  have hCall : ∀ C, Cl (fun u v => Fw N v u) C → ∀ v, C v → bt (y 81 11) v = true := fun C hC v hv => by
    obtain ⟨w, -, hw⟩ := hC.2.2 v hv
    exact (hF.1.2 v (hC.1 v hv)).mpr (Rc.step hw.1 hw.2.1 (fun z => z))
  have outer : ∃ z, lp (f_X10_isSound_L7 y) 2000 (y 81 11, 0) = some z ∧ (z = 0 ↔ ¬ ∃ C, Cl (fun u v => Fw N v u) C) := by
    refine lp_run (step := f_X10_isSound_L7 y) (fun s => S16 s.1 ∧ (∀ v, v < 16 → bt s.1 v = true → Rc (Ed N 100) (fun s => s = nRt N) nox v) ∧ (∀ C, Cl (fun u v => Fw N v u) C → ∀ v, C v → bt s.1 v = true) ∧ (s.1 = s.2 → ∀ v, v < 16 → bt s.1 v = true → ∃ u, bt s.1 u = true ∧ Fw N u v)) (fun s => 2 * fb_ct (bt s.1) 16 + if s.1 = s.2 then 0 else 1) _ ?_ ⟨hF.1.1, hrall, hCall, fun hz v hv hb => ?_⟩ ?_
    · rintro ⟨l, w⟩ ⟨h1, h2, h3, h4⟩
      simp only at h1 h2 h3 h4
      unfold f_X10_isSound_L7
      by_cases c : l = w
      · rw [if_pos c]
        right
        refine ⟨_, rfl, fun hz ⟨C, hC⟩ => ?_, fun hno => ?_⟩
        · obtain ⟨v, hv⟩ := hC.2.1
          have := h3 C hC v hv
          have hz' : l = 0 := hz
          rw [hz', b_0] at this
          cases this
        · rw [h1.zero]
          intro v hv
          cases hb : bt l v with
          | false => rfl
          | true =>
            refine absurd ⟨fun v => bt l v = true, fun v hv => h1.of_bt hv, ⟨v, hb⟩, fun v hv => ?_⟩ hno
            obtain ⟨u, u1, u2⟩ := h4 c v (h1.of_bt hv) hv
            exact ⟨u, u1, u2⟩
      · rw [if_neg c]
        left
        obtain ⟨z, ez, z1, z2⟩ := inner l l h1 h2
        simp only
        rw [ez]
        simp only [Option.bind_some, lt]
        have hb : ∀ v, v < 16 → (bt (l &&& z) v = true ↔ bt l v = true ∧ ∃ u, bt l u = true ∧ Fw N u v) := fun v hv => by
          rw [b_and, Bool.and_eq_true, z2 v hv]
        refine ⟨_, rfl, ⟨h1.and, fun v hv hbv => h2 v hv ((hb v hv).mp hbv).1, fun C hC v hv => ?_, fun he v hv hbv => ?_⟩, ?_⟩
        · obtain ⟨u, u1, u2⟩ := hC.2.2 v hv
          exact (hb v (hC.1 v hv)).mpr ⟨h3 C hC v hv, u, h3 C hC u u1, u2⟩
        · simp only at he hbv ⊢
          obtain ⟨u, u1, u2⟩ := ((hb v hv).mp hbv).2
          exact ⟨u, by rw [he]; exact u1, u2⟩
        · show 2 * fb_ct (bt (l &&& z)) 16 + (if l &&& z = l then 0 else 1) < 2 * fb_ct (bt l) 16 + (if l = w then 0 else 1)
          rw [if_neg c]
          by_cases ce : l &&& z = l
          · rw [if_pos ce, ce]
            omega
          · rw [if_neg ce]
            have := S16.grow (S16.and h1) h1 (fun v hv => ((hb v ((S16.and (y := z) h1).of_bt hv)).mp hv).1) (fun e => ce e.symm)
            omega
    · simp only at hz hb
      rw [hz, b_0] at hb
      cases hb
    · have := fb_ct_le (bt (y 81 11)) 16
      show 2 * fb_ct (bt (y 81 11)) 16 + (if y 81 11 = 0 then 0 else 1) < 2000
      split <;> omega
  obtain ⟨z, ez, hz⟩ := outer
  unfold f_X10_isSound
  simp only [lt]
  rw [ez]
  simp only [Option.bind_some]
  by_cases c : ∃ C, Cl (fun u v => Fw N v u) C
  · rw [if_neg (fun w => (hz.mp w) c), if_pos (cb_t.mpr c)]
  · rw [if_pos (hz.mpr c), if_neg (fun w => c (cb_t.mp w))]
theorem sound_q (hN : aOk N) (q : QM N hm y) (hX : NX xc (fa + 1) (Ed N 100)) (hG : GF xc fa (Ed N 100) (fun s => s = nRt N)) : ∃ z, f_X8_isSound fa xc = some z ∧ f_X10_isSound y = some z := by
  refine ⟨_, sound_c hN hX hG, ?_⟩
  rw [sound_m hN q]
  have e : cb (∃ C, Cl (fun u v => Fw N v u) C) = cb (∃ C, Cl (Fw N) C) := cb_congr ⟨fun ⟨C, hC⟩ => (by
    obtain ⟨D, hD, -⟩ := hC.rev
    exact ⟨D, hD⟩), fun ⟨C, hC⟩ => (by
    obtain ⟨D, hD, -⟩ := hC.rev
    exact ⟨D, hD⟩)⟩
  rw [e]
end
