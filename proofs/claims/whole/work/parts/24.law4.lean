/-! THE CLAIM OUT OF LawM -/
set_option maxRecDepth 100000 in
set_option maxHeartbeats 16000000 in
theorem whole_of {Rel : gRel} (hM : LawM Rel) {p : Program} {e : Env} {s : State} {m : MethodId} {below : List Frame} {meth : Method} {c : Code} (l : Launch) (hflags : l.flags = flags0) {b L : Nat} {xs : Nat → Int32} (hL : L ≤ 3072) (hx : p.tables.exec = Jvm.exec) (hb : c.code = code) (hml : c.maxLocals = 7) (hown : s.vm.findClass RL = some m.cls) (hts : ∀ w ∈ lw_tbl, w.before #[Value.ref b] s = true) (hX : va_X b L xs s s.heap) (hbl : b < s.heap.size) (hlocks : meth.locks = false) (hgv : (Jvm.Cond.and given_1 narrow_1).before #[Value.ref b] s = true) (Q : State → Prop)
    (hE0 : ∀ (H : Heap) (ls : Array Slot), W p l e room_1 s m #[Value.ref b] below meth c H [] 601024 7293034 Q (F0 m 1895 ls [.int 1])) : W p l e room_1 s m #[Value.ref b] below meth c s.heap [] 0 0 Q (entryFrame m ([Value.ref b] : List Value).toArray 7) := by
  have hs := flat_of_before _ hgv
  obtain ⟨D, q, hK⟩ := st_K hts
  obtain ⟨eK, eV, hJ⟩ := st_J (l := l) hs hts D q
  obtain ⟨E, hEdef⟩ : ∃ E : gEV, E = (l, D, q, s.heap.size, b, eK, eV) := ⟨_, rfl⟩
  obtain ⟨C, hCdef⟩ : ∃ C : gCx, C = (p, e, room_1, s, m, #[Value.ref b], below, meth, c, Q) := ⟨_, rfl⟩
  have hC : COk E C cL_law 7 RL 2048 601024 7293034 := by
    subst hEdef hCdef
    exact ⟨hx, hb, hml, hown, fun w hw => hts w (List.mem_filter.mp hw).1, hK, Nat.le_refl _, Nat.le_of_ble_eq_true rfl, Nat.le_of_ble_eq_true rfl, rfl, rfl, hJ, hlocks⟩
  have hXs : gScr E C L xs := by
    subst hEdef hCdef
    exact ⟨hX, hbl, Nat.not_le.mpr hbl⟩
  have hl : (eL E).stackTraces = false := by
    subst hEdef
    show l.stackTraces = false
    unfold Launch.stackTraces
    rw [hflags]
    decide
  have hE : ∀ a b lv xc fa tr pm hm lo, a ≤ 700 → b ≤ 20000 → KW E C (100, a, b) 1895 lv [.int 1] (RR fa tr pm) (xc, hm, lo) := by
    subst hEdef hCdef
    intro a' b' lv xc fa tr pm hm lo ha hb' H locs ls hP hS hl1
    refine va_forget (fun q hq => hS.2.2 q hq) ?_
    refine W.widen (k := 601024) (n := 7293034) (Nat.le_trans ha (Nat.le_of_ble_eq_true rfl)) (Nat.le_trans hb' (Nat.le_of_ble_eq_true rfl)) ?_
    exact hE0 H ls
  have hsz : gSz C (eB E + 0) := by
    subst hEdef hCdef
    rfl
  suffices hW : KW E C (0, 0, 0) 0 [some (.float 0), none, none, none, none, none, none] [] (rm 71 76 pm0 0) (x00, m00, fun _ _ => 0) by
    subst hEdef hCdef
    rw [lg_entry_eq]
    have hl := lv_entry ([.ref b]) (n := 7) (Nat.le_of_ble_eq_true rfl)
    refine hW s.heap [] _ (fun k q h => by simp [wsO] at h) va_S.rf ⟨hl.1.trans hml.symm, hl.2.1, fun i z hz => ?_⟩
    match i, hz with
    | 0, hz => cases hz; exact ⟨hl.2.2 _ List.mem_cons_self, rfl⟩
    | 1, hz => cases hz
    | 2, hz => cases hz
    | 3, hz => cases hz
    | 4, hz => cases hz
    | 5, hz => cases hz
    | 6, hz => cases hz
    | n + 7, hz => cases hz
  obtain ⟨hG, ⟨oc, hoc, om, hom, hRi⟩, -⟩ := id hM
  have hD0 : Dead 0 (rm 71 76 pm0 0) (x00, m00, fun _ _ => 0) := ⟨fun c _ j => by simp [rm], fun c sd k _ _ j => ⟨by unfold xi; split <;> rfl, by unfold xl; split <;> rfl⟩⟩
  have hD1 : Dead 81 (rm oc.2.1 oc.2.2.1 oc.2.2.2 81) (oc.1, m00, fun _ _ => 0) := by
    refine ⟨fun c hc j => by simp [rm]; omega, fun c sd k hc hk j => ?_⟩
    have h0 := kd_hi c _ hc hk
    match sd, h0 with
    | 0, h0 => exact absurd rfl h0
    | 1, _ => exact ⟨rfl, rfl⟩
    | 2, _ => exact ⟨rfl, rfl⟩
    | k + 3, _ => exact ⟨rfl, rfl⟩
  refine k_new (q := 3) (w' := (1, 1, 12)) hC nl_L_8 rfl dL_law_0 (by decide) hsz hD0 (by decide) rfl rfl ?_
  refine k_dup (q := 4) hC dL_law_3 rfl rfl ?_
  refine k_cI (q := 7) (w' := (81, 81, 4119)) (r' := RR oc.2.1 oc.2.2.1 oc.2.2.2) (av := [.ref 0]) (c0 := 0) (As := []) hC oX9_init iX9_init rfl rfl rfl dL_law_4 lk_L_93 (n_X9_0 E x00 (m00, fun _ _ => 0) (hD0.mono (by decide)) oc hoc) (by decide) rfl (Nat.le_of_ble_eq_true rfl) (by decide) (by decide) hsz rfl rfl rfl ?_
  refine k_astore_n (q := 8) (lv' := [some (.float 0), some (.ref 0), none, none, none, none, none]) hC dL_law_7 (by decide) rfl rfl ?_
  refine k_rc (r' := rm oc.2.1 oc.2.2.1 oc.2.2.2 81) (fun c hc => by
    have hc : c < 81 := hc
    funext j
    simp [rm, hc]) ?_
  refine k_new (q := 11) (w' := (82, 82, 4161)) hC nl_L_94 rfl dL_law_8 (by decide) hsz hD1 (by decide) rfl rfl ?_
  refine k_dup (q := 12) hC dL_law_11 rfl rfl ?_
  refine k_cI (q := 15) (w' := (99, 99, 7498)) (r' := RR oc.2.1 oc.2.2.1 oc.2.2.2) (av := [.ref 81]) (c0 := 81) (As := []) hC oX10_init iX10_init rfl rfl rfl dL_law_12 lk_L_96 (n_X10_81 E oc.2.1 oc.2.2.1 oc.2.2.2 oc.1 m00 (fun _ _ => 0) (hD1.mono (by decide)) om hom) (by decide) rfl (Nat.le_of_ble_eq_true rfl) (by decide) (by decide) hsz rfl rfl rfl ?_
  refine k_astore_n (q := 16) (lv' := [some (.float 0), some (.ref 0), some (.ref 81), none, none, none, none]) hC dL_law_15 (by decide) rfl rfl ?_
  refine k_iconst (q := 17) (v := (1 : Int32)) hC dL_law_16 (by decide) rfl ?_
  refine k_newa' (q := 19) (w' := (100, 100, 7499)) (at0 := .long) (t := 3) (N := 1) (sd := 2) hC rfl ac_long (fun _ => rfl) (fun cA => rfl) (by decide) rfl (by decide) dL_law_17 (by decide) hsz (by decide) rfl rfl ?_
  refine k_astore_n (q := 20) (lv' := [some (.float 0), some (.ref 0), some (.ref 81), some (.ref 99), none, none, none]) hC dL_law_19 (by decide) rfl rfl ?_
  refine k_iconst (q := 21) (v := (0 : Int32)) hC dL_law_20 (by decide) rfl ?_
  refine k_istore (q := 23) (lv' := lvL (Int32.ofNat (6 * 0))) hC dL_law_21 (by decide) rfl rfl ?_
  exact lw_loop hL hC hXs hl hM hE 600 0 (by omega) (by omega) 100 7499 _ _ _ _ _ _ hRi (by omega) (by omega)
