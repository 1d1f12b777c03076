def slen (k : Nat) : Int32 := Int32.ofNat (gSL.getD k 0)
def slenN (k : Nat) : Nat := gSL.getD k 0
def schar (k : Nat) (i : Int32) : Int32 := (gSB.getD k []).getD i.toNatClampNeg 0
def crow (xc : gXH) (c0 L0 c1 L1 : Nat) : gXH := ((fun c j => if c = c1 ∧ j < min L0 L1 then xc.1 c0 j else xc.1 c j), xc.2)
theorem lk_copy : Cond.methodLink RX9 436 arraycopyName ∈ gW0 := gW0_mem (gt_3 (List.mem_of_getElem? (i := 9) (by decide +kernel))) rfl
theorem nat_copy : Cond.native arraycopyName ∈ gW0 := gW0_mem (gt_3 (List.mem_of_getElem? (i := 11) (by decide +kernel))) rfl
theorem stat_copy : Cond.static arraycopyName ∈ gW0 := gW0_mem (gt_3 (List.mem_of_getElem? (i := 10) (by decide +kernel))) rfl
theorem ini_copy : Cond.initialized "java/lang/System" ∈ gW0 := gW0_mem (gt_1 (List.mem_of_getElem? (i := 15) (by decide +kernel))) rfl
theorem ofNat_clamp {L : Nat} (h : L ≤ 1600) : (Int32.ofNat L).toNatClampNeg = L := by
  show (Int32.ofNat L).toInt.toNat = L
  rw [Int32.toInt_ofNat_of_lt (by omega)]
  rfl
theorem k_copy {e : gEV} {C : gCx} {cc : ByteArray} {nL d mc ms pc q : Nat} {own : String} {w : Nat × Nat × Nat} {lv : List (Option Value)} {st : List Value} {r : gRH} {idx c0 c1 L0 L1 : Nat} {n1 : Int32} {xc : gXH} {z : gIH × gLH} (hC : COk e C cc nL own d mc ms) (hk0 : kdn w.1 c0 = some (0, .inr (0, L0))) (hk1 : kdn w.1 c1 = some (0, .inr (0, L1))) (hn : ¬ n1 < 0) (h4 : n1.toNatClampNeg ≤ L0) (h5 : n1.toNatClampNeg ≤ L1) (hlnk : Cond.methodLink own idx arraycopyName ∈ gW0) (hd1 : 1 ≤ d) (hw : gWt st ≤ 8) (hd : decode cc pc = .ok (.invokestatic idx, 3)) (hq : pc + 3 = q)
    (kk : KW e C w q lv st r (((fun c j => if c = c1 ∧ j < n1.toNatClampNeg then xc.1 c0 j else xc.1 c j), xc.2), z)) : KW e C w pc lv (.int n1 :: .int 0 :: .ref c1 :: .int 0 :: .ref c0 :: st) r (xc, z) := by
  obtain ⟨p, en, R, s, m, args, below, meth, cd, Q⟩ := C
  obtain ⟨hx, hb, hml, hown, hts, hK, hbs, hRf, hRl, hRc, hRs, hJ, hlk⟩ := hC
  subst hq
  intro H locs ls hP hS hl
  have hws := wsO_set (e := e) (n := w.1) (r := r) (r' := r) (x := (xc, z)) (x' := (((fun c j => if c = c1 ∧ j < n1.toNatClampNeg then xc.1 c0 j else xc.1 c j), xc.2), z)) hk1 (fun c' hc' => cellE_congr (fun sd => by
    unfold xi
    split
    · funext j
      simp [hc']
    · rfl
    · rfl) (fun sd => rfl) rfl)
  have hrow : xi (((fun c j => if c = c1 ∧ j < n1.toNatClampNeg then xc.1 c0 j else xc.1 c j), xc.2), z) 0 c1 = va_cpy (xi (xc, z) 0 c0) (xi (xc, z) 0 c1) (0 : Int32).toNatClampNeg (0 : Int32).toNatClampNeg n1.toNatClampNeg := by
    funext j
    show (if c1 = c1 ∧ j < n1.toNatClampNeg then xc.1 c0 j else xc.1 c1 j) = if 0 ≤ j ∧ j < 0 + n1.toNatClampNeg then xc.1 c0 (0 + (j - 0)) else xc.1 c1 j
    simp
  have z0 : (0 : Int32).toNatClampNeg = 0 := rfl
  refine va_copyi (own := own) (index := idx) hx hb hl.1.symm hown (hts _ hlnk) (hts _ nat_copy) (hts _ stat_copy) (hts _ ini_copy) hK hP wsO_D hS c0 c1 0 0 (wsO_at hk0) (wsO_at hk1) rfl rfl rfl (by decide) (by decide) hn (by rw [z0]; omega) (by rw [z0]; omega) (fun _ _ => rfl) (by omega) ?_ hd (fun H1 locs1 hP1 hD1 hS1 => kk H1 locs1 ls (by rw [← hws]; simp only [cellK, ctn, hrow]; exact hP1) hS1 hl)
  rw [gWt_eq, show nativeFrameWords "java/lang/System" "arraycopy" 5 = 7 by decide +kernel]
  omega
theorem c_X9_copyRow (e : gEV) (n : Nat) (hn : 81 ≤ n) (c0 L0 c1 L1 : Nat) (hc0 : kdn n c0 = some (0, .inr (0, L0))) (hc1 : kdn n c1 = some (0, .inr (0, L1))) (r : gRH) (xc : gXH) (z : gIH × gLH) : Cal e qX9_copyRow 2 0 0 false n [.ref c0, .ref c1] r (xc, z) none n r (crow xc c0 L0 c1 L1, z) := by
  refine cal_of oX9_copyRow (lv := [some (.ref c0), some (.ref c1)]) (fun v hv => by simp at hv; rcases hv with rfl | rfl <;> rfl) (Nat.le_of_ble_eq_true rfl) rfl (fun C hC hQ _ => ?_)
  have l0 := kdn_len hc0
  have l1 := kdn_len hc1
  have em : (if Int32.ofNat L1 < Int32.ofNat L0 then Int32.ofNat L1 else Int32.ofNat L0) = Int32.ofNat (min L0 L1) := by
    have e1 : Int32.ofNat L1 < Int32.ofNat L0 ↔ L1 < L0 := Int32.ofNat_lt_ofNat (by omega) (by omega)
    by_cases h : L1 < L0
    · rw [if_pos (e1.mpr h), Nat.min_eq_right (by omega)]
    · rw [if_neg (fun q => h (e1.mp q)), Nat.min_eq_left (by omega)]
  have ec : (Int32.ofNat (min L0 L1)).toNatClampNeg = min L0 L1 := ofNat_clamp (by omega)
  refine k_aload_n (q := 1) hC dX9_copyRow_0 rfl rfl ?_
  refine k_iconst (q := 2) (v := (0 : Int32)) hC dX9_copyRow_1 (by decide) rfl ?_
  refine k_aload_n (q := 3) hC dX9_copyRow_2 rfl rfl ?_
  refine k_iconst (q := 4) (v := (0 : Int32)) hC dX9_copyRow_3 (by decide) rfl ?_
  refine k_aload_n (q := 5) hC dX9_copyRow_4 rfl rfl ?_
  refine k_alen (q := 6) (y := Int32.ofNat L0) hC dX9_copyRow_5 hc0 (fun _ => rfl) rfl rfl ?_
  refine k_aload_n (q := 7) hC dX9_copyRow_6 rfl rfl ?_
  refine k_alen (q := 8) (y := Int32.ofNat L1) hC dX9_copyRow_7 hc1 (fun _ => rfl) rfl rfl ?_
  refine k_mmin (q := 11) hC (by decide) (Nat.le_of_ble_eq_true rfl) ab0 lkm_X9_431 sMath_min iMath oMath_min dX9_copyRow_8 rfl ?_
  refine k_topi em ?_
  refine k_copy (q := 14) hC hc0 hc1 ?_ (by rw [ec]; omega) (by rw [ec]; omega) lk_copy (by decide) (Nat.le_of_ble_eq_true rfl) dX9_copyRow_11 rfl ?_
  · intro q
    have := Int32.lt_iff_toInt_lt.mp q
    rw [Int32.toInt_ofNat_of_lt (by omega)] at this
    simp at this
    omega
  · rw [ec]
    exact k_vret hC hQ rfl dX9_copyRow_14
def bc64 (a : Int64) : Int32 := let b1 := a - ((lush a ((1 : Int32))) &&& ((6148914691236517205 : Int64))); let b2 := (b1 &&& ((3689348814741910323 : Int64))) + ((lush b1 ((2 : Int32))) &&& ((3689348814741910323 : Int64))); let b3 := (b2 + (lush b2 ((4 : Int32)))) &&& ((1085102592571150095 : Int64)); let b4 := b3 + (lush b3 ((8 : Int32))); let b5 := b4 + (lush b4 ((16 : Int32))); let b6 := b5 + (lush b5 ((32 : Int32))); (b6.toInt32) &&& ((127 : Int32))
set_option maxRecDepth 100000 in
set_option maxHeartbeats 4000000 in
theorem c_bc64 (e : gEV) (n : Nat) (r : gRH) (x : gXW) (a : Int64) : Cal e qJ13_bitCount_95d88 1 0 0 false n [.long a] r x (some (.int (bc64 a))) n r x := by
  refine Met.ofW (cc := cJ13_bitCount_95d88) (maxL := 2) (ret := some .int) (by decide +kernel) rfl ?_
  intro p en s m args below meth c s₁ B hml hv
  obtain ⟨rfl, hbs, hex, hP, hK, hJ⟩ := hv
  have hx := B.exec
  have hb := B.bytes
  have hr := B.returns
  have hts := atoms_spec (ws := Cond.code yJ13_bitCount_95d88 cJ13_bitCount_95d88 2 (some .int) :: gW0) B.pre
  have hown : s.vm.findClass RJ13 = some m.cls := findClass_of_methodNamed B.named
  have hlocks := B.notSynchronized
  have hS : va_S (gA e) s.heap s.heap [] := va_S.rf
  have hl := lv_entry ([.long a]) (n := 2) (Nat.le_of_ble_eq_true rfl)
  show W _ _ _ _ _ _ _ _ _ _ _ _ _ _ _ (entryFrame m [Value.long a].toArray 2)
  rw [lg_entry_eq]
  generalize (lg_sl ([.long a]) ++ List.replicate (2 - (lg_sl ([.long a])).length) Slot.unset).toArray = ls at hl ⊢
  have hl : lv_has ls 2 [(0, .long a)] := hl
  refine lv_lload_n hx hb dJ13_bitCount_95d88_0 rfl (lv_at hl 0 rfl) ?_
  refine lv_lload_n hx hb dJ13_bitCount_95d88_1 rfl (lv_at hl 0 rfl) ?_
  refine lv_iconst (v := 1) hx hb dJ13_bitCount_95d88_2 (by decide) ?_
  refine lv_lushr (v := lush a ((1 : Int32))) hx hb dJ13_bitCount_95d88_3 rfl ?_
  refine lv_ldc2 hx hb hown (hts _ (List.mem_cons_of_mem _ kc_J13_314)) dJ13_bitCount_95d88_4 ?_
  refine lv_land hx hb dJ13_bitCount_95d88_7 ?_
  refine lv_lsub hx hb dJ13_bitCount_95d88_8 ?_
  refine lv_topl (fun b1 eb1 => ?_)
  refine lv_lstore_n (lv' := [(0, .long b1)]) hx hb dJ13_bitCount_95d88_9 rfl hl (by decide) rfl (fun ls hl => ?_)
  refine lv_lload_n hx hb dJ13_bitCount_95d88_10 rfl (lv_at hl 0 rfl) ?_
  refine lv_ldc2 hx hb hown (hts _ (List.mem_cons_of_mem _ kc_J13_316)) dJ13_bitCount_95d88_11 ?_
  refine lv_land hx hb dJ13_bitCount_95d88_14 ?_
  refine lv_lload_n hx hb dJ13_bitCount_95d88_15 rfl (lv_at hl 0 rfl) ?_
  refine lv_iconst (v := 2) hx hb dJ13_bitCount_95d88_16 (by decide) ?_
  refine lv_lushr (v := lush b1 ((2 : Int32))) hx hb dJ13_bitCount_95d88_17 rfl ?_
  refine lv_ldc2 hx hb hown (hts _ (List.mem_cons_of_mem _ kc_J13_316)) dJ13_bitCount_95d88_18 ?_
  refine lv_land hx hb dJ13_bitCount_95d88_21 ?_
  refine lv_ladd hx hb dJ13_bitCount_95d88_22 ?_
  refine lv_topl (fun b2 eb2 => ?_)
  refine lv_lstore_n (lv' := [(0, .long b2)]) hx hb dJ13_bitCount_95d88_23 rfl hl (by decide) rfl (fun ls hl => ?_)
  refine lv_lload_n hx hb dJ13_bitCount_95d88_24 rfl (lv_at hl 0 rfl) ?_
  refine lv_lload_n hx hb dJ13_bitCount_95d88_25 rfl (lv_at hl 0 rfl) ?_
  refine lv_iconst (v := 4) hx hb dJ13_bitCount_95d88_26 (by decide) ?_
  refine lv_lushr (v := lush b2 ((4 : Int32))) hx hb dJ13_bitCount_95d88_27 rfl ?_
  refine lv_ladd hx hb dJ13_bitCount_95d88_28 ?_
  refine lv_ldc2 hx hb hown (hts _ (List.mem_cons_of_mem _ kc_J13_318)) dJ13_bitCount_95d88_29 ?_
  refine lv_land hx hb dJ13_bitCount_95d88_32 ?_
  refine lv_topl (fun b3 eb3 => ?_)
  refine lv_lstore_n (lv' := [(0, .long b3)]) hx hb dJ13_bitCount_95d88_33 rfl hl (by decide) rfl (fun ls hl => ?_)
  refine lv_lload_n hx hb dJ13_bitCount_95d88_34 rfl (lv_at hl 0 rfl) ?_
  refine lv_lload_n hx hb dJ13_bitCount_95d88_35 rfl (lv_at hl 0 rfl) ?_
  refine lv_bipush (v := 8) hx hb dJ13_bitCount_95d88_36 (by decide) ?_
  refine lv_lushr (v := lush b3 ((8 : Int32))) hx hb dJ13_bitCount_95d88_38 rfl ?_
  refine lv_ladd hx hb dJ13_bitCount_95d88_39 ?_
  refine lv_topl (fun b4 eb4 => ?_)
  refine lv_lstore_n (lv' := [(0, .long b4)]) hx hb dJ13_bitCount_95d88_40 rfl hl (by decide) rfl (fun ls hl => ?_)
  refine lv_lload_n hx hb dJ13_bitCount_95d88_41 rfl (lv_at hl 0 rfl) ?_
  refine lv_lload_n hx hb dJ13_bitCount_95d88_42 rfl (lv_at hl 0 rfl) ?_
  refine lv_bipush (v := 16) hx hb dJ13_bitCount_95d88_43 (by decide) ?_
  refine lv_lushr (v := lush b4 ((16 : Int32))) hx hb dJ13_bitCount_95d88_45 rfl ?_
  refine lv_ladd hx hb dJ13_bitCount_95d88_46 ?_
  refine lv_topl (fun b5 eb5 => ?_)
  refine lv_lstore_n (lv' := [(0, .long b5)]) hx hb dJ13_bitCount_95d88_47 rfl hl (by decide) rfl (fun ls hl => ?_)
  refine lv_lload_n hx hb dJ13_bitCount_95d88_48 rfl (lv_at hl 0 rfl) ?_
  refine lv_lload_n hx hb dJ13_bitCount_95d88_49 rfl (lv_at hl 0 rfl) ?_
  refine lv_bipush (v := 32) hx hb dJ13_bitCount_95d88_50 (by decide) ?_
  refine lv_lushr (v := lush b5 ((32 : Int32))) hx hb dJ13_bitCount_95d88_52 rfl ?_
  refine lv_ladd hx hb dJ13_bitCount_95d88_53 ?_
  refine lv_topl (fun b6 eb6 => ?_)
  refine lv_lstore_n (lv' := [(0, .long b6)]) hx hb dJ13_bitCount_95d88_54 rfl hl (by decide) rfl (fun ls hl => ?_)
  refine lv_lload_n hx hb dJ13_bitCount_95d88_55 rfl (lv_at hl 0 rfl) ?_
  refine lv_l2i hx hb dJ13_bitCount_95d88_56 rfl ?_
  refine lv_bipush (v := 127) hx hb dJ13_bitCount_95d88_57 (by decide) ?_
  refine lv_iand hx hb dJ13_bitCount_95d88_59 ?_
  have hfin : (some (Value.int (bc64 a))).map (cv e) = some (.int ((b6.toInt32) &&& ((127 : Int32)))) := by
    subst eb6 eb5 eb4 eb3 eb2 eb1
    rfl
  exact W.iret hx hb hr (fun t ht hW => ⟨by rw [hfin], by rw [ht]; exact hP, hS.F ht⟩) hS.2.2 dJ13_bitCount_95d88_60 hlocks
theorem k_ldcwS {e : gEV} {C : gCx} {cc : ByteArray} {nL d mc ms pc q : Nat} {own : String} {w : Nat × Nat × Nat} {lv : List (Option Value)} {st : List Value} {r : gRH} {x : gXW} (hC : COk e C cc nL own d mc ms) {idx k : Nat} {tx : String} (hd : decode cc pc = .ok (.ldc_w idx, 3)) (hw : (own, idx, tx, k) ∈ gStr) (hq : pc + 3 = q) (kk : KW e C w q lv (.retAddr k :: st) r x) : KW e C w pc lv st r x := by
  obtain ⟨p, en, R, s, m, args, below, meth, cd, Q⟩ := C
  obtain ⟨hx, hb, hml, hown, hts, hK, hbs, hRf, hRl, hRc, hRs, hJ, hlk⟩ := hC
  subst hq
  subst hb
  intro H locs ls hP hS hl T hT X
  obtain ⟨t, a1, b1⟩ := kk H locs ls hP hS hl T hT X
  refine ⟨t, ?_, b1⟩
  obtain ⟨h1, h2⟩ := hJ.2.1 _ hw
  obtain ⟨kc, cf, i, a', hk, hcf, hcp, -, hr, hev'⟩ := Cond.stringRef_spec hown h1
  cases h2.symm.trans hev'
  obtain ⟨k', hk', he⟩ := X.warmed.alike.2.2 _ _ hk
  have hr' : k'.resolved[idx]? = some (some (.string (eK e k))) := by
    rcases X.warmed.entry hk hk' idx with h | ⟨h, -⟩
    · rw [h]; exact hr
    · rw [hr] at h; cases h
  jvm_step X.here [hx, hd, ldc_w.wp_string (e := en) (s := T) (f := F0 m pc ls (st.map (cv e))) X.here.top hk' (by rw [he]; exact hcf) hcp hr']
  exact a1
theorem ab1 : (0 : Nat) ≤ 1 ∧ (0 : Nat) ≤ 6 := ⟨Nat.zero_le _, Nat.zero_le _⟩
