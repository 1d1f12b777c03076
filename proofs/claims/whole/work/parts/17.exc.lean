/-! WHAT THROWS: the ends of methods that return or throw -/
def gNm : List String := ["java/lang/RuntimeException", "java/lang/Exception"]
def excN (k : Nat) : String := match k with
  | 0 => "java/lang/IllegalArgumentException"
  | 1 => "java/lang/IllegalStateException"
  | 2 => "java/lang/IndexOutOfBoundsException"
  | _ => "java/util/NoSuchElementException"
def xvI (o : Int32 ⊕ Nat) : Option Value ⊕ String := Sum.elim (fun i => Sum.inl (some (Value.int i))) (fun k => Sum.inr (excN k)) o
def xvU (o : Unit ⊕ Nat) : Option Value ⊕ String := Sum.elim (fun _ => Sum.inl none) (fun k => Sum.inr (excN k)) o
def gQn (e : gEV) (v : Option Value ⊕ String) (n' : Nat) (r' : gRH) (x' : gXW) : Array Value → State → Outcome → State → Prop := fun _ st oc t => ∃ u : Option Value, v = .inl u ∧ oc = .returned (u.map (cv e)) ∧ va_P (eD e) vwCl (wsO e n' r' x') t.heap ∧ va_F (gA e) st t
def gQx (e : gEV) (v : Option Value ⊕ String) (n' : Nat) (r' : gRH) (x' : gXW) : String → State → State → Prop := fun E st t => v = .inr E ∧ va_P (eD e) vwCl (wsO e n' r' x') t.heap ∧ va_F (gA e) st t
def XCal (e : gEV) (mi : gMI) (d : Nat) (n : Nat) (av : List Value) (r : gRH) (x : gXW) (v : Option Value ⊕ String) (n' : Nat) (r' : gRH) (x' : gXW) : Prop :=
  vx_Met (eL e) mi.1 (Cond.code mi.1 mi.2.1 mi.2.2.1 mi.2.2.2.1 :: gW0) (gRm d 1 6) (gPre e false n av r x) (gQn e v n' r' x') (gQx e v n' r' x') 1 6 (gA e)
def QXk (e : gEV) (C : gCx) (ret : Option FieldType) (v : Option Value ⊕ String) (n' : Nat) (r' : gRH) (x' : gXW) : Prop := match C with
  | (_, _, _, s, _, args, below, meth, c, Q) => meth.sig.returnType = ret ∧ (∀ y ∈ c.exceptionTable.toList, False) ∧ Q = vx_MQ below (gQn e v n' r' x') (gQx e v n' r' x') args s 1 6 (gA e)
set_option maxHeartbeats 1000000 in
theorem xcal_of {e : gEV} {mi : gMI} {d n n' : Nat} {av : List Value} {r r' : gRH} {x x' : gXW} {v : Option Value ⊕ String} {lv : List (Option Value)} (hM : gMOk mi) (hcat : ∀ z ∈ av, z.category = 1) (hlen : av.length ≤ mi.2.2.1) (hlv : lv = av.map some ++ List.replicate (mi.2.2.1 - av.length) none)
    (body : ∀ C : gCx, COk e C mi.2.1 mi.2.2.1 mi.1.cls d 1 6 → QXk e C mi.2.2.2.1 v n' r' x' → KW e C (n, 0, 0) 0 lv [] r x) : XCal e mi d n av r x v n' r' x' := by
  refine vx_ofW (cc := mi.2.1) (maxL := mi.2.2.1) (ret := mi.2.2.2.1) hM.1 rfl ?_
  intro p en s m args below meth c s₁ B hml hnx hv
  obtain ⟨rfl, hbs, hex, hP, hK, hJ⟩ := hv
  have hts := atoms_spec (ws := Cond.code mi.1 mi.2.1 mi.2.2.1 mi.2.2.2.1 :: gW0) B.pre
  have hb := body (p, en, (headSpec (Cond.code mi.1 mi.2.1 mi.2.2.1 mi.2.2.2.1 :: gW0) (gRm d 1 6)).room, s, m, (av.map (cv e)).toArray, below, meth, c, vx_MQ below (gQn e v n' r' x') (gQx e v n' r' x') (av.map (cv e)).toArray s 1 6 (gA e))
    ⟨B.exec, B.bytes, hml, findClass_of_methodNamed B.named, fun w h => hts w (List.mem_cons_of_mem _ h), hK, hbs, Nat.le_refl _, Nat.le_refl _, rfl, rfl, hJ, B.notSynchronized⟩ ⟨B.returns, hnx, rfl⟩
  have hcat' : ∀ z ∈ av.map (cv e), z.category = 1 := by
    intro z hz
    obtain ⟨u, hu, rfl⟩ := List.mem_map.mp hz
    rw [cv_cat]
    exact hcat u hu
  have hsl : (lg_sl (av.map (cv e))).length = av.length := by rw [lg_sl_one _ hcat', List.length_map]
  have hl := lv_entry (av.map (cv e)) (n := mi.2.2.1) (by rw [hsl]; exact hlen)
  rw [lg_entry_eq]
  refine hb s.heap [] _ hP va_S.rf ⟨hl.1.trans hml.symm, hl.2.1, fun i z hz => ?_⟩
  rw [hlv] at hz
  have h1 := lget_pad av _ i z hz
  have h2 := lv_args_one (av.map (cv e)) 0 hcat' i (cv e z) (by rw [List.getElem?_map, h1]; rfl)
  rw [Nat.zero_add] at h2
  exact ⟨hl.2.2 _ h2, by rw [cv_cat]; exact hcat z (List.mem_of_getElem? h1)⟩
section
variable {e : gEV} {C : gCx} {cc : ByteArray} {nL d pc : Nat} {own : String} {n n' : Nat} {lv : List (Option Value)} {st : List Value} {r : gRH} {x : gXW} {ret : Option FieldType}
theorem kx_iret (hC : COk e C cc nL own d 1 6) {y : Int32} (hQ : QXk e C ret (.inl (some (.int y))) n' r x) (hret : ret = some .int) (hd : decode cc pc = .ok (.ireturn, 1)) : KW e C (n', 0, 0) pc lv [.int y] r x := by
  subst hret
  obtain ⟨p, en, R, s, m, args, below, meth, cd, Q⟩ := C
  obtain ⟨hx, hb, hml, hown, hts, hK, hbs, hRf, hRl, hRc, hRs, hJ, hlk⟩ := hC
  obtain ⟨hr, hnx, hQ⟩ := hQ
  subst hQ
  intro H locs ls hP hS hl
  refine W.widen (k := 1) (n := 6) (Nat.zero_le _) (Nat.zero_le _) (vx_ret ?_)
  exact W.iret hx hb hr (fun t ht hW => ⟨_, rfl, rfl, by rw [ht]; exact hP, hS.F ht⟩) hS.2.2 hd hlk
theorem kx_vret (hC : COk e C cc nL own d 1 6) (hQ : QXk e C ret (.inl none) n' r x) (hret : ret = none) (hd : decode cc pc = .ok (.return_, 1)) : KW e C (n', 0, 0) pc lv [] r x := by
  subst hret
  obtain ⟨p, en, R, s, m, args, below, meth, cd, Q⟩ := C
  obtain ⟨hx, hb, hml, hown, hts, hK, hbs, hRf, hRl, hRc, hRs, hJ, hlk⟩ := hC
  obtain ⟨hr, hnx, hQ⟩ := hQ
  subst hQ
  intro H locs ls hP hS hl
  refine W.widen (k := 1) (n := 6) (Nat.zero_le _) (Nat.zero_le _) (vx_ret ?_)
  exact W.vret hx hb hr (fun t ht hW => ⟨_, rfl, rfl, by rw [ht]; exact hP, hS.F ht⟩) hS.2.2 hd hlk
theorem kx_nret (hC : COk e C cc nL own d 1 6) {y : Int32} (hQ : QXk e C ret (.inl (some (.int (nb y)))) n' r x) (hret : ret = some .boolean) (hd : decode cc pc = .ok (.ireturn, 1)) : KW e C (n', 0, 0) pc lv [.int y] r x := by
  subst hret
  obtain ⟨p, en, R, s, m, args, below, meth, cd, Q⟩ := C
  obtain ⟨hx, hb, hml, hown, hts, hK, hbs, hRf, hRl, hRc, hRs, hJ, hlk⟩ := hC
  obtain ⟨hr, hnx, hQ⟩ := hQ
  subst hQ
  intro H locs ls hP hS hl
  refine W.widen (k := 1) (n := 6) (Nat.zero_le _) (Nat.zero_le _) (vx_ret ?_)
  exact W.nret (v' := nb y) hx hb hr rfl (fun t ht hW => ⟨_, rfl, rfl, by rw [ht]; exact hP, hS.F ht⟩) hS.2.2 hd hlk
theorem kx_thr {ik is ic kx : Nat} {cls text : String} (hC : COk e C cc nL own d 1 6) (hQ : QXk e C ret (.inr cls) n r x) (hl0 : (eL e).stackTraces = false) (hd0 : 6 ≤ d) (hst : gWt st ≤ 8) (hfit : Bundle.fit cls = true) (hnm : ∀ z ∈ gNm, Bundle.fit z = true) (hk : Cond.classLink own ik cls ∈ gW0) (hi : Cond.initialized cls ∈ gW0) (hs : (own, is, text, kx) ∈ gStr) (hat : ∀ z ∈ vx_atS own ic cls gNm, z ∈ gW0 ∨ z ∈ gWN) (hgood : ∀ z ∈ Cond.classLink own ik cls :: Cond.initialized cls :: vx_atS own ic cls gNm, vx_ot z = true)
    (d0 : decode cc pc = .ok (.new ik, 3)) (d3 : decode cc (pc + 3) = .ok (.dup, 1)) (d4 : decode cc (pc + 4) = .ok (.ldc is, 2)) (d6 : decode cc (pc + 6) = .ok (.invokespecial ic, 3)) (d9 : decode cc (pc + 9) = .ok (.athrow, 1)) : KW e C (n, 0, 0) pc lv st r x := by
  obtain ⟨p, en, R, s, m, args, below, meth, cd, Q⟩ := C
  obtain ⟨hx, hb, hml, hown, hts, hK, hbs, hRf, hRl, hRc, hRs, hJ, hlk⟩ := hC
  obtain ⟨hr, hnx, hQ⟩ := hQ
  subst hQ
  intro H locs ls hP hS hl
  refine vx_throwS (text := text) (sa := eK e kx) (names := gNm) (A := gA e) hx hb hl0 hown hfit hnm (hts _ hk) (hts _ hi) (hJ.2.1 _ hs) (fun z hz => ?_) hgood hJ.2.2.1 hJ.2.2.2.1 hS hl.1 d0 d3 d4 d6 d9 (fun z hz => (hnx z hz).elim) ?_ ?_ ?_ ?_ hlk ?_ hS.2.2 ?_ ?_
  · rcases hat z hz with h | h
    · exact hts _ h
    · have h1 := hJ.2.2.2.2.2.2.1 z h
      have h2 : vx_ot z = true := hgood z (List.mem_cons_of_mem _ (List.mem_cons_of_mem _ hz))
      exact vx_ot_at (a' := args) (U := s) (State.WarmedH.refl s) rfl h2 h1
  · show 2 + 3 < R.frames
    omega
  · rw [gWt_eq]
    show gWt st + (13 * (2 + 1) + 43) ≤ R.locals
    omega
  · rw [hRc]; exact Nat.le_refl _
  · rw [hRs]; exact Nat.le_refl _
  · intro t hal hsz hkp
    refine ⟨rfl, hP.kept (fun k q hk => hkp q.1 (hP k q hk).lt), Nat.le_trans hS.1 hsz, fun q h1 h2 => ?_⟩
    rw [hkp q (Nat.lt_of_lt_of_le h1 hS.1)]
    exact hS.2.1 q h1 h2
  · exact Nat.le_refl _
  · exact Nat.le_refl _
theorem kx_thrW {ik is ic kx : Nat} {cls text : String} (hC : COk e C cc nL own d 1 6) (hQ : QXk e C ret (.inr cls) n r x) (hl0 : (eL e).stackTraces = false) (hd0 : 6 ≤ d) (hst : gWt st ≤ 8) (hfit : Bundle.fit cls = true) (hnm : ∀ z ∈ gNm, Bundle.fit z = true) (hk : Cond.classLink own ik cls ∈ gW0) (hi : Cond.initialized cls ∈ gW0) (hs : (own, is, text, kx) ∈ gStr) (hat : ∀ z ∈ vx_atS own ic cls gNm, z ∈ gW0 ∨ z ∈ gWN) (hgood : ∀ z ∈ Cond.classLink own ik cls :: Cond.initialized cls :: vx_atS own ic cls gNm, vx_ot z = true)
    (d0 : decode cc pc = .ok (.new ik, 3)) (d3 : decode cc (pc + 3) = .ok (.dup, 1)) (d4 : decode cc (pc + 4) = .ok (.ldc_w is, 3)) (d6 : decode cc (pc + 7) = .ok (.invokespecial ic, 3)) (d9 : decode cc (pc + 10) = .ok (.athrow, 1)) : KW e C (n, 0, 0) pc lv st r x := by
  obtain ⟨p, en, R, s, m, args, below, meth, cd, Q⟩ := C
  obtain ⟨hx, hb, hml, hown, hts, hK, hbs, hRf, hRl, hRc, hRs, hJ, hlk⟩ := hC
  obtain ⟨hr, hnx, hQ⟩ := hQ
  subst hQ
  intro H locs ls hP hS hl
  refine vx_throwSW (text := text) (sa := eK e kx) (names := gNm) (A := gA e) hx hb hl0 hown hfit hnm (hts _ hk) (hts _ hi) (hJ.2.1 _ hs) (fun z hz => ?_) hgood hJ.2.2.1 hJ.2.2.2.1 hS hl.1 d0 d3 d4 d6 d9 (fun z hz => (hnx z hz).elim) ?_ ?_ ?_ ?_ hlk ?_ hS.2.2 ?_ ?_
  · rcases hat z hz with h | h
    · exact hts _ h
    · have h1 := hJ.2.2.2.2.2.2.1 z h
      have h2 : vx_ot z = true := hgood z (List.mem_cons_of_mem _ (List.mem_cons_of_mem _ hz))
      exact vx_ot_at (a' := args) (U := s) (State.WarmedH.refl s) rfl h2 h1
  · show 2 + 3 < R.frames
    omega
  · rw [gWt_eq]
    show gWt st + (13 * (2 + 1) + 43) ≤ R.locals
    omega
  · rw [hRc]; exact Nat.le_refl _
  · rw [hRs]; exact Nat.le_refl _
  · intro t hal hsz hkp
    refine ⟨rfl, hP.kept (fun k q hk => hkp q.1 (hP k q hk).lt), Nat.le_trans hS.1 hsz, fun q h1 h2 => ?_⟩
    rw [hkp q (Nat.lt_of_lt_of_le h1 hS.1)]
    exact hS.2.1 q h1 h2
  · exact Nat.le_refl _
  · exact Nat.le_refl _
end
theorem at_97 : ∀ z ∈ vx_atS RX9 97 "java/lang/IllegalArgumentException" gNm, z ∈ gW0 ∨ z ∈ gWN := by
  have h : (vx_atS RX9 97 "java/lang/IllegalArgumentException" gNm).all (fun z => decide (z ∈ lw_tbl) && (goodWord z || isNest z)) = true := by decide +kernel
  intro z hz
  have h1 := List.all_eq_true.mp h z hz
  simp only [Bool.and_eq_true, decide_eq_true_eq, Bool.or_eq_true] at h1
  rcases h1.2 with h2 | h2
  · exact Or.inl (gW0_mem h1.1 h2)
  · exact Or.inr (gWN_mem h1.1 h2)
theorem fit_97 : Bundle.fit "java/lang/IllegalArgumentException" = true := by decide +kernel
theorem at_174 : ∀ z ∈ vx_atS RX9 174 "java/lang/IllegalStateException" gNm, z ∈ gW0 ∨ z ∈ gWN := by
  have h : (vx_atS RX9 174 "java/lang/IllegalStateException" gNm).all (fun z => decide (z ∈ lw_tbl) && (goodWord z || isNest z)) = true := by decide +kernel
  intro z hz
  have h1 := List.all_eq_true.mp h z hz
  simp only [Bool.and_eq_true, decide_eq_true_eq, Bool.or_eq_true] at h1
  rcases h1.2 with h2 | h2
  · exact Or.inl (gW0_mem h1.1 h2)
  · exact Or.inr (gWN_mem h1.1 h2)
theorem fit_174 : Bundle.fit "java/lang/IllegalStateException" = true := by decide +kernel
theorem fit_212 : Bundle.fit "java/util/NoSuchElementException" = true := by decide +kernel
theorem at_220 : ∀ z ∈ vx_atS RX9 220 "java/lang/IndexOutOfBoundsException" gNm, z ∈ gW0 ∨ z ∈ gWN := by
  have h : (vx_atS RX9 220 "java/lang/IndexOutOfBoundsException" gNm).all (fun z => decide (z ∈ lw_tbl) && (goodWord z || isNest z)) = true := by decide +kernel
  intro z hz
  have h1 := List.all_eq_true.mp h z hz
  simp only [Bool.and_eq_true, decide_eq_true_eq, Bool.or_eq_true] at h1
  rcases h1.2 with h2 | h2
  · exact Or.inl (gW0_mem h1.1 h2)
  · exact Or.inr (gWN_mem h1.1 h2)
theorem fit_220 : Bundle.fit "java/lang/IndexOutOfBoundsException" = true := by decide +kernel
theorem fit_nm : ∀ z ∈ gNm, Bundle.fit z = true := by decide +kernel
theorem kx_throw0_95_97 {e : gEV} {C : gCx} {cc : ByteArray} {nL d pc n : Nat} {lv : List (Option Value)} {st : List Value} {r : gRH} {x : gXW} {ret : Option FieldType} (hC : COk e C cc nL RX9 d 1 6) (hQ : QXk e C ret (.inr (excN 0)) n r x) (hl0 : (eL e).stackTraces = false)
    (d0 : decode cc pc = .ok (.new 93, 3)) (d3 : decode cc (pc + 3) = .ok (.dup, 1)) (d4 : decode cc (pc + 4) = .ok (.ldc 95, 2)) (d6 : decode cc (pc + 6) = .ok (.invokespecial 97, 3)) (d9 : decode cc (pc + 9) = .ok (.athrow, 1)) (hd0 : 6 ≤ d := by decide) (hst : gWt st ≤ 8 := by exact Nat.le_of_ble_eq_true rfl) : KW e C (n, 0, 0) pc lv st r x :=
  kx_thr (ik := 93) (is := 95) (ic := 97) (kx := 7) (cls := "java/lang/IllegalArgumentException") (text := "the text is wrong") hC hQ hl0 hd0 hst fit_97 fit_nm (gW0_mem (gt_4 (List.mem_of_getElem? (i := 40) (by decide +kernel))) rfl) (gW0_mem (gt_1 (List.mem_of_getElem? (i := 23) (by decide +kernel))) rfl) (by decide) at_97 (by decide +kernel) d0 d3 d4 d6 d9
theorem kx_throw0_152_97 {e : gEV} {C : gCx} {cc : ByteArray} {nL d pc n : Nat} {lv : List (Option Value)} {st : List Value} {r : gRH} {x : gXW} {ret : Option FieldType} (hC : COk e C cc nL RX9 d 1 6) (hQ : QXk e C ret (.inr (excN 0)) n r x) (hl0 : (eL e).stackTraces = false)
    (d0 : decode cc pc = .ok (.new 93, 3)) (d3 : decode cc (pc + 3) = .ok (.dup, 1)) (d4 : decode cc (pc + 4) = .ok (.ldc 152, 2)) (d6 : decode cc (pc + 6) = .ok (.invokespecial 97, 3)) (d9 : decode cc (pc + 9) = .ok (.athrow, 1)) (hd0 : 6 ≤ d := by decide) (hst : gWt st ≤ 8 := by exact Nat.le_of_ble_eq_true rfl) : KW e C (n, 0, 0) pc lv st r x :=
  kx_thr (ik := 93) (is := 152) (ic := 97) (kx := 8) (cls := "java/lang/IllegalArgumentException") (text := "there cannot be so many nodes") hC hQ hl0 hd0 hst fit_97 fit_nm (gW0_mem (gt_4 (List.mem_of_getElem? (i := 40) (by decide +kernel))) rfl) (gW0_mem (gt_1 (List.mem_of_getElem? (i := 23) (by decide +kernel))) rfl) (by decide) at_97 (by decide +kernel) d0 d3 d4 d6 d9
theorem kx_throw0_189_97 {e : gEV} {C : gCx} {cc : ByteArray} {nL d pc n : Nat} {lv : List (Option Value)} {st : List Value} {r : gRH} {x : gXW} {ret : Option FieldType} (hC : COk e C cc nL RX9 d 1 6) (hQ : QXk e C ret (.inr (excN 0)) n r x) (hl0 : (eL e).stackTraces = false)
    (d0 : decode cc pc = .ok (.new 93, 3)) (d3 : decode cc (pc + 3) = .ok (.dup, 1)) (d4 : decode cc (pc + 4) = .ok (.ldc 189, 2)) (d6 : decode cc (pc + 6) = .ok (.invokespecial 97, 3)) (d9 : decode cc (pc + 9) = .ok (.athrow, 1)) (hd0 : 6 ≤ d := by decide) (hst : gWt st ≤ 8 := by exact Nat.le_of_ble_eq_true rfl) : KW e C (n, 0, 0) pc lv st r x :=
  kx_thr (ik := 93) (is := 189) (ic := 97) (kx := 10) (cls := "java/lang/IllegalArgumentException") (text := "it is no toll") hC hQ hl0 hd0 hst fit_97 fit_nm (gW0_mem (gt_4 (List.mem_of_getElem? (i := 40) (by decide +kernel))) rfl) (gW0_mem (gt_1 (List.mem_of_getElem? (i := 23) (by decide +kernel))) rfl) (by decide) at_97 (by decide +kernel) d0 d3 d4 d6 d9
theorem kx_throw0_218_97 {e : gEV} {C : gCx} {cc : ByteArray} {nL d pc n : Nat} {lv : List (Option Value)} {st : List Value} {r : gRH} {x : gXW} {ret : Option FieldType} (hC : COk e C cc nL RX9 d 1 6) (hQ : QXk e C ret (.inr (excN 0)) n r x) (hl0 : (eL e).stackTraces = false)
    (d0 : decode cc pc = .ok (.new 93, 3)) (d3 : decode cc (pc + 3) = .ok (.dup, 1)) (d4 : decode cc (pc + 4) = .ok (.ldc 218, 2)) (d6 : decode cc (pc + 6) = .ok (.invokespecial 97, 3)) (d9 : decode cc (pc + 9) = .ok (.athrow, 1)) (hd0 : 6 ≤ d := by decide) (hst : gWt st ≤ 8 := by exact Nat.le_of_ble_eq_true rfl) : KW e C (n, 0, 0) pc lv st r x :=
  kx_thr (ik := 93) (is := 218) (ic := 97) (kx := 13) (cls := "java/lang/IllegalArgumentException") (text := "there is no such node") hC hQ hl0 hd0 hst fit_97 fit_nm (gW0_mem (gt_4 (List.mem_of_getElem? (i := 40) (by decide +kernel))) rfl) (gW0_mem (gt_1 (List.mem_of_getElem? (i := 23) (by decide +kernel))) rfl) (by decide) at_97 (by decide +kernel) d0 d3 d4 d6 d9
theorem kx_throw1_172_174 {e : gEV} {C : gCx} {cc : ByteArray} {nL d pc n : Nat} {lv : List (Option Value)} {st : List Value} {r : gRH} {x : gXW} {ret : Option FieldType} (hC : COk e C cc nL RX9 d 1 6) (hQ : QXk e C ret (.inr (excN 1)) n r x) (hl0 : (eL e).stackTraces = false)
    (d0 : decode cc pc = .ok (.new 170, 3)) (d3 : decode cc (pc + 3) = .ok (.dup, 1)) (d4 : decode cc (pc + 4) = .ok (.ldc 172, 2)) (d6 : decode cc (pc + 6) = .ok (.invokespecial 174, 3)) (d9 : decode cc (pc + 9) = .ok (.athrow, 1)) (hd0 : 6 ≤ d := by decide) (hst : gWt st ≤ 8 := by exact Nat.le_of_ble_eq_true rfl) : KW e C (n, 0, 0) pc lv st r x :=
  kx_thr (ik := 170) (is := 172) (ic := 174) (kx := 9) (cls := "java/lang/IllegalStateException") (text := "refused") hC hQ hl0 hd0 hst fit_174 fit_nm (gW0_mem (gt_4 (List.mem_of_getElem? (i := 139) (by decide +kernel))) rfl) (gW0_mem (gt_1 (List.mem_of_getElem? (i := 24) (by decide +kernel))) rfl) (by decide) at_174 (by decide +kernel) d0 d3 d4 d6 d9
theorem kx_throw1_197_174 {e : gEV} {C : gCx} {cc : ByteArray} {nL d pc n : Nat} {lv : List (Option Value)} {st : List Value} {r : gRH} {x : gXW} {ret : Option FieldType} (hC : COk e C cc nL RX9 d 1 6) (hQ : QXk e C ret (.inr (excN 1)) n r x) (hl0 : (eL e).stackTraces = false)
    (d0 : decode cc pc = .ok (.new 170, 3)) (d3 : decode cc (pc + 3) = .ok (.dup, 1)) (d4 : decode cc (pc + 4) = .ok (.ldc 197, 2)) (d6 : decode cc (pc + 6) = .ok (.invokespecial 174, 3)) (d9 : decode cc (pc + 9) = .ok (.athrow, 1)) (hd0 : 6 ≤ d := by decide) (hst : gWt st ≤ 8 := by exact Nat.le_of_ble_eq_true rfl) : KW e C (n, 0, 0) pc lv st r x :=
  kx_thr (ik := 170) (is := 197) (ic := 174) (kx := 11) (cls := "java/lang/IllegalStateException") (text := "nothing is remembered") hC hQ hl0 hd0 hst fit_174 fit_nm (gW0_mem (gt_4 (List.mem_of_getElem? (i := 139) (by decide +kernel))) rfl) (gW0_mem (gt_1 (List.mem_of_getElem? (i := 24) (by decide +kernel))) rfl) (by decide) at_174 (by decide +kernel) d0 d3 d4 d6 d9
theorem kx_throw1_345_174 {e : gEV} {C : gCx} {cc : ByteArray} {nL d pc n : Nat} {lv : List (Option Value)} {st : List Value} {r : gRH} {x : gXW} {ret : Option FieldType} (hC : COk e C cc nL RX9 d 1 6) (hQ : QXk e C ret (.inr (excN 1)) n r x) (hl0 : (eL e).stackTraces = false)
    (d0 : decode cc pc = .ok (.new 170, 3)) (d3 : decode cc (pc + 3) = .ok (.dup, 1)) (d4 : decode cc (pc + 4) = .ok (.ldc_w 345, 3)) (d6 : decode cc (pc + 7) = .ok (.invokespecial 174, 3)) (d9 : decode cc (pc + 10) = .ok (.athrow, 1)) (hd0 : 6 ≤ d := by decide) (hst : gWt st ≤ 8 := by exact Nat.le_of_ble_eq_true rfl) : KW e C (n, 0, 0) pc lv st r x :=
  kx_thrW (ik := 170) (is := 345) (ic := 174) (kx := 15) (cls := "java/lang/IllegalStateException") (text := "it is shut") hC hQ hl0 hd0 hst fit_174 fit_nm (gW0_mem (gt_4 (List.mem_of_getElem? (i := 139) (by decide +kernel))) rfl) (gW0_mem (gt_1 (List.mem_of_getElem? (i := 24) (by decide +kernel))) rfl) (by decide) at_174 (by decide +kernel) d0 d3 d4 d6 d9
theorem kx_throw3_210_212 {e : gEV} {C : gCx} {cc : ByteArray} {nL d pc n : Nat} {lv : List (Option Value)} {st : List Value} {r : gRH} {x : gXW} {ret : Option FieldType} (hC : COk e C cc nL RX9 d 1 6) (hQ : QXk e C ret (.inr (excN 3)) n r x) (hl0 : (eL e).stackTraces = false)
    (d0 : decode cc pc = .ok (.new 208, 3)) (d3 : decode cc (pc + 3) = .ok (.dup, 1)) (d4 : decode cc (pc + 4) = .ok (.ldc 210, 2)) (d6 : decode cc (pc + 6) = .ok (.invokespecial 212, 3)) (d9 : decode cc (pc + 9) = .ok (.athrow, 1)) (hd0 : 6 ≤ d := by decide) (hst : gWt st ≤ 8 := by exact Nat.le_of_ble_eq_true rfl) : KW e C (n, 0, 0) pc lv st r x := by
  obtain ⟨p, en, R, s, m, args, below, meth, cd, Q⟩ := C
  obtain ⟨hx, hb, hml, hown, hts, hK, hbs, hRf, hRl, hRc, hRs, hJ, hlk⟩ := hC
  obtain ⟨hr, hnx, hQ⟩ := hQ
  subst hQ
  intro H locs ls hP hS hl
  have hk1 : Cond.classLink RX9 208 nE ∈ gW0 := gW0_mem (gt_4 (List.mem_of_getElem? (i := 204) (by decide +kernel))) rfl
  have hi1 : Cond.initialized nE ∈ gW0 := gW0_mem (gt_1 (List.mem_of_getElem? (i := 25) (by decide +kernel))) rfl
  refine nThrowW (text := "there is no such what") (sa := eK e 12) (A := gA e) hx hb hl0 hown (hts _ hk1) (hts _ hi1) (hJ.2.1 (RX9, _, "there is no such what", 12) (by decide)) (fun z hz => ?_) (fun z hz => ?_) hJ.2.2.1 hJ.2.2.2.1 hS hl.1 d0 d3 d4 d6 d9 (fun z hz => (hnx z hz).elim) ?_ ?_ ?_ ?_ hlk ?_ hS.2.2 ?_ ?_
  · rcases nAt_ok z hz with h | h
    · exact hts _ h
    · exact vx_ot_at (a' := args) (U := s) (State.WarmedH.refl s) rfl (nAt_ot z hz) (hJ.2.2.2.2.2.2.1 z h)
  · rcases List.mem_cons.mp hz with rfl | hz
    · rfl
    · rcases List.mem_cons.mp hz with rfl | hz
      · rfl
      · exact nAt_ot z hz
  · omega
  · rw [gWt_eq]
    omega
  · rw [hRc]; exact Nat.le_refl _
  · rw [hRs]; exact Nat.le_refl _
  · intro t hal hsz hkp
    refine ⟨rfl, hP.kept (fun k q hk => hkp q.1 (hP k q hk).lt), Nat.le_trans hS.1 hsz, fun q h1 h2 => ?_⟩
    rw [hkp q (Nat.lt_of_lt_of_le h1 hS.1)]
    exact hS.2.1 q h1 h2
  · exact Nat.le_refl _
  · exact Nat.le_refl _
theorem kx_throw2_218_220 {e : gEV} {C : gCx} {cc : ByteArray} {nL d pc n : Nat} {lv : List (Option Value)} {st : List Value} {r : gRH} {x : gXW} {ret : Option FieldType} (hC : COk e C cc nL RX9 d 1 6) (hQ : QXk e C ret (.inr (excN 2)) n r x) (hl0 : (eL e).stackTraces = false)
    (d0 : decode cc pc = .ok (.new 216, 3)) (d3 : decode cc (pc + 3) = .ok (.dup, 1)) (d4 : decode cc (pc + 4) = .ok (.ldc 218, 2)) (d6 : decode cc (pc + 6) = .ok (.invokespecial 220, 3)) (d9 : decode cc (pc + 9) = .ok (.athrow, 1)) (hd0 : 6 ≤ d := by decide) (hst : gWt st ≤ 8 := by exact Nat.le_of_ble_eq_true rfl) : KW e C (n, 0, 0) pc lv st r x :=
  kx_thr (ik := 216) (is := 218) (ic := 220) (kx := 13) (cls := "java/lang/IndexOutOfBoundsException") (text := "there is no such node") hC hQ hl0 hd0 hst fit_220 fit_nm (gW0_mem (gt_4 (List.mem_of_getElem? (i := 229) (by decide +kernel))) rfl) (gW0_mem (gt_1 (List.mem_of_getElem? (i := 26) (by decide +kernel))) rfl) (by decide) at_220 (by decide +kernel) d0 d3 d4 d6 d9
theorem kx_throw2_328_220 {e : gEV} {C : gCx} {cc : ByteArray} {nL d pc n : Nat} {lv : List (Option Value)} {st : List Value} {r : gRH} {x : gXW} {ret : Option FieldType} (hC : COk e C cc nL RX9 d 1 6) (hQ : QXk e C ret (.inr (excN 2)) n r x) (hl0 : (eL e).stackTraces = false)
    (d0 : decode cc pc = .ok (.new 216, 3)) (d3 : decode cc (pc + 3) = .ok (.dup, 1)) (d4 : decode cc (pc + 4) = .ok (.ldc_w 328, 3)) (d6 : decode cc (pc + 7) = .ok (.invokespecial 220, 3)) (d9 : decode cc (pc + 10) = .ok (.athrow, 1)) (hd0 : 6 ≤ d := by decide) (hst : gWt st ≤ 8 := by exact Nat.le_of_ble_eq_true rfl) : KW e C (n, 0, 0) pc lv st r x :=
  kx_thrW (ik := 216) (is := 328) (ic := 220) (kx := 14) (cls := "java/lang/IndexOutOfBoundsException") (text := "there is no such arc") hC hQ hl0 hd0 hst fit_220 fit_nm (gW0_mem (gt_4 (List.mem_of_getElem? (i := 229) (by decide +kernel))) rfl) (gW0_mem (gt_1 (List.mem_of_getElem? (i := 26) (by decide +kernel))) rfl) (by decide) at_220 (by decide +kernel) d0 d3 d4 d6 d9
