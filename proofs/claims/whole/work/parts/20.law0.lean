/-! THE LAW'S OWN METHODS: bodies with a table of handlers -/
abbrev gWI : Type := MethodName × ByteArray × Nat × Option FieldType × List (Nat × Nat × Nat × Nat) × Nat
def gWc (mi : gWI) : Cond := Cond.codeWith mi.1 mi.2.1 mi.2.2.1 mi.2.2.2.1 mi.2.2.2.2.1
def gWOk (mi : gWI) : Prop := plainName mi.1.cls = true ∧ (mi.1.cls ≠ "java/lang/invoke/MethodHandle" ∧ mi.1.cls ≠ "java/lang/invoke/VarHandle" ∧ (parseMethodDescriptor mi.1.desc).map (fun d => d.parameters.length) = some mi.2.2.2.2.2) ∧ gWc mi ∈ gW0 ∧ Cond.initialized mi.1.cls ∈ gW0 ∧ mi.2.2.1 ≤ 21
def WCal (e : gEV) (mi : gWI) (d : Nat) (n : Nat) (av : List Value) (r : gRH) (x : gXW) (v : Int32) (r' : gRH) (x' : gXW) : Prop :=
  Met (eL e) mi.1 (gWc mi :: gW0) (gRm d 1 6) (gPre e false n av r x) (gPost e (some (.int v)) n r' x') 1 6 (gA e)
def gTb (C : gCx) (hh : List (Nat × Nat × Nat × Nat)) : Prop := match C with
  | (_, _, _, _, _, _, _, _, c, _) => c.exceptionTable.toList = tableOf hh
set_option maxHeartbeats 1000000 in
theorem wcal_of {e : gEV} {mi : gWI} {d n : Nat} {av : List Value} {r r' : gRH} {x x' : gXW} {v : Int32} {lv : List (Option Value)} (hM : gWOk mi) (hcat : ∀ z ∈ av, z.category = 1) (hlen : av.length ≤ mi.2.2.1) (hlv : lv = av.map some ++ List.replicate (mi.2.2.1 - av.length) none)
    (body : ∀ C : gCx, COk e C mi.2.1 mi.2.2.1 mi.1.cls d 1 6 → QOk e C mi.2.2.2.1 1 6 (some (.int v)) n r' x' → gTb C mi.2.2.2.2.1 → KW e C (n, 0, 0) 0 lv [] r x) : WCal e mi d n av r x v r' x' := by
  refine va_MetW (cc := mi.2.1) (maxL := mi.2.2.1) (ret := mi.2.2.2.1) (hh := mi.2.2.2.2.1) hM.1 rfl ?_
  intro p en s m args below meth c s₁ B hml hv
  obtain ⟨rfl, hbs, hex, hP, hK, hJ⟩ := hv
  have hts := atoms_spec (ws := gWc mi :: gW0) B.pre
  have hb := body (p, en, (headSpec (gWc mi :: gW0) (gRm d 1 6)).room, s, m, (av.map (cv e)).toArray, below, meth, c, MQ below (gPost e (some (.int v)) n r' x') (av.map (cv e)).toArray s 1 6 (gA e))
    ⟨B.exec, B.bytes, hml, findClass_of_methodNamed B.named, fun w h => hts w (List.mem_cons_of_mem _ h), hK, hbs, Nat.le_refl _, Nat.le_refl _, rfl, rfl, hJ, B.notSynchronized⟩ ⟨B.returns, rfl⟩ (vx_table (x := mi.1) B (hts _ List.mem_cons_self))
  have hcat' : ∀ z ∈ av.map (cv e), z.category = 1 := by
    intro z hz
    obtain ⟨u, hu, rfl⟩ := List.mem_map.mp hz
    rw [cv_cat]
    exact hcat u hu
  have hsl : (lg_sl (av.map (cv e))).length = av.length := by rw [lg_sl_one _ hcat', List.length_map]
  have hl := lv_entry (av.map (cv e)) (n := mi.2.2.1) (by rw [hsl]; exact hlen)
  rw [lg_entry_eq]
  refine hb s.heap [] _ hP va_S.rf ⟨hl.1.trans hml.symm, hl.2.1, fun i z hz => ?_⟩
  rw [hlv] at hz
  have h1 := lget_pad av _ i z hz
  have h2 := lv_args_one (av.map (cv e)) 0 hcat' i (cv e z) (by rw [List.getElem?_map, h1]; rfl)
  rw [Nat.zero_add] at h2
  exact ⟨hl.2.2 _ h2, by rw [cv_cat]; exact hcat z (List.mem_of_getElem? h1)⟩
/-- an exception of the class E stands over the frame at pc -/
def XKW (e : gEV) (C : gCx) (w : Nat × Nat × Nat) (pc : Nat) (lv : List (Option Value)) (E : String) (r : gRH) (x : gXW) : Prop := match C with
  | (p, en, R, s, m, args, below, meth, c, Q) => ∀ (H : Heap) (locs : List Loc) (ls : Array Slot) (rest : List Value) (ce : Cell) (q : Addr), va_P (eD e) vwCl (wsO e w.1 r x) H → va_S (gA e) s.heap H locs → gLV e ls c.maxLocals lv → H[q]? = some ce → ce.vm = .none → s.vm.findClass E = some ce.cls →
    vx_W p (eL e) en R s m args below meth c H locs w.2.1 w.2.2 Q (F0 m pc ls rest) q
section
variable {e : gEV} {C : gCx} {cc : ByteArray} {nL d mc ms pc q : Nat} {own : String} {w : Nat × Nat × Nat} {lv lv' : List (Option Value)} {st st' : List Value} {r r' : gRH} {x x' : gXW}
theorem k_xV (hC : COk e C cc nL own d mc ms) {mi : gMI} {idx d0 n' : Nat} {rest As : List Value} {vx : Option Value ⊕ String} {c0 ci sd : Nat} {K : vw_C} (hM : gMOk mi) (hvx : gVOk mi) (hlen : As.length = mi.2.2.2.2) (hk : kdn w.1 c0 = some (sd, .inl ci)) (hcl : vwCl[ci]? = some K) (hcn : K.1 = mi.1.cls) (hd : decode cc pc = .ok (.invokevirtual idx, 3)) (hlnk : Cond.methodLink own idx mi.1 ∈ gW0) (hcal : XCal e mi d0 w.1 (.ref c0 :: As) r x vx n' r' x') (hd0 : d0 + 1 ≤ d) (hst : st = (.ref c0 :: As).reverse ++ rest) (hrest : gWt rest ≤ 8) (hroom : w.2.1 + 1 ≤ mc ∧ w.2.2 + 6 ≤ ms) (hq : pc + 3 = q)
    (kN : ∀ u, vx = .inl u → KW e C (n', w.2.1 + 1, w.2.2 + 6) q lv (u.toList ++ rest) r' x') (kX : ∀ E, vx = .inr E → XKW e C (n', w.2.1 + 1, w.2.2 + 6) pc lv E r' x') : KW e C w pc lv st r x := by
  obtain ⟨p, en, R, s, m, args, below, meth, cd, Q⟩ := C
  obtain ⟨hx, hb, hml, hown, hts, hK, hbs, hRf, hRl, hRc, hRs, hJ, hlk⟩ := hC
  obtain ⟨n, cells, slots⟩ := w
  intro H locs ls hP hS hl T hT X
  have hpre : ∀ U : State, U.heap = H → s.WarmedH U.vm → gPre e false n (.ref c0 :: As) r x ((Value.ref c0 :: As).map (cv e)).toArray U := fun U hU hW => ⟨rfl, by rw [hU]; exact Nat.le_trans hbs hS.1, fun h => Bool.noConfusion h, by rw [hU]; exact hP, va_K.moved hW.alike hK, gJS_at hJ hS hW hU⟩
  obtain ⟨cellB, hcB1, hcB2, hcB3⟩ := va_recv hK hP hcl (wsO_at hk)
  rw [hcn] at hcB3
  have hr := vx_runV (cells := cells) (slots := slots) (R := R) (e := en) (p := p) (m := m) (below := below) (meth := meth) (locs := locs) (b := eB e + c0) (As := As.map (cv e)) (rest := rest.map (cv e)) (g := F0 m pc ls (st.map (cv e))) ⟨hx, hb, hml, hown, hts⟩ hcal ⟨gCallB (e := e) hts hM hlnk hd0 hRf hRl, hts _ hvx.1, hts _ hvx.2⟩ ⟨gPre_blind, ⟨cellB, hcB1, hcB2, hcB3⟩, hpre⟩ rfl (by rw [List.length_map]; exact hlen) (hl.1.trans hml) (by rw [hst]; simp [cv]) (lv_room (by rw [gWt_eq]; exact hrest)) hd (by rw [hRc, hRs]; exact hroom)
  rcases hr T hT X with ⟨v, st₀, t, T', L, h0, X', hL, e1, e2, ⟨u, hv, hoc, hP1, hF⟩, go⟩ | ⟨q1, st₀, t, T', L, E, ce, h0, X', hL, e1, e2, ⟨hv, hP1, hF⟩, hce, hcv, hcE, go⟩
  · cases hoc
    subst hq
    obtain ⟨hz, hk1⟩ := hF
    rw [h0] at hz hk1
    rw [← e1] at hP1
    obtain ⟨t2, a1, b1⟩ := kN u hv T'.heap (locs ++ L) ls hP1 ⟨Nat.le_trans hS.1 (by rw [e1]; exact hz), fun q h1 h2 => by rw [e1, hk1 q (Nat.lt_of_lt_of_le h1 hS.1) h2]; exact hS.2.1 q h1 h2, fun q hq => by
        rcases List.mem_append.mp hq with h | h
        · exact hS.2.2 q h
        · exact hL q h⟩ hl T' rfl X'
    refine ⟨t2, go t2 ?_, b1⟩
    have hh : (u.map (cv e)).toList ++ rest.map (cv e) = (u.toList ++ rest).map (cv e) := by
      rw [List.map_append]
      cases u <;> rfl
    rw [← hh] at a1
    exact a1
  · obtain ⟨hz, hk1⟩ := hF
    rw [h0] at hz hk1
    rw [← e1] at hP1 hce
    obtain ⟨t2, a1, b1⟩ := kX E hv T'.heap (locs ++ L) ls (rest.map (cv e)) ce q1 hP1 ⟨Nat.le_trans hS.1 (by rw [e1]; exact hz), fun q h1 h2 => by rw [e1, hk1 q (Nat.lt_of_lt_of_le h1 hS.1) h2]; exact hS.2.1 q h1 h2, fun q hq => by
        rcases List.mem_append.mp hq with h | h
        · exact hS.2.2 q h
        · exact hL q h⟩ hl hce hcv hcE T' rfl X'
    exact ⟨t2, go.trans a1, b1⟩
theorem gLV.drop {ls ls' : Array Slot} {nL i : Nat} {lv lv' : List (Option Value)} {v : Value} (h : gLV e ls nL lv) (hlv : ∀ j u, lget lv' j = some u → j ≠ i ∧ lget lv j = some u)
    (h' : lv_has ls' nL ((i, v) :: (lprs e lv).filter (fun q => !(q.1 == i) && !(q.1 + 1 == i && q.2.category == 2)))) : gLV e ls' nL lv' := by
  refine ⟨h'.1, h'.2.1, fun j u hj => ?_⟩
  obtain ⟨h1, h2⟩ := hlv j u hj
  refine ⟨h'.2.2 (j, cv e u) (List.mem_cons_of_mem _ (List.mem_filter.mpr ⟨lprs_mem.mpr ⟨u, h2, rfl⟩, ?_⟩)), (h.2.2 j u h2).2⟩
  have h3 := (h.2.2 j u h2).2
  simp [h1, h3]
/-- the handler that names the class itself, past rows of classes that it isn't; it stores the exception away -/
theorem k_catch (hC : COk e C cc nL own d mc ms) {hh : List (Nat × Nat × Nat × Nat)} (hT : gTb C hh) {E : String} {pre suf : List (Nat × Nat × Nat × Nat)} {a0 b0 hp idx i len : Nat} (hsplit : hh = pre ++ (a0, b0, hp, idx) :: suf) (hin : a0 ≤ pc ∧ pc < b0) (h0 : idx ≠ 0) (hpass : ∀ z ∈ pre, z.2.2.2 ≠ 0 ∧ ∃ nm, Cond.classLink own z.2.2.2 nm ∈ gW0 ∧ (E, nm) ∈ gNC) (hlink : Cond.classLink own idx E ∈ gW0) (hcast : Cond.castable E E ∈ gWN)
    (hd : (decode cc hp = .ok (.astore i, 2) ∧ len = 2) ∨ (∃ k : Fin 4, decode cc hp = .ok (.astore_n k, 1) ∧ (k : Nat) = i ∧ len = 1)) (hi : i < nL) (hlv : ∀ j u, lget lv' j = some u → j ≠ i ∧ lget lv j = some u) (hq : hp + len = q) (kk : KW e C w q lv' [] r x) : XKW e C w pc lv E r x := by
  obtain ⟨p, en, R, s, m, args, below, meth, cd, Q⟩ := C
  obtain ⟨hx, hb, hml, hown, hts, hK, hbs, hRf, hRl, hRc, hRs, hJ, hlk⟩ := hC
  intro H locs ls rest ce q1 hP hS hl hce hcv hcE
  have hT : cd.exceptionTable.toList = tableOf hh := hT
  refine vx_catch hown (tableOf pre) ⟨a0, b0, hp, idx⟩ (tableOf suf) (by rw [hT, hsplit]; simp [tableOf]) (fun z hz => ?_) (by simp [covers]; omega) h0 (hts _ hlink) (va_Nw.use rfl (hJ.2.2.2.2.2.2.1 _ hcast)) hce hcv hcE ?_
  · obtain ⟨z0, hz0, rfl⟩ := List.mem_map.mp hz
    obtain ⟨h1, nm, h2, h3⟩ := hpass z0 hz0
    exact Or.inr ⟨h1, nm, hts _ h2, hJ.2.2.2.2.2.2.2 _ h3⟩
  · subst hq
    rcases hd with ⟨hd, rfl⟩ | ⟨k, hd, rfl, rfl⟩
    · exact lv_astore (nL := cd.maxLocals) hx hb hd hl.has (by rw [hml]; exact hi) rfl (fun ls' h' => kk H locs ls' hP hS (hl.drop hlv h'))
    · exact lv_astore_n (nL := cd.maxLocals) hx hb hd rfl hl.has (by rw [hml]; exact hi) rfl (fun ls' h' => kk H locs ls' hP hS (hl.drop hlv h'))
theorem k_wS (hC : COk e C cc nL own d mc ms) {mi : gWI} {idx d0 : Nat} {av rest : List Value} {v : Int32} (hM : gWOk mi) (hsx : Cond.static mi.1 ∈ gW0) (hlen : av.length = mi.2.2.2.2.2) (hd : decode cc pc = .ok (.invokestatic idx, 3)) (hlnk : Cond.methodLink own idx mi.1 ∈ gW0) (hcal : WCal e mi d0 w.1 av r x v r' x') (hd0 : d0 + 1 ≤ d) (hst : st = av.reverse ++ rest) (hrest : gWt rest ≤ 8) (hroom : w.2.1 + 1 ≤ mc ∧ w.2.2 + 6 ≤ ms) (hq : pc + 3 = q) (kk : KW e C (w.1, w.2.1 + 1, w.2.2 + 6) q lv (.int v :: rest) r' x') : KW e C w pc lv st r x := by
  obtain ⟨p, en, R, s, m, args, below, meth, cd, Q⟩ := C
  obtain ⟨hx, hb, hml, hown, hts, hK, hbs, hRf, hRl, hRc, hRs, hJ, hlk⟩ := hC
  obtain ⟨n, cells, slots⟩ := w
  intro H locs ls hP hS hl T hT X
  have hpre : ∀ U : State, U.heap = H → s.WarmedH U.vm → gPre e false n av r x (av.map (cv e)).toArray U := fun U hU hW => ⟨rfl, by rw [hU]; exact Nat.le_trans hbs hS.1, fun h => Bool.noConfusion h, by rw [hU]; exact hP, va_K.moved hW.alike hK, gJS_at hJ hS hW hU⟩
  obtain ⟨-, h1, h2, h3, h4⟩ := hM
  have hws : ∀ w' ∈ gWc mi :: gW0, w' ∈ gW0 ∧ ((w'.onTables && w'.keeps) = true ∨ ∃ ty, w' = .arrayClass ty) := gGood h2
  have cw : vx_CSW R s args own idx mi.1 mi.2.1 mi.2.2.1 mi.2.2.2.1 mi.2.2.2.2.1 (gWc mi :: gW0) (gRm d0 1 6) 1 6 mi.2.2.2.2.2 := by
    refine ⟨⟨rfl, rfl, ?_, ?_, pay_in hts (gGood h2), List.mem_cons_self⟩, hts _ h2, hts _ h3, ⟨h1.1, h1.2.1⟩, fun sig hs => ?_, hts _ hlnk, hts _ hsx⟩
    · show d0 + 1 ≤ R.frames
      omega
    · show 8 + (mi.2.2.1 + 11) + 40 * d0 ≤ R.locals
      omega
    · have h5 := h1.2.2
      rw [hs] at h5
      exact (Option.some.inj h5).symm
  have hr := vx_runSW (cells := cells) (slots := slots) (R := R) (e := en) (p := p) (m := m) (below := below) (meth := meth) (locs := locs) (As := av.map (cv e)) (rest := rest.map (cv e)) (g := F0 m pc ls (st.map (cv e))) ⟨hx, hb, hml, hown, hts⟩ hcal cw ⟨gPre_blind, hpre⟩ rfl (by rw [List.length_map]; exact hlen) (hl.1.trans hml) (by rw [hst]; simp) (lv_room (by rw [gWt_eq]; exact hrest)) hd (by rw [hRc, hRs]; exact hroom)
  exact KW_run hr hS hl rfl hq kk T hT X
/-- the script of the law -/
def gScr (e : gEV) (C : gCx) (L : Nat) (xs : Nat → Int32) : Prop := match C with
  | (_, _, _, s, _, _, _, _, _, _) => va_X (eS e) L xs s s.heap ∧ eS e < s.heap.size ∧ ¬ gA e (eS e)
theorem k_sld (hC : COk e C cc nL own d mc ms) {L : Nat} {xs : Nat → Int32} (hX : gScr e C L xs) {i y : Int32} {u : UInt32} (hd : decode cc pc = .ok (.iaload, 1)) (hin : vp_in i L) (hy : xs i.toNatClampNeg = y) (hq : pc + 1 = q) (kk : KW e C w q lv (.int y :: st) r x) : KW e C w pc lv (.int i :: .float u :: st) r x := by
  obtain ⟨p, en, R, s, m, args, below, meth, cd, Q⟩ := C
  obtain ⟨hx, hb, hml, hown, hts, hK, hbs, hRf, hRl, hRc, hRs, hJ, hlk⟩ := hC
  obtain ⟨h1, h2, h3⟩ := hX
  subst hq hy
  intro H locs ls hP hS hl
  exact va_sld hx hb h1 h2 h3 hS hin hd (kk H locs ls hP hS hl)
theorem k_slen (hC : COk e C cc nL own d mc ms) {L : Nat} {xs : Nat → Int32} (hX : gScr e C L xs) {y : Int32} {u : UInt32} (hd : decode cc pc = .ok (.arraylength, 1)) (hy : Int32.ofNat L = y) (hq : pc + 1 = q) (kk : KW e C w q lv (.int y :: st) r x) : KW e C w pc lv (.float u :: st) r x := by
  obtain ⟨p, en, R, s, m, args, below, meth, cd, Q⟩ := C
  obtain ⟨hx, hb, hml, hown, hts, hK, hbs, hRf, hRl, hRc, hRs, hJ, hlk⟩ := hC
  obtain ⟨h1, h2, h3⟩ := hX
  subst hq hy
  intro H locs ls hP hS hl
  exact va_slen hx hb h1 h2 h3 hS hd (kk H locs ls hP hS hl)
end
