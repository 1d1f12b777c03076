/-! THE STEPS OVER THE PICTURE -/
def gW0 : List Cond := lw_tbl.filter goodWord
theorem gW0_mem {w : Cond} (h : w ∈ lw_tbl) (hg : goodWord w = true) : w ∈ gW0 := List.mem_filter.mpr ⟨h, hg⟩
/-- the words of a nest's private members: they hold in every method, but are no good words -/
def isNest : Cond → Bool
  | .fieldLinkNest .. => true
  | .methodLinkNest .. => true
  | .castable .. => true
  | .declares .. => true
  | .arrayOver (.object _) => true
  | _ => false
def gWN : List Cond := lw_tbl.filter isNest
theorem gWN_mem {w : Cond} (h : w ∈ lw_tbl) (hg : isNest w = true) : w ∈ gWN := List.mem_filter.mpr ⟨h, hg⟩
def gNw (U : State) : Prop := ∀ w ∈ gWN, va_Nw w U
theorem gNw.warm {s U : State} (hW : s.WarmedH U.vm) (h : gNw s) : gNw U := by
  intro w hw
  have h1 := h w hw
  have h2 : isNest w = true := (List.mem_filter.mp hw).2
  unfold isNest at h2
  split at h2
  · exact va_Nw.warmF hW h1
  · exact va_Nw.warmM hW h1
  · exact va_Nw.warmC hW h1
  · exact va_Nw.warmD hW h1
  · exact va_AO.moved hW.alike h1
  · cases h2
theorem gNw.same {u U : State} (hv : U.vm = u.vm) (h : gNw u) : gNw U := by
  intro w hw
  have h1 := h w hw
  have h2 : isNest w = true := (List.mem_filter.mp hw).2
  unfold isNest at h2
  split at h2
  · exact va_Nw.same rfl hv.symm h1
  · exact va_Nw.same rfl hv.symm h1
  · exact va_Nw.same rfl hv.symm h1
  · exact va_Nw.same rfl hv.symm h1
  · exact va_AO.moved (by rw [hv]; exact Vm.Alike.refl u.vm) h1
  · cases h2
/-- what is no kind of what -/
def gNC : List (String × String) := [("java/lang/IllegalStateException", "java/lang/IllegalArgumentException"), ("java/util/NoSuchElementException", "java/lang/IndexOutOfBoundsException"), ("java/lang/IllegalStateException", "java/lang/IndexOutOfBoundsException"), ("java/lang/IllegalStateException", "java/util/NoSuchElementException")]
theorem gW0_good : ∀ w ∈ gW0, w ∈ gW0 ∧ ((w.onTables && w.keeps) = true ∨ ∃ ty, w = .arrayClass ty) := fun w h => ⟨h, good_of_word (List.mem_filter.mp h).2⟩
theorem gGood {w : Cond} (h : w ∈ gW0) : GoodIn gW0 (w :: gW0) := by
  intro v hv
  rcases List.mem_cons.mp hv with rfl | hv
  · exact gW0_good _ h
  · exact gW0_good v hv
def gSL : List Nat := [3, 4, 4, 3, 4, 4, 4]
def gSB : List (List Int32) := [[110, 101, 116], [114, 111, 111, 116], [101, 120, 105, 116], [108, 97, 121], [115, 104, 117, 116], [111, 112, 101, 110], [116, 111, 108, 108]]
/-- the texts: class, entry, text, number -/
def gStr : List (String × Nat × String × Nat) := [("GateLifter$Reader", 61, "net", 0), ("GateLifter$Reader", 67, "root", 1), ("GateLifter$Reader", 69, "exit", 2), ("GateLifter$Reader", 71, "lay", 3), ("GateLifter$Reader", 73, "shut", 4), ("GateLifter$Reader", 75, "open", 5), ("GateLifter$Reader", 77, "toll", 6),
  ("GateLifterModel", 241, "net", 0), ("GateLifterModel", 247, "root", 1), ("GateLifterModel", 251, "exit", 2), ("GateLifterModel", 253, "lay", 3), ("GateLifterModel", 258, "shut", 4), ("GateLifterModel", 263, "open", 5), ("GateLifterModel", 265, "toll", 6),
  ("GateLifter", 95, "the text is wrong", 7), ("GateLifter", 152, "there cannot be so many nodes", 8), ("GateLifter", 172, "refused", 9), ("GateLifter", 189, "it is no toll", 10), ("GateLifter", 197, "nothing is remembered", 11), ("GateLifter", 210, "there is no such what", 12), ("GateLifter", 218, "there is no such node", 13), ("GateLifter", 328, "there is no such arc", 14), ("GateLifter", 345, "it is shut", 15)]
/-- what the machine's own classes hold, outside the picture -/
def gJS (e : gEV) (U : State) (H : Heap) : Prop := vk_S 7 gSL gSB (eK e) (eV e) (gA e) U H ∧ (∀ q ∈ gStr, vk_R q.1 q.2.1 q.2.2.1 (eK e q.2.2.2) U) ∧ vx_Zq Bundle.tN "UNASSIGNED_STACK" Bundle.steD (gA e) U H ∧ vx_Zq Bundle.tN "SUPPRESSED_SENTINEL" Bundle.listD (gA e) U H ∧
  va_Z "java/lang/String" "COMPACT_STRINGS" "Z" (.int 1) (gA e) U H ∧ va_Zq "jdk/internal/util/Preconditions" "SIOOBE_FORMATTER" "Ljava/util/function/BiFunction;" (gA e) U H ∧ gNw U ∧ (∀ q ∈ gNC, va_Nc q.1 q.2 U)
theorem gJS.warm {e : gEV} {s U : State} {H : Heap} (hW : s.WarmedH U.vm) (h : gJS e s H) : gJS e U H :=
  ⟨h.1.moved hW.alike, fun q hq => (h.2.1 q hq).warm hW, h.2.2.1.moved hW.alike, h.2.2.2.1.moved hW.alike, h.2.2.2.2.1.moved hW.alike, h.2.2.2.2.2.1.moved hW.alike, h.2.2.2.2.2.2.1.warm hW, fun q hq => (h.2.2.2.2.2.2.2 q hq).moved hW.alike⟩
theorem gJS.same {e : gEV} {u U : State} {H : Heap} (hv : U.vm = u.vm) (h : gJS e u H) : gJS e U H := by
  have ha : u.vm.Alike U.vm := by rw [hv]; exact Vm.Alike.refl u.vm
  exact ⟨h.1.moved ha, fun q hq => (h.2.1 q hq).same hv, h.2.2.1.moved ha, h.2.2.2.1.moved ha, h.2.2.2.2.1.moved ha, h.2.2.2.2.2.1.moved ha, h.2.2.2.2.2.2.1.same hv, fun q hq => (h.2.2.2.2.2.2.2 q hq).moved ha⟩
theorem gJS.kept {e : gEV} {U : State} {H H1 : Heap} (h : gJS e U H) (hq : ∀ a : Nat, a < H.size → ¬ gA e a → H1[a]? = H[a]?) : gJS e U H1 :=
  ⟨h.1.kept hq, h.2.1, h.2.2.1.kept hq, h.2.2.2.1.kept hq, h.2.2.2.2.1.kept hq, h.2.2.2.2.2.1.kept hq, h.2.2.2.2.2.2.1, h.2.2.2.2.2.2.2⟩
def gRm (d mc ms : Nat) : Room := { frames := d, cells := mc, slots := ms, locals := 40 * d }
abbrev gMI : Type := MethodName × ByteArray × Nat × Option FieldType × Nat
/-- the words of a method that is called: its name, its code, its class -/
def gMOk (mi : gMI) : Prop := plainName mi.1.cls = true ∧ (mi.1.cls ≠ "java/lang/invoke/MethodHandle" ∧ mi.1.cls ≠ "java/lang/invoke/VarHandle" ∧ (parseMethodDescriptor mi.1.desc).map (fun d => d.parameters.length) = some mi.2.2.2.2) ∧ Cond.code mi.1 mi.2.1 mi.2.2.1 mi.2.2.2.1 ∈ gW0 ∧ Cond.initialized mi.1.cls ∈ gW0 ∧ mi.2.2.1 ≤ 21
def gVOk (mi : gMI) : Prop := Cond.instanceMethod mi.1 ∈ gW0 ∧ Cond.selects mi.1.cls mi.1 mi.1 ∈ gW0
abbrev gCx : Type := Program × Env × Room × State × MethodId × Array Value × List Frame × Method × Code × (State → Prop)
def KW (e : gEV) (C : gCx) (w : Nat × Nat × Nat) (pc : Nat) (lv : List (Option Value)) (st : List Value) (r : gRH) (x : gXW) : Prop := match C with
  | (p, en, R, s, m, args, below, meth, c, Q) => ∀ (H : Heap) (locs : List Loc) (ls : Array Slot), va_P (eD e) vwCl (wsO e w.1 r x) H → va_S (gA e) s.heap H locs → gLV e ls c.maxLocals lv → W p (eL e) en R s m args below meth c H locs w.2.1 w.2.2 Q (F0 m pc ls (st.map (cv e)))
def COk (e : gEV) (C : gCx) (cc : ByteArray) (nL : Nat) (own : String) (d mc ms : Nat) : Prop := match C with
  | (p, _, R, s, m, args, _, meth, c, _) => p.tables.exec = Jvm.exec ∧ c.code = cc ∧ c.maxLocals = nL ∧ s.vm.findClass own = some m.cls ∧ (∀ w ∈ gW0, w.before args s = true) ∧ va_K (eD e) vwCl (tysO (eQ e)) s ∧ eB e ≤ s.heap.size ∧ d ≤ R.frames ∧ 40 * d ≤ R.locals ∧ R.cells = mc ∧ R.slots = ms ∧ gJS e s s.heap ∧ meth.locks = false
def QOk (e : gEV) (C : gCx) (ret : Option FieldType) (mc ms : Nat) (v : Option Value) (n' : Nat) (r' : gRH) (x' : gXW) : Prop := match C with
  | (_, _, _, s, _, args, below, meth, _, Q) => meth.sig.returnType = ret ∧ Q = MQ below (fun _ st oc t => oc = .returned (v.map (cv e)) ∧ va_P (eD e) vwCl (wsO e n' r' x') t.heap ∧ va_F (gA e) st t) args s mc ms (gA e)
/-- where a walk began: how many cells there were -/
def gSz (C : gCx) (k : Nat) : Prop := C.2.2.2.1.heap.size = k
def gPre (e : gEV) (ex : Bool) (n : Nat) (av : List Value) (r : gRH) (x : gXW) : Array Value → State → Prop := fun a U => a = (av.map (cv e)).toArray ∧ eB e ≤ U.heap.size ∧ (ex = true → U.heap.size = eB e + n) ∧ va_P (eD e) vwCl (wsO e n r x) U.heap ∧ va_K (eD e) vwCl (tysO (eQ e)) U ∧ gJS e U U.heap
def gPost (e : gEV) (v : Option Value) (n' : Nat) (r' : gRH) (x' : gXW) : Array Value → State → Outcome → State → Prop := fun _ st oc t => oc = .returned (v.map (cv e)) ∧ va_P (eD e) vwCl (wsO e n' r' x') t.heap ∧ va_F (gA e) st t
/-- A CONTRACT: the method mi, called with av over the picture (r, x) of n cells, returns v over the picture (r', x') of n' cells -/
def Cal (e : gEV) (mi : gMI) (d mc ms : Nat) (ex : Bool) (n : Nat) (av : List Value) (r : gRH) (x : gXW) (v : Option Value) (n' : Nat) (r' : gRH) (x' : gXW) : Prop :=
  Met (eL e) mi.1 (Cond.code mi.1 mi.2.1 mi.2.2.1 mi.2.2.2.1 :: gW0) (gRm d mc ms) (gPre e ex n av r x) (gPost e v n' r' x') mc ms (gA e)
theorem cv_cat (e : gEV) (v : Value) : (cv e v).category = v.category := by cases v <;> rfl
theorem gPre_blind {e : gEV} {ex : Bool} {n : Nat} {av : List Value} {r : gRH} {x : gXW} : FrameBlind (gPre e ex n av r x) := by
  intro a U g mk ⟨h1, h2, h3, h4, h5, h6⟩
  exact ⟨h1, h2, h3, h4, va_K.moved (u := U) (U := U.calling g mk a) (Vm.Alike.refl U.vm) h5, gJS.same (u := U) (U := U.calling g mk a) rfl h6⟩
theorem lg_sl_one : ∀ (vs : List Value), (∀ v ∈ vs, v.category = 1) → (lg_sl vs).length = vs.length
  | [], _ => rfl
  | v :: vs, h => by
    have h1 : v.category = 1 := h v List.mem_cons_self
    have h2 := lg_sl_one vs (fun u hu => h u (List.mem_cons_of_mem _ hu))
    simp only [lg_sl, List.flatMap_cons, h1] at h2 ⊢
    simp [h2]
theorem lv_args_one : ∀ (vs : List Value) (k : Nat), (∀ v ∈ vs, v.category = 1) → ∀ (i : Nat) (v : Value), vs[i]? = some v → (k + i, v) ∈ lv_args k vs
  | [], k, _, i, v, h => by simp at h
  | u :: vs, k, hc, i, v, h => by
    have h1 : u.category = 1 := hc u List.mem_cons_self
    cases i with
    | zero =>
      simp at h
      subst h
      exact List.mem_cons_self
    | succ i =>
      have h2 := lv_args_one vs (k + 1) (fun z hz => hc z (List.mem_cons_of_mem _ hz)) i v (by simpa using h)
      show (k + (i + 1), v) ∈ (k, u) :: lv_args (if u.category = 2 then k + 2 else k + 1) vs
      rw [if_neg (by omega)]
      rw [show k + (i + 1) = k + 1 + i by omega]
      exact List.mem_cons_of_mem _ h2
theorem lget_pad : ∀ (av : List Value) (k i : Nat) (v : Value), lget (av.map some ++ List.replicate k none) i = some v → av[i]? = some v
  | [], 0, i, v, h => by simp [lget] at h
  | [], k + 1, 0, v, h => by simp [List.replicate_succ, lget] at h
  | [], k + 1, i + 1, v, h => by
    have h' : lget (([] : List Value).map some ++ List.replicate k none) i = some v := by simpa [List.replicate_succ, lget] using h
    have := lget_pad [] k i v h'
    simp at this
  | a :: av, k, 0, v, h => by simpa [lget] using h
  | a :: av, k, i + 1, v, h => by
    have h' : lget (av.map some ++ List.replicate k none) i = some v := by simpa [lget] using h
    simpa using lget_pad av k i v h'
set_option maxHeartbeats 1000000 in
/-- a contract out of the walk of its body -/
theorem cal_of {e : gEV} {mi : gMI} {d mc ms n n' : Nat} {ex : Bool} {av : List Value} {r r' : gRH} {x x' : gXW} {v : Option Value} {lv : List (Option Value)} (hM : gMOk mi) (hcat : ∀ z ∈ av, z.category = 1) (hlen : av.length ≤ mi.2.2.1) (hlv : lv = av.map some ++ List.replicate (mi.2.2.1 - av.length) none)
    (body : ∀ C : gCx, COk e C mi.2.1 mi.2.2.1 mi.1.cls d mc ms → QOk e C mi.2.2.2.1 mc ms v n' r' x' → (ex = true → gSz C (eB e + n)) → KW e C (n, 0, 0) 0 lv [] r x) : Cal e mi d mc ms ex n av r x v n' r' x' := by
  refine Met.ofW (cc := mi.2.1) (maxL := mi.2.2.1) (ret := mi.2.2.2.1) hM.1 rfl ?_
  intro p en s m args below meth c s₁ B hml hv
  obtain ⟨rfl, hbs, hex, hP, hK, hJ⟩ := hv
  have hts := atoms_spec (ws := Cond.code mi.1 mi.2.1 mi.2.2.1 mi.2.2.2.1 :: gW0) B.pre
  have hb := body (p, en, (headSpec (Cond.code mi.1 mi.2.1 mi.2.2.1 mi.2.2.2.1 :: gW0) (gRm d mc ms)).room, s, m, (av.map (cv e)).toArray, below, meth, c, MQ below (gPost e v n' r' x') (av.map (cv e)).toArray s mc ms (gA e))
    ⟨B.exec, B.bytes, hml, findClass_of_methodNamed B.named, fun w h => hts w (List.mem_cons_of_mem _ h), hK, hbs, Nat.le_refl _, Nat.le_refl _, rfl, rfl, hJ, B.notSynchronized⟩ ⟨B.returns, rfl⟩ hex
  have hcat' : ∀ z ∈ av.map (cv e), z.category = 1 := by
    intro z hz
    obtain ⟨u, hu, rfl⟩ := List.mem_map.mp hz
    rw [cv_cat]
    exact hcat u hu
  have hsl : (lg_sl (av.map (cv e))).length = av.length := by rw [lg_sl_one _ hcat', List.length_map]
  have hl := lv_entry (av.map (cv e)) (n := mi.2.2.1) (by rw [hsl]; exact hlen)
  rw [lg_entry_eq]
  refine hb s.heap [] _ hP va_S.rf ⟨hl.1.trans hml.symm, hl.2.1, fun i z hz => ?_⟩
  rw [hlv] at hz
  have h1 := lget_pad av _ i z hz
  have h2 := lv_args_one (av.map (cv e)) 0 hcat' i (cv e z) (by rw [List.getElem?_map, h1]; rfl)
  rw [Nat.zero_add] at h2
  exact ⟨hl.2.2 _ h2, by rw [cv_cat]; exact hcat z (List.mem_of_getElem? h1)⟩
def gWt : List Value → Nat
  | [] => 0
  | v :: l => v.category + gWt l
theorem gWt_eq (e : gEV) : ∀ (l : List Value), ((l.map (cv e)).map fun v => v.category).sum = gWt l
  | [] => rfl
  | v :: l => by
    simp only [List.map_cons, List.sum_cons, gWt, cv_cat, gWt_eq e l]
theorem gCallB {e : gEV} {R : Room} {s : State} {args : Array Value} {own : String} {idx d d0 mc ms : Nat} {mi : gMI} (hts : ∀ w ∈ gW0, w.before args s = true) (hM : gMOk mi) (hlk : Cond.methodLink own idx mi.1 ∈ gW0) (hd : d0 + 1 ≤ d) (hf : d ≤ R.frames) (hl : 40 * d ≤ R.locals) :
    CallB R s args own idx mi.1 mi.2.1 mi.2.2.1 mi.2.2.2.1 (Cond.code mi.1 mi.2.1 mi.2.2.1 mi.2.2.2.1 :: gW0) (gRm d0 mc ms) mc ms mi.2.2.2.2 := by
  obtain ⟨-, h1, h2, h3, h4⟩ := hM
  refine callB_of mi.2.2.2.2 hts (gGood h2) rfl rfl rfl (hts _ h3) (hts _ hlk) h1 ⟨?_, ?_⟩
  · show d0 + 1 ≤ R.frames
    omega
  · show 8 + (mi.2.2.1 + 11) + 40 * d0 ≤ R.locals
    omega
theorem gCallN {e : gEV} {R : Room} {s : State} {args : Array Value} {own host : String} {idx d d0 mc ms : Nat} {mi : gMI} (hts : ∀ w ∈ gW0, w.before args s = true) (hN : gNw s) (hM : gMOk mi) (hlk : Cond.methodLinkNest own idx mi.1 host ∈ gWN) (hd : d0 + 1 ≤ d) (hf : d ≤ R.frames) (hl : 40 * d ≤ R.locals) :
    va_CN R s args own idx mi.1 host mi.2.1 mi.2.2.1 mi.2.2.2.1 (Cond.code mi.1 mi.2.1 mi.2.2.1 mi.2.2.2.1 :: gW0) (gRm d0 mc ms) mc ms mi.2.2.2.2 := by
  obtain ⟨-, h1, h2, h3, h4⟩ := hM
  refine va_cnB mi.2.2.2.2 hts (gGood h2) rfl rfl rfl (hN _ hlk) (hts _ h3) h1 ⟨?_, ?_⟩
  · show d0 + 1 ≤ R.frames
    omega
  · show 8 + (mi.2.2.1 + 11) + 40 * d0 ≤ R.locals
    omega
theorem gJS_at {e : gEV} {s U : State} {H : Heap} {locs : List Loc} (hJ : gJS e s s.heap) (hS : va_S (gA e) s.heap H locs) (hW : s.WarmedH U.vm) (hU : U.heap = H) : gJS e U U.heap := by
  rw [hU]
  exact (hJ.kept hS.2.1).warm hW
theorem gSize {p : Program} {l : Launch} {en : Env} {R : Room} {s : State} {m : MethodId} {args : Array Value} {below : List Frame} {meth : Method} {c : Code} {T : State} {H : Heap} {locs locs' : List Loc} {cells slots : Nat} {e : gEV} {n n0 : Nat} {r : gRH} {x : gXW} (X : Stand p l en R s m args below meth c T locs cells slots) (hT : T.heap = H) (hP : va_P (eD e) vwCl (wsO e n r x) H) (hS : va_S (gA e) s.heap H locs') (h0 : s.heap.size = eB e + n0) (hn : n0 + cells = n) : H.size = eB e + n := by
  have h1 := X.heapSize
  rw [hT] at h1
  have h2 := hS.1
  by_cases hz : n = 0
  · omega
  · have h3 := (hP (n - 1) _ (wsO_get (by omega))).lt
    have h4 : eB e + (n - 1) < H.size := h3
    omega
section
variable {e : gEV} {p : Program} {en : Env} {R : Room} {s : State} {m : MethodId} {args : Array Value} {below : List Frame} {meth : Method} {c : Code} {Q : State → Prop}
/-- behind a call -/
theorem KW_run {H : Heap} {locs : List Loc} {ls : Array Slot} {cells slots mc ms n' pc : Nat} {st0 rest st' : List Value} {r' : gRH} {x' : gXW} {v : Option Value} {a : Array Value} {lv : List (Option Value)} (hr : va_Run p (eL e) en R s m args below meth c H locs cells slots mc ms (F0 m pc ls st0) (rest.map (cv e)) (gPost e v n' r' x' a) (gA e))
    (hS : va_S (gA e) s.heap H locs) (hl : gLV e ls c.maxLocals lv) (hst : st' = v.toList ++ rest) {q : Nat} (hq : pc + 3 = q) (kk : KW e (p, en, R, s, m, args, below, meth, c, Q) (n', cells + mc, slots + ms) q lv st' r' x') : W p (eL e) en R s m args below meth c H locs cells slots Q (F0 m pc ls st0) := by
  subst hq
  intro T hT X
  obtain ⟨v', st₀, t, T', L, h0, X', hL, e1, e2, ⟨hv, hP1, hF⟩, st⟩ := hr T hT X
  cases hv
  obtain ⟨hz, hk⟩ := hF
  rw [h0] at hz hk
  rw [← e1] at hP1
  obtain ⟨t2, a1, b1⟩ := kk T'.heap (locs ++ L) ls hP1 ⟨Nat.le_trans hS.1 (by rw [e1]; exact hz), fun q h1 h2 => by rw [e1, hk q (Nat.lt_of_lt_of_le h1 hS.1) h2]; exact hS.2.1 q h1 h2, fun q hq => by
      rcases List.mem_append.mp hq with h | h
      · exact hS.2.2 q h
      · exact hL q h⟩ hl T' rfl X'
  refine ⟨t2, st t2 ?_, b1⟩
  have hh : (v.map (cv e)).toList ++ rest.map (cv e) = st'.map (cv e) := by
    rw [hst, List.map_append]
    cases v <;> rfl
  have a1' := a1
  rw [← hh] at a1'
  exact a1'
end
