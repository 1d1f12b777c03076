/-! MAKING THE PICTURE: new objects and rows take the next cells -/
def gIn (C : gCx) : Prop := match C with
  | (_, _, _, _, _, _, _, meth, _, _) => meth.name = "<init>"
set_option maxHeartbeats 1000000 in
theorem cal_ofI {e : gEV} {mi : gMI} {d mc ms n n' : Nat} {ex : Bool} {av : List Value} {r r' : gRH} {x x' : gXW} {v : Option Value} {lv : List (Option Value)} (hM : gMOk mi) (hi : mi.1.name = "<init>") (hcat : ∀ z ∈ av, z.category = 1) (hlen : av.length ≤ mi.2.2.1) (hlv : lv = av.map some ++ List.replicate (mi.2.2.1 - av.length) none)
    (body : ∀ C : gCx, COk e C mi.2.1 mi.2.2.1 mi.1.cls d mc ms → QOk e C mi.2.2.2.1 mc ms v n' r' x' → (ex = true → gSz C (eB e + n)) → gIn C → KW e C (n, 0, 0) 0 lv [] r x) : Cal e mi d mc ms ex n av r x v n' r' x' := by
  refine Met.ofW (cc := mi.2.1) (maxL := mi.2.2.1) (ret := mi.2.2.2.1) hM.1 rfl ?_
  intro p en s m args below meth c s₁ B hml hv
  obtain ⟨rfl, hbs, hex, hP, hK, hJ⟩ := hv
  have hts := atoms_spec (ws := Cond.code mi.1 mi.2.1 mi.2.2.1 mi.2.2.2.1 :: gW0) B.pre
  have hb := body (p, en, (headSpec (Cond.code mi.1 mi.2.1 mi.2.2.1 mi.2.2.2.1 :: gW0) (gRm d mc ms)).room, s, m, (av.map (cv e)).toArray, below, meth, c, MQ below (gPost e v n' r' x') (av.map (cv e)).toArray s mc ms (gA e))
    ⟨B.exec, B.bytes, hml, findClass_of_methodNamed B.named, fun w h => hts w (List.mem_cons_of_mem _ h), hK, hbs, Nat.le_refl _, Nat.le_refl _, rfl, rfl, hJ, B.notSynchronized⟩ ⟨B.returns, rfl⟩ hex ((name_of_methodNamed B.named B.method).1.trans hi)
  have hcat' : ∀ z ∈ av.map (cv e), z.category = 1 := by
    intro z hz
    obtain ⟨u, hu, rfl⟩ := List.mem_map.mp hz
    rw [cv_cat]
    exact hcat u hu
  have hsl : (lg_sl (av.map (cv e))).length = av.length := by rw [lg_sl_one _ hcat', List.length_map]
  have hl := lv_entry (av.map (cv e)) (n := mi.2.2.1) (by rw [hsl]; exact hlen)
  rw [lg_entry_eq]
  refine hb s.heap [] _ hP va_S.rf ⟨hl.1.trans hml.symm, hl.2.1, fun i z hz => ?_⟩
  rw [hlv] at hz
  have h1 := lget_pad av _ i z hz
  have h2 := lv_args_one (av.map (cv e)) 0 hcat' i (cv e z) (by rw [List.getElem?_map, h1]; rfl)
  rw [Nat.zero_add] at h2
  exact ⟨hl.2.2 _ h2, by rw [cv_cat]; exact hcat z (List.mem_of_getElem? h1)⟩
/-- from the cell n on nothing has been said -/
def Dead (n : Nat) (r : gRH) (x : gXW) : Prop := (∀ c, n ≤ c → ∀ j, r c j = none) ∧ ∀ c sd k, n ≤ c → gKD[c]? = some (sd, k) → ∀ j, xi x sd c j = 0 ∧ xl x sd c j = 0
theorem Dead.mono {n n' : Nat} {r : gRH} {x : gXW} (h : Dead n r x) (hn : n ≤ n') : Dead n' r x := ⟨fun c hc => h.1 c (Nat.le_trans hn hc), fun c sd k hc => h.2 c sd k (Nat.le_trans hn hc)⟩
theorem Dead.up {n c j : Nat} {v : Option Nat} {r : gRH} {x : gXW} (h : Dead n r x) (hc : c < n) : Dead n (up2 r c j v) x := ⟨fun c' hc' j' => by rw [up2_ne (by omega)]; exact h.1 c' hc' j', h.2⟩
theorem Dead.rows {n : Nat} {r : gRH} {xc xc' : gXH} {z : gIH × gLH} (h : Dead n r (xc, z)) (hr : ∀ c, n ≤ c → xc'.1 c = xc.1 c ∧ xc'.2 c = xc.2 c) : Dead n r (xc', z) := by
  refine ⟨h.1, fun c sd k hc hk j => ?_⟩
  have h1 := h.2 c sd k hc hk j
  have h2 := hr c hc
  match sd, h1 with
  | 0, h1 => exact ⟨(congrFun h2.1 j).trans h1.1, (congrFun h2.2 j).trans h1.2⟩
  | 1, h1 => exact h1
  | 2, h1 => exact h1
  | k + 3, h1 => exact h1
theorem Dead.rowsM {n : Nat} {r : gRH} {xc : gXH} {hm hm' : gIH} {lo : gLH} (h : Dead n r (xc, hm, lo)) (hr : ∀ c, n ≤ c → hm' c = hm c) : Dead n r (xc, hm', lo) := by
  refine ⟨h.1, fun c sd k hc hk j => ?_⟩
  have h1 := h.2 c sd k hc hk j
  have h2 := hr c hc
  match sd, h1 with
  | 0, h1 => exact h1
  | 1, h1 => exact ⟨(congrFun h2 j).trans h1.1, h1.2⟩
  | 2, h1 => exact h1
  | k + 3, h1 => exact h1
theorem wsO_succ {e : gEV} {n : Nat} {r : gRH} {x : gXW} {k : gKN} (hk : gKD[n]? = some k) : wsO e (n + 1) r x = wsO e n r x ++ [(eB e + n, cellK e r x n k)] := by
  unfold wsO
  rw [List.range_succ, List.map_append]
  simp only [List.map_cons, List.map_nil, cellE, hk]
def plainT (t : FieldType) : Bool := match t with
  | .float => false
  | .double => false
  | _ => true
theorem fvl_def {e : gEV} {t : FieldType} (h : plainT t = true) : fvl e t none 0 0 = defaultValue t := by
  cases t <;> first | rfl | cases h
theorem clT_plain : ∀ ci, ci < 11 → ∀ j, j < clN ci → plainT (clT ci j) = true := by decide +kernel
/-- an entry of own's pool is the class number ci, which can be made -/
def NLk (own : String) (idx ci : Nat) : Prop := ci < 11 ∧ vwCl[ci]? = some (clK ci) ∧ clN ci = (clK ci).2.2 ∧ (∀ k, k < (clK ci).2.2 → parseFieldDescriptor ((clK ci).2.1 k).2.2.1 = some (clT ci k)) ∧ (∀ u ∈ u_ws (clK ci).1 (clK ci).2.1 (clK ci).2.2, u ∈ gW0) ∧ Cond.classLink own idx (clK ci).1 ∈ gW0 ∧ Cond.instantiable (clK ci).1 (clK ci).2.2 ∈ gW0 ∧ Cond.initialized (clK ci).1 ∈ gW0
section
variable {e : gEV} {C : gCx} {cc : ByteArray} {nL d mc ms pc q : Nat} {own : String} {w : Nat × Nat × Nat} {lv lv' : List (Option Value)} {st st' : List Value} {r r' : gRH} {x x' : gXW}
theorem k_rc (h : ∀ c, c < w.1 → r' c = r c) (kk : KW e C w pc lv st r' x) : KW e C w pc lv st r x := by
  obtain ⟨p, en, R, s, m, args, below, meth, cd, Q⟩ := C
  intro H locs ls hP hS hl
  exact kk H locs ls (by rw [wsO_congr (fun c hc => cellE_congr (fun _ => rfl) (fun _ => rfl) (h c hc))]; exact hP) hS hl
theorem k_new {w' : Nat × Nat × Nat} (hC : COk e C cc nL own d mc ms) {idx ci sd n0 : Nat} (hN : NLk own idx ci) (hkd : gKD[w.1]? = some (sd, .inl ci)) (hd : decode cc pc = .ok (.new idx, 3)) (hz1 : n0 + w.2.1 = w.1) (hz2 : gSz C (eB e + n0)) (hD : Dead w.1 r x) (hroom : w.2.1 + 1 ≤ mc ∧ w.2.2 + clN ci ≤ ms) (hq : pc + 3 = q) (hw : (w.1 + 1, w.2.1 + 1, w.2.2 + clN ci) = w') (kk : KW e C w' q lv (.ref w.1 :: st) r x) : KW e C w pc lv st r x := by
  subst hw
  obtain ⟨p, en, R, s, m, args, below, meth, cd, Q⟩ := C
  obtain ⟨hx, hb, hml, hown, hts, hK, hbs, hRf, hRl, hRc, hRs, hJ, hlk⟩ := hC
  obtain ⟨h0, h1, h2, h4, h6, g1, g2, g3⟩ := hN
  subst hq
  intro H locs ls hP hS hl T hT X
  have hsz : H.size = eB e + w.1 := gSize X hT hP hS hz2 hz1
  have hKn := hK.1 ci _ h1
  rw [h2] at kk hroom
  suffices hW : W p (eL e) en R s m args below meth cd H locs w.2.1 w.2.2 Q (F0 m pc ls (st.map (cv e))) from hW T hT X
  refine W.newcK (slots := w.2.2) hx hb hown (hts _ g1) (hts _ g2) (hts _ g3) rfl hd (by rw [hRc]; exact hroom.1) (by rw [hRs]; exact hroom.2) hKn.2.1 hsz (fun H1 kC hkC e1 zz o1 => ?_)
  refine kk H1 locs ls ?_ ⟨Nat.le_trans hS.1 (by omega), fun a z1 z2 => (o1 a (by have := hS.1; omega)).trans (hS.2.1 a z1 z2), hS.2.2⟩ hl
  rw [wsO_succ hkd]
  have hk : ∀ (k : Nat) (x1 : Nat × va_E), (wsO e w.1 r x)[k]? = some x1 → H1[x1.1]? = H[x1.1]? := fun k x1 hx1 => o1 x1.1 (by rw [← hsz]; exact (hP k x1 hx1).lt)
  refine (hP.kept hk).app (fun k x1 hx1 => ?_)
  have hz : k < 1 := (List.getElem?_eq_some_iff.mp hx1).1
  rw [show k = 0 by omega] at hx1
  cases hx1
  refine ⟨_, h1, (u_born (clT ci) hts h6 hKn hkC e1 h4).to (fun j hj => ?_)⟩
  have hj' : j < clN ci := by rw [h2]; exact hj
  have hf : (flds e r x sd ci w.1)[j]? = some (defaultValue (clT ci j)) := by
    rw [flds_get hj', hD.1 w.1 (Nat.le_refl _) j, (hD.2 w.1 sd _ (Nat.le_refl _) hkd j).1, (hD.2 w.1 sd _ (Nat.le_refl _) hkd j).2, fvl_def (clT_plain ci h0 j hj')]
  simp [vp_V, hf]
theorem k_newa' {w' : Nat × Nat × Nat} (hC : COk e C cc nL own d mc ms) {at0 : ArrayType} {i : Int32} {t N sd n0 : Nat} (hkd : gKD[w.1]? = some (sd, .inr (t, N))) (hac : Cond.arrayClass (newarray.typeOf at0) ∈ gW0) (hat : ∀ k, (tysO k)[t]? = some (cid k t, newarray.typeOf at0)) (hcell : ∀ cA : ClassId, vp_cell cA (N, ctn e r x sd t w.1) = arrV cA N (fun _ => defaultValue (newarray.typeOf at0))) (hi : ¬ i < 0) (hN : i.toNatClampNeg = N) (hb4 : N * componentBytes (newarray.typeOf at0) ≤ 536870912) (hd : decode cc pc = .ok (.newarray at0, 2)) (hz1 : n0 + w.2.1 = w.1) (hz2 : gSz C (eB e + n0)) (hroom : w.2.1 + 1 ≤ mc ∧ w.2.2 + N ≤ ms) (hq : pc + 2 = q) (hw : (w.1 + 1, w.2.1 + 1, w.2.2 + N) = w') (kk : KW e C w' q lv (.ref w.1 :: st) r x) : KW e C w pc lv (.int i :: st) r x := by
  subst hw
  obtain ⟨p, en, R, s, m, args, below, meth, cd, Q⟩ := C
  obtain ⟨hx, hb, hml, hown, hts, hK, hbs, hRf, hRl, hRc, hRs, hJ, hlk⟩ := hC
  subst hq
  intro H locs ls hP hS hl T hT X
  have hsz : H.size = eB e + w.1 := gSize X hT hP hS hz2 hz1
  suffices hW : W p (eL e) en R s m args below meth cd H locs w.2.1 w.2.2 Q (F0 m pc ls ((Value.int i :: st).map (cv e))) from hW T hT X
  refine va_newaK (slots := w.2.2) hx hb (hts _ hac) rfl hd rfl hi hN hb4 (by rw [hRc]; exact hroom.1) (by rw [hRs]; exact hroom.2) hsz (fun H1 cA e1 zz o1 hAr hNm => ?_)
  have hra : s.vm.findClass ("[" ++ (newarray.typeOf at0).toString) = some (cid (eQ e) t) := by
    have h := (hK.2 t _ (hat (eQ e))).2
    cases at0 <;> exact h
  have hcA : cA = cid (eQ e) t := Option.some.inj (hNm.symm.trans hra)
  subst hcA
  refine kk H1 locs ls ?_ ⟨Nat.le_trans hS.1 (by omega), fun a z1 z2 => (o1 a (by have := hS.1; omega)).trans (hS.2.1 a z1 z2), hS.2.2⟩ hl
  rw [wsO_succ hkd]
  have hk : ∀ (k : Nat) (x1 : Nat × va_E), (wsO e w.1 r x)[k]? = some x1 → H1[x1.1]? = H[x1.1]? := fun k x1 hx1 => o1 x1.1 (by rw [← hsz]; exact (hP k x1 hx1).lt)
  refine (hP.kept hk).app (fun k x1 hx1 => ?_)
  have hz : k < 1 := (List.getElem?_eq_some_iff.mp hx1).1
  rw [show k = 0 by omega] at hx1
  cases hx1
  show H1[eB e + w.1]? = some (vp_cell _ _)
  rw [hcell]
  exact e1
theorem k_newa {w' : Nat × Nat × Nat} (hC : COk e C cc nL own d mc ms) {at0 : ArrayType} {i : Int32} {t N sd n0 : Nat} (hkd : gKD[w.1]? = some (sd, .inr (t, N))) (hac : Cond.arrayClass (newarray.typeOf at0) ∈ gW0) (hat : ∀ k, (tysO k)[t]? = some (cid k t, newarray.typeOf at0)) (ht : t < 3) (hdv : defaultValue (newarray.typeOf at0) = .int 0) (hi : ¬ i < 0) (hN : i.toNatClampNeg = N) (hb4 : N * componentBytes (newarray.typeOf at0) ≤ 536870912) (hd : decode cc pc = .ok (.newarray at0, 2)) (hz1 : n0 + w.2.1 = w.1) (hz2 : gSz C (eB e + n0)) (hD : Dead w.1 r x) (hroom : w.2.1 + 1 ≤ mc ∧ w.2.2 + N ≤ ms) (hq : pc + 2 = q) (hw : (w.1 + 1, w.2.1 + 1, w.2.2 + N) = w') (kk : KW e C w' q lv (.ref w.1 :: st) r x) : KW e C w pc lv (.int i :: st) r x := by
  refine k_newa' hC hkd hac hat (fun cA => ?_) hi hN hb4 hd hz1 hz2 hroom hq hw kk
  have hz : xi x sd w.1 = fun _ => 0 := funext fun j => (hD.2 w.1 sd _ (Nat.le_refl _) hkd j).1
  rw [hdv]
  match t, ht with
  | 0, _ => simp only [ctn, hz]; rfl
  | 1, _ => simp only [ctn, hz]; rfl
  | 2, _ => simp only [ctn, hz]; rfl
theorem k_newN {w' : Nat × Nat × Nat} (hC : COk e C cc nL own d mc ms) {idx : Nat} {i : Int32} {N sd n0 : Nat} (hkd : gKD[w.1]? = some (sd, .inr (4, N))) (hcl : Cond.classLink own idx RX6 ∈ gW0) (hao : Cond.arrayOver (.object RX6) ∈ gWN) (hi : ¬ i < 0) (hN : i.toNatClampNeg = N) (hb4 : N * 4 ≤ 536870912) (hd : decode cc pc = .ok (.anewarray idx, 3)) (hz1 : n0 + w.2.1 = w.1) (hz2 : gSz C (eB e + n0)) (hD : Dead w.1 r x) (hroom : w.2.1 + 1 ≤ mc ∧ w.2.2 + N ≤ ms) (hq : pc + 3 = q) (hw : (w.1 + 1, w.2.1 + 1, w.2.2 + N) = w') (kk : KW e C w' q lv (.ref w.1 :: st) r x) : KW e C w pc lv (.int i :: st) r x := by
  subst hw
  obtain ⟨p, en, R, s, m, args, below, meth, cd, Q⟩ := C
  obtain ⟨hx, hb, hml, hown, hts, hK, hbs, hRf, hRl, hRc, hRs, hJ, hlk⟩ := hC
  subst hq
  subst hN
  intro H locs ls hP hS hl T hT X
  have hsz : H.size = eB e + w.1 := gSize X hT hP hS hz2 hz1
  suffices hW : W p (eL e) en R s m args below meth cd H locs w.2.1 w.2.2 Q (F0 m pc ls ((Value.int i :: st).map (cv e))) from hW T hT X
  refine W.anew (slots := w.2.2) hx hb hown (hts _ hcl) (va_AO.use (hJ.2.2.2.2.2.2.1 _ hao)) rfl hd rfl hi hb4 (by rw [hRc]; exact hroom.1) (by rw [hRs]; exact hroom.2) (fun cA kA comp f1 f2 f3 f4 => ?_)
  obtain ⟨kA', comp', q2, q3, q4, q1⟩ := (hK.2 4 _ (show (tysO (eQ e))[4]? = some (cid (eQ e) 4, .object RX6) from rfl)).2
  have hcA : cA = cid (eQ e) 4 := Option.some.inj (f1.symm.trans q1)
  subst hcA
  generalize hH1 : H.push ({ cls := cid (eQ e) 4, slots := Array.replicate i.toNatClampNeg .null, vm := .none } : Cell) = H1
  have zz : H1.size = H.size + 1 := by rw [← hH1, Array.size_push]
  have e1 : H1[H.size]? = some (arrV (cid (eQ e) 4) i.toNatClampNeg (fun _ => .null)) := by rw [← hH1, Array.getElem?_push_size, ← arrV_new]
  have o1 : ∀ q : Nat, q < H.size → H1[q]? = H[q]? := fun q hq => by rw [← hH1, Array.getElem?_push, if_neg (Nat.ne_of_lt hq)]
  rw [hsz]
  refine kk H1 locs ls ?_ ⟨Nat.le_trans hS.1 (by omega), fun a z1 z2 => (o1 a (by have := hS.1; omega)).trans (hS.2.1 a z1 z2), hS.2.2⟩ hl
  rw [wsO_succ hkd]
  have hk : ∀ (k : Nat) (x1 : Nat × va_E), (wsO e w.1 r x)[k]? = some x1 → H1[x1.1]? = H[x1.1]? := fun k x1 hx1 => o1 x1.1 ((hP k x1 hx1).lt)
  refine (hP.kept hk).app (fun k x1 hx1 => ?_)
  have hz : k < 1 := (List.getElem?_eq_some_iff.mp hx1).1
  rw [show k = 0 by omega] at hx1
  cases hx1
  show H1[eB e + w.1]? = some (vp_cell _ _)
  have hz : r w.1 = fun _ => none := funext fun j => hD.1 w.1 (Nat.le_refl _) j
  rw [← hsz, e1]
  simp only [ctn, hz, Option.map_none]
  rw [vp_cell_q]
  rfl
theorem k_objI (hC : COk e C cc nL own d mc ms) {idx c : Nat} (hlk : Cond.methodLink own idx Lib.objectInit ∈ gW0) (hi : Cond.instanceMethod Lib.objectInit ∈ gW0) (hco : Cond.code Lib.objectInit ⟨#[0xb1]⟩ 1 none ∈ gW0) (hd : decode cc pc = .ok (.invokespecial idx, 3)) (hd1 : 1 ≤ d) (hst : gWt st ≤ 8) (hq : pc + 3 = q) (kk : KW e C w q lv st r x) : KW e C w pc lv (.ref c :: st) r x := by
  obtain ⟨p, en, R, s, m, args, below, meth, cd, Q⟩ := C
  obtain ⟨hx, hb, hml, hown, hts, hK, hbs, hRf, hRl, hRc, hRs, hJ, hlk0⟩ := hC
  subst hq
  intro H locs ls hP hS hl
  refine W.objInit hx hb hown (hts _ hlk) (hts _ hi) (hts _ hco) rfl hl.1 rfl hd (by omega) ?_ (kk H locs ls hP hS hl)
  rw [gWt_eq]
  show 2 * 0 + _ + 12 ≤ R.locals
  omega
/-- a reference into a field, by the constructor (fin) or else -/
theorem k_putFR (hC : COk e C cc nL own d mc ms) (hI : gIn C) {idx ci j c sd t : Nat} (hF : FLk own idx ci j none) (h7 : ((clK ci).2.1 j).2.2.2 = true) (hdecl : ((clK ci).2.1 j).1 = own) (hd : decode cc pc = .ok (.putfield idx, 3)) (hk : kdn w.1 c = some (sd, .inl ci)) (hty : ∀ a i l, fvl e (clT ci j) a i l = va_rf (a.map (fun c => eB e + c))) (hn : narrow (clT ci j) (.ref (eB e + t)) = .ref (eB e + t)) (hf : fits (clT ci j) (.ref (eB e + t)) = true) (hr : up2 r c j (some t) = r') (hq : pc + 3 = q) (kk : KW e C w q lv st r' x) : KW e C w pc lv (.ref t :: .ref c :: st) r x := by
  subst hr
  obtain ⟨p, en, R, s, m, args, below, meth, cd, Q⟩ := C
  obtain ⟨hx, hb, hml, hown, hts, hK, hbs, hRf, hRl, hRc, hRs, hJ, hlk⟩ := hC
  obtain ⟨h1, h2, h3, h4, h5, h6, h8⟩ := hF
  subst hq
  intro H locs ls hP hS hl
  have hset := flds_set (e := e) (r := r) (r' := up2 r c j (some t)) (x := x) (x' := x) (sd := sd) (ci := ci) (c := c) (j := j) (v := .ref (eB e + t)) (by rw [h2]; exact h3) (by rw [hty]; simp [up2, va_rf]) (fun j' hj' => by simp [up2, hj'])
  have hws := wsO_set (e := e) (n := w.1) (r := r) (r' := up2 r c j (some t)) (x := x) (x' := x) hk (fun c' hc' => cellE_ref hc')
  have key : (wsO e w.1 r x).set c (eB e + c, .inr (ci, (flds e r x sd ci c).set j (.ref (eB e + t)))) = wsO e w.1 (up2 r c j (some t)) (x) := by
    rw [hset]
    exact hws
  exact va_putF hx hb hts h6 (clT ci) h4 h5 hown hK hP wsO_D hS c (wsO_at hk) h1 j h3 (hts _ h8) (fun _ z => z) h7 hI hdecl (h4 j h3) hn hf (by rw [flds_len, h2]; exact h3) hd (fun H1 locs1 hP1 hD1 hS1 => kk H1 locs1 ls (by rw [← key]; exact hP1) hS1 hl)
theorem k_putNR (hC : COk e C cc nL own d mc ms) {idx ci j c sd t : Nat} (hF : FLk own idx ci j none) (h7 : ((clK ci).2.1 j).2.2.2 = false) (hd : decode cc pc = .ok (.putfield idx, 3)) (hk : kdn w.1 c = some (sd, .inl ci)) (hty : ∀ a i l, fvl e (clT ci j) a i l = va_rf (a.map (fun c => eB e + c))) (hn : narrow (clT ci j) (.ref (eB e + t)) = .ref (eB e + t)) (hf : fits (clT ci j) (.ref (eB e + t)) = true) (hr : up2 r c j (some t) = r') (hq : pc + 3 = q) (kk : KW e C w q lv st r' x) : KW e C w pc lv (.ref t :: .ref c :: st) r x := by
  subst hr
  obtain ⟨p, en, R, s, m, args, below, meth, cd, Q⟩ := C
  obtain ⟨hx, hb, hml, hown, hts, hK, hbs, hRf, hRl, hRc, hRs, hJ, hlk⟩ := hC
  obtain ⟨h1, h2, h3, h4, h5, h6, h8⟩ := hF
  subst hq
  intro H locs ls hP hS hl
  have hset := flds_set (e := e) (r := r) (r' := up2 r c j (some t)) (x := x) (x' := x) (sd := sd) (ci := ci) (c := c) (j := j) (v := .ref (eB e + t)) (by rw [h2]; exact h3) (by rw [hty]; simp [up2, va_rf]) (fun j' hj' => by simp [up2, hj'])
  have hws := wsO_set (e := e) (n := w.1) (r := r) (r' := up2 r c j (some t)) (x := x) (x' := x) hk (fun c' hc' => cellE_ref hc')
  have key : (wsO e w.1 r x).set c (eB e + c, .inr (ci, (flds e r x sd ci c).set j (.ref (eB e + t)))) = wsO e w.1 (up2 r c j (some t)) (x) := by
    rw [hset]
    exact hws
  exact va_put hx hb hts h6 (clT ci) h4 h5 hown hK hP wsO_D hS c (wsO_at hk) h1 j h3 (hts _ h8) (fun _ z => z) h7 (h4 j h3) hn hf (by rw [flds_len, h2]; exact h3) hd (fun H1 locs1 hP1 hD1 hS1 => kk H1 locs1 ls (by rw [← key]; exact hP1) hS1 hl)
theorem k_cI (hC : COk e C cc nL own d mc ms) {w' : Nat × Nat × Nat} {mi : gMI} {idx d0 cm sm n' n0 : Nat} {av rest : List Value} {c0 : Nat} {As : List Value} {r1 : gRH} (hM : gMOk mi) (hin : mi.1.name = "<init>" ∧ Cond.instanceMethod mi.1 ∈ gW0) (hrn : mi.2.2.2.1 = none) (hav : av = .ref c0 :: As) (hlen : As.length = mi.2.2.2.2) (hd : decode cc pc = .ok (.invokespecial idx, 3)) (hlnk : Cond.methodLink own idx mi.1 ∈ gW0) (hcal : Cal e mi d0 cm sm true w.1 av r x none n' r1 x') (hd0 : d0 + 1 ≤ d) (hst : st = av.reverse ++ rest) (hrest : gWt rest ≤ 8) (hroom : w.2.1 + cm ≤ mc ∧ w.2.2 + sm ≤ ms) (hz1 : n0 + w.2.1 = w.1) (hz2 : gSz C (eB e + n0)) (hr : r1 = r') (hq : pc + 3 = q) (hw : (n', w.2.1 + cm, w.2.2 + sm) = w') (kk : KW e C w' q lv rest r' x') : KW e C w pc lv st r x := by
  subst hw hr
  exact k_callI hC hM hin hrn hav hlen hd hlnk hcal hd0 hst hrest hroom (fun _ => ⟨n0, hz1, hz2⟩) rfl hq kk
theorem k_cIN (hC : COk e C cc nL own d mc ms) {w' : Nat × Nat × Nat} {mi : gMI} {idx d0 cm sm n' n0 : Nat} {av rest : List Value} {c0 : Nat} {As : List Value} {host : String} {r1 : gRH} (hM : gMOk mi) (hin : mi.1.name = "<init>" ∧ Cond.instanceMethod mi.1 ∈ gW0) (hrn : mi.2.2.2.1 = none) (hav : av = .ref c0 :: As) (hlen : As.length = mi.2.2.2.2) (hd : decode cc pc = .ok (.invokespecial idx, 3)) (hlnk : Cond.methodLinkNest own idx mi.1 host ∈ gWN) (hcal : Cal e mi d0 cm sm true w.1 av r x none n' r1 x') (hd0 : d0 + 1 ≤ d) (hst : st = av.reverse ++ rest) (hrest : gWt rest ≤ 8) (hroom : w.2.1 + cm ≤ mc ∧ w.2.2 + sm ≤ ms) (hz1 : n0 + w.2.1 = w.1) (hz2 : gSz C (eB e + n0)) (hr : r1 = r') (hq : pc + 3 = q) (hw : (n', w.2.1 + cm, w.2.2 + sm) = w') (kk : KW e C w' q lv rest r' x') : KW e C w pc lv st r x := by
  subst hw hr
  exact k_callIN hC hM hin hrn hav hlen hd hlnk hcal hd0 hst hrest hroom (fun _ => ⟨n0, hz1, hz2⟩) rfl hq kk
end
theorem wOb1 : Cond.instanceMethod Lib.objectInit ∈ gW0 := gW0_mem (gt_1 (List.mem_of_getElem? (i := 34) (by decide +kernel))) rfl
theorem wOb2 : Cond.code Lib.objectInit ⟨#[0xb1]⟩ 1 none ∈ gW0 := gW0_mem (gt_1 (List.mem_of_getElem? (i := 35) (by decide +kernel))) rfl
theorem lko_X9 : Cond.methodLink RX9 1 Lib.objectInit ∈ gW0 := gW0_mem (gt_1 (List.mem_of_getElem? (i := 33) (by decide +kernel))) rfl
theorem lko_X0 : Cond.methodLink RX0 3 Lib.objectInit ∈ gW0 := gW0_mem (gt_1 (List.mem_of_getElem? (i := 41) (by decide +kernel))) rfl
theorem lko_X7 : Cond.methodLink RX7 3 Lib.objectInit ∈ gW0 := gW0_mem (gt_1 (List.mem_of_getElem? (i := 60) (by decide +kernel))) rfl
theorem lko_X6 : Cond.methodLink RX6 3 Lib.objectInit ∈ gW0 := gW0_mem (gt_1 (List.mem_of_getElem? (i := 89) (by decide +kernel))) rfl
theorem lko_X5 : Cond.methodLink RX5 3 Lib.objectInit ∈ gW0 := gW0_mem (gt_1 (List.mem_of_getElem? (i := 142) (by decide +kernel))) rfl
theorem lko_X1 : Cond.methodLink RX1 3 Lib.objectInit ∈ gW0 := gW0_mem (gt_1 (List.mem_of_getElem? (i := 159) (by decide +kernel))) rfl
theorem lko_X8 : Cond.methodLink RX8 3 Lib.objectInit ∈ gW0 := gW0_mem (gt_1 (List.mem_of_getElem? (i := 184) (by decide +kernel))) rfl
theorem lko_X3 : Cond.methodLink RX3 3 Lib.objectInit ∈ gW0 := gW0_mem (gt_1 (List.mem_of_getElem? (i := 190) (by decide +kernel))) rfl
theorem lko_X4 : Cond.methodLink RX4 3 Lib.objectInit ∈ gW0 := gW0_mem (gt_1 (List.mem_of_getElem? (i := 224) (by decide +kernel))) rfl
theorem lko_X2 : Cond.methodLink RX2 3 Lib.objectInit ∈ gW0 := gW0_mem (gt_1 (List.mem_of_getElem? (i := 239) (by decide +kernel))) rfl
theorem lko_X10 : Cond.methodLink RX10 7 Lib.objectInit ∈ gW0 := gW0_mem (gt_6 (List.mem_of_getElem? (i := 34) (by decide +kernel))) rfl
theorem wAO : Cond.arrayOver (.object RX6) ∈ gWN := gWN_mem (gt_1 (List.mem_of_getElem? (i := 144) (by decide +kernel))) rfl
theorem nl_X9_7 : NLk RX9 7 0 := ⟨by decide, rfl, rfl, tyX0_ok, ul_X0, cl_X9_7, in_X0, ini_X0⟩
theorem nl_X9_21 : NLk RX9 21 7 := ⟨by decide, rfl, rfl, tyX7_ok, ul_X7, cl_X9_21, in_X7, ini_X7⟩
theorem nl_X9_30 : NLk RX9 30 6 := ⟨by decide, rfl, rfl, tyX6_ok, ul_X6, cl_X9_30, in_X6, ini_X6⟩
theorem nl_X9_43 : NLk RX9 43 5 := ⟨by decide, rfl, rfl, tyX5_ok, ul_X5, cl_X9_43, in_X5, ini_X5⟩
theorem nl_X5_9 : NLk RX5 9 6 := ⟨by decide, rfl, rfl, tyX6_ok, ul_X6, cl_X5_9, in_X6, ini_X6⟩
theorem nl_X9_50 : NLk RX9 50 1 := ⟨by decide, rfl, rfl, tyX1_ok, ul_X1, cl_X9_50, in_X1, ini_X1⟩
theorem nl_X9_57 : NLk RX9 57 8 := ⟨by decide, rfl, rfl, tyX8_ok, ul_X8, cl_X9_57, in_X8, ini_X8⟩
theorem nl_X8_9 : NLk RX8 9 3 := ⟨by decide, rfl, rfl, tyX3_ok, ul_X3, cl_X8_9, in_X3, ini_X3⟩
theorem nl_X8_31 : NLk RX8 31 4 := ⟨by decide, rfl, rfl, tyX4_ok, ul_X4, cl_X8_31, in_X4, ini_X4⟩
theorem nl_X8_38 : NLk RX8 38 2 := ⟨by decide, rfl, rfl, tyX2_ok, ul_X2, cl_X8_38, in_X2, ini_X2⟩
theorem nl_X8_45 : NLk RX8 45 1 := ⟨by decide, rfl, rfl, tyX1_ok, ul_X1, cl_X8_45, in_X1, ini_X1⟩
def rl : List (Nat × Nat × Nat) → gRH → gRH
  | [], r => r
  | (c, j, v) :: l, r => up2 (rl l r) c j (some v)
theorem Dead.rl {n0 n : Nat} {r : gRH} {x : gXW} (h : Dead n0 r x) (hn : n0 ≤ n) (L : List (Nat × Nat × Nat)) (hL : (L.all (fun p => decide (p.1 < n))) = true) : Dead n (rl L r) x := by
  induction L with
  | nil => exact h.mono hn
  | cons p L ih =>
    obtain ⟨c, j, v⟩ := p
    simp only [List.all_cons, Bool.and_eq_true, decide_eq_true_eq] at hL
    exact (ih hL.2).up hL.1
theorem rl_far {L : List (Nat × Nat × Nat)} {r0 : gRH} {M : Nat} (hL : (L.all (fun p => decide (p.2.1 < M))) = true) {c j : Nat} (hj : M ≤ j) : rl L r0 c j = r0 c j := by
  induction L with
  | nil => rfl
  | cons p L ih =>
    obtain ⟨c', j', v⟩ := p
    simp only [List.all_cons, Bool.and_eq_true, decide_eq_true_eq] at hL
    have h1 : ¬ (c = c' ∧ j = j') := by omega
    simp only [rl, up2, if_neg h1]
    exact ih hL.2
theorem RR_far {fa tr : Nat} {pm : Nat → Nat} {c j : Nat} (hj : 43 ≤ j) : RR fa tr pm c j = none := by
  unfold RR
  rw [if_neg (by omega), if_neg (by omega)]
  by_cases h : c = 20
  · rw [if_pos h, if_neg (by omega)]
  · rw [if_neg h]
    have hl : ∀ l ∈ gRT, l.length ≤ 42 := by decide +kernel
    by_cases hc : c < gRT.length
    · have h2 := hl _ (List.getElem_mem hc)
      simp only [List.getD_eq_getElem?_getD, List.getElem?_eq_getElem hc, Option.getD_some]
      rw [List.getElem?_eq_none (by omega)]
      rfl
    · simp [List.getD_eq_getElem?_getD, List.getElem?_eq_none (Nat.le_of_not_lt hc)]
theorem RR_hi {fa tr : Nat} {pm : Nat → Nat} {c j : Nat} (hc : 99 ≤ c) : RR fa tr pm c j = none := by
  unfold RR
  rw [if_neg (by omega), if_neg (by omega), if_neg (by omega)]
  by_cases h : c = 99
  · subst h
    rfl
  · have hl : gRT.length ≤ 100 := by decide +kernel
    simp [List.getD_eq_getElem?_getD, List.getElem?_eq_none (show gRT.length ≤ c by omega)]
/-- the reference table up to the cell n -/
def rm (fa tr : Nat) (pm : Nat → Nat) (n : Nat) : gRH := fun c j => if c < n then RR fa tr pm c j else none
theorem rl_RR {L : List (Nat × Nat × Nat)} {n0 n : Nat} (h1 : (L.all (fun p => decide (p.2.1 < 43))) = true) (h2 : ∀ c, c < n → ∀ j, j < 43 → rl L (rm 71 76 pm0 n0) c j = RR 71 76 pm0 c j) : ∀ c, c < n → RR 71 76 pm0 c = rl L (rm 71 76 pm0 n0) c := by
  intro c hc
  funext j
  by_cases hj : j < 43
  · exact (h2 c hc j hj).symm
  · rw [rl_far h1 (Nat.le_of_not_lt hj), RR_far (Nat.le_of_not_lt hj)]
    unfold rm
    split
    · rw [RR_far (Nat.le_of_not_lt hj)]
    · rfl
theorem RR_any {fa tr : Nat} {pm : Nat → Nat} {c j : Nat} (h : c ≠ 54) (h2 : c ≠ 20) : RR fa tr pm c j = RR 71 76 pm0 c j := by simp [RR, h, h2]
theorem rl_low {L : List (Nat × Nat × Nat)} {r0 : gRH} {M : Nat} (hL : (L.all (fun p => decide (M ≤ p.1))) = true) {c : Nat} (hc : c < M) : rl L r0 c = r0 c := by
  induction L with
  | nil => rfl
  | cons p L ih =>
    obtain ⟨c', j', v⟩ := p
    simp only [List.all_cons, Bool.and_eq_true, decide_eq_true_eq] at hL
    exact (up2_ne (by omega)).trans (ih hL.2)
theorem rl_same {L : List (Nat × Nat × Nat)} {r0 r1 : gRH} {c j : Nat} (h : r0 c j = r1 c j) : rl L r0 c j = rl L r1 c j := by
  induction L with
  | nil => exact h
  | cons p L ih =>
    obtain ⟨c', j', v⟩ := p
    simp only [rl, up2]
    split
    · rfl
    · exact ih
theorem rl_RRm {fa tr : Nat} {pm : Nat → Nat} {L : List (Nat × Nat × Nat)} (h0 : (L.all (fun p => decide (81 ≤ p.1))) = true) (h1 : (L.all (fun p => decide (p.2.1 < 43))) = true) (h2 : ∀ c, c < 18 → ∀ j, j < 43 → rl L (fun _ _ => none) (81 + c) j = RR 71 76 pm0 (81 + c) j) : ∀ c, c < 99 → RR fa tr pm c = rl L (rm fa tr pm 81) c := by
  intro c hc
  by_cases h81 : c < 81
  · rw [rl_low h0 h81]
    funext j
    simp [rm, h81]
  · funext j
    have hz : rm fa tr pm 81 c j = none := by simp [rm, h81]
    by_cases hj : j < 43
    · rw [RR_any (by omega) (by omega), rl_same (r1 := fun _ _ => none) hz]
      have h3 := h2 (c - 81) (by omega) j hj
      rw [show 81 + (c - 81) = c by omega] at h3
      exact h3.symm
    · rw [rl_far h1 (Nat.le_of_not_lt hj), hz, RR_far (Nat.le_of_not_lt hj)]
theorem lp_inv {σ ρ : Type} {step : σ → Option (σ ⊕ ρ)} {I : σ → Prop} {P : ρ → Prop} (hb : ∀ s o, I s → step s = some o → Sum.elim I P o) (k : Nat) (s : σ) (y : ρ) (hI : I s) (h : lp step k s = some y) : P y :=
  lp_ind (KH := fun s => I s → P y) (KX := fun y' => P y' → P y) (fun s o ho hk hs => by
    have h1 := hb s o hs ho
    cases o with
    | inl s' => exact hk h1
    | inr y' => exact hk h1) k s y h id hI
theorem rs_fill {c0 L0 : Nat} {xc o : gXH} {a : Int32} (h : f_J7_fill_53178 c0 L0 xc a = some o) : ∀ c, c0 < c → o.1 c = xc.1 c ∧ o.2 c = xc.2 c := by
  unfold f_J7_fill_53178 at h
  obtain ⟨v1, ev1, h⟩ := lt_i h
  obtain ⟨y6, hy6, h⟩ := bnd h
  cases h
  refine lp_inv (I := fun s2 => ∀ c, c0 < c → s2.2.1 c = xc.1 c ∧ s2.2.2 c = xc.2 c) (P := fun y6 => ∀ c, c0 < c → y6.1 c = xc.1 c ∧ y6.2 c = xc.2 c) (fun s2 o1 hI hs => ?_) _ _ _ (fun c _ => ⟨rfl, rfl⟩) hy6
  unfold f_J7_fill_53178_L5 at hs
  by_cases hc : v1 ≤ s2.1
  · rw [if_pos hc] at hs
    cases hs
    exact hI
  · rw [if_neg hc] at hs
    obtain ⟨hin, hs⟩ := gck_some hs
    obtain ⟨x4, ex4, hs⟩ := lt_i hs
    obtain ⟨v5, ev5, hs⟩ := lt_i hs
    cases hs
    intro c hc
    have h1 := hI c hc
    subst ex4
    exact ⟨(up2_ne (by omega)).trans h1.1, h1.2⟩
theorem rs_reset {g : Nat} {xc o : gXH} {a : Int32} (h : f_X6_reset g xc a = some o) : ∀ c, g + 4 ≤ c → o.1 c = xc.1 c ∧ o.2 c = xc.2 c := by
  unfold f_X6_reset at h
  obtain ⟨x1, e1, h⟩ := lt_i h
  obtain ⟨x2, e2, h⟩ := lt_i h
  obtain ⟨x3, e3, h⟩ := lt_i h
  obtain ⟨x4, e4, h⟩ := lt_i h
  obtain ⟨x5, e5, h⟩ := lt_i h
  obtain ⟨y6, h6, h⟩ := bnd h
  cases h
  intro c hc
  have h1 := rs_fill h6 c (by omega)
  subst e1 e2 e3 e4 e5
  have hg : c ≠ g := by omega
  simpa [sI, sL, up2_ne hg] using h1
set_option maxRecDepth 100000 in
set_option maxHeartbeats 8000000 in
theorem cq_fill (e : gEV) (n : Nat) (c0 L0 : Nat) (hc0 : kdn n c0 = some (0, .inr (0, L0))) (r : gRH) (xc : gXH) (z : gIH × gLH) (a1 : Int32) (o : gXH) (hf : f_J7_fill_53178 c0 L0 xc a1 = some o) : Cal e qJ7_fill_53178 1 0 0 false n [.ref c0, .int a1] r (xc, z) none n r (o, z) := by
  refine cal_of oJ7_fill_53178 (lv := [some (.ref c0), some (.int a1), none, none]) (fun v hv => by simp at hv; rcases hv with rfl | rfl <;> rfl) (Nat.le_of_ble_eq_true rfl) rfl (fun C hC hQ _ => ?_)
  unfold f_J7_fill_53178 at hf
  refine k_iconst (q := 1) (v := (0 : Int32)) hC dJ7_fill_53178_0 (by decide) rfl ?_
  refine k_istore_n (q := 2) (lv' := [some (.ref c0), some (.int a1), some (.int (0 : Int32)), none]) hC dJ7_fill_53178_1 (by decide) rfl rfl ?_
  refine k_aload_n (q := 3) hC dJ7_fill_53178_2 rfl rfl ?_
  refine k_alen (q := 4) (y := (Int32.ofNat L0)) hC dJ7_fill_53178_3 hc0 (fun _ => rfl) rfl rfl ?_
  obtain ⟨v1, ev1, hf⟩ := lt_i hf
  refine k_topi ev1 ?_
  refine k_istore_n (q := 5) (lv' := [some (.ref c0), some (.int a1), some (.int (0 : Int32)), some (.int v1)]) hC dJ7_fill_53178_4 (by decide) rfl rfl ?_
  obtain ⟨y6, hy6, hf⟩ := bnd hf
  refine lp_ind (KH := fun s2 => KW e C (n, 0, 0) 5 [some (.ref c0), some (.int a1), some (.int s2.1), some (.int v1)] [] (r) (s2.2, z)) (KX := (fun y6 => KW e C (n, 0, 0) 20 [none, none, none, none] [] (r) (y6, z))) (fun s2 o1 hf hk => ?_) _ _ _ hy6 ?_
  · unfold f_J7_fill_53178_L5 at hf
    refine k_iload_n (q := 6) hC dJ7_fill_53178_5 rfl rfl ?_
    refine k_iload_n (q := 7) hC dJ7_fill_53178_6 rfl rfl ?_
    refine k_icmp_ge (q := 10) (tgt := 20) hC dJ7_fill_53178_7 (by decide) rfl (fun hc => ?_) (fun hc => ?_)
    · have hf := itl hc hf
      refine k_lv (lv' := [none, none, none, none]) (LSub.ok (show LSub _ _ from trivial)) ?_
      cases hf
      exact hk
    · have hf := itr hc hf
      refine k_aload_n (q := 11) hC dJ7_fill_53178_10 rfl rfl ?_
      refine k_iload_n (q := 12) hC dJ7_fill_53178_11 rfl rfl ?_
      refine k_iload_n (q := 13) hC dJ7_fill_53178_12 rfl rfl ?_
      obtain ⟨hin, hf⟩ := gck_some hf
      obtain ⟨x4, ex4, hf⟩ := lt_i hf
      refine k_iast (q := 14) hC dJ7_fill_53178_13 hc0 hin rfl ?_
      refine k_hc ex4 ?_
      obtain ⟨v5, ev5, hf⟩ := lt_i hf
      refine k_iinc (q := 17) (v := (1 : Int32)) (lv' := [some (.ref c0), some (.int a1), some (.int v5), some (.int v1)]) hC dJ7_fill_53178_14 (by decide) rfl (by decide) (by rw [← ev5]; rfl) rfl ?_
      refine k_goto (tgt := 5) hC dJ7_fill_53178_17 (by decide) ?_
      cases hf
      exact hk
  · skip
    cases hf
    exact k_vret hC hQ rfl dJ7_fill_53178_20
set_option maxRecDepth 100000 in
set_option maxHeartbeats 8000000 in
theorem cq_reset (e : gEV) (n : Nat) (g0 : Nat) (hk0 : kdn n g0 = some (0, .inl 6)) (hk3 : kdn n (g0 + 3) = some (0, .inr (0, 16))) (r : gRH) (hr2 : r g0 2 = some (g0 + 3)) (xc : gXH) (z : gIH × gLH) (a1 : Int32) (o : gXH) (hf : f_X6_reset g0 xc a1 = some o) : Cal e qX6_reset 2 0 0 false n [.ref g0, .int a1] r (xc, z) none n r (o, z) := by
  refine cal_of oX6_reset (lv := [some (.ref g0), some (.int a1)]) (fun v hv => by simp at hv; rcases hv with rfl | rfl <;> rfl) (Nat.le_of_ble_eq_true rfl) rfl (fun C hC hQ _ => ?_)
  unfold f_X6_reset at hf
  refine k_aload_n (q := 1) hC dX6_reset_0 rfl rfl ?_
  refine k_iload_n (q := 2) hC dX6_reset_1 rfl rfl ?_
  obtain ⟨x1, ex1, hf⟩ := lt_i hf
  refine k_putI (q := 5) hC fl_X6_25 rfl dX6_reset_2 hk0 (fun _ _ _ => rfl) rfl rfl rfl ?_
  refine k_hc ex1 ?_
  refine k_aload_n (q := 6) hC dX6_reset_5 rfl rfl ?_
  refine k_iconst (q := 7) (v := (0 : Int32)) hC dX6_reset_6 (by decide) rfl ?_
  obtain ⟨x2, ex2, hf⟩ := lt_i hf
  refine k_putI (q := 10) hC fl_X6_29 rfl dX6_reset_7 hk0 (fun _ _ _ => rfl) rfl rfl rfl ?_
  refine k_hc ex2 ?_
  refine k_aload_n (q := 11) hC dX6_reset_10 rfl rfl ?_
  refine k_iload_n (q := 12) hC dX6_reset_11 rfl rfl ?_
  refine k_iconst (q := 13) (v := (1 : Int32)) hC dX6_reset_12 (by decide) rfl ?_
  refine k_isub (q := 14) hC dX6_reset_13 rfl ?_
  obtain ⟨x3, ex3, hf⟩ := lt_i hf
  refine k_putI (q := 17) hC fl_X6_32 rfl dX6_reset_14 hk0 (fun _ _ _ => rfl) rfl rfl rfl ?_
  refine k_hc ex3 ?_
  refine k_aload_n (q := 18) hC dX6_reset_17 rfl rfl ?_
  refine k_iconst (q := 19) (v := (0 : Int32)) hC dX6_reset_18 (by decide) rfl ?_
  obtain ⟨x4, ex4, hf⟩ := lt_i hf
  refine k_putI (q := 22) hC fl_X6_35 rfl dX6_reset_19 hk0 (fun _ _ _ => rfl) rfl rfl rfl ?_
  refine k_hc ex4 ?_
  refine k_aload_n (q := 23) hC dX6_reset_22 rfl rfl ?_
  refine k_lconst (q := 24) (v := (0 : Int64)) hC dX6_reset_23 (by decide) rfl ?_
  obtain ⟨x5, ex5, hf⟩ := lt_i hf
  refine k_putL (q := 27) hC fl_X6_38 rfl dX6_reset_24 hk0 rfl rfl ?_
  refine k_hc ex5 ?_
  refine k_aload_n (q := 28) hC dX6_reset_27 rfl rfl ?_
  refine k_getR (q := 31) hC fl_X6_18 dX6_reset_28 hk0 (fun _ _ _ => rfl) hr2 rfl ?_
  refine k_iconst (q := 32) (v := (1 : Int32)) hC dX6_reset_31 (by decide) rfl ?_
  obtain ⟨y6, hy6, hf⟩ := bnd hf
  refine k_cS0 (q := 35) (av := [.ref (g0 + 3), .int (1 : Int32)]) hC oJ7_fill_53178 sJ7_fill_53178 rfl dX6_reset_32 lk_X6_42 (cq_fill e n (g0 + 3) 16 hk3 (r) x5 z (1 : Int32) y6 hy6) (by decide) rfl (Nat.le_of_ble_eq_true rfl) ab0 rfl ?_
  cases hf
  exact k_vret hC hQ rfl dX6_reset_35
set_option maxRecDepth 100000 in
set_option maxHeartbeats 8000000 in
theorem n_X0_1 (e : gEV) (r : gRH) (xc : gXH) (z : gIH × gLH) (hD : Dead 2 r (xc, z)) : Cal e qX0_init 1 1 400 true 2 [.ref 1, .int (400 : Int32)] r (xc, z) none 3 (rl [(1, 0, 2)] r) (xc, z) := by
  refine cal_ofI oX0_init rfl (lv := [some (.ref 1), some (.int (400 : Int32))]) (fun v hv => by simp at hv; rcases hv with rfl | rfl <;> rfl) (Nat.le_of_ble_eq_true rfl) rfl (fun C hC hQ hsz hI => ?_)
  have hsz := hsz rfl
  refine k_aload_n (q := 1) hC dX0_init_0 rfl rfl ?_
  refine k_objI (q := 4) hC lko_X0 wOb1 wOb2 dX0_init_1 (by decide) (by decide) rfl ?_
  refine k_aload_n (q := 5) hC dX0_init_4 rfl rfl ?_
  refine k_iconst (q := 6) (v := (0 : Int32)) hC dX0_init_5 (by decide) rfl ?_
  refine k_iload_n (q := 7) hC dX0_init_6 rfl rfl ?_
  refine k_mmax (q := 10) hC (by decide) (Nat.le_of_ble_eq_true rfl) (by decide) lkm_X0_9 sMath_max iMath oMath_max dX0_init_7 rfl ?_
  refine k_topi (y' := (400 : Int32)) (by decide) ?_
  refine k_newa (q := 12) (w' := (3, 1, 400)) (at0 := .int) hC rfl ac_int (fun _ => rfl) (by decide) rfl (by decide) (by decide) (by decide) dX0_init_10 (by decide) hsz (hD.mono (by decide)) (by decide) rfl rfl ?_
  refine k_putFR (q := 15) (r' := (rl [(1, 0, 2)] r)) hC hI fl_X0_15 rfl rfl dX0_init_12 (kdn_of (show 1 < 3 by decide) rfl) (fun _ _ _ => rfl) rfl rfl rfl rfl ?_
  exact k_vret hC hQ rfl dX0_init_15
set_option maxRecDepth 100000 in
set_option maxHeartbeats 8000000 in
theorem n_X0_3 (e : gEV) (r : gRH) (xc : gXH) (z : gIH × gLH) (hD : Dead 4 r (xc, z)) : Cal e qX0_init 1 1 64 true 4 [.ref 3, .int (64 : Int32)] r (xc, z) none 5 (rl [(3, 0, 4)] r) (xc, z) := by
  refine cal_ofI oX0_init rfl (lv := [some (.ref 3), some (.int (64 : Int32))]) (fun v hv => by simp at hv; rcases hv with rfl | rfl <;> rfl) (Nat.le_of_ble_eq_true rfl) rfl (fun C hC hQ hsz hI => ?_)
  have hsz := hsz rfl
  refine k_aload_n (q := 1) hC dX0_init_0 rfl rfl ?_
  refine k_objI (q := 4) hC lko_X0 wOb1 wOb2 dX0_init_1 (by decide) (by decide) rfl ?_
  refine k_aload_n (q := 5) hC dX0_init_4 rfl rfl ?_
  refine k_iconst (q := 6) (v := (0 : Int32)) hC dX0_init_5 (by decide) rfl ?_
  refine k_iload_n (q := 7) hC dX0_init_6 rfl rfl ?_
  refine k_mmax (q := 10) hC (by decide) (Nat.le_of_ble_eq_true rfl) (by decide) lkm_X0_9 sMath_max iMath oMath_max dX0_init_7 rfl ?_
  refine k_topi (y' := (64 : Int32)) (by decide) ?_
  refine k_newa (q := 12) (w' := (5, 1, 64)) (at0 := .int) hC rfl ac_int (fun _ => rfl) (by decide) rfl (by decide) (by decide) (by decide) dX0_init_10 (by decide) hsz (hD.mono (by decide)) (by decide) rfl rfl ?_
  refine k_putFR (q := 15) (r' := (rl [(3, 0, 4)] r)) hC hI fl_X0_15 rfl rfl dX0_init_12 (kdn_of (show 3 < 5 by decide) rfl) (fun _ _ _ => rfl) rfl rfl rfl rfl ?_
  exact k_vret hC hQ rfl dX0_init_15
set_option maxRecDepth 100000 in
set_option maxHeartbeats 8000000 in
theorem n_X7_5 (e : gEV) (r : gRH) (xc : gXH) (z : gIH × gLH) (hD : Dead 6 r (xc, z)) : Cal e qX7_init 1 1 400 true 6 [.ref 5, .ref 1] r (xc, z) none 7 (rl [(5, 0, 1), (5, 1, 6)] r) (xc, z) := by
  refine cal_ofI oX7_init rfl (lv := [some (.ref 5), some (.ref 1)]) (fun v hv => by simp at hv; rcases hv with rfl | rfl <;> rfl) (Nat.le_of_ble_eq_true rfl) rfl (fun C hC hQ hsz hI => ?_)
  have hsz := hsz rfl
  refine k_aload_n (q := 1) hC dX7_init_0 rfl rfl ?_
  refine k_objI (q := 4) hC lko_X7 wOb1 wOb2 dX7_init_1 (by decide) (by decide) rfl ?_
  refine k_aload_n (q := 5) hC dX7_init_4 rfl rfl ?_
  refine k_sipush (q := 8) (v := (400 : Int32)) hC dX7_init_5 (by decide) rfl ?_
  refine k_newa (q := 10) (w' := (7, 1, 400)) (at0 := .int) hC rfl ac_int (fun _ => rfl) (by decide) rfl (by decide) (by decide) (by decide) dX7_init_8 (by decide) hsz (hD.mono (by decide)) (by decide) rfl rfl ?_
  refine k_putFR (q := 13) (r' := (rl [(5, 1, 6)] r)) hC hI fl_X7_9 rfl rfl dX7_init_10 (kdn_of (show 5 < 7 by decide) rfl) (fun _ _ _ => rfl) rfl rfl rfl rfl ?_
  refine k_aload_n (q := 14) hC dX7_init_13 rfl rfl ?_
  refine k_aload_n (q := 15) hC dX7_init_14 rfl rfl ?_
  refine k_putFR (q := 18) (r' := (rl [(5, 0, 1), (5, 1, 6)] r)) hC hI fl_X7_15 rfl rfl dX7_init_15 (kdn_of (show 5 < 7 by decide) rfl) (fun _ _ _ => rfl) rfl rfl rfl rfl ?_
  exact k_vret hC hQ rfl dX7_init_18
def f_n6_7 (xc : gXH) : Option gXH := f_X6_reset 7 xc (8 : Int32)
theorem rs_n6_7 {xc o : gXH} (h : f_n6_7 xc = some o) : ∀ c, 11 ≤ c → o.1 c = xc.1 c ∧ o.2 c = xc.2 c := fun c hc => rs_reset h c hc
set_option maxRecDepth 100000 in
set_option maxHeartbeats 8000000 in
theorem n_X6_7 (e : gEV) (r : gRH) (xc : gXH) (z : gIH × gLH) (hD : Dead 8 r (xc, z)) (o : gXH) (hf : f_n6_7 xc = some o) : Cal e qX6_init 3 3 136 true 8 [.ref 7] r (xc, z) none 11 (rl [(7, 2, 10), (7, 1, 9), (7, 0, 8)] r) (o, z) := by
  refine cal_ofI oX6_init rfl (lv := [some (.ref 7)]) (fun v hv => by simp at hv; subst hv; rfl) (Nat.le_of_ble_eq_true rfl) rfl (fun C hC hQ hsz hI => ?_)
  have hsz := hsz rfl
  unfold f_n6_7 at hf
  refine k_aload_n (q := 1) hC dX6_init_0 rfl rfl ?_
  refine k_objI (q := 4) hC lko_X6 wOb1 wOb2 dX6_init_1 (by decide) (by decide) rfl ?_
  refine k_aload_n (q := 5) hC dX6_init_4 rfl rfl ?_
  refine k_bipush (q := 7) (v := (60 : Int32)) hC dX6_init_5 (by decide) rfl ?_
  refine k_newa (q := 9) (w' := (9, 1, 60)) (at0 := .int) hC rfl ac_int (fun _ => rfl) (by decide) rfl (by decide) (by decide) (by decide) dX6_init_7 (by decide) hsz (hD.mono (by decide)) (by decide) rfl rfl ?_
  refine k_putFR (q := 12) (r' := (rl [(7, 0, 8)] r)) hC hI fl_X6_9 rfl rfl dX6_init_9 (kdn_of (show 7 < 9 by decide) rfl) (fun _ _ _ => rfl) rfl rfl rfl rfl ?_
  refine k_aload_n (q := 13) hC dX6_init_12 rfl rfl ?_
  refine k_bipush (q := 15) (v := (60 : Int32)) hC dX6_init_13 (by decide) rfl ?_
  refine k_newa (q := 17) (w' := (10, 2, 120)) (at0 := .int) hC rfl ac_int (fun _ => rfl) (by decide) rfl (by decide) (by decide) (by decide) dX6_init_15 (by decide) hsz (Dead.rl hD (by decide) [(7, 0, 8)] (by decide +kernel)) (by decide) rfl rfl ?_
  refine k_putFR (q := 20) (r' := (rl [(7, 1, 9), (7, 0, 8)] r)) hC hI fl_X6_15 rfl rfl dX6_init_17 (kdn_of (show 7 < 10 by decide) rfl) (fun _ _ _ => rfl) rfl rfl rfl rfl ?_
  refine k_aload_n (q := 21) hC dX6_init_20 rfl rfl ?_
  refine k_bipush (q := 23) (v := (16 : Int32)) hC dX6_init_21 (by decide) rfl ?_
  refine k_newa (q := 25) (w' := (11, 3, 136)) (at0 := .int) hC rfl ac_int (fun _ => rfl) (by decide) rfl (by decide) (by decide) (by decide) dX6_init_23 (by decide) hsz (Dead.rl hD (by decide) [(7, 1, 9), (7, 0, 8)] (by decide +kernel)) (by decide) rfl rfl ?_
  refine k_putFR (q := 28) (r' := (rl [(7, 2, 10), (7, 1, 9), (7, 0, 8)] r)) hC hI fl_X6_18 rfl rfl dX6_init_25 (kdn_of (show 7 < 11 by decide) rfl) (fun _ _ _ => rfl) rfl rfl rfl rfl ?_
  refine k_aload_n (q := 29) hC dX6_init_28 rfl rfl ?_
  refine k_bipush (q := 31) (v := (8 : Int32)) hC dX6_init_29 (by decide) rfl ?_
  refine k_cV0 (q := 34) (c0 := 7) (As := [.int (8 : Int32)]) hC oX6_reset vX6_reset rfl (kdn_of (show 7 < 11 by decide) rfl) rfl rfl dX6_init_31 lk_X6_21 (cq_reset e 11 7 (kdn_of (by decide) rfl) (kdn_of (by decide) rfl) (rl [(7, 2, 10), (7, 1, 9), (7, 0, 8)] r) rfl xc z (8 : Int32) o hf) (by decide) rfl (Nat.le_of_ble_eq_true rfl) (by decide) rfl ?_
  exact k_vret hC hQ rfl dX6_init_34
def f_n6_11 (xc : gXH) : Option gXH := f_X6_reset 11 xc (8 : Int32)
theorem rs_n6_11 {xc o : gXH} (h : f_n6_11 xc = some o) : ∀ c, 15 ≤ c → o.1 c = xc.1 c ∧ o.2 c = xc.2 c := fun c hc => rs_reset h c hc
set_option maxRecDepth 100000 in
set_option maxHeartbeats 8000000 in
theorem n_X6_11 (e : gEV) (r : gRH) (xc : gXH) (z : gIH × gLH) (hD : Dead 12 r (xc, z)) (o : gXH) (hf : f_n6_11 xc = some o) : Cal e qX6_init 3 3 136 true 12 [.ref 11] r (xc, z) none 15 (rl [(11, 2, 14), (11, 1, 13), (11, 0, 12)] r) (o, z) := by
  refine cal_ofI oX6_init rfl (lv := [some (.ref 11)]) (fun v hv => by simp at hv; subst hv; rfl) (Nat.le_of_ble_eq_true rfl) rfl (fun C hC hQ hsz hI => ?_)
  have hsz := hsz rfl
  unfold f_n6_11 at hf
  refine k_aload_n (q := 1) hC dX6_init_0 rfl rfl ?_
  refine k_objI (q := 4) hC lko_X6 wOb1 wOb2 dX6_init_1 (by decide) (by decide) rfl ?_
  refine k_aload_n (q := 5) hC dX6_init_4 rfl rfl ?_
  refine k_bipush (q := 7) (v := (60 : Int32)) hC dX6_init_5 (by decide) rfl ?_
  refine k_newa (q := 9) (w' := (13, 1, 60)) (at0 := .int) hC rfl ac_int (fun _ => rfl) (by decide) rfl (by decide) (by decide) (by decide) dX6_init_7 (by decide) hsz (hD.mono (by decide)) (by decide) rfl rfl ?_
  refine k_putFR (q := 12) (r' := (rl [(11, 0, 12)] r)) hC hI fl_X6_9 rfl rfl dX6_init_9 (kdn_of (show 11 < 13 by decide) rfl) (fun _ _ _ => rfl) rfl rfl rfl rfl ?_
  refine k_aload_n (q := 13) hC dX6_init_12 rfl rfl ?_
  refine k_bipush (q := 15) (v := (60 : Int32)) hC dX6_init_13 (by decide) rfl ?_
  refine k_newa (q := 17) (w' := (14, 2, 120)) (at0 := .int) hC rfl ac_int (fun _ => rfl) (by decide) rfl (by decide) (by decide) (by decide) dX6_init_15 (by decide) hsz (Dead.rl hD (by decide) [(11, 0, 12)] (by decide +kernel)) (by decide) rfl rfl ?_
  refine k_putFR (q := 20) (r' := (rl [(11, 1, 13), (11, 0, 12)] r)) hC hI fl_X6_15 rfl rfl dX6_init_17 (kdn_of (show 11 < 14 by decide) rfl) (fun _ _ _ => rfl) rfl rfl rfl rfl ?_
  refine k_aload_n (q := 21) hC dX6_init_20 rfl rfl ?_
  refine k_bipush (q := 23) (v := (16 : Int32)) hC dX6_init_21 (by decide) rfl ?_
  refine k_newa (q := 25) (w' := (15, 3, 136)) (at0 := .int) hC rfl ac_int (fun _ => rfl) (by decide) rfl (by decide) (by decide) (by decide) dX6_init_23 (by decide) hsz (Dead.rl hD (by decide) [(11, 1, 13), (11, 0, 12)] (by decide +kernel)) (by decide) rfl rfl ?_
  refine k_putFR (q := 28) (r' := (rl [(11, 2, 14), (11, 1, 13), (11, 0, 12)] r)) hC hI fl_X6_18 rfl rfl dX6_init_25 (kdn_of (show 11 < 15 by decide) rfl) (fun _ _ _ => rfl) rfl rfl rfl rfl ?_
  refine k_aload_n (q := 29) hC dX6_init_28 rfl rfl ?_
  refine k_bipush (q := 31) (v := (8 : Int32)) hC dX6_init_29 (by decide) rfl ?_
  refine k_cV0 (q := 34) (c0 := 11) (As := [.int (8 : Int32)]) hC oX6_reset vX6_reset rfl (kdn_of (show 11 < 15 by decide) rfl) rfl rfl dX6_init_31 lk_X6_21 (cq_reset e 15 11 (kdn_of (by decide) rfl) (kdn_of (by decide) rfl) (rl [(11, 2, 14), (11, 1, 13), (11, 0, 12)] r) rfl xc z (8 : Int32) o hf) (by decide) rfl (Nat.le_of_ble_eq_true rfl) (by decide) rfl ?_
  exact k_vret hC hQ rfl dX6_init_34
def f_n6_15 (xc : gXH) : Option gXH := f_X6_reset 15 xc (8 : Int32)
theorem rs_n6_15 {xc o : gXH} (h : f_n6_15 xc = some o) : ∀ c, 19 ≤ c → o.1 c = xc.1 c ∧ o.2 c = xc.2 c := fun c hc => rs_reset h c hc
set_option maxRecDepth 100000 in
set_option maxHeartbeats 8000000 in
theorem n_X6_15 (e : gEV) (r : gRH) (xc : gXH) (z : gIH × gLH) (hD : Dead 16 r (xc, z)) (o : gXH) (hf : f_n6_15 xc = some o) : Cal e qX6_init 3 3 136 true 16 [.ref 15] r (xc, z) none 19 (rl [(15, 2, 18), (15, 1, 17), (15, 0, 16)] r) (o, z) := by
  refine cal_ofI oX6_init rfl (lv := [some (.ref 15)]) (fun v hv => by simp at hv; subst hv; rfl) (Nat.le_of_ble_eq_true rfl) rfl (fun C hC hQ hsz hI => ?_)
  have hsz := hsz rfl
  unfold f_n6_15 at hf
  refine k_aload_n (q := 1) hC dX6_init_0 rfl rfl ?_
  refine k_objI (q := 4) hC lko_X6 wOb1 wOb2 dX6_init_1 (by decide) (by decide) rfl ?_
  refine k_aload_n (q := 5) hC dX6_init_4 rfl rfl ?_
  refine k_bipush (q := 7) (v := (60 : Int32)) hC dX6_init_5 (by decide) rfl ?_
  refine k_newa (q := 9) (w' := (17, 1, 60)) (at0 := .int) hC rfl ac_int (fun _ => rfl) (by decide) rfl (by decide) (by decide) (by decide) dX6_init_7 (by decide) hsz (hD.mono (by decide)) (by decide) rfl rfl ?_
  refine k_putFR (q := 12) (r' := (rl [(15, 0, 16)] r)) hC hI fl_X6_9 rfl rfl dX6_init_9 (kdn_of (show 15 < 17 by decide) rfl) (fun _ _ _ => rfl) rfl rfl rfl rfl ?_
  refine k_aload_n (q := 13) hC dX6_init_12 rfl rfl ?_
  refine k_bipush (q := 15) (v := (60 : Int32)) hC dX6_init_13 (by decide) rfl ?_
  refine k_newa (q := 17) (w' := (18, 2, 120)) (at0 := .int) hC rfl ac_int (fun _ => rfl) (by decide) rfl (by decide) (by decide) (by decide) dX6_init_15 (by decide) hsz (Dead.rl hD (by decide) [(15, 0, 16)] (by decide +kernel)) (by decide) rfl rfl ?_
  refine k_putFR (q := 20) (r' := (rl [(15, 1, 17), (15, 0, 16)] r)) hC hI fl_X6_15 rfl rfl dX6_init_17 (kdn_of (show 15 < 18 by decide) rfl) (fun _ _ _ => rfl) rfl rfl rfl rfl ?_
  refine k_aload_n (q := 21) hC dX6_init_20 rfl rfl ?_
  refine k_bipush (q := 23) (v := (16 : Int32)) hC dX6_init_21 (by decide) rfl ?_
  refine k_newa (q := 25) (w' := (19, 3, 136)) (at0 := .int) hC rfl ac_int (fun _ => rfl) (by decide) rfl (by decide) (by decide) (by decide) dX6_init_23 (by decide) hsz (Dead.rl hD (by decide) [(15, 1, 17), (15, 0, 16)] (by decide +kernel)) (by decide) rfl rfl ?_
  refine k_putFR (q := 28) (r' := (rl [(15, 2, 18), (15, 1, 17), (15, 0, 16)] r)) hC hI fl_X6_18 rfl rfl dX6_init_25 (kdn_of (show 15 < 19 by decide) rfl) (fun _ _ _ => rfl) rfl rfl rfl rfl ?_
  refine k_aload_n (q := 29) hC dX6_init_28 rfl rfl ?_
  refine k_bipush (q := 31) (v := (8 : Int32)) hC dX6_init_29 (by decide) rfl ?_
  refine k_cV0 (q := 34) (c0 := 15) (As := [.int (8 : Int32)]) hC oX6_reset vX6_reset rfl (kdn_of (show 15 < 19 by decide) rfl) rfl rfl dX6_init_31 lk_X6_21 (cq_reset e 19 15 (kdn_of (by decide) rfl) (kdn_of (by decide) rfl) (rl [(15, 2, 18), (15, 1, 17), (15, 0, 16)] r) rfl xc z (8 : Int32) o hf) (by decide) rfl (Nat.le_of_ble_eq_true rfl) (by decide) rfl ?_
  exact k_vret hC hQ rfl dX6_init_34
def f_n6_21 (xc : gXH) : Option gXH := f_X6_reset 21 xc (8 : Int32)
theorem rs_n6_21 {xc o : gXH} (h : f_n6_21 xc = some o) : ∀ c, 25 ≤ c → o.1 c = xc.1 c ∧ o.2 c = xc.2 c := fun c hc => rs_reset h c hc
set_option maxRecDepth 100000 in
set_option maxHeartbeats 8000000 in
theorem n_X6_21 (e : gEV) (r : gRH) (xc : gXH) (z : gIH × gLH) (hD : Dead 22 r (xc, z)) (o : gXH) (hf : f_n6_21 xc = some o) : Cal e qX6_init 3 3 136 true 22 [.ref 21] r (xc, z) none 25 (rl [(21, 2, 24), (21, 1, 23), (21, 0, 22)] r) (o, z) := by
  refine cal_ofI oX6_init rfl (lv := [some (.ref 21)]) (fun v hv => by simp at hv; subst hv; rfl) (Nat.le_of_ble_eq_true rfl) rfl (fun C hC hQ hsz hI => ?_)
  have hsz := hsz rfl
  unfold f_n6_21 at hf
  refine k_aload_n (q := 1) hC dX6_init_0 rfl rfl ?_
  refine k_objI (q := 4) hC lko_X6 wOb1 wOb2 dX6_init_1 (by decide) (by decide) rfl ?_
  refine k_aload_n (q := 5) hC dX6_init_4 rfl rfl ?_
  refine k_bipush (q := 7) (v := (60 : Int32)) hC dX6_init_5 (by decide) rfl ?_
  refine k_newa (q := 9) (w' := (23, 1, 60)) (at0 := .int) hC rfl ac_int (fun _ => rfl) (by decide) rfl (by decide) (by decide) (by decide) dX6_init_7 (by decide) hsz (hD.mono (by decide)) (by decide) rfl rfl ?_
  refine k_putFR (q := 12) (r' := (rl [(21, 0, 22)] r)) hC hI fl_X6_9 rfl rfl dX6_init_9 (kdn_of (show 21 < 23 by decide) rfl) (fun _ _ _ => rfl) rfl rfl rfl rfl ?_
  refine k_aload_n (q := 13) hC dX6_init_12 rfl rfl ?_
  refine k_bipush (q := 15) (v := (60 : Int32)) hC dX6_init_13 (by decide) rfl ?_
  refine k_newa (q := 17) (w' := (24, 2, 120)) (at0 := .int) hC rfl ac_int (fun _ => rfl) (by decide) rfl (by decide) (by decide) (by decide) dX6_init_15 (by decide) hsz (Dead.rl hD (by decide) [(21, 0, 22)] (by decide +kernel)) (by decide) rfl rfl ?_
  refine k_putFR (q := 20) (r' := (rl [(21, 1, 23), (21, 0, 22)] r)) hC hI fl_X6_15 rfl rfl dX6_init_17 (kdn_of (show 21 < 24 by decide) rfl) (fun _ _ _ => rfl) rfl rfl rfl rfl ?_
  refine k_aload_n (q := 21) hC dX6_init_20 rfl rfl ?_
  refine k_bipush (q := 23) (v := (16 : Int32)) hC dX6_init_21 (by decide) rfl ?_
  refine k_newa (q := 25) (w' := (25, 3, 136)) (at0 := .int) hC rfl ac_int (fun _ => rfl) (by decide) rfl (by decide) (by decide) (by decide) dX6_init_23 (by decide) hsz (Dead.rl hD (by decide) [(21, 1, 23), (21, 0, 22)] (by decide +kernel)) (by decide) rfl rfl ?_
  refine k_putFR (q := 28) (r' := (rl [(21, 2, 24), (21, 1, 23), (21, 0, 22)] r)) hC hI fl_X6_18 rfl rfl dX6_init_25 (kdn_of (show 21 < 25 by decide) rfl) (fun _ _ _ => rfl) rfl rfl rfl rfl ?_
  refine k_aload_n (q := 29) hC dX6_init_28 rfl rfl ?_
  refine k_bipush (q := 31) (v := (8 : Int32)) hC dX6_init_29 (by decide) rfl ?_
  refine k_cV0 (q := 34) (c0 := 21) (As := [.int (8 : Int32)]) hC oX6_reset vX6_reset rfl (kdn_of (show 21 < 25 by decide) rfl) rfl rfl dX6_init_31 lk_X6_21 (cq_reset e 25 21 (kdn_of (by decide) rfl) (kdn_of (by decide) rfl) (rl [(21, 2, 24), (21, 1, 23), (21, 0, 22)] r) rfl xc z (8 : Int32) o hf) (by decide) rfl (Nat.le_of_ble_eq_true rfl) (by decide) rfl ?_
  exact k_vret hC hQ rfl dX6_init_34
def f_n6_25 (xc : gXH) : Option gXH := f_X6_reset 25 xc (8 : Int32)
theorem rs_n6_25 {xc o : gXH} (h : f_n6_25 xc = some o) : ∀ c, 29 ≤ c → o.1 c = xc.1 c ∧ o.2 c = xc.2 c := fun c hc => rs_reset h c hc
set_option maxRecDepth 100000 in
set_option maxHeartbeats 8000000 in
theorem n_X6_25 (e : gEV) (r : gRH) (xc : gXH) (z : gIH × gLH) (hD : Dead 26 r (xc, z)) (o : gXH) (hf : f_n6_25 xc = some o) : Cal e qX6_init 3 3 136 true 26 [.ref 25] r (xc, z) none 29 (rl [(25, 2, 28), (25, 1, 27), (25, 0, 26)] r) (o, z) := by
  refine cal_ofI oX6_init rfl (lv := [some (.ref 25)]) (fun v hv => by simp at hv; subst hv; rfl) (Nat.le_of_ble_eq_true rfl) rfl (fun C hC hQ hsz hI => ?_)
  have hsz := hsz rfl
  unfold f_n6_25 at hf
  refine k_aload_n (q := 1) hC dX6_init_0 rfl rfl ?_
  refine k_objI (q := 4) hC lko_X6 wOb1 wOb2 dX6_init_1 (by decide) (by decide) rfl ?_
  refine k_aload_n (q := 5) hC dX6_init_4 rfl rfl ?_
  refine k_bipush (q := 7) (v := (60 : Int32)) hC dX6_init_5 (by decide) rfl ?_
  refine k_newa (q := 9) (w' := (27, 1, 60)) (at0 := .int) hC rfl ac_int (fun _ => rfl) (by decide) rfl (by decide) (by decide) (by decide) dX6_init_7 (by decide) hsz (hD.mono (by decide)) (by decide) rfl rfl ?_
  refine k_putFR (q := 12) (r' := (rl [(25, 0, 26)] r)) hC hI fl_X6_9 rfl rfl dX6_init_9 (kdn_of (show 25 < 27 by decide) rfl) (fun _ _ _ => rfl) rfl rfl rfl rfl ?_
  refine k_aload_n (q := 13) hC dX6_init_12 rfl rfl ?_
  refine k_bipush (q := 15) (v := (60 : Int32)) hC dX6_init_13 (by decide) rfl ?_
  refine k_newa (q := 17) (w' := (28, 2, 120)) (at0 := .int) hC rfl ac_int (fun _ => rfl) (by decide) rfl (by decide) (by decide) (by decide) dX6_init_15 (by decide) hsz (Dead.rl hD (by decide) [(25, 0, 26)] (by decide +kernel)) (by decide) rfl rfl ?_
  refine k_putFR (q := 20) (r' := (rl [(25, 1, 27), (25, 0, 26)] r)) hC hI fl_X6_15 rfl rfl dX6_init_17 (kdn_of (show 25 < 28 by decide) rfl) (fun _ _ _ => rfl) rfl rfl rfl rfl ?_
  refine k_aload_n (q := 21) hC dX6_init_20 rfl rfl ?_
  refine k_bipush (q := 23) (v := (16 : Int32)) hC dX6_init_21 (by decide) rfl ?_
  refine k_newa (q := 25) (w' := (29, 3, 136)) (at0 := .int) hC rfl ac_int (fun _ => rfl) (by decide) rfl (by decide) (by decide) (by decide) dX6_init_23 (by decide) hsz (Dead.rl hD (by decide) [(25, 1, 27), (25, 0, 26)] (by decide +kernel)) (by decide) rfl rfl ?_
  refine k_putFR (q := 28) (r' := (rl [(25, 2, 28), (25, 1, 27), (25, 0, 26)] r)) hC hI fl_X6_18 rfl rfl dX6_init_25 (kdn_of (show 25 < 29 by decide) rfl) (fun _ _ _ => rfl) rfl rfl rfl rfl ?_
  refine k_aload_n (q := 29) hC dX6_init_28 rfl rfl ?_
  refine k_bipush (q := 31) (v := (8 : Int32)) hC dX6_init_29 (by decide) rfl ?_
  refine k_cV0 (q := 34) (c0 := 25) (As := [.int (8 : Int32)]) hC oX6_reset vX6_reset rfl (kdn_of (show 25 < 29 by decide) rfl) rfl rfl dX6_init_31 lk_X6_21 (cq_reset e 29 25 (kdn_of (by decide) rfl) (kdn_of (by decide) rfl) (rl [(25, 2, 28), (25, 1, 27), (25, 0, 26)] r) rfl xc z (8 : Int32) o hf) (by decide) rfl (Nat.le_of_ble_eq_true rfl) (by decide) rfl ?_
  exact k_vret hC hQ rfl dX6_init_34
def f_n6_29 (xc : gXH) : Option gXH := f_X6_reset 29 xc (8 : Int32)
theorem rs_n6_29 {xc o : gXH} (h : f_n6_29 xc = some o) : ∀ c, 33 ≤ c → o.1 c = xc.1 c ∧ o.2 c = xc.2 c := fun c hc => rs_reset h c hc
set_option maxRecDepth 100000 in
set_option maxHeartbeats 8000000 in
theorem n_X6_29 (e : gEV) (r : gRH) (xc : gXH) (z : gIH × gLH) (hD : Dead 30 r (xc, z)) (o : gXH) (hf : f_n6_29 xc = some o) : Cal e qX6_init 3 3 136 true 30 [.ref 29] r (xc, z) none 33 (rl [(29, 2, 32), (29, 1, 31), (29, 0, 30)] r) (o, z) := by
  refine cal_ofI oX6_init rfl (lv := [some (.ref 29)]) (fun v hv => by simp at hv; subst hv; rfl) (Nat.le_of_ble_eq_true rfl) rfl (fun C hC hQ hsz hI => ?_)
  have hsz := hsz rfl
  unfold f_n6_29 at hf
  refine k_aload_n (q := 1) hC dX6_init_0 rfl rfl ?_
  refine k_objI (q := 4) hC lko_X6 wOb1 wOb2 dX6_init_1 (by decide) (by decide) rfl ?_
  refine k_aload_n (q := 5) hC dX6_init_4 rfl rfl ?_
  refine k_bipush (q := 7) (v := (60 : Int32)) hC dX6_init_5 (by decide) rfl ?_
  refine k_newa (q := 9) (w' := (31, 1, 60)) (at0 := .int) hC rfl ac_int (fun _ => rfl) (by decide) rfl (by decide) (by decide) (by decide) dX6_init_7 (by decide) hsz (hD.mono (by decide)) (by decide) rfl rfl ?_
  refine k_putFR (q := 12) (r' := (rl [(29, 0, 30)] r)) hC hI fl_X6_9 rfl rfl dX6_init_9 (kdn_of (show 29 < 31 by decide) rfl) (fun _ _ _ => rfl) rfl rfl rfl rfl ?_
  refine k_aload_n (q := 13) hC dX6_init_12 rfl rfl ?_
  refine k_bipush (q := 15) (v := (60 : Int32)) hC dX6_init_13 (by decide) rfl ?_
  refine k_newa (q := 17) (w' := (32, 2, 120)) (at0 := .int) hC rfl ac_int (fun _ => rfl) (by decide) rfl (by decide) (by decide) (by decide) dX6_init_15 (by decide) hsz (Dead.rl hD (by decide) [(29, 0, 30)] (by decide +kernel)) (by decide) rfl rfl ?_
  refine k_putFR (q := 20) (r' := (rl [(29, 1, 31), (29, 0, 30)] r)) hC hI fl_X6_15 rfl rfl dX6_init_17 (kdn_of (show 29 < 32 by decide) rfl) (fun _ _ _ => rfl) rfl rfl rfl rfl ?_
  refine k_aload_n (q := 21) hC dX6_init_20 rfl rfl ?_
  refine k_bipush (q := 23) (v := (16 : Int32)) hC dX6_init_21 (by decide) rfl ?_
  refine k_newa (q := 25) (w' := (33, 3, 136)) (at0 := .int) hC rfl ac_int (fun _ => rfl) (by decide) rfl (by decide) (by decide) (by decide) dX6_init_23 (by decide) hsz (Dead.rl hD (by decide) [(29, 1, 31), (29, 0, 30)] (by decide +kernel)) (by decide) rfl rfl ?_
  refine k_putFR (q := 28) (r' := (rl [(29, 2, 32), (29, 1, 31), (29, 0, 30)] r)) hC hI fl_X6_18 rfl rfl dX6_init_25 (kdn_of (show 29 < 33 by decide) rfl) (fun _ _ _ => rfl) rfl rfl rfl rfl ?_
  refine k_aload_n (q := 29) hC dX6_init_28 rfl rfl ?_
  refine k_bipush (q := 31) (v := (8 : Int32)) hC dX6_init_29 (by decide) rfl ?_
  refine k_cV0 (q := 34) (c0 := 29) (As := [.int (8 : Int32)]) hC oX6_reset vX6_reset rfl (kdn_of (show 29 < 33 by decide) rfl) rfl rfl dX6_init_31 lk_X6_21 (cq_reset e 33 29 (kdn_of (by decide) rfl) (kdn_of (by decide) rfl) (rl [(29, 2, 32), (29, 1, 31), (29, 0, 30)] r) rfl xc z (8 : Int32) o hf) (by decide) rfl (Nat.le_of_ble_eq_true rfl) (by decide) rfl ?_
  exact k_vret hC hQ rfl dX6_init_34
def f_n6_33 (xc : gXH) : Option gXH := f_X6_reset 33 xc (8 : Int32)
theorem rs_n6_33 {xc o : gXH} (h : f_n6_33 xc = some o) : ∀ c, 37 ≤ c → o.1 c = xc.1 c ∧ o.2 c = xc.2 c := fun c hc => rs_reset h c hc
set_option maxRecDepth 100000 in
set_option maxHeartbeats 8000000 in
theorem n_X6_33 (e : gEV) (r : gRH) (xc : gXH) (z : gIH × gLH) (hD : Dead 34 r (xc, z)) (o : gXH) (hf : f_n6_33 xc = some o) : Cal e qX6_init 3 3 136 true 34 [.ref 33] r (xc, z) none 37 (rl [(33, 2, 36), (33, 1, 35), (33, 0, 34)] r) (o, z) := by
  refine cal_ofI oX6_init rfl (lv := [some (.ref 33)]) (fun v hv => by simp at hv; subst hv; rfl) (Nat.le_of_ble_eq_true rfl) rfl (fun C hC hQ hsz hI => ?_)
  have hsz := hsz rfl
  unfold f_n6_33 at hf
  refine k_aload_n (q := 1) hC dX6_init_0 rfl rfl ?_
  refine k_objI (q := 4) hC lko_X6 wOb1 wOb2 dX6_init_1 (by decide) (by decide) rfl ?_
  refine k_aload_n (q := 5) hC dX6_init_4 rfl rfl ?_
  refine k_bipush (q := 7) (v := (60 : Int32)) hC dX6_init_5 (by decide) rfl ?_
  refine k_newa (q := 9) (w' := (35, 1, 60)) (at0 := .int) hC rfl ac_int (fun _ => rfl) (by decide) rfl (by decide) (by decide) (by decide) dX6_init_7 (by decide) hsz (hD.mono (by decide)) (by decide) rfl rfl ?_
  refine k_putFR (q := 12) (r' := (rl [(33, 0, 34)] r)) hC hI fl_X6_9 rfl rfl dX6_init_9 (kdn_of (show 33 < 35 by decide) rfl) (fun _ _ _ => rfl) rfl rfl rfl rfl ?_
  refine k_aload_n (q := 13) hC dX6_init_12 rfl rfl ?_
  refine k_bipush (q := 15) (v := (60 : Int32)) hC dX6_init_13 (by decide) rfl ?_
  refine k_newa (q := 17) (w' := (36, 2, 120)) (at0 := .int) hC rfl ac_int (fun _ => rfl) (by decide) rfl (by decide) (by decide) (by decide) dX6_init_15 (by decide) hsz (Dead.rl hD (by decide) [(33, 0, 34)] (by decide +kernel)) (by decide) rfl rfl ?_
  refine k_putFR (q := 20) (r' := (rl [(33, 1, 35), (33, 0, 34)] r)) hC hI fl_X6_15 rfl rfl dX6_init_17 (kdn_of (show 33 < 36 by decide) rfl) (fun _ _ _ => rfl) rfl rfl rfl rfl ?_
  refine k_aload_n (q := 21) hC dX6_init_20 rfl rfl ?_
  refine k_bipush (q := 23) (v := (16 : Int32)) hC dX6_init_21 (by decide) rfl ?_
  refine k_newa (q := 25) (w' := (37, 3, 136)) (at0 := .int) hC rfl ac_int (fun _ => rfl) (by decide) rfl (by decide) (by decide) (by decide) dX6_init_23 (by decide) hsz (Dead.rl hD (by decide) [(33, 1, 35), (33, 0, 34)] (by decide +kernel)) (by decide) rfl rfl ?_
  refine k_putFR (q := 28) (r' := (rl [(33, 2, 36), (33, 1, 35), (33, 0, 34)] r)) hC hI fl_X6_18 rfl rfl dX6_init_25 (kdn_of (show 33 < 37 by decide) rfl) (fun _ _ _ => rfl) rfl rfl rfl rfl ?_
  refine k_aload_n (q := 29) hC dX6_init_28 rfl rfl ?_
  refine k_bipush (q := 31) (v := (8 : Int32)) hC dX6_init_29 (by decide) rfl ?_
  refine k_cV0 (q := 34) (c0 := 33) (As := [.int (8 : Int32)]) hC oX6_reset vX6_reset rfl (kdn_of (show 33 < 37 by decide) rfl) rfl rfl dX6_init_31 lk_X6_21 (cq_reset e 37 33 (kdn_of (by decide) rfl) (kdn_of (by decide) rfl) (rl [(33, 2, 36), (33, 1, 35), (33, 0, 34)] r) rfl xc z (8 : Int32) o hf) (by decide) rfl (Nat.le_of_ble_eq_true rfl) (by decide) rfl ?_
  exact k_vret hC hQ rfl dX6_init_34
def f_n6_37 (xc : gXH) : Option gXH := f_X6_reset 37 xc (8 : Int32)
theorem rs_n6_37 {xc o : gXH} (h : f_n6_37 xc = some o) : ∀ c, 41 ≤ c → o.1 c = xc.1 c ∧ o.2 c = xc.2 c := fun c hc => rs_reset h c hc
set_option maxRecDepth 100000 in
set_option maxHeartbeats 8000000 in
theorem n_X6_37 (e : gEV) (r : gRH) (xc : gXH) (z : gIH × gLH) (hD : Dead 38 r (xc, z)) (o : gXH) (hf : f_n6_37 xc = some o) : Cal e qX6_init 3 3 136 true 38 [.ref 37] r (xc, z) none 41 (rl [(37, 2, 40), (37, 1, 39), (37, 0, 38)] r) (o, z) := by
  refine cal_ofI oX6_init rfl (lv := [some (.ref 37)]) (fun v hv => by simp at hv; subst hv; rfl) (Nat.le_of_ble_eq_true rfl) rfl (fun C hC hQ hsz hI => ?_)
  have hsz := hsz rfl
  unfold f_n6_37 at hf
  refine k_aload_n (q := 1) hC dX6_init_0 rfl rfl ?_
  refine k_objI (q := 4) hC lko_X6 wOb1 wOb2 dX6_init_1 (by decide) (by decide) rfl ?_
  refine k_aload_n (q := 5) hC dX6_init_4 rfl rfl ?_
  refine k_bipush (q := 7) (v := (60 : Int32)) hC dX6_init_5 (by decide) rfl ?_
  refine k_newa (q := 9) (w' := (39, 1, 60)) (at0 := .int) hC rfl ac_int (fun _ => rfl) (by decide) rfl (by decide) (by decide) (by decide) dX6_init_7 (by decide) hsz (hD.mono (by decide)) (by decide) rfl rfl ?_
  refine k_putFR (q := 12) (r' := (rl [(37, 0, 38)] r)) hC hI fl_X6_9 rfl rfl dX6_init_9 (kdn_of (show 37 < 39 by decide) rfl) (fun _ _ _ => rfl) rfl rfl rfl rfl ?_
  refine k_aload_n (q := 13) hC dX6_init_12 rfl rfl ?_
  refine k_bipush (q := 15) (v := (60 : Int32)) hC dX6_init_13 (by decide) rfl ?_
  refine k_newa (q := 17) (w' := (40, 2, 120)) (at0 := .int) hC rfl ac_int (fun _ => rfl) (by decide) rfl (by decide) (by decide) (by decide) dX6_init_15 (by decide) hsz (Dead.rl hD (by decide) [(37, 0, 38)] (by decide +kernel)) (by decide) rfl rfl ?_
  refine k_putFR (q := 20) (r' := (rl [(37, 1, 39), (37, 0, 38)] r)) hC hI fl_X6_15 rfl rfl dX6_init_17 (kdn_of (show 37 < 40 by decide) rfl) (fun _ _ _ => rfl) rfl rfl rfl rfl ?_
  refine k_aload_n (q := 21) hC dX6_init_20 rfl rfl ?_
  refine k_bipush (q := 23) (v := (16 : Int32)) hC dX6_init_21 (by decide) rfl ?_
  refine k_newa (q := 25) (w' := (41, 3, 136)) (at0 := .int) hC rfl ac_int (fun _ => rfl) (by decide) rfl (by decide) (by decide) (by decide) dX6_init_23 (by decide) hsz (Dead.rl hD (by decide) [(37, 1, 39), (37, 0, 38)] (by decide +kernel)) (by decide) rfl rfl ?_
  refine k_putFR (q := 28) (r' := (rl [(37, 2, 40), (37, 1, 39), (37, 0, 38)] r)) hC hI fl_X6_18 rfl rfl dX6_init_25 (kdn_of (show 37 < 41 by decide) rfl) (fun _ _ _ => rfl) rfl rfl rfl rfl ?_
  refine k_aload_n (q := 29) hC dX6_init_28 rfl rfl ?_
  refine k_bipush (q := 31) (v := (8 : Int32)) hC dX6_init_29 (by decide) rfl ?_
  refine k_cV0 (q := 34) (c0 := 37) (As := [.int (8 : Int32)]) hC oX6_reset vX6_reset rfl (kdn_of (show 37 < 41 by decide) rfl) rfl rfl dX6_init_31 lk_X6_21 (cq_reset e 41 37 (kdn_of (by decide) rfl) (kdn_of (by decide) rfl) (rl [(37, 2, 40), (37, 1, 39), (37, 0, 38)] r) rfl xc z (8 : Int32) o hf) (by decide) rfl (Nat.le_of_ble_eq_true rfl) (by decide) rfl ?_
  exact k_vret hC hQ rfl dX6_init_34
def f_n6_41 (xc : gXH) : Option gXH := f_X6_reset 41 xc (8 : Int32)
theorem rs_n6_41 {xc o : gXH} (h : f_n6_41 xc = some o) : ∀ c, 45 ≤ c → o.1 c = xc.1 c ∧ o.2 c = xc.2 c := fun c hc => rs_reset h c hc
set_option maxRecDepth 100000 in
set_option maxHeartbeats 8000000 in
theorem n_X6_41 (e : gEV) (r : gRH) (xc : gXH) (z : gIH × gLH) (hD : Dead 42 r (xc, z)) (o : gXH) (hf : f_n6_41 xc = some o) : Cal e qX6_init 3 3 136 true 42 [.ref 41] r (xc, z) none 45 (rl [(41, 2, 44), (41, 1, 43), (41, 0, 42)] r) (o, z) := by
  refine cal_ofI oX6_init rfl (lv := [some (.ref 41)]) (fun v hv => by simp at hv; subst hv; rfl) (Nat.le_of_ble_eq_true rfl) rfl (fun C hC hQ hsz hI => ?_)
  have hsz := hsz rfl
  unfold f_n6_41 at hf
  refine k_aload_n (q := 1) hC dX6_init_0 rfl rfl ?_
  refine k_objI (q := 4) hC lko_X6 wOb1 wOb2 dX6_init_1 (by decide) (by decide) rfl ?_
  refine k_aload_n (q := 5) hC dX6_init_4 rfl rfl ?_
  refine k_bipush (q := 7) (v := (60 : Int32)) hC dX6_init_5 (by decide) rfl ?_
  refine k_newa (q := 9) (w' := (43, 1, 60)) (at0 := .int) hC rfl ac_int (fun _ => rfl) (by decide) rfl (by decide) (by decide) (by decide) dX6_init_7 (by decide) hsz (hD.mono (by decide)) (by decide) rfl rfl ?_
  refine k_putFR (q := 12) (r' := (rl [(41, 0, 42)] r)) hC hI fl_X6_9 rfl rfl dX6_init_9 (kdn_of (show 41 < 43 by decide) rfl) (fun _ _ _ => rfl) rfl rfl rfl rfl ?_
  refine k_aload_n (q := 13) hC dX6_init_12 rfl rfl ?_
  refine k_bipush (q := 15) (v := (60 : Int32)) hC dX6_init_13 (by decide) rfl ?_
  refine k_newa (q := 17) (w' := (44, 2, 120)) (at0 := .int) hC rfl ac_int (fun _ => rfl) (by decide) rfl (by decide) (by decide) (by decide) dX6_init_15 (by decide) hsz (Dead.rl hD (by decide) [(41, 0, 42)] (by decide +kernel)) (by decide) rfl rfl ?_
  refine k_putFR (q := 20) (r' := (rl [(41, 1, 43), (41, 0, 42)] r)) hC hI fl_X6_15 rfl rfl dX6_init_17 (kdn_of (show 41 < 44 by decide) rfl) (fun _ _ _ => rfl) rfl rfl rfl rfl ?_
  refine k_aload_n (q := 21) hC dX6_init_20 rfl rfl ?_
  refine k_bipush (q := 23) (v := (16 : Int32)) hC dX6_init_21 (by decide) rfl ?_
  refine k_newa (q := 25) (w' := (45, 3, 136)) (at0 := .int) hC rfl ac_int (fun _ => rfl) (by decide) rfl (by decide) (by decide) (by decide) dX6_init_23 (by decide) hsz (Dead.rl hD (by decide) [(41, 1, 43), (41, 0, 42)] (by decide +kernel)) (by decide) rfl rfl ?_
  refine k_putFR (q := 28) (r' := (rl [(41, 2, 44), (41, 1, 43), (41, 0, 42)] r)) hC hI fl_X6_18 rfl rfl dX6_init_25 (kdn_of (show 41 < 45 by decide) rfl) (fun _ _ _ => rfl) rfl rfl rfl rfl ?_
  refine k_aload_n (q := 29) hC dX6_init_28 rfl rfl ?_
  refine k_bipush (q := 31) (v := (8 : Int32)) hC dX6_init_29 (by decide) rfl ?_
  refine k_cV0 (q := 34) (c0 := 41) (As := [.int (8 : Int32)]) hC oX6_reset vX6_reset rfl (kdn_of (show 41 < 45 by decide) rfl) rfl rfl dX6_init_31 lk_X6_21 (cq_reset e 45 41 (kdn_of (by decide) rfl) (kdn_of (by decide) rfl) (rl [(41, 2, 44), (41, 1, 43), (41, 0, 42)] r) rfl xc z (8 : Int32) o hf) (by decide) rfl (Nat.le_of_ble_eq_true rfl) (by decide) rfl ?_
  exact k_vret hC hQ rfl dX6_init_34
def f_n6_45 (xc : gXH) : Option gXH := f_X6_reset 45 xc (8 : Int32)
theorem rs_n6_45 {xc o : gXH} (h : f_n6_45 xc = some o) : ∀ c, 49 ≤ c → o.1 c = xc.1 c ∧ o.2 c = xc.2 c := fun c hc => rs_reset h c hc
set_option maxRecDepth 100000 in
set_option maxHeartbeats 8000000 in
theorem n_X6_45 (e : gEV) (r : gRH) (xc : gXH) (z : gIH × gLH) (hD : Dead 46 r (xc, z)) (o : gXH) (hf : f_n6_45 xc = some o) : Cal e qX6_init 3 3 136 true 46 [.ref 45] r (xc, z) none 49 (rl [(45, 2, 48), (45, 1, 47), (45, 0, 46)] r) (o, z) := by
  refine cal_ofI oX6_init rfl (lv := [some (.ref 45)]) (fun v hv => by simp at hv; subst hv; rfl) (Nat.le_of_ble_eq_true rfl) rfl (fun C hC hQ hsz hI => ?_)
  have hsz := hsz rfl
  unfold f_n6_45 at hf
  refine k_aload_n (q := 1) hC dX6_init_0 rfl rfl ?_
  refine k_objI (q := 4) hC lko_X6 wOb1 wOb2 dX6_init_1 (by decide) (by decide) rfl ?_
  refine k_aload_n (q := 5) hC dX6_init_4 rfl rfl ?_
  refine k_bipush (q := 7) (v := (60 : Int32)) hC dX6_init_5 (by decide) rfl ?_
  refine k_newa (q := 9) (w' := (47, 1, 60)) (at0 := .int) hC rfl ac_int (fun _ => rfl) (by decide) rfl (by decide) (by decide) (by decide) dX6_init_7 (by decide) hsz (hD.mono (by decide)) (by decide) rfl rfl ?_
  refine k_putFR (q := 12) (r' := (rl [(45, 0, 46)] r)) hC hI fl_X6_9 rfl rfl dX6_init_9 (kdn_of (show 45 < 47 by decide) rfl) (fun _ _ _ => rfl) rfl rfl rfl rfl ?_
  refine k_aload_n (q := 13) hC dX6_init_12 rfl rfl ?_
  refine k_bipush (q := 15) (v := (60 : Int32)) hC dX6_init_13 (by decide) rfl ?_
  refine k_newa (q := 17) (w' := (48, 2, 120)) (at0 := .int) hC rfl ac_int (fun _ => rfl) (by decide) rfl (by decide) (by decide) (by decide) dX6_init_15 (by decide) hsz (Dead.rl hD (by decide) [(45, 0, 46)] (by decide +kernel)) (by decide) rfl rfl ?_
  refine k_putFR (q := 20) (r' := (rl [(45, 1, 47), (45, 0, 46)] r)) hC hI fl_X6_15 rfl rfl dX6_init_17 (kdn_of (show 45 < 48 by decide) rfl) (fun _ _ _ => rfl) rfl rfl rfl rfl ?_
  refine k_aload_n (q := 21) hC dX6_init_20 rfl rfl ?_
  refine k_bipush (q := 23) (v := (16 : Int32)) hC dX6_init_21 (by decide) rfl ?_
  refine k_newa (q := 25) (w' := (49, 3, 136)) (at0 := .int) hC rfl ac_int (fun _ => rfl) (by decide) rfl (by decide) (by decide) (by decide) dX6_init_23 (by decide) hsz (Dead.rl hD (by decide) [(45, 1, 47), (45, 0, 46)] (by decide +kernel)) (by decide) rfl rfl ?_
  refine k_putFR (q := 28) (r' := (rl [(45, 2, 48), (45, 1, 47), (45, 0, 46)] r)) hC hI fl_X6_18 rfl rfl dX6_init_25 (kdn_of (show 45 < 49 by decide) rfl) (fun _ _ _ => rfl) rfl rfl rfl rfl ?_
  refine k_aload_n (q := 29) hC dX6_init_28 rfl rfl ?_
  refine k_bipush (q := 31) (v := (8 : Int32)) hC dX6_init_29 (by decide) rfl ?_
  refine k_cV0 (q := 34) (c0 := 45) (As := [.int (8 : Int32)]) hC oX6_reset vX6_reset rfl (kdn_of (show 45 < 49 by decide) rfl) rfl rfl dX6_init_31 lk_X6_21 (cq_reset e 49 45 (kdn_of (by decide) rfl) (kdn_of (by decide) rfl) (rl [(45, 2, 48), (45, 1, 47), (45, 0, 46)] r) rfl xc z (8 : Int32) o hf) (by decide) rfl (Nat.le_of_ble_eq_true rfl) (by decide) rfl ?_
  exact k_vret hC hQ rfl dX6_init_34
def f_n6_49 (xc : gXH) : Option gXH := f_X6_reset 49 xc (8 : Int32)
theorem rs_n6_49 {xc o : gXH} (h : f_n6_49 xc = some o) : ∀ c, 53 ≤ c → o.1 c = xc.1 c ∧ o.2 c = xc.2 c := fun c hc => rs_reset h c hc
set_option maxRecDepth 100000 in
set_option maxHeartbeats 8000000 in
theorem n_X6_49 (e : gEV) (r : gRH) (xc : gXH) (z : gIH × gLH) (hD : Dead 50 r (xc, z)) (o : gXH) (hf : f_n6_49 xc = some o) : Cal e qX6_init 3 3 136 true 50 [.ref 49] r (xc, z) none 53 (rl [(49, 2, 52), (49, 1, 51), (49, 0, 50)] r) (o, z) := by
  refine cal_ofI oX6_init rfl (lv := [some (.ref 49)]) (fun v hv => by simp at hv; subst hv; rfl) (Nat.le_of_ble_eq_true rfl) rfl (fun C hC hQ hsz hI => ?_)
  have hsz := hsz rfl
  unfold f_n6_49 at hf
  refine k_aload_n (q := 1) hC dX6_init_0 rfl rfl ?_
  refine k_objI (q := 4) hC lko_X6 wOb1 wOb2 dX6_init_1 (by decide) (by decide) rfl ?_
  refine k_aload_n (q := 5) hC dX6_init_4 rfl rfl ?_
  refine k_bipush (q := 7) (v := (60 : Int32)) hC dX6_init_5 (by decide) rfl ?_
  refine k_newa (q := 9) (w' := (51, 1, 60)) (at0 := .int) hC rfl ac_int (fun _ => rfl) (by decide) rfl (by decide) (by decide) (by decide) dX6_init_7 (by decide) hsz (hD.mono (by decide)) (by decide) rfl rfl ?_
  refine k_putFR (q := 12) (r' := (rl [(49, 0, 50)] r)) hC hI fl_X6_9 rfl rfl dX6_init_9 (kdn_of (show 49 < 51 by decide) rfl) (fun _ _ _ => rfl) rfl rfl rfl rfl ?_
  refine k_aload_n (q := 13) hC dX6_init_12 rfl rfl ?_
  refine k_bipush (q := 15) (v := (60 : Int32)) hC dX6_init_13 (by decide) rfl ?_
  refine k_newa (q := 17) (w' := (52, 2, 120)) (at0 := .int) hC rfl ac_int (fun _ => rfl) (by decide) rfl (by decide) (by decide) (by decide) dX6_init_15 (by decide) hsz (Dead.rl hD (by decide) [(49, 0, 50)] (by decide +kernel)) (by decide) rfl rfl ?_
  refine k_putFR (q := 20) (r' := (rl [(49, 1, 51), (49, 0, 50)] r)) hC hI fl_X6_15 rfl rfl dX6_init_17 (kdn_of (show 49 < 52 by decide) rfl) (fun _ _ _ => rfl) rfl rfl rfl rfl ?_
  refine k_aload_n (q := 21) hC dX6_init_20 rfl rfl ?_
  refine k_bipush (q := 23) (v := (16 : Int32)) hC dX6_init_21 (by decide) rfl ?_
  refine k_newa (q := 25) (w' := (53, 3, 136)) (at0 := .int) hC rfl ac_int (fun _ => rfl) (by decide) rfl (by decide) (by decide) (by decide) dX6_init_23 (by decide) hsz (Dead.rl hD (by decide) [(49, 1, 51), (49, 0, 50)] (by decide +kernel)) (by decide) rfl rfl ?_
  refine k_putFR (q := 28) (r' := (rl [(49, 2, 52), (49, 1, 51), (49, 0, 50)] r)) hC hI fl_X6_18 rfl rfl dX6_init_25 (kdn_of (show 49 < 53 by decide) rfl) (fun _ _ _ => rfl) rfl rfl rfl rfl ?_
  refine k_aload_n (q := 29) hC dX6_init_28 rfl rfl ?_
  refine k_bipush (q := 31) (v := (8 : Int32)) hC dX6_init_29 (by decide) rfl ?_
  refine k_cV0 (q := 34) (c0 := 49) (As := [.int (8 : Int32)]) hC oX6_reset vX6_reset rfl (kdn_of (show 49 < 53 by decide) rfl) rfl rfl dX6_init_31 lk_X6_21 (cq_reset e 53 49 (kdn_of (by decide) rfl) (kdn_of (by decide) rfl) (rl [(49, 2, 52), (49, 1, 51), (49, 0, 50)] r) rfl xc z (8 : Int32) o hf) (by decide) rfl (Nat.le_of_ble_eq_true rfl) (by decide) rfl ?_
  exact k_vret hC hQ rfl dX6_init_34
def f_n5_19 (xc : gXH) : Option gXH := (f_n6_21 xc).bind (fun y1 => (f_n6_25 y1).bind (fun y2 => (f_n6_29 y2).bind (fun y3 => (f_n6_33 y3).bind (fun y4 => (f_n6_37 y4).bind (fun y5 => (f_n6_41 y5).bind (fun y6 => (f_n6_45 y6).bind (fun y7 => (f_n6_49 y7).bind (fun y8 => some y8))))))))
theorem rs_n5_19 {xc o : gXH} (h : f_n5_19 xc = some o) : ∀ c, 53 ≤ c → o.1 c = xc.1 c ∧ o.2 c = xc.2 c := by
  unfold f_n5_19 at h
  obtain ⟨y1, hy1, h⟩ := bnd h
  obtain ⟨y2, hy2, h⟩ := bnd h
  obtain ⟨y3, hy3, h⟩ := bnd h
  obtain ⟨y4, hy4, h⟩ := bnd h
  obtain ⟨y5, hy5, h⟩ := bnd h
  obtain ⟨y6, hy6, h⟩ := bnd h
  obtain ⟨y7, hy7, h⟩ := bnd h
  obtain ⟨y8, hy8, h⟩ := bnd h
  cases h
  intro c hc
  exact ⟨((rs_n6_49 hy8 c (by omega)).1.trans ((rs_n6_45 hy7 c (by omega)).1.trans ((rs_n6_41 hy6 c (by omega)).1.trans ((rs_n6_37 hy5 c (by omega)).1.trans ((rs_n6_33 hy4 c (by omega)).1.trans ((rs_n6_29 hy3 c (by omega)).1.trans ((rs_n6_25 hy2 c (by omega)).1.trans (rs_n6_21 hy1 c (by omega)).1))))))), ((rs_n6_49 hy8 c (by omega)).2.trans ((rs_n6_45 hy7 c (by omega)).2.trans ((rs_n6_41 hy6 c (by omega)).2.trans ((rs_n6_37 hy5 c (by omega)).2.trans ((rs_n6_33 hy4 c (by omega)).2.trans ((rs_n6_29 hy3 c (by omega)).2.trans ((rs_n6_25 hy2 c (by omega)).2.trans (rs_n6_21 hy1 c (by omega)).2)))))))⟩
set_option maxRecDepth 100000 in
set_option maxHeartbeats 8000000 in
theorem n_X5_19 (e : gEV) (r : gRH) (xc : gXH) (z : gIH × gLH) (hD : Dead 20 r (xc, z)) (o : gXH) (hf : f_n5_19 xc = some o) : Cal e qX5_init 4 33 1160 true 20 [.ref 19] r (xc, z) none 53 (rl [(20, 7, 49), (49, 2, 52), (49, 1, 51), (49, 0, 50), (20, 6, 45), (45, 2, 48), (45, 1, 47), (45, 0, 46), (20, 5, 41), (41, 2, 44), (41, 1, 43), (41, 0, 42), (20, 4, 37), (37, 2, 40), (37, 1, 39), (37, 0, 38), (20, 3, 33), (33, 2, 36), (33, 1, 35), (33, 0, 34), (20, 2, 29), (29, 2, 32), (29, 1, 31), (29, 0, 30), (20, 1, 25), (25, 2, 28), (25, 1, 27), (25, 0, 26), (20, 0, 21), (21, 2, 24), (21, 1, 23), (21, 0, 22), (19, 0, 20)] r) (o, z) := by
  refine cal_ofI oX5_init rfl (lv := [some (.ref 19), none]) (fun v hv => by simp at hv; subst hv; rfl) (Nat.le_of_ble_eq_true rfl) rfl (fun C hC hQ hsz hI => ?_)
  have hsz := hsz rfl
  unfold f_n5_19 at hf
  refine k_aload_n (q := 1) hC dX5_init_0 rfl rfl ?_
  refine k_objI (q := 4) hC lko_X5 wOb1 wOb2 dX5_init_1 (by decide) (by decide) rfl ?_
  refine k_aload_n (q := 5) hC dX5_init_4 rfl rfl ?_
  refine k_bipush (q := 7) (v := (8 : Int32)) hC dX5_init_5 (by decide) rfl ?_
  refine k_newN (q := 10) (w' := (21, 1, 8)) hC rfl cl_X5_9 wAO (by decide) (by decide) (by decide) dX5_init_7 (by decide) hsz (hD.mono (by decide)) (by decide) rfl rfl ?_
  refine k_putFR (q := 13) (r' := (rl [(19, 0, 20)] r)) hC hI fl_X5_11 rfl rfl dX5_init_10 (kdn_of (show 19 < 21 by decide) rfl) (fun _ _ _ => rfl) rfl rfl rfl rfl ?_
  refine k_iconst (q := 14) (v := (0 : Int32)) hC dX5_init_13 (by decide) rfl ?_
  refine k_istore_n (q := 15) (lv' := [some (.ref 19), some (.int (0 : Int32))]) hC dX5_init_14 (by decide) rfl rfl ?_
  refine k_iload_n (q := 16) hC dX5_init_15 rfl rfl ?_
  refine k_aload_n (q := 17) hC dX5_init_16 rfl rfl ?_
  refine k_getR (q := 20) hC fl_X5_11 dX5_init_17 (kdn_of (show 19 < 21 by decide) rfl) (fun _ _ _ => rfl) rfl rfl ?_
  refine k_alen (q := 21) (y := (8 : Int32)) hC dX5_init_20 (kdn_of (show 20 < 21 by decide) rfl) (fun _ => rfl) rfl rfl ?_
  refine k_icmp_ge (q := 24) (tgt := 43) hC dX5_init_21 (by decide) rfl (fun hc => absurd hc (by decide)) (fun hc => ?_)
  refine k_aload_n (q := 25) hC dX5_init_24 rfl rfl ?_
  refine k_getR (q := 28) hC fl_X5_11 dX5_init_25 (kdn_of (show 19 < 21 by decide) rfl) (fun _ _ _ => rfl) rfl rfl ?_
  refine k_iload_n (q := 29) hC dX5_init_28 rfl rfl ?_
  refine k_new (q := 32) (w' := (22, 2, 16)) hC nl_X5_9 rfl dX5_init_29 (by decide) hsz (Dead.rl hD (by decide) [(19, 0, 20)] (by decide +kernel)) (by decide) rfl rfl ?_
  refine k_dup (q := 33) hC dX5_init_32 rfl rfl ?_
  obtain ⟨y1, hy1, hf⟩ := bnd hf
  refine k_cI (q := 36) (w' := (25, 5, 152)) (r' := (rl [(21, 2, 24), (21, 1, 23), (21, 0, 22), (19, 0, 20)] r)) (av := [.ref 21]) (c0 := 21) (As := []) hC oX6_init iX6_init rfl rfl rfl dX5_init_33 lk_X5_17 (n_X6_21 e (rl [(19, 0, 20)] r) xc z (Dead.rl hD (by decide) [(19, 0, 20)] (by decide +kernel)) y1 hy1) (by decide) rfl (Nat.le_of_ble_eq_true rfl) (by decide) (by decide) hsz rfl rfl rfl ?_
  have hDX1 : Dead 25 r (y1, z) := Dead.rows (hD.mono (by decide)) (fun c hc => rs_n6_21 hy1 c hc)
  refine k_aast (q := 37) (r' := (rl [(20, 0, 21), (21, 2, 24), (21, 1, 23), (21, 0, 22), (19, 0, 20)] r)) hC dX5_init_36 (kdn_of (show 20 < 25 by decide) rfl) (kdn_of (show 21 < 25 by decide) rfl) (by unfold vp_in; decide) rfl rfl ?_
  refine k_iinc (q := 40) (i := 1) (y := (0 : Int32)) (v := (1 : Int32)) (lv' := [some (.ref 19), some (.int (1 : Int32))]) hC dX5_init_37 (by decide) rfl (by decide) (by rw [show ((0 : Int32) + (1 : Int32)) = (1 : Int32) by decide]; rfl) rfl ?_
  refine k_goto (tgt := 15) hC dX5_init_40 (by decide) ?_
  refine k_iload_n (q := 16) hC dX5_init_15 rfl rfl ?_
  refine k_aload_n (q := 17) hC dX5_init_16 rfl rfl ?_
  refine k_getR (q := 20) hC fl_X5_11 dX5_init_17 (kdn_of (show 19 < 25 by decide) rfl) (fun _ _ _ => rfl) rfl rfl ?_
  refine k_alen (q := 21) (y := (8 : Int32)) hC dX5_init_20 (kdn_of (show 20 < 25 by decide) rfl) (fun _ => rfl) rfl rfl ?_
  refine k_icmp_ge (q := 24) (tgt := 43) hC dX5_init_21 (by decide) rfl (fun hc => absurd hc (by decide)) (fun hc => ?_)
  refine k_aload_n (q := 25) hC dX5_init_24 rfl rfl ?_
  refine k_getR (q := 28) hC fl_X5_11 dX5_init_25 (kdn_of (show 19 < 25 by decide) rfl) (fun _ _ _ => rfl) rfl rfl ?_
  refine k_iload_n (q := 29) hC dX5_init_28 rfl rfl ?_
  refine k_new (q := 32) (w' := (26, 6, 160)) hC nl_X5_9 rfl dX5_init_29 (by decide) hsz (Dead.rl hDX1 (by decide) [(20, 0, 21), (21, 2, 24), (21, 1, 23), (21, 0, 22), (19, 0, 20)] (by decide +kernel)) (by decide) rfl rfl ?_
  refine k_dup (q := 33) hC dX5_init_32 rfl rfl ?_
  obtain ⟨y2, hy2, hf⟩ := bnd hf
  refine k_cI (q := 36) (w' := (29, 9, 296)) (r' := (rl [(25, 2, 28), (25, 1, 27), (25, 0, 26), (20, 0, 21), (21, 2, 24), (21, 1, 23), (21, 0, 22), (19, 0, 20)] r)) (av := [.ref 25]) (c0 := 25) (As := []) hC oX6_init iX6_init rfl rfl rfl dX5_init_33 lk_X5_17 (n_X6_25 e (rl [(20, 0, 21), (21, 2, 24), (21, 1, 23), (21, 0, 22), (19, 0, 20)] r) y1 z (Dead.rl hDX1 (by decide) [(20, 0, 21), (21, 2, 24), (21, 1, 23), (21, 0, 22), (19, 0, 20)] (by decide +kernel)) y2 hy2) (by decide) rfl (Nat.le_of_ble_eq_true rfl) (by decide) (by decide) hsz rfl rfl rfl ?_
  have hDX2 : Dead 29 r (y2, z) := Dead.rows (hDX1.mono (by decide)) (fun c hc => rs_n6_25 hy2 c hc)
  refine k_aast (q := 37) (r' := (rl [(20, 1, 25), (25, 2, 28), (25, 1, 27), (25, 0, 26), (20, 0, 21), (21, 2, 24), (21, 1, 23), (21, 0, 22), (19, 0, 20)] r)) hC dX5_init_36 (kdn_of (show 20 < 29 by decide) rfl) (kdn_of (show 25 < 29 by decide) rfl) (by unfold vp_in; decide) rfl rfl ?_
  refine k_iinc (q := 40) (i := 1) (y := (1 : Int32)) (v := (1 : Int32)) (lv' := [some (.ref 19), some (.int (2 : Int32))]) hC dX5_init_37 (by decide) rfl (by decide) (by rw [show ((1 : Int32) + (1 : Int32)) = (2 : Int32) by decide]; rfl) rfl ?_
  refine k_goto (tgt := 15) hC dX5_init_40 (by decide) ?_
  refine k_iload_n (q := 16) hC dX5_init_15 rfl rfl ?_
  refine k_aload_n (q := 17) hC dX5_init_16 rfl rfl ?_
  refine k_getR (q := 20) hC fl_X5_11 dX5_init_17 (kdn_of (show 19 < 29 by decide) rfl) (fun _ _ _ => rfl) rfl rfl ?_
  refine k_alen (q := 21) (y := (8 : Int32)) hC dX5_init_20 (kdn_of (show 20 < 29 by decide) rfl) (fun _ => rfl) rfl rfl ?_
  refine k_icmp_ge (q := 24) (tgt := 43) hC dX5_init_21 (by decide) rfl (fun hc => absurd hc (by decide)) (fun hc => ?_)
  refine k_aload_n (q := 25) hC dX5_init_24 rfl rfl ?_
  refine k_getR (q := 28) hC fl_X5_11 dX5_init_25 (kdn_of (show 19 < 29 by decide) rfl) (fun _ _ _ => rfl) rfl rfl ?_
  refine k_iload_n (q := 29) hC dX5_init_28 rfl rfl ?_
  refine k_new (q := 32) (w' := (30, 10, 304)) hC nl_X5_9 rfl dX5_init_29 (by decide) hsz (Dead.rl hDX2 (by decide) [(20, 1, 25), (25, 2, 28), (25, 1, 27), (25, 0, 26), (20, 0, 21), (21, 2, 24), (21, 1, 23), (21, 0, 22), (19, 0, 20)] (by decide +kernel)) (by decide) rfl rfl ?_
  refine k_dup (q := 33) hC dX5_init_32 rfl rfl ?_
  obtain ⟨y3, hy3, hf⟩ := bnd hf
  refine k_cI (q := 36) (w' := (33, 13, 440)) (r' := (rl [(29, 2, 32), (29, 1, 31), (29, 0, 30), (20, 1, 25), (25, 2, 28), (25, 1, 27), (25, 0, 26), (20, 0, 21), (21, 2, 24), (21, 1, 23), (21, 0, 22), (19, 0, 20)] r)) (av := [.ref 29]) (c0 := 29) (As := []) hC oX6_init iX6_init rfl rfl rfl dX5_init_33 lk_X5_17 (n_X6_29 e (rl [(20, 1, 25), (25, 2, 28), (25, 1, 27), (25, 0, 26), (20, 0, 21), (21, 2, 24), (21, 1, 23), (21, 0, 22), (19, 0, 20)] r) y2 z (Dead.rl hDX2 (by decide) [(20, 1, 25), (25, 2, 28), (25, 1, 27), (25, 0, 26), (20, 0, 21), (21, 2, 24), (21, 1, 23), (21, 0, 22), (19, 0, 20)] (by decide +kernel)) y3 hy3) (by decide) rfl (Nat.le_of_ble_eq_true rfl) (by decide) (by decide) hsz rfl rfl rfl ?_
  have hDX3 : Dead 33 r (y3, z) := Dead.rows (hDX2.mono (by decide)) (fun c hc => rs_n6_29 hy3 c hc)
  refine k_aast (q := 37) (r' := (rl [(20, 2, 29), (29, 2, 32), (29, 1, 31), (29, 0, 30), (20, 1, 25), (25, 2, 28), (25, 1, 27), (25, 0, 26), (20, 0, 21), (21, 2, 24), (21, 1, 23), (21, 0, 22), (19, 0, 20)] r)) hC dX5_init_36 (kdn_of (show 20 < 33 by decide) rfl) (kdn_of (show 29 < 33 by decide) rfl) (by unfold vp_in; decide) rfl rfl ?_
  refine k_iinc (q := 40) (i := 1) (y := (2 : Int32)) (v := (1 : Int32)) (lv' := [some (.ref 19), some (.int (3 : Int32))]) hC dX5_init_37 (by decide) rfl (by decide) (by rw [show ((2 : Int32) + (1 : Int32)) = (3 : Int32) by decide]; rfl) rfl ?_
  refine k_goto (tgt := 15) hC dX5_init_40 (by decide) ?_
  refine k_iload_n (q := 16) hC dX5_init_15 rfl rfl ?_
  refine k_aload_n (q := 17) hC dX5_init_16 rfl rfl ?_
  refine k_getR (q := 20) hC fl_X5_11 dX5_init_17 (kdn_of (show 19 < 33 by decide) rfl) (fun _ _ _ => rfl) rfl rfl ?_
  refine k_alen (q := 21) (y := (8 : Int32)) hC dX5_init_20 (kdn_of (show 20 < 33 by decide) rfl) (fun _ => rfl) rfl rfl ?_
  refine k_icmp_ge (q := 24) (tgt := 43) hC dX5_init_21 (by decide) rfl (fun hc => absurd hc (by decide)) (fun hc => ?_)
  refine k_aload_n (q := 25) hC dX5_init_24 rfl rfl ?_
  refine k_getR (q := 28) hC fl_X5_11 dX5_init_25 (kdn_of (show 19 < 33 by decide) rfl) (fun _ _ _ => rfl) rfl rfl ?_
  refine k_iload_n (q := 29) hC dX5_init_28 rfl rfl ?_
  refine k_new (q := 32) (w' := (34, 14, 448)) hC nl_X5_9 rfl dX5_init_29 (by decide) hsz (Dead.rl hDX3 (by decide) [(20, 2, 29), (29, 2, 32), (29, 1, 31), (29, 0, 30), (20, 1, 25), (25, 2, 28), (25, 1, 27), (25, 0, 26), (20, 0, 21), (21, 2, 24), (21, 1, 23), (21, 0, 22), (19, 0, 20)] (by decide +kernel)) (by decide) rfl rfl ?_
  refine k_dup (q := 33) hC dX5_init_32 rfl rfl ?_
  obtain ⟨y4, hy4, hf⟩ := bnd hf
  refine k_cI (q := 36) (w' := (37, 17, 584)) (r' := (rl [(33, 2, 36), (33, 1, 35), (33, 0, 34), (20, 2, 29), (29, 2, 32), (29, 1, 31), (29, 0, 30), (20, 1, 25), (25, 2, 28), (25, 1, 27), (25, 0, 26), (20, 0, 21), (21, 2, 24), (21, 1, 23), (21, 0, 22), (19, 0, 20)] r)) (av := [.ref 33]) (c0 := 33) (As := []) hC oX6_init iX6_init rfl rfl rfl dX5_init_33 lk_X5_17 (n_X6_33 e (rl [(20, 2, 29), (29, 2, 32), (29, 1, 31), (29, 0, 30), (20, 1, 25), (25, 2, 28), (25, 1, 27), (25, 0, 26), (20, 0, 21), (21, 2, 24), (21, 1, 23), (21, 0, 22), (19, 0, 20)] r) y3 z (Dead.rl hDX3 (by decide) [(20, 2, 29), (29, 2, 32), (29, 1, 31), (29, 0, 30), (20, 1, 25), (25, 2, 28), (25, 1, 27), (25, 0, 26), (20, 0, 21), (21, 2, 24), (21, 1, 23), (21, 0, 22), (19, 0, 20)] (by decide +kernel)) y4 hy4) (by decide) rfl (Nat.le_of_ble_eq_true rfl) (by decide) (by decide) hsz rfl rfl rfl ?_
  have hDX4 : Dead 37 r (y4, z) := Dead.rows (hDX3.mono (by decide)) (fun c hc => rs_n6_33 hy4 c hc)
  refine k_aast (q := 37) (r' := (rl [(20, 3, 33), (33, 2, 36), (33, 1, 35), (33, 0, 34), (20, 2, 29), (29, 2, 32), (29, 1, 31), (29, 0, 30), (20, 1, 25), (25, 2, 28), (25, 1, 27), (25, 0, 26), (20, 0, 21), (21, 2, 24), (21, 1, 23), (21, 0, 22), (19, 0, 20)] r)) hC dX5_init_36 (kdn_of (show 20 < 37 by decide) rfl) (kdn_of (show 33 < 37 by decide) rfl) (by unfold vp_in; decide) rfl rfl ?_
  refine k_iinc (q := 40) (i := 1) (y := (3 : Int32)) (v := (1 : Int32)) (lv' := [some (.ref 19), some (.int (4 : Int32))]) hC dX5_init_37 (by decide) rfl (by decide) (by rw [show ((3 : Int32) + (1 : Int32)) = (4 : Int32) by decide]; rfl) rfl ?_
  refine k_goto (tgt := 15) hC dX5_init_40 (by decide) ?_
  refine k_iload_n (q := 16) hC dX5_init_15 rfl rfl ?_
  refine k_aload_n (q := 17) hC dX5_init_16 rfl rfl ?_
  refine k_getR (q := 20) hC fl_X5_11 dX5_init_17 (kdn_of (show 19 < 37 by decide) rfl) (fun _ _ _ => rfl) rfl rfl ?_
  refine k_alen (q := 21) (y := (8 : Int32)) hC dX5_init_20 (kdn_of (show 20 < 37 by decide) rfl) (fun _ => rfl) rfl rfl ?_
  refine k_icmp_ge (q := 24) (tgt := 43) hC dX5_init_21 (by decide) rfl (fun hc => absurd hc (by decide)) (fun hc => ?_)
  refine k_aload_n (q := 25) hC dX5_init_24 rfl rfl ?_
  refine k_getR (q := 28) hC fl_X5_11 dX5_init_25 (kdn_of (show 19 < 37 by decide) rfl) (fun _ _ _ => rfl) rfl rfl ?_
  refine k_iload_n (q := 29) hC dX5_init_28 rfl rfl ?_
  refine k_new (q := 32) (w' := (38, 18, 592)) hC nl_X5_9 rfl dX5_init_29 (by decide) hsz (Dead.rl hDX4 (by decide) [(20, 3, 33), (33, 2, 36), (33, 1, 35), (33, 0, 34), (20, 2, 29), (29, 2, 32), (29, 1, 31), (29, 0, 30), (20, 1, 25), (25, 2, 28), (25, 1, 27), (25, 0, 26), (20, 0, 21), (21, 2, 24), (21, 1, 23), (21, 0, 22), (19, 0, 20)] (by decide +kernel)) (by decide) rfl rfl ?_
  refine k_dup (q := 33) hC dX5_init_32 rfl rfl ?_
  obtain ⟨y5, hy5, hf⟩ := bnd hf
  refine k_cI (q := 36) (w' := (41, 21, 728)) (r' := (rl [(37, 2, 40), (37, 1, 39), (37, 0, 38), (20, 3, 33), (33, 2, 36), (33, 1, 35), (33, 0, 34), (20, 2, 29), (29, 2, 32), (29, 1, 31), (29, 0, 30), (20, 1, 25), (25, 2, 28), (25, 1, 27), (25, 0, 26), (20, 0, 21), (21, 2, 24), (21, 1, 23), (21, 0, 22), (19, 0, 20)] r)) (av := [.ref 37]) (c0 := 37) (As := []) hC oX6_init iX6_init rfl rfl rfl dX5_init_33 lk_X5_17 (n_X6_37 e (rl [(20, 3, 33), (33, 2, 36), (33, 1, 35), (33, 0, 34), (20, 2, 29), (29, 2, 32), (29, 1, 31), (29, 0, 30), (20, 1, 25), (25, 2, 28), (25, 1, 27), (25, 0, 26), (20, 0, 21), (21, 2, 24), (21, 1, 23), (21, 0, 22), (19, 0, 20)] r) y4 z (Dead.rl hDX4 (by decide) [(20, 3, 33), (33, 2, 36), (33, 1, 35), (33, 0, 34), (20, 2, 29), (29, 2, 32), (29, 1, 31), (29, 0, 30), (20, 1, 25), (25, 2, 28), (25, 1, 27), (25, 0, 26), (20, 0, 21), (21, 2, 24), (21, 1, 23), (21, 0, 22), (19, 0, 20)] (by decide +kernel)) y5 hy5) (by decide) rfl (Nat.le_of_ble_eq_true rfl) (by decide) (by decide) hsz rfl rfl rfl ?_
  have hDX5 : Dead 41 r (y5, z) := Dead.rows (hDX4.mono (by decide)) (fun c hc => rs_n6_37 hy5 c hc)
  refine k_aast (q := 37) (r' := (rl [(20, 4, 37), (37, 2, 40), (37, 1, 39), (37, 0, 38), (20, 3, 33), (33, 2, 36), (33, 1, 35), (33, 0, 34), (20, 2, 29), (29, 2, 32), (29, 1, 31), (29, 0, 30), (20, 1, 25), (25, 2, 28), (25, 1, 27), (25, 0, 26), (20, 0, 21), (21, 2, 24), (21, 1, 23), (21, 0, 22), (19, 0, 20)] r)) hC dX5_init_36 (kdn_of (show 20 < 41 by decide) rfl) (kdn_of (show 37 < 41 by decide) rfl) (by unfold vp_in; decide) rfl rfl ?_
  refine k_iinc (q := 40) (i := 1) (y := (4 : Int32)) (v := (1 : Int32)) (lv' := [some (.ref 19), some (.int (5 : Int32))]) hC dX5_init_37 (by decide) rfl (by decide) (by rw [show ((4 : Int32) + (1 : Int32)) = (5 : Int32) by decide]; rfl) rfl ?_
  refine k_goto (tgt := 15) hC dX5_init_40 (by decide) ?_
  refine k_iload_n (q := 16) hC dX5_init_15 rfl rfl ?_
  refine k_aload_n (q := 17) hC dX5_init_16 rfl rfl ?_
  refine k_getR (q := 20) hC fl_X5_11 dX5_init_17 (kdn_of (show 19 < 41 by decide) rfl) (fun _ _ _ => rfl) rfl rfl ?_
  refine k_alen (q := 21) (y := (8 : Int32)) hC dX5_init_20 (kdn_of (show 20 < 41 by decide) rfl) (fun _ => rfl) rfl rfl ?_
  refine k_icmp_ge (q := 24) (tgt := 43) hC dX5_init_21 (by decide) rfl (fun hc => absurd hc (by decide)) (fun hc => ?_)
  refine k_aload_n (q := 25) hC dX5_init_24 rfl rfl ?_
  refine k_getR (q := 28) hC fl_X5_11 dX5_init_25 (kdn_of (show 19 < 41 by decide) rfl) (fun _ _ _ => rfl) rfl rfl ?_
  refine k_iload_n (q := 29) hC dX5_init_28 rfl rfl ?_
  refine k_new (q := 32) (w' := (42, 22, 736)) hC nl_X5_9 rfl dX5_init_29 (by decide) hsz (Dead.rl hDX5 (by decide) [(20, 4, 37), (37, 2, 40), (37, 1, 39), (37, 0, 38), (20, 3, 33), (33, 2, 36), (33, 1, 35), (33, 0, 34), (20, 2, 29), (29, 2, 32), (29, 1, 31), (29, 0, 30), (20, 1, 25), (25, 2, 28), (25, 1, 27), (25, 0, 26), (20, 0, 21), (21, 2, 24), (21, 1, 23), (21, 0, 22), (19, 0, 20)] (by decide +kernel)) (by decide) rfl rfl ?_
  refine k_dup (q := 33) hC dX5_init_32 rfl rfl ?_
  obtain ⟨y6, hy6, hf⟩ := bnd hf
  refine k_cI (q := 36) (w' := (45, 25, 872)) (r' := (rl [(41, 2, 44), (41, 1, 43), (41, 0, 42), (20, 4, 37), (37, 2, 40), (37, 1, 39), (37, 0, 38), (20, 3, 33), (33, 2, 36), (33, 1, 35), (33, 0, 34), (20, 2, 29), (29, 2, 32), (29, 1, 31), (29, 0, 30), (20, 1, 25), (25, 2, 28), (25, 1, 27), (25, 0, 26), (20, 0, 21), (21, 2, 24), (21, 1, 23), (21, 0, 22), (19, 0, 20)] r)) (av := [.ref 41]) (c0 := 41) (As := []) hC oX6_init iX6_init rfl rfl rfl dX5_init_33 lk_X5_17 (n_X6_41 e (rl [(20, 4, 37), (37, 2, 40), (37, 1, 39), (37, 0, 38), (20, 3, 33), (33, 2, 36), (33, 1, 35), (33, 0, 34), (20, 2, 29), (29, 2, 32), (29, 1, 31), (29, 0, 30), (20, 1, 25), (25, 2, 28), (25, 1, 27), (25, 0, 26), (20, 0, 21), (21, 2, 24), (21, 1, 23), (21, 0, 22), (19, 0, 20)] r) y5 z (Dead.rl hDX5 (by decide) [(20, 4, 37), (37, 2, 40), (37, 1, 39), (37, 0, 38), (20, 3, 33), (33, 2, 36), (33, 1, 35), (33, 0, 34), (20, 2, 29), (29, 2, 32), (29, 1, 31), (29, 0, 30), (20, 1, 25), (25, 2, 28), (25, 1, 27), (25, 0, 26), (20, 0, 21), (21, 2, 24), (21, 1, 23), (21, 0, 22), (19, 0, 20)] (by decide +kernel)) y6 hy6) (by decide) rfl (Nat.le_of_ble_eq_true rfl) (by decide) (by decide) hsz rfl rfl rfl ?_
  have hDX6 : Dead 45 r (y6, z) := Dead.rows (hDX5.mono (by decide)) (fun c hc => rs_n6_41 hy6 c hc)
  refine k_aast (q := 37) (r' := (rl [(20, 5, 41), (41, 2, 44), (41, 1, 43), (41, 0, 42), (20, 4, 37), (37, 2, 40), (37, 1, 39), (37, 0, 38), (20, 3, 33), (33, 2, 36), (33, 1, 35), (33, 0, 34), (20, 2, 29), (29, 2, 32), (29, 1, 31), (29, 0, 30), (20, 1, 25), (25, 2, 28), (25, 1, 27), (25, 0, 26), (20, 0, 21), (21, 2, 24), (21, 1, 23), (21, 0, 22), (19, 0, 20)] r)) hC dX5_init_36 (kdn_of (show 20 < 45 by decide) rfl) (kdn_of (show 41 < 45 by decide) rfl) (by unfold vp_in; decide) rfl rfl ?_
  refine k_iinc (q := 40) (i := 1) (y := (5 : Int32)) (v := (1 : Int32)) (lv' := [some (.ref 19), some (.int (6 : Int32))]) hC dX5_init_37 (by decide) rfl (by decide) (by rw [show ((5 : Int32) + (1 : Int32)) = (6 : Int32) by decide]; rfl) rfl ?_
  refine k_goto (tgt := 15) hC dX5_init_40 (by decide) ?_
  refine k_iload_n (q := 16) hC dX5_init_15 rfl rfl ?_
  refine k_aload_n (q := 17) hC dX5_init_16 rfl rfl ?_
  refine k_getR (q := 20) hC fl_X5_11 dX5_init_17 (kdn_of (show 19 < 45 by decide) rfl) (fun _ _ _ => rfl) rfl rfl ?_
  refine k_alen (q := 21) (y := (8 : Int32)) hC dX5_init_20 (kdn_of (show 20 < 45 by decide) rfl) (fun _ => rfl) rfl rfl ?_
  refine k_icmp_ge (q := 24) (tgt := 43) hC dX5_init_21 (by decide) rfl (fun hc => absurd hc (by decide)) (fun hc => ?_)
  refine k_aload_n (q := 25) hC dX5_init_24 rfl rfl ?_
  refine k_getR (q := 28) hC fl_X5_11 dX5_init_25 (kdn_of (show 19 < 45 by decide) rfl) (fun _ _ _ => rfl) rfl rfl ?_
  refine k_iload_n (q := 29) hC dX5_init_28 rfl rfl ?_
  refine k_new (q := 32) (w' := (46, 26, 880)) hC nl_X5_9 rfl dX5_init_29 (by decide) hsz (Dead.rl hDX6 (by decide) [(20, 5, 41), (41, 2, 44), (41, 1, 43), (41, 0, 42), (20, 4, 37), (37, 2, 40), (37, 1, 39), (37, 0, 38), (20, 3, 33), (33, 2, 36), (33, 1, 35), (33, 0, 34), (20, 2, 29), (29, 2, 32), (29, 1, 31), (29, 0, 30), (20, 1, 25), (25, 2, 28), (25, 1, 27), (25, 0, 26), (20, 0, 21), (21, 2, 24), (21, 1, 23), (21, 0, 22), (19, 0, 20)] (by decide +kernel)) (by decide) rfl rfl ?_
  refine k_dup (q := 33) hC dX5_init_32 rfl rfl ?_
  obtain ⟨y7, hy7, hf⟩ := bnd hf
  refine k_cI (q := 36) (w' := (49, 29, 1016)) (r' := (rl [(45, 2, 48), (45, 1, 47), (45, 0, 46), (20, 5, 41), (41, 2, 44), (41, 1, 43), (41, 0, 42), (20, 4, 37), (37, 2, 40), (37, 1, 39), (37, 0, 38), (20, 3, 33), (33, 2, 36), (33, 1, 35), (33, 0, 34), (20, 2, 29), (29, 2, 32), (29, 1, 31), (29, 0, 30), (20, 1, 25), (25, 2, 28), (25, 1, 27), (25, 0, 26), (20, 0, 21), (21, 2, 24), (21, 1, 23), (21, 0, 22), (19, 0, 20)] r)) (av := [.ref 45]) (c0 := 45) (As := []) hC oX6_init iX6_init rfl rfl rfl dX5_init_33 lk_X5_17 (n_X6_45 e (rl [(20, 5, 41), (41, 2, 44), (41, 1, 43), (41, 0, 42), (20, 4, 37), (37, 2, 40), (37, 1, 39), (37, 0, 38), (20, 3, 33), (33, 2, 36), (33, 1, 35), (33, 0, 34), (20, 2, 29), (29, 2, 32), (29, 1, 31), (29, 0, 30), (20, 1, 25), (25, 2, 28), (25, 1, 27), (25, 0, 26), (20, 0, 21), (21, 2, 24), (21, 1, 23), (21, 0, 22), (19, 0, 20)] r) y6 z (Dead.rl hDX6 (by decide) [(20, 5, 41), (41, 2, 44), (41, 1, 43), (41, 0, 42), (20, 4, 37), (37, 2, 40), (37, 1, 39), (37, 0, 38), (20, 3, 33), (33, 2, 36), (33, 1, 35), (33, 0, 34), (20, 2, 29), (29, 2, 32), (29, 1, 31), (29, 0, 30), (20, 1, 25), (25, 2, 28), (25, 1, 27), (25, 0, 26), (20, 0, 21), (21, 2, 24), (21, 1, 23), (21, 0, 22), (19, 0, 20)] (by decide +kernel)) y7 hy7) (by decide) rfl (Nat.le_of_ble_eq_true rfl) (by decide) (by decide) hsz rfl rfl rfl ?_
  have hDX7 : Dead 49 r (y7, z) := Dead.rows (hDX6.mono (by decide)) (fun c hc => rs_n6_45 hy7 c hc)
  refine k_aast (q := 37) (r' := (rl [(20, 6, 45), (45, 2, 48), (45, 1, 47), (45, 0, 46), (20, 5, 41), (41, 2, 44), (41, 1, 43), (41, 0, 42), (20, 4, 37), (37, 2, 40), (37, 1, 39), (37, 0, 38), (20, 3, 33), (33, 2, 36), (33, 1, 35), (33, 0, 34), (20, 2, 29), (29, 2, 32), (29, 1, 31), (29, 0, 30), (20, 1, 25), (25, 2, 28), (25, 1, 27), (25, 0, 26), (20, 0, 21), (21, 2, 24), (21, 1, 23), (21, 0, 22), (19, 0, 20)] r)) hC dX5_init_36 (kdn_of (show 20 < 49 by decide) rfl) (kdn_of (show 45 < 49 by decide) rfl) (by unfold vp_in; decide) rfl rfl ?_
  refine k_iinc (q := 40) (i := 1) (y := (6 : Int32)) (v := (1 : Int32)) (lv' := [some (.ref 19), some (.int (7 : Int32))]) hC dX5_init_37 (by decide) rfl (by decide) (by rw [show ((6 : Int32) + (1 : Int32)) = (7 : Int32) by decide]; rfl) rfl ?_
  refine k_goto (tgt := 15) hC dX5_init_40 (by decide) ?_
  refine k_iload_n (q := 16) hC dX5_init_15 rfl rfl ?_
  refine k_aload_n (q := 17) hC dX5_init_16 rfl rfl ?_
  refine k_getR (q := 20) hC fl_X5_11 dX5_init_17 (kdn_of (show 19 < 49 by decide) rfl) (fun _ _ _ => rfl) rfl rfl ?_
  refine k_alen (q := 21) (y := (8 : Int32)) hC dX5_init_20 (kdn_of (show 20 < 49 by decide) rfl) (fun _ => rfl) rfl rfl ?_
  refine k_icmp_ge (q := 24) (tgt := 43) hC dX5_init_21 (by decide) rfl (fun hc => absurd hc (by decide)) (fun hc => ?_)
  refine k_aload_n (q := 25) hC dX5_init_24 rfl rfl ?_
  refine k_getR (q := 28) hC fl_X5_11 dX5_init_25 (kdn_of (show 19 < 49 by decide) rfl) (fun _ _ _ => rfl) rfl rfl ?_
  refine k_iload_n (q := 29) hC dX5_init_28 rfl rfl ?_
  refine k_new (q := 32) (w' := (50, 30, 1024)) hC nl_X5_9 rfl dX5_init_29 (by decide) hsz (Dead.rl hDX7 (by decide) [(20, 6, 45), (45, 2, 48), (45, 1, 47), (45, 0, 46), (20, 5, 41), (41, 2, 44), (41, 1, 43), (41, 0, 42), (20, 4, 37), (37, 2, 40), (37, 1, 39), (37, 0, 38), (20, 3, 33), (33, 2, 36), (33, 1, 35), (33, 0, 34), (20, 2, 29), (29, 2, 32), (29, 1, 31), (29, 0, 30), (20, 1, 25), (25, 2, 28), (25, 1, 27), (25, 0, 26), (20, 0, 21), (21, 2, 24), (21, 1, 23), (21, 0, 22), (19, 0, 20)] (by decide +kernel)) (by decide) rfl rfl ?_
  refine k_dup (q := 33) hC dX5_init_32 rfl rfl ?_
  obtain ⟨y8, hy8, hf⟩ := bnd hf
  refine k_cI (q := 36) (w' := (53, 33, 1160)) (r' := (rl [(49, 2, 52), (49, 1, 51), (49, 0, 50), (20, 6, 45), (45, 2, 48), (45, 1, 47), (45, 0, 46), (20, 5, 41), (41, 2, 44), (41, 1, 43), (41, 0, 42), (20, 4, 37), (37, 2, 40), (37, 1, 39), (37, 0, 38), (20, 3, 33), (33, 2, 36), (33, 1, 35), (33, 0, 34), (20, 2, 29), (29, 2, 32), (29, 1, 31), (29, 0, 30), (20, 1, 25), (25, 2, 28), (25, 1, 27), (25, 0, 26), (20, 0, 21), (21, 2, 24), (21, 1, 23), (21, 0, 22), (19, 0, 20)] r)) (av := [.ref 49]) (c0 := 49) (As := []) hC oX6_init iX6_init rfl rfl rfl dX5_init_33 lk_X5_17 (n_X6_49 e (rl [(20, 6, 45), (45, 2, 48), (45, 1, 47), (45, 0, 46), (20, 5, 41), (41, 2, 44), (41, 1, 43), (41, 0, 42), (20, 4, 37), (37, 2, 40), (37, 1, 39), (37, 0, 38), (20, 3, 33), (33, 2, 36), (33, 1, 35), (33, 0, 34), (20, 2, 29), (29, 2, 32), (29, 1, 31), (29, 0, 30), (20, 1, 25), (25, 2, 28), (25, 1, 27), (25, 0, 26), (20, 0, 21), (21, 2, 24), (21, 1, 23), (21, 0, 22), (19, 0, 20)] r) y7 z (Dead.rl hDX7 (by decide) [(20, 6, 45), (45, 2, 48), (45, 1, 47), (45, 0, 46), (20, 5, 41), (41, 2, 44), (41, 1, 43), (41, 0, 42), (20, 4, 37), (37, 2, 40), (37, 1, 39), (37, 0, 38), (20, 3, 33), (33, 2, 36), (33, 1, 35), (33, 0, 34), (20, 2, 29), (29, 2, 32), (29, 1, 31), (29, 0, 30), (20, 1, 25), (25, 2, 28), (25, 1, 27), (25, 0, 26), (20, 0, 21), (21, 2, 24), (21, 1, 23), (21, 0, 22), (19, 0, 20)] (by decide +kernel)) y8 hy8) (by decide) rfl (Nat.le_of_ble_eq_true rfl) (by decide) (by decide) hsz rfl rfl rfl ?_
  have hDX8 : Dead 53 r (y8, z) := Dead.rows (hDX7.mono (by decide)) (fun c hc => rs_n6_49 hy8 c hc)
  refine k_aast (q := 37) (r' := (rl [(20, 7, 49), (49, 2, 52), (49, 1, 51), (49, 0, 50), (20, 6, 45), (45, 2, 48), (45, 1, 47), (45, 0, 46), (20, 5, 41), (41, 2, 44), (41, 1, 43), (41, 0, 42), (20, 4, 37), (37, 2, 40), (37, 1, 39), (37, 0, 38), (20, 3, 33), (33, 2, 36), (33, 1, 35), (33, 0, 34), (20, 2, 29), (29, 2, 32), (29, 1, 31), (29, 0, 30), (20, 1, 25), (25, 2, 28), (25, 1, 27), (25, 0, 26), (20, 0, 21), (21, 2, 24), (21, 1, 23), (21, 0, 22), (19, 0, 20)] r)) hC dX5_init_36 (kdn_of (show 20 < 53 by decide) rfl) (kdn_of (show 49 < 53 by decide) rfl) (by unfold vp_in; decide) rfl rfl ?_
  refine k_iinc (q := 40) (i := 1) (y := (7 : Int32)) (v := (1 : Int32)) (lv' := [some (.ref 19), some (.int (8 : Int32))]) hC dX5_init_37 (by decide) rfl (by decide) (by rw [show ((7 : Int32) + (1 : Int32)) = (8 : Int32) by decide]; rfl) rfl ?_
  refine k_goto (tgt := 15) hC dX5_init_40 (by decide) ?_
  refine k_iload_n (q := 16) hC dX5_init_15 rfl rfl ?_
  refine k_aload_n (q := 17) hC dX5_init_16 rfl rfl ?_
  refine k_getR (q := 20) hC fl_X5_11 dX5_init_17 (kdn_of (show 19 < 53 by decide) rfl) (fun _ _ _ => rfl) rfl rfl ?_
  refine k_alen (q := 21) (y := (8 : Int32)) hC dX5_init_20 (kdn_of (show 20 < 53 by decide) rfl) (fun _ => rfl) rfl rfl ?_
  refine k_icmp_ge (q := 24) (tgt := 43) hC dX5_init_21 (by decide) rfl (fun hc => ?_) (fun hc => (hc (by decide)).elim)
  cases hf
  exact k_vret hC hQ rfl dX5_init_43
set_option maxRecDepth 100000 in
set_option maxHeartbeats 8000000 in
theorem n_X1_53 (e : gEV) (r : gRH) (xc : gXH) (z : gIH × gLH) (hD : Dead 54 r (xc, z)) : Cal e qX1_init 1 0 0 true 54 [.ref 53] r (xc, z) none 54 r (xc, z) := by
  refine cal_ofI oX1_init rfl (lv := [some (.ref 53)]) (fun v hv => by simp at hv; subst hv; rfl) (Nat.le_of_ble_eq_true rfl) rfl (fun C hC hQ hsz hI => ?_)
  have hsz := hsz rfl
  refine k_aload_n (q := 1) hC dX1_init_0 rfl rfl ?_
  refine k_objI (q := 4) hC lko_X1 wOb1 wOb2 dX1_init_1 (by decide) (by decide) rfl ?_
  exact k_vret hC hQ rfl dX1_init_4
set_option maxRecDepth 100000 in
set_option maxHeartbeats 8000000 in
theorem n_X3_55 (e : gEV) (r : gRH) (xc : gXH) (z : gIH × gLH) (hD : Dead 56 r (xc, z)) : Cal e qX3_init 1 4 64 true 56 [.ref 55] r (xc, z) none 60 (rl [(55, 3, 59), (55, 2, 58), (55, 1, 57), (55, 0, 56)] r) (xc, z) := by
  refine cal_ofI oX3_init rfl (lv := [some (.ref 55)]) (fun v hv => by simp at hv; subst hv; rfl) (Nat.le_of_ble_eq_true rfl) rfl (fun C hC hQ hsz hI => ?_)
  have hsz := hsz rfl
  refine k_aload_n (q := 1) hC dX3_init_0 rfl rfl ?_
  refine k_objI (q := 4) hC lko_X3 wOb1 wOb2 dX3_init_1 (by decide) (by decide) rfl ?_
  refine k_aload_n (q := 5) hC dX3_init_4 rfl rfl ?_
  refine k_bipush (q := 7) (v := (16 : Int32)) hC dX3_init_5 (by decide) rfl ?_
  refine k_newa (q := 9) (w' := (57, 1, 16)) (at0 := .int) hC rfl ac_int (fun _ => rfl) (by decide) rfl (by decide) (by decide) (by decide) dX3_init_7 (by decide) hsz (hD.mono (by decide)) (by decide) rfl rfl ?_
  refine k_putFR (q := 12) (r' := (rl [(55, 0, 56)] r)) hC hI fl_X3_9 rfl rfl dX3_init_9 (kdn_of (show 55 < 57 by decide) rfl) (fun _ _ _ => rfl) rfl rfl rfl rfl ?_
  refine k_aload_n (q := 13) hC dX3_init_12 rfl rfl ?_
  refine k_bipush (q := 15) (v := (16 : Int32)) hC dX3_init_13 (by decide) rfl ?_
  refine k_newa (q := 17) (w' := (58, 2, 32)) (at0 := .int) hC rfl ac_int (fun _ => rfl) (by decide) rfl (by decide) (by decide) (by decide) dX3_init_15 (by decide) hsz (Dead.rl hD (by decide) [(55, 0, 56)] (by decide +kernel)) (by decide) rfl rfl ?_
  refine k_putFR (q := 20) (r' := (rl [(55, 1, 57), (55, 0, 56)] r)) hC hI fl_X3_15 rfl rfl dX3_init_17 (kdn_of (show 55 < 58 by decide) rfl) (fun _ _ _ => rfl) rfl rfl rfl rfl ?_
  refine k_aload_n (q := 21) hC dX3_init_20 rfl rfl ?_
  refine k_bipush (q := 23) (v := (16 : Int32)) hC dX3_init_21 (by decide) rfl ?_
  refine k_newa (q := 25) (w' := (59, 3, 48)) (at0 := .int) hC rfl ac_int (fun _ => rfl) (by decide) rfl (by decide) (by decide) (by decide) dX3_init_23 (by decide) hsz (Dead.rl hD (by decide) [(55, 1, 57), (55, 0, 56)] (by decide +kernel)) (by decide) rfl rfl ?_
  refine k_putFR (q := 28) (r' := (rl [(55, 2, 58), (55, 1, 57), (55, 0, 56)] r)) hC hI fl_X3_18 rfl rfl dX3_init_25 (kdn_of (show 55 < 59 by decide) rfl) (fun _ _ _ => rfl) rfl rfl rfl rfl ?_
  refine k_aload_n (q := 29) hC dX3_init_28 rfl rfl ?_
  refine k_bipush (q := 31) (v := (16 : Int32)) hC dX3_init_29 (by decide) rfl ?_
  refine k_newa (q := 33) (w' := (60, 4, 64)) (at0 := .int) hC rfl ac_int (fun _ => rfl) (by decide) rfl (by decide) (by decide) (by decide) dX3_init_31 (by decide) hsz (Dead.rl hD (by decide) [(55, 2, 58), (55, 1, 57), (55, 0, 56)] (by decide +kernel)) (by decide) rfl rfl ?_
  refine k_putFR (q := 36) (r' := (rl [(55, 3, 59), (55, 2, 58), (55, 1, 57), (55, 0, 56)] r)) hC hI fl_X3_21 rfl rfl dX3_init_33 (kdn_of (show 55 < 60 by decide) rfl) (fun _ _ _ => rfl) rfl rfl rfl rfl ?_
  exact k_vret hC hQ rfl dX3_init_36
set_option maxRecDepth 100000 in
set_option maxHeartbeats 8000000 in
theorem n_X4_64 (e : gEV) (r : gRH) (xc : gXH) (z : gIH × gLH) (hD : Dead 65 r (xc, z)) : Cal e qX4_init 1 1 16 true 65 [.ref 64] r (xc, z) none 66 (rl [(64, 0, 65)] r) (xc, z) := by
  refine cal_ofI oX4_init rfl (lv := [some (.ref 64)]) (fun v hv => by simp at hv; subst hv; rfl) (Nat.le_of_ble_eq_true rfl) rfl (fun C hC hQ hsz hI => ?_)
  have hsz := hsz rfl
  refine k_aload_n (q := 1) hC dX4_init_0 rfl rfl ?_
  refine k_objI (q := 4) hC lko_X4 wOb1 wOb2 dX4_init_1 (by decide) (by decide) rfl ?_
  refine k_aload_n (q := 5) hC dX4_init_4 rfl rfl ?_
  refine k_bipush (q := 7) (v := (16 : Int32)) hC dX4_init_5 (by decide) rfl ?_
  refine k_newa (q := 9) (w' := (66, 1, 16)) (at0 := .int) hC rfl ac_int (fun _ => rfl) (by decide) rfl (by decide) (by decide) (by decide) dX4_init_7 (by decide) hsz (hD.mono (by decide)) (by decide) rfl rfl ?_
  refine k_putFR (q := 12) (r' := (rl [(64, 0, 65)] r)) hC hI fl_X4_9 rfl rfl dX4_init_9 (kdn_of (show 64 < 66 by decide) rfl) (fun _ _ _ => rfl) rfl rfl rfl rfl ?_
  exact k_vret hC hQ rfl dX4_init_12
set_option maxRecDepth 100000 in
set_option maxHeartbeats 8000000 in
theorem n_X2_66 (e : gEV) (r : gRH) (xc : gXH) (z : gIH × gLH) (hD : Dead 67 r (xc, z)) : Cal e qX2_init 1 3 1088 true 67 [.ref 66] r (xc, z) none 70 (rl [(66, 2, 69), (66, 1, 68), (66, 0, 67)] r) (xc, z) := by
  refine cal_ofI oX2_init rfl (lv := [some (.ref 66)]) (fun v hv => by simp at hv; subst hv; rfl) (Nat.le_of_ble_eq_true rfl) rfl (fun C hC hQ hsz hI => ?_)
  have hsz := hsz rfl
  refine k_aload_n (q := 1) hC dX2_init_0 rfl rfl ?_
  refine k_objI (q := 4) hC lko_X2 wOb1 wOb2 dX2_init_1 (by decide) (by decide) rfl ?_
  refine k_aload_n (q := 5) hC dX2_init_4 rfl rfl ?_
  refine k_sipush (q := 8) (v := (1024 : Int32)) hC dX2_init_5 (by decide) rfl ?_
  refine k_newa (q := 10) (w' := (68, 1, 1024)) (at0 := .int) hC rfl ac_int (fun _ => rfl) (by decide) rfl (by decide) (by decide) (by decide) dX2_init_8 (by decide) hsz (hD.mono (by decide)) (by decide) rfl rfl ?_
  refine k_putFR (q := 13) (r' := (rl [(66, 0, 67)] r)) hC hI fl_X2_11 rfl rfl dX2_init_10 (kdn_of (show 66 < 68 by decide) rfl) (fun _ _ _ => rfl) rfl rfl rfl rfl ?_
  refine k_aload_n (q := 14) hC dX2_init_13 rfl rfl ?_
  refine k_bipush (q := 16) (v := (32 : Int32)) hC dX2_init_14 (by decide) rfl ?_
  refine k_newa (q := 18) (w' := (69, 2, 1056)) (at0 := .int) hC rfl ac_int (fun _ => rfl) (by decide) rfl (by decide) (by decide) (by decide) dX2_init_16 (by decide) hsz (Dead.rl hD (by decide) [(66, 0, 67)] (by decide +kernel)) (by decide) rfl rfl ?_
  refine k_putFR (q := 21) (r' := (rl [(66, 1, 68), (66, 0, 67)] r)) hC hI fl_X2_15 rfl rfl dX2_init_18 (kdn_of (show 66 < 69 by decide) rfl) (fun _ _ _ => rfl) rfl rfl rfl rfl ?_
  refine k_aload_n (q := 22) hC dX2_init_21 rfl rfl ?_
  refine k_bipush (q := 24) (v := (32 : Int32)) hC dX2_init_22 (by decide) rfl ?_
  refine k_newa (q := 26) (w' := (70, 3, 1088)) (at0 := .int) hC rfl ac_int (fun _ => rfl) (by decide) rfl (by decide) (by decide) (by decide) dX2_init_24 (by decide) hsz (Dead.rl hD (by decide) [(66, 1, 68), (66, 0, 67)] (by decide +kernel)) (by decide) rfl rfl ?_
  refine k_putFR (q := 29) (r' := (rl [(66, 2, 69), (66, 1, 68), (66, 0, 67)] r)) hC hI fl_X2_18 rfl rfl dX2_init_26 (kdn_of (show 66 < 70 by decide) rfl) (fun _ _ _ => rfl) rfl rfl rfl rfl ?_
  exact k_vret hC hQ rfl dX2_init_29
set_option maxRecDepth 100000 in
set_option maxHeartbeats 8000000 in
theorem n_X1_70 (e : gEV) (r : gRH) (xc : gXH) (z : gIH × gLH) (hD : Dead 71 r (xc, z)) : Cal e qX1_init 1 0 0 true 71 [.ref 70] r (xc, z) none 71 r (xc, z) := by
  refine cal_ofI oX1_init rfl (lv := [some (.ref 70)]) (fun v hv => by simp at hv; subst hv; rfl) (Nat.le_of_ble_eq_true rfl) rfl (fun C hC hQ hsz hI => ?_)
  have hsz := hsz rfl
  refine k_aload_n (q := 1) hC dX1_init_0 rfl rfl ?_
  refine k_objI (q := 4) hC lko_X1 wOb1 wOb2 dX1_init_1 (by decide) (by decide) rfl ?_
  exact k_vret hC hQ rfl dX1_init_4
set_option maxRecDepth 100000 in
set_option maxHeartbeats 8000000 in
theorem n_X3_71 (e : gEV) (r : gRH) (xc : gXH) (z : gIH × gLH) (hD : Dead 72 r (xc, z)) : Cal e qX3_init 1 4 64 true 72 [.ref 71] r (xc, z) none 76 (rl [(71, 3, 75), (71, 2, 74), (71, 1, 73), (71, 0, 72)] r) (xc, z) := by
  refine cal_ofI oX3_init rfl (lv := [some (.ref 71)]) (fun v hv => by simp at hv; subst hv; rfl) (Nat.le_of_ble_eq_true rfl) rfl (fun C hC hQ hsz hI => ?_)
  have hsz := hsz rfl
  refine k_aload_n (q := 1) hC dX3_init_0 rfl rfl ?_
  refine k_objI (q := 4) hC lko_X3 wOb1 wOb2 dX3_init_1 (by decide) (by decide) rfl ?_
  refine k_aload_n (q := 5) hC dX3_init_4 rfl rfl ?_
  refine k_bipush (q := 7) (v := (16 : Int32)) hC dX3_init_5 (by decide) rfl ?_
  refine k_newa (q := 9) (w' := (73, 1, 16)) (at0 := .int) hC rfl ac_int (fun _ => rfl) (by decide) rfl (by decide) (by decide) (by decide) dX3_init_7 (by decide) hsz (hD.mono (by decide)) (by decide) rfl rfl ?_
  refine k_putFR (q := 12) (r' := (rl [(71, 0, 72)] r)) hC hI fl_X3_9 rfl rfl dX3_init_9 (kdn_of (show 71 < 73 by decide) rfl) (fun _ _ _ => rfl) rfl rfl rfl rfl ?_
  refine k_aload_n (q := 13) hC dX3_init_12 rfl rfl ?_
  refine k_bipush (q := 15) (v := (16 : Int32)) hC dX3_init_13 (by decide) rfl ?_
  refine k_newa (q := 17) (w' := (74, 2, 32)) (at0 := .int) hC rfl ac_int (fun _ => rfl) (by decide) rfl (by decide) (by decide) (by decide) dX3_init_15 (by decide) hsz (Dead.rl hD (by decide) [(71, 0, 72)] (by decide +kernel)) (by decide) rfl rfl ?_
  refine k_putFR (q := 20) (r' := (rl [(71, 1, 73), (71, 0, 72)] r)) hC hI fl_X3_15 rfl rfl dX3_init_17 (kdn_of (show 71 < 74 by decide) rfl) (fun _ _ _ => rfl) rfl rfl rfl rfl ?_
  refine k_aload_n (q := 21) hC dX3_init_20 rfl rfl ?_
  refine k_bipush (q := 23) (v := (16 : Int32)) hC dX3_init_21 (by decide) rfl ?_
  refine k_newa (q := 25) (w' := (75, 3, 48)) (at0 := .int) hC rfl ac_int (fun _ => rfl) (by decide) rfl (by decide) (by decide) (by decide) dX3_init_23 (by decide) hsz (Dead.rl hD (by decide) [(71, 1, 73), (71, 0, 72)] (by decide +kernel)) (by decide) rfl rfl ?_
  refine k_putFR (q := 28) (r' := (rl [(71, 2, 74), (71, 1, 73), (71, 0, 72)] r)) hC hI fl_X3_18 rfl rfl dX3_init_25 (kdn_of (show 71 < 75 by decide) rfl) (fun _ _ _ => rfl) rfl rfl rfl rfl ?_
  refine k_aload_n (q := 29) hC dX3_init_28 rfl rfl ?_
  refine k_bipush (q := 31) (v := (16 : Int32)) hC dX3_init_29 (by decide) rfl ?_
  refine k_newa (q := 33) (w' := (76, 4, 64)) (at0 := .int) hC rfl ac_int (fun _ => rfl) (by decide) rfl (by decide) (by decide) (by decide) dX3_init_31 (by decide) hsz (Dead.rl hD (by decide) [(71, 2, 74), (71, 1, 73), (71, 0, 72)] (by decide +kernel)) (by decide) rfl rfl ?_
  refine k_putFR (q := 36) (r' := (rl [(71, 3, 75), (71, 2, 74), (71, 1, 73), (71, 0, 72)] r)) hC hI fl_X3_21 rfl rfl dX3_init_33 (kdn_of (show 71 < 76 by decide) rfl) (fun _ _ _ => rfl) rfl rfl rfl rfl ?_
  exact k_vret hC hQ rfl dX3_init_36
set_option maxRecDepth 100000 in
set_option maxHeartbeats 8000000 in
theorem n_X3_76 (e : gEV) (r : gRH) (xc : gXH) (z : gIH × gLH) (hD : Dead 77 r (xc, z)) : Cal e qX3_init 1 4 64 true 77 [.ref 76] r (xc, z) none 81 (rl [(76, 3, 80), (76, 2, 79), (76, 1, 78), (76, 0, 77)] r) (xc, z) := by
  refine cal_ofI oX3_init rfl (lv := [some (.ref 76)]) (fun v hv => by simp at hv; subst hv; rfl) (Nat.le_of_ble_eq_true rfl) rfl (fun C hC hQ hsz hI => ?_)
  have hsz := hsz rfl
  refine k_aload_n (q := 1) hC dX3_init_0 rfl rfl ?_
  refine k_objI (q := 4) hC lko_X3 wOb1 wOb2 dX3_init_1 (by decide) (by decide) rfl ?_
  refine k_aload_n (q := 5) hC dX3_init_4 rfl rfl ?_
  refine k_bipush (q := 7) (v := (16 : Int32)) hC dX3_init_5 (by decide) rfl ?_
  refine k_newa (q := 9) (w' := (78, 1, 16)) (at0 := .int) hC rfl ac_int (fun _ => rfl) (by decide) rfl (by decide) (by decide) (by decide) dX3_init_7 (by decide) hsz (hD.mono (by decide)) (by decide) rfl rfl ?_
  refine k_putFR (q := 12) (r' := (rl [(76, 0, 77)] r)) hC hI fl_X3_9 rfl rfl dX3_init_9 (kdn_of (show 76 < 78 by decide) rfl) (fun _ _ _ => rfl) rfl rfl rfl rfl ?_
  refine k_aload_n (q := 13) hC dX3_init_12 rfl rfl ?_
  refine k_bipush (q := 15) (v := (16 : Int32)) hC dX3_init_13 (by decide) rfl ?_
  refine k_newa (q := 17) (w' := (79, 2, 32)) (at0 := .int) hC rfl ac_int (fun _ => rfl) (by decide) rfl (by decide) (by decide) (by decide) dX3_init_15 (by decide) hsz (Dead.rl hD (by decide) [(76, 0, 77)] (by decide +kernel)) (by decide) rfl rfl ?_
  refine k_putFR (q := 20) (r' := (rl [(76, 1, 78), (76, 0, 77)] r)) hC hI fl_X3_15 rfl rfl dX3_init_17 (kdn_of (show 76 < 79 by decide) rfl) (fun _ _ _ => rfl) rfl rfl rfl rfl ?_
  refine k_aload_n (q := 21) hC dX3_init_20 rfl rfl ?_
  refine k_bipush (q := 23) (v := (16 : Int32)) hC dX3_init_21 (by decide) rfl ?_
  refine k_newa (q := 25) (w' := (80, 3, 48)) (at0 := .int) hC rfl ac_int (fun _ => rfl) (by decide) rfl (by decide) (by decide) (by decide) dX3_init_23 (by decide) hsz (Dead.rl hD (by decide) [(76, 1, 78), (76, 0, 77)] (by decide +kernel)) (by decide) rfl rfl ?_
  refine k_putFR (q := 28) (r' := (rl [(76, 2, 79), (76, 1, 78), (76, 0, 77)] r)) hC hI fl_X3_18 rfl rfl dX3_init_25 (kdn_of (show 76 < 80 by decide) rfl) (fun _ _ _ => rfl) rfl rfl rfl rfl ?_
  refine k_aload_n (q := 29) hC dX3_init_28 rfl rfl ?_
  refine k_bipush (q := 31) (v := (16 : Int32)) hC dX3_init_29 (by decide) rfl ?_
  refine k_newa (q := 33) (w' := (81, 4, 64)) (at0 := .int) hC rfl ac_int (fun _ => rfl) (by decide) rfl (by decide) (by decide) (by decide) dX3_init_31 (by decide) hsz (Dead.rl hD (by decide) [(76, 2, 79), (76, 1, 78), (76, 0, 77)] (by decide +kernel)) (by decide) rfl rfl ?_
  refine k_putFR (q := 36) (r' := (rl [(76, 3, 80), (76, 2, 79), (76, 1, 78), (76, 0, 77)] r)) hC hI fl_X3_21 rfl rfl dX3_init_33 (kdn_of (show 76 < 81 by decide) rfl) (fun _ _ _ => rfl) rfl rfl rfl rfl ?_
  exact k_vret hC hQ rfl dX3_init_36
set_option maxRecDepth 100000 in
set_option maxHeartbeats 8000000 in
theorem n_X8_54 (e : gEV) (r : gRH) (xc : gXH) (z : gIH × gLH) (hD : Dead 55 r (xc, z)) : Cal e qX8_init 2 26 1624 true 55 [.ref 54, .ref 7] r (xc, z) none 81 (rl [(54, 0, 7), (54, 10, 76), (76, 3, 80), (76, 2, 79), (76, 1, 78), (76, 0, 77), (54, 9, 71), (71, 3, 75), (71, 2, 74), (71, 1, 73), (71, 0, 72), (54, 8, 70), (54, 7, 66), (66, 2, 69), (66, 1, 68), (66, 0, 67), (54, 6, 64), (64, 0, 65), (54, 5, 63), (54, 4, 62), (54, 3, 61), (54, 2, 60), (54, 1, 55), (55, 3, 59), (55, 2, 58), (55, 1, 57), (55, 0, 56)] r) (xc, z) := by
  refine cal_ofI oX8_init rfl (lv := [some (.ref 54), some (.ref 7)]) (fun v hv => by simp at hv; rcases hv with rfl | rfl <;> rfl) (Nat.le_of_ble_eq_true rfl) rfl (fun C hC hQ hsz hI => ?_)
  have hsz := hsz rfl
  refine k_aload_n (q := 1) hC dX8_init_0 rfl rfl ?_
  refine k_objI (q := 4) hC lko_X8 wOb1 wOb2 dX8_init_1 (by decide) (by decide) rfl ?_
  refine k_aload_n (q := 5) hC dX8_init_4 rfl rfl ?_
  refine k_new (q := 8) (w' := (56, 1, 5)) hC nl_X8_9 rfl dX8_init_5 (by decide) hsz (hD.mono (by decide)) (by decide) rfl rfl ?_
  refine k_dup (q := 9) hC dX8_init_8 rfl rfl ?_
  refine k_cIN (q := 12) (w' := (60, 5, 69)) (r' := (rl [(55, 3, 59), (55, 2, 58), (55, 1, 57), (55, 0, 56)] r)) (av := [.ref 55]) (c0 := 55) (As := []) hC oX3_init iX3_init rfl rfl rfl dX8_init_9 lk_X8_11 (n_X3_55 e r xc z (hD.mono (by decide))) (by decide) rfl (Nat.le_of_ble_eq_true rfl) (by decide) (by decide) hsz rfl rfl rfl ?_
  refine k_putFR (q := 15) (r' := (rl [(54, 1, 55), (55, 3, 59), (55, 2, 58), (55, 1, 57), (55, 0, 56)] r)) hC hI fl_X8_12 rfl rfl dX8_init_12 (kdn_of (show 54 < 60 by decide) rfl) (fun _ _ _ => rfl) rfl rfl rfl rfl ?_
  refine k_aload_n (q := 16) hC dX8_init_15 rfl rfl ?_
  refine k_bipush (q := 18) (v := (16 : Int32)) hC dX8_init_16 (by decide) rfl ?_
  refine k_newa (q := 20) (w' := (61, 6, 85)) (at0 := .int) hC rfl ac_int (fun _ => rfl) (by decide) rfl (by decide) (by decide) (by decide) dX8_init_18 (by decide) hsz (Dead.rl hD (by decide) [(54, 1, 55), (55, 3, 59), (55, 2, 58), (55, 1, 57), (55, 0, 56)] (by decide +kernel)) (by decide) rfl rfl ?_
  refine k_putFR (q := 23) (r' := (rl [(54, 2, 60), (54, 1, 55), (55, 3, 59), (55, 2, 58), (55, 1, 57), (55, 0, 56)] r)) hC hI fl_X8_18 rfl rfl dX8_init_20 (kdn_of (show 54 < 61 by decide) rfl) (fun _ _ _ => rfl) rfl rfl rfl rfl ?_
  refine k_aload_n (q := 24) hC dX8_init_23 rfl rfl ?_
  refine k_bipush (q := 26) (v := (16 : Int32)) hC dX8_init_24 (by decide) rfl ?_
  refine k_newa (q := 28) (w' := (62, 7, 101)) (at0 := .int) hC rfl ac_int (fun _ => rfl) (by decide) rfl (by decide) (by decide) (by decide) dX8_init_26 (by decide) hsz (Dead.rl hD (by decide) [(54, 2, 60), (54, 1, 55), (55, 3, 59), (55, 2, 58), (55, 1, 57), (55, 0, 56)] (by decide +kernel)) (by decide) rfl rfl ?_
  refine k_putFR (q := 31) (r' := (rl [(54, 3, 61), (54, 2, 60), (54, 1, 55), (55, 3, 59), (55, 2, 58), (55, 1, 57), (55, 0, 56)] r)) hC hI fl_X8_22 rfl rfl dX8_init_28 (kdn_of (show 54 < 62 by decide) rfl) (fun _ _ _ => rfl) rfl rfl rfl rfl ?_
  refine k_aload_n (q := 32) hC dX8_init_31 rfl rfl ?_
  refine k_bipush (q := 34) (v := (16 : Int32)) hC dX8_init_32 (by decide) rfl ?_
  refine k_newa (q := 36) (w' := (63, 8, 117)) (at0 := .int) hC rfl ac_int (fun _ => rfl) (by decide) rfl (by decide) (by decide) (by decide) dX8_init_34 (by decide) hsz (Dead.rl hD (by decide) [(54, 3, 61), (54, 2, 60), (54, 1, 55), (55, 3, 59), (55, 2, 58), (55, 1, 57), (55, 0, 56)] (by decide +kernel)) (by decide) rfl rfl ?_
  refine k_putFR (q := 39) (r' := (rl [(54, 4, 62), (54, 3, 61), (54, 2, 60), (54, 1, 55), (55, 3, 59), (55, 2, 58), (55, 1, 57), (55, 0, 56)] r)) hC hI fl_X8_25 rfl rfl dX8_init_36 (kdn_of (show 54 < 63 by decide) rfl) (fun _ _ _ => rfl) rfl rfl rfl rfl ?_
  refine k_aload_n (q := 40) hC dX8_init_39 rfl rfl ?_
  refine k_sipush (q := 43) (v := (256 : Int32)) hC dX8_init_40 (by decide) rfl ?_
  refine k_newa (q := 45) (w' := (64, 9, 373)) (at0 := .int) hC rfl ac_int (fun _ => rfl) (by decide) rfl (by decide) (by decide) (by decide) dX8_init_43 (by decide) hsz (Dead.rl hD (by decide) [(54, 4, 62), (54, 3, 61), (54, 2, 60), (54, 1, 55), (55, 3, 59), (55, 2, 58), (55, 1, 57), (55, 0, 56)] (by decide +kernel)) (by decide) rfl rfl ?_
  refine k_putFR (q := 48) (r' := (rl [(54, 5, 63), (54, 4, 62), (54, 3, 61), (54, 2, 60), (54, 1, 55), (55, 3, 59), (55, 2, 58), (55, 1, 57), (55, 0, 56)] r)) hC hI fl_X8_28 rfl rfl dX8_init_45 (kdn_of (show 54 < 64 by decide) rfl) (fun _ _ _ => rfl) rfl rfl rfl rfl ?_
  refine k_aload_n (q := 49) hC dX8_init_48 rfl rfl ?_
  refine k_new (q := 52) (w' := (65, 10, 375)) hC nl_X8_31 rfl dX8_init_49 (by decide) hsz (Dead.rl hD (by decide) [(54, 5, 63), (54, 4, 62), (54, 3, 61), (54, 2, 60), (54, 1, 55), (55, 3, 59), (55, 2, 58), (55, 1, 57), (55, 0, 56)] (by decide +kernel)) (by decide) rfl rfl ?_
  refine k_dup (q := 53) hC dX8_init_52 rfl rfl ?_
  refine k_cIN (q := 56) (w' := (66, 11, 391)) (r' := (rl [(64, 0, 65), (54, 5, 63), (54, 4, 62), (54, 3, 61), (54, 2, 60), (54, 1, 55), (55, 3, 59), (55, 2, 58), (55, 1, 57), (55, 0, 56)] r)) (av := [.ref 64]) (c0 := 64) (As := []) hC oX4_init iX4_init rfl rfl rfl dX8_init_53 lk_X8_33 (n_X4_64 e (rl [(54, 5, 63), (54, 4, 62), (54, 3, 61), (54, 2, 60), (54, 1, 55), (55, 3, 59), (55, 2, 58), (55, 1, 57), (55, 0, 56)] r) xc z (Dead.rl hD (by decide) [(54, 5, 63), (54, 4, 62), (54, 3, 61), (54, 2, 60), (54, 1, 55), (55, 3, 59), (55, 2, 58), (55, 1, 57), (55, 0, 56)] (by decide +kernel))) (by decide) rfl (Nat.le_of_ble_eq_true rfl) (by decide) (by decide) hsz rfl rfl rfl ?_
  refine k_putFR (q := 59) (r' := (rl [(54, 6, 64), (64, 0, 65), (54, 5, 63), (54, 4, 62), (54, 3, 61), (54, 2, 60), (54, 1, 55), (55, 3, 59), (55, 2, 58), (55, 1, 57), (55, 0, 56)] r)) hC hI fl_X8_34 rfl rfl dX8_init_56 (kdn_of (show 54 < 66 by decide) rfl) (fun _ _ _ => rfl) rfl rfl rfl rfl ?_
  refine k_aload_n (q := 60) hC dX8_init_59 rfl rfl ?_
  refine k_new (q := 63) (w' := (67, 12, 394)) hC nl_X8_38 rfl dX8_init_60 (by decide) hsz (Dead.rl hD (by decide) [(54, 6, 64), (64, 0, 65), (54, 5, 63), (54, 4, 62), (54, 3, 61), (54, 2, 60), (54, 1, 55), (55, 3, 59), (55, 2, 58), (55, 1, 57), (55, 0, 56)] (by decide +kernel)) (by decide) rfl rfl ?_
  refine k_dup (q := 64) hC dX8_init_63 rfl rfl ?_
  refine k_cIN (q := 67) (w' := (70, 15, 1482)) (r' := (rl [(66, 2, 69), (66, 1, 68), (66, 0, 67), (54, 6, 64), (64, 0, 65), (54, 5, 63), (54, 4, 62), (54, 3, 61), (54, 2, 60), (54, 1, 55), (55, 3, 59), (55, 2, 58), (55, 1, 57), (55, 0, 56)] r)) (av := [.ref 66]) (c0 := 66) (As := []) hC oX2_init iX2_init rfl rfl rfl dX8_init_64 lk_X8_40 (n_X2_66 e (rl [(54, 6, 64), (64, 0, 65), (54, 5, 63), (54, 4, 62), (54, 3, 61), (54, 2, 60), (54, 1, 55), (55, 3, 59), (55, 2, 58), (55, 1, 57), (55, 0, 56)] r) xc z (Dead.rl hD (by decide) [(54, 6, 64), (64, 0, 65), (54, 5, 63), (54, 4, 62), (54, 3, 61), (54, 2, 60), (54, 1, 55), (55, 3, 59), (55, 2, 58), (55, 1, 57), (55, 0, 56)] (by decide +kernel))) (by decide) rfl (Nat.le_of_ble_eq_true rfl) (by decide) (by decide) hsz rfl rfl rfl ?_
  refine k_putFR (q := 70) (r' := (rl [(54, 7, 66), (66, 2, 69), (66, 1, 68), (66, 0, 67), (54, 6, 64), (64, 0, 65), (54, 5, 63), (54, 4, 62), (54, 3, 61), (54, 2, 60), (54, 1, 55), (55, 3, 59), (55, 2, 58), (55, 1, 57), (55, 0, 56)] r)) hC hI fl_X8_41 rfl rfl dX8_init_67 (kdn_of (show 54 < 70 by decide) rfl) (fun _ _ _ => rfl) rfl rfl rfl rfl ?_
  refine k_aload_n (q := 71) hC dX8_init_70 rfl rfl ?_
  refine k_new (q := 74) (w' := (71, 16, 1486)) hC nl_X8_45 rfl dX8_init_71 (by decide) hsz (Dead.rl hD (by decide) [(54, 7, 66), (66, 2, 69), (66, 1, 68), (66, 0, 67), (54, 6, 64), (64, 0, 65), (54, 5, 63), (54, 4, 62), (54, 3, 61), (54, 2, 60), (54, 1, 55), (55, 3, 59), (55, 2, 58), (55, 1, 57), (55, 0, 56)] (by decide +kernel)) (by decide) rfl rfl ?_
  refine k_dup (q := 75) hC dX8_init_74 rfl rfl ?_
  refine k_cIN (q := 78) (w' := (71, 16, 1486)) (r' := (rl [(54, 7, 66), (66, 2, 69), (66, 1, 68), (66, 0, 67), (54, 6, 64), (64, 0, 65), (54, 5, 63), (54, 4, 62), (54, 3, 61), (54, 2, 60), (54, 1, 55), (55, 3, 59), (55, 2, 58), (55, 1, 57), (55, 0, 56)] r)) (av := [.ref 70]) (c0 := 70) (As := []) hC oX1_init iX1_init rfl rfl rfl dX8_init_75 lk_X8_47 (n_X1_70 e (rl [(54, 7, 66), (66, 2, 69), (66, 1, 68), (66, 0, 67), (54, 6, 64), (64, 0, 65), (54, 5, 63), (54, 4, 62), (54, 3, 61), (54, 2, 60), (54, 1, 55), (55, 3, 59), (55, 2, 58), (55, 1, 57), (55, 0, 56)] r) xc z (Dead.rl hD (by decide) [(54, 7, 66), (66, 2, 69), (66, 1, 68), (66, 0, 67), (54, 6, 64), (64, 0, 65), (54, 5, 63), (54, 4, 62), (54, 3, 61), (54, 2, 60), (54, 1, 55), (55, 3, 59), (55, 2, 58), (55, 1, 57), (55, 0, 56)] (by decide +kernel))) (by decide) rfl (Nat.le_of_ble_eq_true rfl) (by decide) (by decide) hsz rfl rfl rfl ?_
  refine k_putFR (q := 81) (r' := (rl [(54, 8, 70), (54, 7, 66), (66, 2, 69), (66, 1, 68), (66, 0, 67), (54, 6, 64), (64, 0, 65), (54, 5, 63), (54, 4, 62), (54, 3, 61), (54, 2, 60), (54, 1, 55), (55, 3, 59), (55, 2, 58), (55, 1, 57), (55, 0, 56)] r)) hC hI fl_X8_48 rfl rfl dX8_init_78 (kdn_of (show 54 < 71 by decide) rfl) (fun _ _ _ => rfl) rfl rfl rfl rfl ?_
  refine k_aload_n (q := 82) hC dX8_init_81 rfl rfl ?_
  refine k_new (q := 85) (w' := (72, 17, 1491)) hC nl_X8_9 rfl dX8_init_82 (by decide) hsz (Dead.rl hD (by decide) [(54, 8, 70), (54, 7, 66), (66, 2, 69), (66, 1, 68), (66, 0, 67), (54, 6, 64), (64, 0, 65), (54, 5, 63), (54, 4, 62), (54, 3, 61), (54, 2, 60), (54, 1, 55), (55, 3, 59), (55, 2, 58), (55, 1, 57), (55, 0, 56)] (by decide +kernel)) (by decide) rfl rfl ?_
  refine k_dup (q := 86) hC dX8_init_85 rfl rfl ?_
  refine k_cIN (q := 89) (w' := (76, 21, 1555)) (r' := (rl [(71, 3, 75), (71, 2, 74), (71, 1, 73), (71, 0, 72), (54, 8, 70), (54, 7, 66), (66, 2, 69), (66, 1, 68), (66, 0, 67), (54, 6, 64), (64, 0, 65), (54, 5, 63), (54, 4, 62), (54, 3, 61), (54, 2, 60), (54, 1, 55), (55, 3, 59), (55, 2, 58), (55, 1, 57), (55, 0, 56)] r)) (av := [.ref 71]) (c0 := 71) (As := []) hC oX3_init iX3_init rfl rfl rfl dX8_init_86 lk_X8_11 (n_X3_71 e (rl [(54, 8, 70), (54, 7, 66), (66, 2, 69), (66, 1, 68), (66, 0, 67), (54, 6, 64), (64, 0, 65), (54, 5, 63), (54, 4, 62), (54, 3, 61), (54, 2, 60), (54, 1, 55), (55, 3, 59), (55, 2, 58), (55, 1, 57), (55, 0, 56)] r) xc z (Dead.rl hD (by decide) [(54, 8, 70), (54, 7, 66), (66, 2, 69), (66, 1, 68), (66, 0, 67), (54, 6, 64), (64, 0, 65), (54, 5, 63), (54, 4, 62), (54, 3, 61), (54, 2, 60), (54, 1, 55), (55, 3, 59), (55, 2, 58), (55, 1, 57), (55, 0, 56)] (by decide +kernel))) (by decide) rfl (Nat.le_of_ble_eq_true rfl) (by decide) (by decide) hsz rfl rfl rfl ?_
  refine k_putNR (q := 92) (r' := (rl [(54, 9, 71), (71, 3, 75), (71, 2, 74), (71, 1, 73), (71, 0, 72), (54, 8, 70), (54, 7, 66), (66, 2, 69), (66, 1, 68), (66, 0, 67), (54, 6, 64), (64, 0, 65), (54, 5, 63), (54, 4, 62), (54, 3, 61), (54, 2, 60), (54, 1, 55), (55, 3, 59), (55, 2, 58), (55, 1, 57), (55, 0, 56)] r)) hC fl_X8_52 rfl dX8_init_89 (kdn_of (show 54 < 76 by decide) rfl) (fun _ _ _ => rfl) rfl rfl rfl rfl ?_
  refine k_aload_n (q := 93) hC dX8_init_92 rfl rfl ?_
  refine k_new (q := 96) (w' := (77, 22, 1560)) hC nl_X8_9 rfl dX8_init_93 (by decide) hsz (Dead.rl hD (by decide) [(54, 9, 71), (71, 3, 75), (71, 2, 74), (71, 1, 73), (71, 0, 72), (54, 8, 70), (54, 7, 66), (66, 2, 69), (66, 1, 68), (66, 0, 67), (54, 6, 64), (64, 0, 65), (54, 5, 63), (54, 4, 62), (54, 3, 61), (54, 2, 60), (54, 1, 55), (55, 3, 59), (55, 2, 58), (55, 1, 57), (55, 0, 56)] (by decide +kernel)) (by decide) rfl rfl ?_
  refine k_dup (q := 97) hC dX8_init_96 rfl rfl ?_
  refine k_cIN (q := 100) (w' := (81, 26, 1624)) (r' := (rl [(76, 3, 80), (76, 2, 79), (76, 1, 78), (76, 0, 77), (54, 9, 71), (71, 3, 75), (71, 2, 74), (71, 1, 73), (71, 0, 72), (54, 8, 70), (54, 7, 66), (66, 2, 69), (66, 1, 68), (66, 0, 67), (54, 6, 64), (64, 0, 65), (54, 5, 63), (54, 4, 62), (54, 3, 61), (54, 2, 60), (54, 1, 55), (55, 3, 59), (55, 2, 58), (55, 1, 57), (55, 0, 56)] r)) (av := [.ref 76]) (c0 := 76) (As := []) hC oX3_init iX3_init rfl rfl rfl dX8_init_97 lk_X8_11 (n_X3_76 e (rl [(54, 9, 71), (71, 3, 75), (71, 2, 74), (71, 1, 73), (71, 0, 72), (54, 8, 70), (54, 7, 66), (66, 2, 69), (66, 1, 68), (66, 0, 67), (54, 6, 64), (64, 0, 65), (54, 5, 63), (54, 4, 62), (54, 3, 61), (54, 2, 60), (54, 1, 55), (55, 3, 59), (55, 2, 58), (55, 1, 57), (55, 0, 56)] r) xc z (Dead.rl hD (by decide) [(54, 9, 71), (71, 3, 75), (71, 2, 74), (71, 1, 73), (71, 0, 72), (54, 8, 70), (54, 7, 66), (66, 2, 69), (66, 1, 68), (66, 0, 67), (54, 6, 64), (64, 0, 65), (54, 5, 63), (54, 4, 62), (54, 3, 61), (54, 2, 60), (54, 1, 55), (55, 3, 59), (55, 2, 58), (55, 1, 57), (55, 0, 56)] (by decide +kernel))) (by decide) rfl (Nat.le_of_ble_eq_true rfl) (by decide) (by decide) hsz rfl rfl rfl ?_
  refine k_putNR (q := 103) (r' := (rl [(54, 10, 76), (76, 3, 80), (76, 2, 79), (76, 1, 78), (76, 0, 77), (54, 9, 71), (71, 3, 75), (71, 2, 74), (71, 1, 73), (71, 0, 72), (54, 8, 70), (54, 7, 66), (66, 2, 69), (66, 1, 68), (66, 0, 67), (54, 6, 64), (64, 0, 65), (54, 5, 63), (54, 4, 62), (54, 3, 61), (54, 2, 60), (54, 1, 55), (55, 3, 59), (55, 2, 58), (55, 1, 57), (55, 0, 56)] r)) hC fl_X8_55 rfl dX8_init_100 (kdn_of (show 54 < 81 by decide) rfl) (fun _ _ _ => rfl) rfl rfl rfl rfl ?_
  refine k_aload_n (q := 104) hC dX8_init_103 rfl rfl ?_
  refine k_aload_n (q := 105) hC dX8_init_104 rfl rfl ?_
  refine k_putFR (q := 108) (r' := (rl [(54, 0, 7), (54, 10, 76), (76, 3, 80), (76, 2, 79), (76, 1, 78), (76, 0, 77), (54, 9, 71), (71, 3, 75), (71, 2, 74), (71, 1, 73), (71, 0, 72), (54, 8, 70), (54, 7, 66), (66, 2, 69), (66, 1, 68), (66, 0, 67), (54, 6, 64), (64, 0, 65), (54, 5, 63), (54, 4, 62), (54, 3, 61), (54, 2, 60), (54, 1, 55), (55, 3, 59), (55, 2, 58), (55, 1, 57), (55, 0, 56)] r)) hC hI fl_X8_58 rfl rfl dX8_init_105 (kdn_of (show 54 < 81 by decide) rfl) (fun _ _ _ => rfl) rfl rfl rfl rfl ?_
  exact k_vret hC hQ rfl dX8_init_108
def f_n9_0 (xc : gXH) : Option (gXH × Nat × Nat × (Nat → Nat)) := (f_n6_7 xc).bind (fun y1 => (f_n6_11 y1).bind (fun y2 => (f_n6_15 y2).bind (fun y3 => (f_n5_19 y3).bind (fun y4 => (f_X8_renew 71 76 pm0 y4).bind (fun y5 => some ((sI (sI (f_X1_clear 53 y5.1) 0 10 (-1 : Int32)) 0 11 (0 : Int32)), y5.2.1, y5.2.2.1, y5.2.2.2))))))
set_option maxRecDepth 100000 in
set_option maxHeartbeats 8000000 in
theorem n_X9_0 (e : gEV)  (xc : gXH) (z : gIH × gLH) (hD : Dead 1 (rm 71 76 pm0 0) (xc, z)) (o : gXH × Nat × Nat × (Nat → Nat)) (hf : f_n9_0 xc = some o) : Cal e qX9_init 6 80 4107 true 1 [.ref 0] (rm 71 76 pm0 0) (xc, z) none 81 (RR o.2.1 o.2.2.1 o.2.2.2) (o.1, z) := by
  refine cal_ofI oX9_init rfl (lv := [some (.ref 0)]) (fun v hv => by simp at hv; subst hv; rfl) (Nat.le_of_ble_eq_true rfl) rfl (fun C hC hQ hsz hI => ?_)
  have hsz := hsz rfl
  unfold f_n9_0 at hf
  refine k_aload_n (q := 1) hC dX9_init_0 rfl rfl ?_
  refine k_objI (q := 4) hC lko_X9 wOb1 wOb2 dX9_init_1 (by decide) (by decide) rfl ?_
  refine k_aload_n (q := 5) hC dX9_init_4 rfl rfl ?_
  refine k_new (q := 8) (w' := (2, 1, 2)) hC nl_X9_7 rfl dX9_init_5 (by decide) hsz (hD.mono (by decide)) (by decide) rfl rfl ?_
  refine k_dup (q := 9) hC dX9_init_8 rfl rfl ?_
  refine k_sipush (q := 12) (v := (400 : Int32)) hC dX9_init_9 (by decide) rfl ?_
  refine k_cI (q := 15) (w' := (3, 2, 402)) (r' := (rl [(1, 0, 2)] (rm 71 76 pm0 0))) (av := [.ref 1, .int (400 : Int32)]) (c0 := 1) (As := [.int (400 : Int32)]) hC oX0_init iX0_init rfl rfl rfl dX9_init_12 lk_X9_11 (n_X0_1 e (rm 71 76 pm0 0) xc z (hD.mono (by decide))) (by decide) rfl (Nat.le_of_ble_eq_true rfl) (by decide) (by decide) hsz rfl rfl rfl ?_
  refine k_putFR (q := 18) (r' := (rl [(0, 0, 1), (1, 0, 2)] (rm 71 76 pm0 0))) hC hI fl_X9_14 rfl rfl dX9_init_15 (kdn_of (show 0 < 3 by decide) rfl) (fun _ _ _ => rfl) rfl rfl rfl rfl ?_
  refine k_aload_n (q := 19) hC dX9_init_18 rfl rfl ?_
  refine k_new (q := 22) (w' := (4, 3, 404)) hC nl_X9_7 rfl dX9_init_19 (by decide) hsz (Dead.rl hD (by decide) [(0, 0, 1), (1, 0, 2)] (by decide +kernel)) (by decide) rfl rfl ?_
  refine k_dup (q := 23) hC dX9_init_22 rfl rfl ?_
  refine k_bipush (q := 25) (v := (64 : Int32)) hC dX9_init_23 (by decide) rfl ?_
  refine k_cI (q := 28) (w' := (5, 4, 468)) (r' := (rl [(3, 0, 4), (0, 0, 1), (1, 0, 2)] (rm 71 76 pm0 0))) (av := [.ref 3, .int (64 : Int32)]) (c0 := 3) (As := [.int (64 : Int32)]) hC oX0_init iX0_init rfl rfl rfl dX9_init_25 lk_X9_11 (n_X0_3 e (rl [(0, 0, 1), (1, 0, 2)] (rm 71 76 pm0 0)) xc z (Dead.rl hD (by decide) [(0, 0, 1), (1, 0, 2)] (by decide +kernel))) (by decide) rfl (Nat.le_of_ble_eq_true rfl) (by decide) (by decide) hsz rfl rfl rfl ?_
  refine k_putFR (q := 31) (r' := (rl [(0, 1, 3), (3, 0, 4), (0, 0, 1), (1, 0, 2)] (rm 71 76 pm0 0))) hC hI fl_X9_18 rfl rfl dX9_init_28 (kdn_of (show 0 < 5 by decide) rfl) (fun _ _ _ => rfl) rfl rfl rfl rfl ?_
  refine k_aload_n (q := 32) hC dX9_init_31 rfl rfl ?_
  refine k_new (q := 35) (w' := (6, 5, 474)) hC nl_X9_21 rfl dX9_init_32 (by decide) hsz (Dead.rl hD (by decide) [(0, 1, 3), (3, 0, 4), (0, 0, 1), (1, 0, 2)] (by decide +kernel)) (by decide) rfl rfl ?_
  refine k_dup (q := 36) hC dX9_init_35 rfl rfl ?_
  refine k_aload_n (q := 37) hC dX9_init_36 rfl rfl ?_
  refine k_getR (q := 40) hC fl_X9_14 dX9_init_37 (kdn_of (show 0 < 6 by decide) rfl) (fun _ _ _ => rfl) rfl rfl ?_
  refine k_cI (q := 43) (w' := (7, 6, 874)) (r' := (rl [(5, 0, 1), (5, 1, 6), (0, 1, 3), (3, 0, 4), (0, 0, 1), (1, 0, 2)] (rm 71 76 pm0 0))) (av := [.ref 5, .ref 1]) (c0 := 5) (As := [.ref 1]) hC oX7_init iX7_init rfl rfl rfl dX9_init_40 lk_X9_23 (n_X7_5 e (rl [(0, 1, 3), (3, 0, 4), (0, 0, 1), (1, 0, 2)] (rm 71 76 pm0 0)) xc z (Dead.rl hD (by decide) [(0, 1, 3), (3, 0, 4), (0, 0, 1), (1, 0, 2)] (by decide +kernel))) (by decide) rfl (Nat.le_of_ble_eq_true rfl) (by decide) (by decide) hsz rfl rfl rfl ?_
  refine k_putFR (q := 46) (r' := (rl [(0, 2, 5), (5, 0, 1), (5, 1, 6), (0, 1, 3), (3, 0, 4), (0, 0, 1), (1, 0, 2)] (rm 71 76 pm0 0))) hC hI fl_X9_26 rfl rfl dX9_init_43 (kdn_of (show 0 < 7 by decide) rfl) (fun _ _ _ => rfl) rfl rfl rfl rfl ?_
  refine k_aload_n (q := 47) hC dX9_init_46 rfl rfl ?_
  refine k_new (q := 50) (w' := (8, 7, 882)) hC nl_X9_30 rfl dX9_init_47 (by decide) hsz (Dead.rl hD (by decide) [(0, 2, 5), (5, 0, 1), (5, 1, 6), (0, 1, 3), (3, 0, 4), (0, 0, 1), (1, 0, 2)] (by decide +kernel)) (by decide) rfl rfl ?_
  refine k_dup (q := 51) hC dX9_init_50 rfl rfl ?_
  obtain ⟨y1, hy1, hf⟩ := bnd hf
  refine k_cI (q := 54) (w' := (11, 10, 1018)) (r' := (rl [(7, 2, 10), (7, 1, 9), (7, 0, 8), (0, 2, 5), (5, 0, 1), (5, 1, 6), (0, 1, 3), (3, 0, 4), (0, 0, 1), (1, 0, 2)] (rm 71 76 pm0 0))) (av := [.ref 7]) (c0 := 7) (As := []) hC oX6_init iX6_init rfl rfl rfl dX9_init_51 lk_X9_32 (n_X6_7 e (rl [(0, 2, 5), (5, 0, 1), (5, 1, 6), (0, 1, 3), (3, 0, 4), (0, 0, 1), (1, 0, 2)] (rm 71 76 pm0 0)) xc z (Dead.rl hD (by decide) [(0, 2, 5), (5, 0, 1), (5, 1, 6), (0, 1, 3), (3, 0, 4), (0, 0, 1), (1, 0, 2)] (by decide +kernel)) y1 hy1) (by decide) rfl (Nat.le_of_ble_eq_true rfl) (by decide) (by decide) hsz rfl rfl rfl ?_
  have hDX1 : Dead 11 (rm 71 76 pm0 0) (y1, z) := Dead.rows (hD.mono (by decide)) (fun c hc => rs_n6_7 hy1 c hc)
  refine k_putFR (q := 57) (r' := (rl [(0, 3, 7), (7, 2, 10), (7, 1, 9), (7, 0, 8), (0, 2, 5), (5, 0, 1), (5, 1, 6), (0, 1, 3), (3, 0, 4), (0, 0, 1), (1, 0, 2)] (rm 71 76 pm0 0))) hC hI fl_X9_33 rfl rfl dX9_init_54 (kdn_of (show 0 < 11 by decide) rfl) (fun _ _ _ => rfl) rfl rfl rfl rfl ?_
  refine k_aload_n (q := 58) hC dX9_init_57 rfl rfl ?_
  refine k_new (q := 61) (w' := (12, 11, 1026)) hC nl_X9_30 rfl dX9_init_58 (by decide) hsz (Dead.rl hDX1 (by decide) [(0, 3, 7), (7, 2, 10), (7, 1, 9), (7, 0, 8), (0, 2, 5), (5, 0, 1), (5, 1, 6), (0, 1, 3), (3, 0, 4), (0, 0, 1), (1, 0, 2)] (by decide +kernel)) (by decide) rfl rfl ?_
  refine k_dup (q := 62) hC dX9_init_61 rfl rfl ?_
  obtain ⟨y2, hy2, hf⟩ := bnd hf
  refine k_cI (q := 65) (w' := (15, 14, 1162)) (r' := (rl [(11, 2, 14), (11, 1, 13), (11, 0, 12), (0, 3, 7), (7, 2, 10), (7, 1, 9), (7, 0, 8), (0, 2, 5), (5, 0, 1), (5, 1, 6), (0, 1, 3), (3, 0, 4), (0, 0, 1), (1, 0, 2)] (rm 71 76 pm0 0))) (av := [.ref 11]) (c0 := 11) (As := []) hC oX6_init iX6_init rfl rfl rfl dX9_init_62 lk_X9_32 (n_X6_11 e (rl [(0, 3, 7), (7, 2, 10), (7, 1, 9), (7, 0, 8), (0, 2, 5), (5, 0, 1), (5, 1, 6), (0, 1, 3), (3, 0, 4), (0, 0, 1), (1, 0, 2)] (rm 71 76 pm0 0)) y1 z (Dead.rl hDX1 (by decide) [(0, 3, 7), (7, 2, 10), (7, 1, 9), (7, 0, 8), (0, 2, 5), (5, 0, 1), (5, 1, 6), (0, 1, 3), (3, 0, 4), (0, 0, 1), (1, 0, 2)] (by decide +kernel)) y2 hy2) (by decide) rfl (Nat.le_of_ble_eq_true rfl) (by decide) (by decide) hsz rfl rfl rfl ?_
  have hDX2 : Dead 15 (rm 71 76 pm0 0) (y2, z) := Dead.rows (hDX1.mono (by decide)) (fun c hc => rs_n6_11 hy2 c hc)
  refine k_putFR (q := 68) (r' := (rl [(0, 4, 11), (11, 2, 14), (11, 1, 13), (11, 0, 12), (0, 3, 7), (7, 2, 10), (7, 1, 9), (7, 0, 8), (0, 2, 5), (5, 0, 1), (5, 1, 6), (0, 1, 3), (3, 0, 4), (0, 0, 1), (1, 0, 2)] (rm 71 76 pm0 0))) hC hI fl_X9_37 rfl rfl dX9_init_65 (kdn_of (show 0 < 15 by decide) rfl) (fun _ _ _ => rfl) rfl rfl rfl rfl ?_
  refine k_aload_n (q := 69) hC dX9_init_68 rfl rfl ?_
  refine k_new (q := 72) (w' := (16, 15, 1170)) hC nl_X9_30 rfl dX9_init_69 (by decide) hsz (Dead.rl hDX2 (by decide) [(0, 4, 11), (11, 2, 14), (11, 1, 13), (11, 0, 12), (0, 3, 7), (7, 2, 10), (7, 1, 9), (7, 0, 8), (0, 2, 5), (5, 0, 1), (5, 1, 6), (0, 1, 3), (3, 0, 4), (0, 0, 1), (1, 0, 2)] (by decide +kernel)) (by decide) rfl rfl ?_
  refine k_dup (q := 73) hC dX9_init_72 rfl rfl ?_
  obtain ⟨y3, hy3, hf⟩ := bnd hf
  refine k_cI (q := 76) (w' := (19, 18, 1306)) (r' := (rl [(15, 2, 18), (15, 1, 17), (15, 0, 16), (0, 4, 11), (11, 2, 14), (11, 1, 13), (11, 0, 12), (0, 3, 7), (7, 2, 10), (7, 1, 9), (7, 0, 8), (0, 2, 5), (5, 0, 1), (5, 1, 6), (0, 1, 3), (3, 0, 4), (0, 0, 1), (1, 0, 2)] (rm 71 76 pm0 0))) (av := [.ref 15]) (c0 := 15) (As := []) hC oX6_init iX6_init rfl rfl rfl dX9_init_73 lk_X9_32 (n_X6_15 e (rl [(0, 4, 11), (11, 2, 14), (11, 1, 13), (11, 0, 12), (0, 3, 7), (7, 2, 10), (7, 1, 9), (7, 0, 8), (0, 2, 5), (5, 0, 1), (5, 1, 6), (0, 1, 3), (3, 0, 4), (0, 0, 1), (1, 0, 2)] (rm 71 76 pm0 0)) y2 z (Dead.rl hDX2 (by decide) [(0, 4, 11), (11, 2, 14), (11, 1, 13), (11, 0, 12), (0, 3, 7), (7, 2, 10), (7, 1, 9), (7, 0, 8), (0, 2, 5), (5, 0, 1), (5, 1, 6), (0, 1, 3), (3, 0, 4), (0, 0, 1), (1, 0, 2)] (by decide +kernel)) y3 hy3) (by decide) rfl (Nat.le_of_ble_eq_true rfl) (by decide) (by decide) hsz rfl rfl rfl ?_
  have hDX3 : Dead 19 (rm 71 76 pm0 0) (y3, z) := Dead.rows (hDX2.mono (by decide)) (fun c hc => rs_n6_15 hy3 c hc)
  refine k_putFR (q := 79) (r' := (rl [(0, 5, 15), (15, 2, 18), (15, 1, 17), (15, 0, 16), (0, 4, 11), (11, 2, 14), (11, 1, 13), (11, 0, 12), (0, 3, 7), (7, 2, 10), (7, 1, 9), (7, 0, 8), (0, 2, 5), (5, 0, 1), (5, 1, 6), (0, 1, 3), (3, 0, 4), (0, 0, 1), (1, 0, 2)] (rm 71 76 pm0 0))) hC hI fl_X9_40 rfl rfl dX9_init_76 (kdn_of (show 0 < 19 by decide) rfl) (fun _ _ _ => rfl) rfl rfl rfl rfl ?_
  refine k_aload_n (q := 80) hC dX9_init_79 rfl rfl ?_
  refine k_new (q := 83) (w' := (20, 19, 1308)) hC nl_X9_43 rfl dX9_init_80 (by decide) hsz (Dead.rl hDX3 (by decide) [(0, 5, 15), (15, 2, 18), (15, 1, 17), (15, 0, 16), (0, 4, 11), (11, 2, 14), (11, 1, 13), (11, 0, 12), (0, 3, 7), (7, 2, 10), (7, 1, 9), (7, 0, 8), (0, 2, 5), (5, 0, 1), (5, 1, 6), (0, 1, 3), (3, 0, 4), (0, 0, 1), (1, 0, 2)] (by decide +kernel)) (by decide) rfl rfl ?_
  refine k_dup (q := 84) hC dX9_init_83 rfl rfl ?_
  obtain ⟨y4, hy4, hf⟩ := bnd hf
  refine k_cI (q := 87) (w' := (53, 52, 2468)) (r' := (rl [(20, 7, 49), (49, 2, 52), (49, 1, 51), (49, 0, 50), (20, 6, 45), (45, 2, 48), (45, 1, 47), (45, 0, 46), (20, 5, 41), (41, 2, 44), (41, 1, 43), (41, 0, 42), (20, 4, 37), (37, 2, 40), (37, 1, 39), (37, 0, 38), (20, 3, 33), (33, 2, 36), (33, 1, 35), (33, 0, 34), (20, 2, 29), (29, 2, 32), (29, 1, 31), (29, 0, 30), (20, 1, 25), (25, 2, 28), (25, 1, 27), (25, 0, 26), (20, 0, 21), (21, 2, 24), (21, 1, 23), (21, 0, 22), (19, 0, 20), (0, 5, 15), (15, 2, 18), (15, 1, 17), (15, 0, 16), (0, 4, 11), (11, 2, 14), (11, 1, 13), (11, 0, 12), (0, 3, 7), (7, 2, 10), (7, 1, 9), (7, 0, 8), (0, 2, 5), (5, 0, 1), (5, 1, 6), (0, 1, 3), (3, 0, 4), (0, 0, 1), (1, 0, 2)] (rm 71 76 pm0 0))) (av := [.ref 19]) (c0 := 19) (As := []) hC oX5_init iX5_init rfl rfl rfl dX9_init_84 lk_X9_45 (n_X5_19 e (rl [(0, 5, 15), (15, 2, 18), (15, 1, 17), (15, 0, 16), (0, 4, 11), (11, 2, 14), (11, 1, 13), (11, 0, 12), (0, 3, 7), (7, 2, 10), (7, 1, 9), (7, 0, 8), (0, 2, 5), (5, 0, 1), (5, 1, 6), (0, 1, 3), (3, 0, 4), (0, 0, 1), (1, 0, 2)] (rm 71 76 pm0 0)) y3 z (Dead.rl hDX3 (by decide) [(0, 5, 15), (15, 2, 18), (15, 1, 17), (15, 0, 16), (0, 4, 11), (11, 2, 14), (11, 1, 13), (11, 0, 12), (0, 3, 7), (7, 2, 10), (7, 1, 9), (7, 0, 8), (0, 2, 5), (5, 0, 1), (5, 1, 6), (0, 1, 3), (3, 0, 4), (0, 0, 1), (1, 0, 2)] (by decide +kernel)) y4 hy4) (by decide) rfl (Nat.le_of_ble_eq_true rfl) (by decide) (by decide) hsz rfl rfl rfl ?_
  have hDX4 : Dead 53 (rm 71 76 pm0 0) (y4, z) := Dead.rows (hDX3.mono (by decide)) (fun c hc => rs_n5_19 hy4 c hc)
  refine k_putFR (q := 90) (r' := (rl [(0, 6, 19), (20, 7, 49), (49, 2, 52), (49, 1, 51), (49, 0, 50), (20, 6, 45), (45, 2, 48), (45, 1, 47), (45, 0, 46), (20, 5, 41), (41, 2, 44), (41, 1, 43), (41, 0, 42), (20, 4, 37), (37, 2, 40), (37, 1, 39), (37, 0, 38), (20, 3, 33), (33, 2, 36), (33, 1, 35), (33, 0, 34), (20, 2, 29), (29, 2, 32), (29, 1, 31), (29, 0, 30), (20, 1, 25), (25, 2, 28), (25, 1, 27), (25, 0, 26), (20, 0, 21), (21, 2, 24), (21, 1, 23), (21, 0, 22), (19, 0, 20), (0, 5, 15), (15, 2, 18), (15, 1, 17), (15, 0, 16), (0, 4, 11), (11, 2, 14), (11, 1, 13), (11, 0, 12), (0, 3, 7), (7, 2, 10), (7, 1, 9), (7, 0, 8), (0, 2, 5), (5, 0, 1), (5, 1, 6), (0, 1, 3), (3, 0, 4), (0, 0, 1), (1, 0, 2)] (rm 71 76 pm0 0))) hC hI fl_X9_46 rfl rfl dX9_init_87 (kdn_of (show 0 < 53 by decide) rfl) (fun _ _ _ => rfl) rfl rfl rfl rfl ?_
  refine k_aload_n (q := 91) hC dX9_init_90 rfl rfl ?_
  refine k_new (q := 94) (w' := (54, 53, 2472)) hC nl_X9_50 rfl dX9_init_91 (by decide) hsz (Dead.rl hDX4 (by decide) [(0, 6, 19), (20, 7, 49), (49, 2, 52), (49, 1, 51), (49, 0, 50), (20, 6, 45), (45, 2, 48), (45, 1, 47), (45, 0, 46), (20, 5, 41), (41, 2, 44), (41, 1, 43), (41, 0, 42), (20, 4, 37), (37, 2, 40), (37, 1, 39), (37, 0, 38), (20, 3, 33), (33, 2, 36), (33, 1, 35), (33, 0, 34), (20, 2, 29), (29, 2, 32), (29, 1, 31), (29, 0, 30), (20, 1, 25), (25, 2, 28), (25, 1, 27), (25, 0, 26), (20, 0, 21), (21, 2, 24), (21, 1, 23), (21, 0, 22), (19, 0, 20), (0, 5, 15), (15, 2, 18), (15, 1, 17), (15, 0, 16), (0, 4, 11), (11, 2, 14), (11, 1, 13), (11, 0, 12), (0, 3, 7), (7, 2, 10), (7, 1, 9), (7, 0, 8), (0, 2, 5), (5, 0, 1), (5, 1, 6), (0, 1, 3), (3, 0, 4), (0, 0, 1), (1, 0, 2)] (by decide +kernel)) (by decide) rfl rfl ?_
  refine k_dup (q := 95) hC dX9_init_94 rfl rfl ?_
  refine k_cIN (q := 98) (w' := (54, 53, 2472)) (r' := (rl [(0, 6, 19), (20, 7, 49), (49, 2, 52), (49, 1, 51), (49, 0, 50), (20, 6, 45), (45, 2, 48), (45, 1, 47), (45, 0, 46), (20, 5, 41), (41, 2, 44), (41, 1, 43), (41, 0, 42), (20, 4, 37), (37, 2, 40), (37, 1, 39), (37, 0, 38), (20, 3, 33), (33, 2, 36), (33, 1, 35), (33, 0, 34), (20, 2, 29), (29, 2, 32), (29, 1, 31), (29, 0, 30), (20, 1, 25), (25, 2, 28), (25, 1, 27), (25, 0, 26), (20, 0, 21), (21, 2, 24), (21, 1, 23), (21, 0, 22), (19, 0, 20), (0, 5, 15), (15, 2, 18), (15, 1, 17), (15, 0, 16), (0, 4, 11), (11, 2, 14), (11, 1, 13), (11, 0, 12), (0, 3, 7), (7, 2, 10), (7, 1, 9), (7, 0, 8), (0, 2, 5), (5, 0, 1), (5, 1, 6), (0, 1, 3), (3, 0, 4), (0, 0, 1), (1, 0, 2)] (rm 71 76 pm0 0))) (av := [.ref 53]) (c0 := 53) (As := []) hC oX1_init iX1_init rfl rfl rfl dX9_init_95 lk_X9_52 (n_X1_53 e (rl [(0, 6, 19), (20, 7, 49), (49, 2, 52), (49, 1, 51), (49, 0, 50), (20, 6, 45), (45, 2, 48), (45, 1, 47), (45, 0, 46), (20, 5, 41), (41, 2, 44), (41, 1, 43), (41, 0, 42), (20, 4, 37), (37, 2, 40), (37, 1, 39), (37, 0, 38), (20, 3, 33), (33, 2, 36), (33, 1, 35), (33, 0, 34), (20, 2, 29), (29, 2, 32), (29, 1, 31), (29, 0, 30), (20, 1, 25), (25, 2, 28), (25, 1, 27), (25, 0, 26), (20, 0, 21), (21, 2, 24), (21, 1, 23), (21, 0, 22), (19, 0, 20), (0, 5, 15), (15, 2, 18), (15, 1, 17), (15, 0, 16), (0, 4, 11), (11, 2, 14), (11, 1, 13), (11, 0, 12), (0, 3, 7), (7, 2, 10), (7, 1, 9), (7, 0, 8), (0, 2, 5), (5, 0, 1), (5, 1, 6), (0, 1, 3), (3, 0, 4), (0, 0, 1), (1, 0, 2)] (rm 71 76 pm0 0)) y4 z (Dead.rl hDX4 (by decide) [(0, 6, 19), (20, 7, 49), (49, 2, 52), (49, 1, 51), (49, 0, 50), (20, 6, 45), (45, 2, 48), (45, 1, 47), (45, 0, 46), (20, 5, 41), (41, 2, 44), (41, 1, 43), (41, 0, 42), (20, 4, 37), (37, 2, 40), (37, 1, 39), (37, 0, 38), (20, 3, 33), (33, 2, 36), (33, 1, 35), (33, 0, 34), (20, 2, 29), (29, 2, 32), (29, 1, 31), (29, 0, 30), (20, 1, 25), (25, 2, 28), (25, 1, 27), (25, 0, 26), (20, 0, 21), (21, 2, 24), (21, 1, 23), (21, 0, 22), (19, 0, 20), (0, 5, 15), (15, 2, 18), (15, 1, 17), (15, 0, 16), (0, 4, 11), (11, 2, 14), (11, 1, 13), (11, 0, 12), (0, 3, 7), (7, 2, 10), (7, 1, 9), (7, 0, 8), (0, 2, 5), (5, 0, 1), (5, 1, 6), (0, 1, 3), (3, 0, 4), (0, 0, 1), (1, 0, 2)] (by decide +kernel))) (by decide) rfl (Nat.le_of_ble_eq_true rfl) (by decide) (by decide) hsz rfl rfl rfl ?_
  refine k_putFR (q := 101) (r' := (rl [(0, 8, 53), (0, 6, 19), (20, 7, 49), (49, 2, 52), (49, 1, 51), (49, 0, 50), (20, 6, 45), (45, 2, 48), (45, 1, 47), (45, 0, 46), (20, 5, 41), (41, 2, 44), (41, 1, 43), (41, 0, 42), (20, 4, 37), (37, 2, 40), (37, 1, 39), (37, 0, 38), (20, 3, 33), (33, 2, 36), (33, 1, 35), (33, 0, 34), (20, 2, 29), (29, 2, 32), (29, 1, 31), (29, 0, 30), (20, 1, 25), (25, 2, 28), (25, 1, 27), (25, 0, 26), (20, 0, 21), (21, 2, 24), (21, 1, 23), (21, 0, 22), (19, 0, 20), (0, 5, 15), (15, 2, 18), (15, 1, 17), (15, 0, 16), (0, 4, 11), (11, 2, 14), (11, 1, 13), (11, 0, 12), (0, 3, 7), (7, 2, 10), (7, 1, 9), (7, 0, 8), (0, 2, 5), (5, 0, 1), (5, 1, 6), (0, 1, 3), (3, 0, 4), (0, 0, 1), (1, 0, 2)] (rm 71 76 pm0 0))) hC hI fl_X9_53 rfl rfl dX9_init_98 (kdn_of (show 0 < 54 by decide) rfl) (fun _ _ _ => rfl) rfl rfl rfl rfl ?_
  refine k_aload_n (q := 102) hC dX9_init_101 rfl rfl ?_
  refine k_new (q := 105) (w' := (55, 54, 2483)) hC nl_X9_57 rfl dX9_init_102 (by decide) hsz (Dead.rl hDX4 (by decide) [(0, 8, 53), (0, 6, 19), (20, 7, 49), (49, 2, 52), (49, 1, 51), (49, 0, 50), (20, 6, 45), (45, 2, 48), (45, 1, 47), (45, 0, 46), (20, 5, 41), (41, 2, 44), (41, 1, 43), (41, 0, 42), (20, 4, 37), (37, 2, 40), (37, 1, 39), (37, 0, 38), (20, 3, 33), (33, 2, 36), (33, 1, 35), (33, 0, 34), (20, 2, 29), (29, 2, 32), (29, 1, 31), (29, 0, 30), (20, 1, 25), (25, 2, 28), (25, 1, 27), (25, 0, 26), (20, 0, 21), (21, 2, 24), (21, 1, 23), (21, 0, 22), (19, 0, 20), (0, 5, 15), (15, 2, 18), (15, 1, 17), (15, 0, 16), (0, 4, 11), (11, 2, 14), (11, 1, 13), (11, 0, 12), (0, 3, 7), (7, 2, 10), (7, 1, 9), (7, 0, 8), (0, 2, 5), (5, 0, 1), (5, 1, 6), (0, 1, 3), (3, 0, 4), (0, 0, 1), (1, 0, 2)] (by decide +kernel)) (by decide) rfl rfl ?_
  refine k_dup (q := 106) hC dX9_init_105 rfl rfl ?_
  refine k_aload_n (q := 107) hC dX9_init_106 rfl rfl ?_
  refine k_getR (q := 110) hC fl_X9_33 dX9_init_107 (kdn_of (show 0 < 55 by decide) rfl) (fun _ _ _ => rfl) rfl rfl ?_
  refine k_cI (q := 113) (w' := (81, 80, 4107)) (r' := (rl [(54, 0, 7), (54, 10, 76), (76, 3, 80), (76, 2, 79), (76, 1, 78), (76, 0, 77), (54, 9, 71), (71, 3, 75), (71, 2, 74), (71, 1, 73), (71, 0, 72), (54, 8, 70), (54, 7, 66), (66, 2, 69), (66, 1, 68), (66, 0, 67), (54, 6, 64), (64, 0, 65), (54, 5, 63), (54, 4, 62), (54, 3, 61), (54, 2, 60), (54, 1, 55), (55, 3, 59), (55, 2, 58), (55, 1, 57), (55, 0, 56), (0, 8, 53), (0, 6, 19), (20, 7, 49), (49, 2, 52), (49, 1, 51), (49, 0, 50), (20, 6, 45), (45, 2, 48), (45, 1, 47), (45, 0, 46), (20, 5, 41), (41, 2, 44), (41, 1, 43), (41, 0, 42), (20, 4, 37), (37, 2, 40), (37, 1, 39), (37, 0, 38), (20, 3, 33), (33, 2, 36), (33, 1, 35), (33, 0, 34), (20, 2, 29), (29, 2, 32), (29, 1, 31), (29, 0, 30), (20, 1, 25), (25, 2, 28), (25, 1, 27), (25, 0, 26), (20, 0, 21), (21, 2, 24), (21, 1, 23), (21, 0, 22), (19, 0, 20), (0, 5, 15), (15, 2, 18), (15, 1, 17), (15, 0, 16), (0, 4, 11), (11, 2, 14), (11, 1, 13), (11, 0, 12), (0, 3, 7), (7, 2, 10), (7, 1, 9), (7, 0, 8), (0, 2, 5), (5, 0, 1), (5, 1, 6), (0, 1, 3), (3, 0, 4), (0, 0, 1), (1, 0, 2)] (rm 71 76 pm0 0))) (av := [.ref 54, .ref 7]) (c0 := 54) (As := [.ref 7]) hC oX8_init iX8_init rfl rfl rfl dX9_init_110 lk_X9_59 (n_X8_54 e (rl [(0, 8, 53), (0, 6, 19), (20, 7, 49), (49, 2, 52), (49, 1, 51), (49, 0, 50), (20, 6, 45), (45, 2, 48), (45, 1, 47), (45, 0, 46), (20, 5, 41), (41, 2, 44), (41, 1, 43), (41, 0, 42), (20, 4, 37), (37, 2, 40), (37, 1, 39), (37, 0, 38), (20, 3, 33), (33, 2, 36), (33, 1, 35), (33, 0, 34), (20, 2, 29), (29, 2, 32), (29, 1, 31), (29, 0, 30), (20, 1, 25), (25, 2, 28), (25, 1, 27), (25, 0, 26), (20, 0, 21), (21, 2, 24), (21, 1, 23), (21, 0, 22), (19, 0, 20), (0, 5, 15), (15, 2, 18), (15, 1, 17), (15, 0, 16), (0, 4, 11), (11, 2, 14), (11, 1, 13), (11, 0, 12), (0, 3, 7), (7, 2, 10), (7, 1, 9), (7, 0, 8), (0, 2, 5), (5, 0, 1), (5, 1, 6), (0, 1, 3), (3, 0, 4), (0, 0, 1), (1, 0, 2)] (rm 71 76 pm0 0)) y4 z (Dead.rl hDX4 (by decide) [(0, 8, 53), (0, 6, 19), (20, 7, 49), (49, 2, 52), (49, 1, 51), (49, 0, 50), (20, 6, 45), (45, 2, 48), (45, 1, 47), (45, 0, 46), (20, 5, 41), (41, 2, 44), (41, 1, 43), (41, 0, 42), (20, 4, 37), (37, 2, 40), (37, 1, 39), (37, 0, 38), (20, 3, 33), (33, 2, 36), (33, 1, 35), (33, 0, 34), (20, 2, 29), (29, 2, 32), (29, 1, 31), (29, 0, 30), (20, 1, 25), (25, 2, 28), (25, 1, 27), (25, 0, 26), (20, 0, 21), (21, 2, 24), (21, 1, 23), (21, 0, 22), (19, 0, 20), (0, 5, 15), (15, 2, 18), (15, 1, 17), (15, 0, 16), (0, 4, 11), (11, 2, 14), (11, 1, 13), (11, 0, 12), (0, 3, 7), (7, 2, 10), (7, 1, 9), (7, 0, 8), (0, 2, 5), (5, 0, 1), (5, 1, 6), (0, 1, 3), (3, 0, 4), (0, 0, 1), (1, 0, 2)] (by decide +kernel))) (by decide) rfl (Nat.le_of_ble_eq_true rfl) (by decide) (by decide) hsz rfl rfl rfl ?_
  refine k_putFR (q := 116) (r' := (rl [(0, 7, 54), (54, 0, 7), (54, 10, 76), (76, 3, 80), (76, 2, 79), (76, 1, 78), (76, 0, 77), (54, 9, 71), (71, 3, 75), (71, 2, 74), (71, 1, 73), (71, 0, 72), (54, 8, 70), (54, 7, 66), (66, 2, 69), (66, 1, 68), (66, 0, 67), (54, 6, 64), (64, 0, 65), (54, 5, 63), (54, 4, 62), (54, 3, 61), (54, 2, 60), (54, 1, 55), (55, 3, 59), (55, 2, 58), (55, 1, 57), (55, 0, 56), (0, 8, 53), (0, 6, 19), (20, 7, 49), (49, 2, 52), (49, 1, 51), (49, 0, 50), (20, 6, 45), (45, 2, 48), (45, 1, 47), (45, 0, 46), (20, 5, 41), (41, 2, 44), (41, 1, 43), (41, 0, 42), (20, 4, 37), (37, 2, 40), (37, 1, 39), (37, 0, 38), (20, 3, 33), (33, 2, 36), (33, 1, 35), (33, 0, 34), (20, 2, 29), (29, 2, 32), (29, 1, 31), (29, 0, 30), (20, 1, 25), (25, 2, 28), (25, 1, 27), (25, 0, 26), (20, 0, 21), (21, 2, 24), (21, 1, 23), (21, 0, 22), (19, 0, 20), (0, 5, 15), (15, 2, 18), (15, 1, 17), (15, 0, 16), (0, 4, 11), (11, 2, 14), (11, 1, 13), (11, 0, 12), (0, 3, 7), (7, 2, 10), (7, 1, 9), (7, 0, 8), (0, 2, 5), (5, 0, 1), (5, 1, 6), (0, 1, 3), (3, 0, 4), (0, 0, 1), (1, 0, 2)] (rm 71 76 pm0 0))) hC hI fl_X9_62 rfl rfl dX9_init_113 (kdn_of (show 0 < 81 by decide) rfl) (fun _ _ _ => rfl) rfl rfl rfl rfl ?_
  refine k_aload_n (q := 117) hC dX9_init_116 rfl rfl ?_
  refine k_getR (q := 120) hC fl_X9_62 dX9_init_117 (kdn_of (show 0 < 81 by decide) rfl) (fun _ _ _ => rfl) rfl rfl ?_
  refine k_aload_n (q := 121) hC dX9_init_120 rfl rfl ?_
  refine k_getR (q := 124) hC fl_X9_53 dX9_init_121 (kdn_of (show 0 < 81 by decide) rfl) (fun _ _ _ => rfl) rfl rfl ?_
  refine k_rc (r' := RR 71 76 pm0) (rl_RR (L := [(0, 7, 54), (54, 0, 7), (54, 10, 76), (76, 3, 80), (76, 2, 79), (76, 1, 78), (76, 0, 77), (54, 9, 71), (71, 3, 75), (71, 2, 74), (71, 1, 73), (71, 0, 72), (54, 8, 70), (54, 7, 66), (66, 2, 69), (66, 1, 68), (66, 0, 67), (54, 6, 64), (64, 0, 65), (54, 5, 63), (54, 4, 62), (54, 3, 61), (54, 2, 60), (54, 1, 55), (55, 3, 59), (55, 2, 58), (55, 1, 57), (55, 0, 56), (0, 8, 53), (0, 6, 19), (20, 7, 49), (49, 2, 52), (49, 1, 51), (49, 0, 50), (20, 6, 45), (45, 2, 48), (45, 1, 47), (45, 0, 46), (20, 5, 41), (41, 2, 44), (41, 1, 43), (41, 0, 42), (20, 4, 37), (37, 2, 40), (37, 1, 39), (37, 0, 38), (20, 3, 33), (33, 2, 36), (33, 1, 35), (33, 0, 34), (20, 2, 29), (29, 2, 32), (29, 1, 31), (29, 0, 30), (20, 1, 25), (25, 2, 28), (25, 1, 27), (25, 0, 26), (20, 0, 21), (21, 2, 24), (21, 1, 23), (21, 0, 22), (19, 0, 20), (0, 5, 15), (15, 2, 18), (15, 1, 17), (15, 0, 16), (0, 4, 11), (11, 2, 14), (11, 1, 13), (11, 0, 12), (0, 3, 7), (7, 2, 10), (7, 1, 9), (7, 0, 8), (0, 2, 5), (5, 0, 1), (5, 1, 6), (0, 1, 3), (3, 0, 4), (0, 0, 1), (1, 0, 2)]) (n0 := 0) (by decide +kernel) (by decide +kernel)) ?_
  obtain ⟨y5, hy5, hf⟩ := bnd hf
  refine k_cV0 (q := 127) (c0 := 54) (As := [.ref 53]) hC oX8_renew vX8_renew rfl (kdn_of (show 54 < 81 by decide) rfl) rfl rfl dX9_init_124 lk_X9_66 (c_X8_renew e 81 (Nat.le_refl _) 71 76 pm0 (by simp [IsG]) (by simp [IsG]) y4 z y5 hy5) (by decide) rfl (Nat.le_of_ble_eq_true rfl) (by decide) rfl ?_
  refine k_aload_n (q := 128) hC dX9_init_127 rfl rfl ?_
  refine k_getR (q := 131) hC fl_X9_53 dX9_init_128 (kdn_of (show 0 < 81 by decide) rfl) (fun _ _ _ => rfl) rfl rfl ?_
  refine k_cV0 (q := 134) (c0 := 53) (As := []) hC oX1_clear vX1_clear rfl (kdn_of (show 53 < 81 by decide) rfl) rfl rfl dX9_init_131 lk_X9_70 (c_X1_clear e 81 (Nat.le_refl _) 53 (by simp [IsH]) _ y5.1 z (f_X1_clear 53 y5.1) rfl) (by decide) rfl (Nat.le_of_ble_eq_true rfl) (by decide) rfl ?_
  refine k_aload_n (q := 135) hC dX9_init_134 rfl rfl ?_
  refine k_iconst (q := 136) (v := (-1 : Int32)) hC dX9_init_135 (by decide) rfl ?_
  refine k_putI (q := 139) hC fl_X9_73 rfl dX9_init_136 (kdn_of (show 0 < 81 by decide) rfl) (fun _ _ _ => rfl) rfl rfl rfl ?_
  refine k_aload_n (q := 140) hC dX9_init_139 rfl rfl ?_
  refine k_iconst (q := 141) (v := (0 : Int32)) hC dX9_init_140 (by decide) rfl ?_
  refine k_putI (q := 144) hC fl_X9_77 rfl dX9_init_141 (kdn_of (show 0 < 81 by decide) rfl) (fun _ _ _ => rfl) rfl rfl rfl ?_
  cases hf
  exact k_vret hC hQ rfl dX9_init_144
def f_n10_81 (hm : gIH) : Option gIH := f_X10_isFresh (up2 (up2 (up2 hm 81 8 (-1 : Int32)) 81 10 (-1 : Int32)) 81 27 (-1 : Int32)) (8 : Int32)
set_option maxRecDepth 100000 in
set_option maxHeartbeats 8000000 in
theorem n_X10_81 (e : gEV) (fa tr : Nat) (pm : Nat → Nat) (xc : gXH) (hm : gIH) (lo : gLH) (hD : Dead 82 (rm fa tr pm 81) (xc, hm, lo)) (o : gIH) (hf : f_n10_81 hm = some o) : Cal e qX10_init 2 17 3337 true 82 [.ref 81] (rm fa tr pm 81) (xc, hm, lo) none 99 (RR fa tr pm) (xc, o, lo) := by
  refine cal_ofI oX10_init rfl (lv := [some (.ref 81)]) (fun v hv => by simp at hv; subst hv; rfl) (Nat.le_of_ble_eq_true rfl) rfl (fun C hC hQ hsz hI => ?_)
  have hsz := hsz rfl
  unfold f_n10_81 at hf
  refine k_aload_n (q := 1) hC dX10_init_0 rfl rfl ?_
  refine k_objI (q := 4) hC lko_X10 wOb1 wOb2 dX10_init_1 (by decide) (by decide) rfl ?_
  refine k_aload_n (q := 5) hC dX10_init_4 rfl rfl ?_
  refine k_sipush (q := 8) (v := (200 : Int32)) hC dX10_init_5 (by decide) rfl ?_
  refine k_newa (q := 10) (w' := (83, 1, 200)) (at0 := .int) hC rfl ac_int (fun _ => rfl) (by decide) rfl (by decide) (by decide) (by decide) dX10_init_8 (by decide) hsz (hD.mono (by decide)) (by decide) rfl rfl ?_
  refine k_putFR (q := 13) (r' := (rl [(81, 1, 82)] (rm fa tr pm 81))) hC hI fl_X10_13 rfl rfl dX10_init_10 (kdn_of (show 81 < 83 by decide) rfl) (fun _ _ _ => rfl) rfl rfl rfl rfl ?_
  refine k_aload_n (q := 14) hC dX10_init_13 rfl rfl ?_
  refine k_sipush (q := 17) (v := (200 : Int32)) hC dX10_init_14 (by decide) rfl ?_
  refine k_newa (q := 19) (w' := (84, 2, 400)) (at0 := .int) hC rfl ac_int (fun _ => rfl) (by decide) rfl (by decide) (by decide) (by decide) dX10_init_17 (by decide) hsz (Dead.rl hD (by decide) [(81, 1, 82)] (by decide +kernel)) (by decide) rfl rfl ?_
  refine k_putFR (q := 22) (r' := (rl [(81, 2, 83), (81, 1, 82)] (rm fa tr pm 81))) hC hI fl_X10_17 rfl rfl dX10_init_19 (kdn_of (show 81 < 84 by decide) rfl) (fun _ _ _ => rfl) rfl rfl rfl rfl ?_
  refine k_aload_n (q := 23) hC dX10_init_22 rfl rfl ?_
  refine k_sipush (q := 26) (v := (200 : Int32)) hC dX10_init_23 (by decide) rfl ?_
  refine k_newa (q := 28) (w' := (85, 3, 600)) (at0 := .int) hC rfl ac_int (fun _ => rfl) (by decide) rfl (by decide) (by decide) (by decide) dX10_init_26 (by decide) hsz (Dead.rl hD (by decide) [(81, 2, 83), (81, 1, 82)] (by decide +kernel)) (by decide) rfl rfl ?_
  refine k_putFR (q := 31) (r' := (rl [(81, 3, 84), (81, 2, 83), (81, 1, 82)] (rm fa tr pm 81))) hC hI fl_X10_20 rfl rfl dX10_init_28 (kdn_of (show 81 < 85 by decide) rfl) (fun _ _ _ => rfl) rfl rfl rfl rfl ?_
  refine k_aload_n (q := 32) hC dX10_init_31 rfl rfl ?_
  refine k_sipush (q := 35) (v := (1600 : Int32)) hC dX10_init_32 (by decide) rfl ?_
  refine k_newa (q := 37) (w' := (86, 4, 2200)) (at0 := .int) hC rfl ac_int (fun _ => rfl) (by decide) rfl (by decide) (by decide) (by decide) dX10_init_35 (by decide) hsz (Dead.rl hD (by decide) [(81, 3, 84), (81, 2, 83), (81, 1, 82)] (by decide +kernel)) (by decide) rfl rfl ?_
  refine k_putFR (q := 40) (r' := (rl [(81, 4, 85), (81, 3, 84), (81, 2, 83), (81, 1, 82)] (rm fa tr pm 81))) hC hI fl_X10_23 rfl rfl dX10_init_37 (kdn_of (show 81 < 86 by decide) rfl) (fun _ _ _ => rfl) rfl rfl rfl rfl ?_
  refine k_aload_n (q := 41) hC dX10_init_40 rfl rfl ?_
  refine k_iconst (q := 42) (v := (-1 : Int32)) hC dX10_init_41 (by decide) rfl ?_
  refine k_putM (q := 45) hC fl_X10_26 rfl dX10_init_42 (kdn_of (show 81 < 86 by decide) rfl) (fun _ _ _ => rfl) rfl rfl rfl ?_
  have hDX1 : Dead 82 (rm fa tr pm 81) (xc, (up2 hm 81 8 (-1 : Int32)), lo) := Dead.rowsM (hD.mono (by decide)) (fun c hc => by first | rfl | exact up2_ne (by omega))
  refine k_aload_n (q := 46) hC dX10_init_45 rfl rfl ?_
  refine k_iconst (q := 47) (v := (-1 : Int32)) hC dX10_init_46 (by decide) rfl ?_
  refine k_putM (q := 50) hC fl_X10_29 rfl dX10_init_47 (kdn_of (show 81 < 86 by decide) rfl) (fun _ _ _ => rfl) rfl rfl rfl ?_
  have hDX2 : Dead 82 (rm fa tr pm 81) (xc, (up2 (up2 hm 81 8 (-1 : Int32)) 81 10 (-1 : Int32)), lo) := Dead.rowsM (hDX1.mono (by decide)) (fun c hc => by first | rfl | exact up2_ne (by omega))
  refine k_aload_n (q := 51) hC dX10_init_50 rfl rfl ?_
  refine k_bipush (q := 53) (v := (16 : Int32)) hC dX10_init_51 (by decide) rfl ?_
  refine k_newa (q := 55) (w' := (87, 5, 2216)) (at0 := .int) hC rfl ac_int (fun _ => rfl) (by decide) rfl (by decide) (by decide) (by decide) dX10_init_53 (by decide) hsz (Dead.rl hDX2 (by decide) [(81, 4, 85), (81, 3, 84), (81, 2, 83), (81, 1, 82)] (by decide +kernel)) (by decide) rfl rfl ?_
  refine k_putFR (q := 58) (r' := (rl [(81, 12, 86), (81, 4, 85), (81, 3, 84), (81, 2, 83), (81, 1, 82)] (rm fa tr pm 81))) hC hI fl_X10_32 rfl rfl dX10_init_55 (kdn_of (show 81 < 87 by decide) rfl) (fun _ _ _ => rfl) rfl rfl rfl rfl ?_
  refine k_aload_n (q := 59) hC dX10_init_58 rfl rfl ?_
  refine k_bipush (q := 61) (v := (16 : Int32)) hC dX10_init_59 (by decide) rfl ?_
  refine k_newa (q := 63) (w' := (88, 6, 2232)) (at0 := .int) hC rfl ac_int (fun _ => rfl) (by decide) rfl (by decide) (by decide) (by decide) dX10_init_61 (by decide) hsz (Dead.rl hDX2 (by decide) [(81, 12, 86), (81, 4, 85), (81, 3, 84), (81, 2, 83), (81, 1, 82)] (by decide +kernel)) (by decide) rfl rfl ?_
  refine k_putFR (q := 66) (r' := (rl [(81, 13, 87), (81, 12, 86), (81, 4, 85), (81, 3, 84), (81, 2, 83), (81, 1, 82)] (rm fa tr pm 81))) hC hI fl_X10_35 rfl rfl dX10_init_63 (kdn_of (show 81 < 88 by decide) rfl) (fun _ _ _ => rfl) rfl rfl rfl rfl ?_
  refine k_aload_n (q := 67) hC dX10_init_66 rfl rfl ?_
  refine k_bipush (q := 69) (v := (16 : Int32)) hC dX10_init_67 (by decide) rfl ?_
  refine k_newa (q := 71) (w' := (89, 7, 2248)) (at0 := .int) hC rfl ac_int (fun _ => rfl) (by decide) rfl (by decide) (by decide) (by decide) dX10_init_69 (by decide) hsz (Dead.rl hDX2 (by decide) [(81, 13, 87), (81, 12, 86), (81, 4, 85), (81, 3, 84), (81, 2, 83), (81, 1, 82)] (by decide +kernel)) (by decide) rfl rfl ?_
  refine k_putFR (q := 74) (r' := (rl [(81, 14, 88), (81, 13, 87), (81, 12, 86), (81, 4, 85), (81, 3, 84), (81, 2, 83), (81, 1, 82)] (rm fa tr pm 81))) hC hI fl_X10_38 rfl rfl dX10_init_71 (kdn_of (show 81 < 89 by decide) rfl) (fun _ _ _ => rfl) rfl rfl rfl rfl ?_
  refine k_aload_n (q := 75) hC dX10_init_74 rfl rfl ?_
  refine k_bipush (q := 77) (v := (16 : Int32)) hC dX10_init_75 (by decide) rfl ?_
  refine k_newa (q := 79) (w' := (90, 8, 2264)) (at0 := .int) hC rfl ac_int (fun _ => rfl) (by decide) rfl (by decide) (by decide) (by decide) dX10_init_77 (by decide) hsz (Dead.rl hDX2 (by decide) [(81, 14, 88), (81, 13, 87), (81, 12, 86), (81, 4, 85), (81, 3, 84), (81, 2, 83), (81, 1, 82)] (by decide +kernel)) (by decide) rfl rfl ?_
  refine k_putFR (q := 82) (r' := (rl [(81, 20, 89), (81, 14, 88), (81, 13, 87), (81, 12, 86), (81, 4, 85), (81, 3, 84), (81, 2, 83), (81, 1, 82)] (rm fa tr pm 81))) hC hI fl_X10_41 rfl rfl dX10_init_79 (kdn_of (show 81 < 90 by decide) rfl) (fun _ _ _ => rfl) rfl rfl rfl rfl ?_
  refine k_aload_n (q := 83) hC dX10_init_82 rfl rfl ?_
  refine k_bipush (q := 85) (v := (16 : Int32)) hC dX10_init_83 (by decide) rfl ?_
  refine k_newa (q := 87) (w' := (91, 9, 2280)) (at0 := .int) hC rfl ac_int (fun _ => rfl) (by decide) rfl (by decide) (by decide) (by decide) dX10_init_85 (by decide) hsz (Dead.rl hDX2 (by decide) [(81, 20, 89), (81, 14, 88), (81, 13, 87), (81, 12, 86), (81, 4, 85), (81, 3, 84), (81, 2, 83), (81, 1, 82)] (by decide +kernel)) (by decide) rfl rfl ?_
  refine k_putFR (q := 90) (r' := (rl [(81, 21, 90), (81, 20, 89), (81, 14, 88), (81, 13, 87), (81, 12, 86), (81, 4, 85), (81, 3, 84), (81, 2, 83), (81, 1, 82)] (rm fa tr pm 81))) hC hI fl_X10_44 rfl rfl dX10_init_87 (kdn_of (show 81 < 91 by decide) rfl) (fun _ _ _ => rfl) rfl rfl rfl rfl ?_
  refine k_aload_n (q := 91) hC dX10_init_90 rfl rfl ?_
  refine k_sipush (q := 94) (v := (400 : Int32)) hC dX10_init_91 (by decide) rfl ?_
  refine k_newa (q := 96) (w' := (92, 10, 2680)) (at0 := .byte) hC rfl ac_byte (fun _ => rfl) (by decide) rfl (by decide) (by decide) (by decide) dX10_init_94 (by decide) hsz (Dead.rl hDX2 (by decide) [(81, 21, 90), (81, 20, 89), (81, 14, 88), (81, 13, 87), (81, 12, 86), (81, 4, 85), (81, 3, 84), (81, 2, 83), (81, 1, 82)] (by decide +kernel)) (by decide) rfl rfl ?_
  refine k_putFR (q := 99) (r' := (rl [(81, 22, 91), (81, 21, 90), (81, 20, 89), (81, 14, 88), (81, 13, 87), (81, 12, 86), (81, 4, 85), (81, 3, 84), (81, 2, 83), (81, 1, 82)] (rm fa tr pm 81))) hC hI fl_X10_47 rfl rfl dX10_init_96 (kdn_of (show 81 < 92 by decide) rfl) (fun _ _ _ => rfl) rfl rfl rfl rfl ?_
  refine k_aload_n (q := 100) hC dX10_init_99 rfl rfl ?_
  refine k_iconst (q := 101) (v := (-1 : Int32)) hC dX10_init_100 (by decide) rfl ?_
  refine k_putM (q := 104) hC fl_X10_51 rfl dX10_init_101 (kdn_of (show 81 < 92 by decide) rfl) (fun _ _ _ => rfl) rfl rfl rfl ?_
  have hDX3 : Dead 82 (rm fa tr pm 81) (xc, (up2 (up2 (up2 hm 81 8 (-1 : Int32)) 81 10 (-1 : Int32)) 81 27 (-1 : Int32)), lo) := Dead.rowsM (hDX2.mono (by decide)) (fun c hc => by first | rfl | exact up2_ne (by omega))
  refine k_aload_n (q := 105) hC dX10_init_104 rfl rfl ?_
  refine k_iconst (q := 106) (v := (5 : Int32)) hC dX10_init_105 (by decide) rfl ?_
  refine k_newa (q := 108) (w' := (93, 11, 2685)) (at0 := .int) hC rfl ac_int (fun _ => rfl) (by decide) rfl (by decide) (by decide) (by decide) dX10_init_106 (by decide) hsz (Dead.rl hDX3 (by decide) [(81, 22, 91), (81, 21, 90), (81, 20, 89), (81, 14, 88), (81, 13, 87), (81, 12, 86), (81, 4, 85), (81, 3, 84), (81, 2, 83), (81, 1, 82)] (by decide +kernel)) (by decide) rfl rfl ?_
  refine k_putFR (q := 111) (r' := (rl [(81, 29, 92), (81, 22, 91), (81, 21, 90), (81, 20, 89), (81, 14, 88), (81, 13, 87), (81, 12, 86), (81, 4, 85), (81, 3, 84), (81, 2, 83), (81, 1, 82)] (rm fa tr pm 81))) hC hI fl_X10_54 rfl rfl dX10_init_108 (kdn_of (show 81 < 93 by decide) rfl) (fun _ _ _ => rfl) rfl rfl rfl rfl ?_
  refine k_aload_n (q := 112) hC dX10_init_111 rfl rfl ?_
  refine k_sipush (q := 115) (v := (400 : Int32)) hC dX10_init_112 (by decide) rfl ?_
  refine k_newa (q := 117) (w' := (94, 12, 3085)) (at0 := .int) hC rfl ac_int (fun _ => rfl) (by decide) rfl (by decide) (by decide) (by decide) dX10_init_115 (by decide) hsz (Dead.rl hDX3 (by decide) [(81, 29, 92), (81, 22, 91), (81, 21, 90), (81, 20, 89), (81, 14, 88), (81, 13, 87), (81, 12, 86), (81, 4, 85), (81, 3, 84), (81, 2, 83), (81, 1, 82)] (by decide +kernel)) (by decide) rfl rfl ?_
  refine k_putFR (q := 120) (r' := (rl [(81, 30, 93), (81, 29, 92), (81, 22, 91), (81, 21, 90), (81, 20, 89), (81, 14, 88), (81, 13, 87), (81, 12, 86), (81, 4, 85), (81, 3, 84), (81, 2, 83), (81, 1, 82)] (rm fa tr pm 81))) hC hI fl_X10_57 rfl rfl dX10_init_117 (kdn_of (show 81 < 94 by decide) rfl) (fun _ _ _ => rfl) rfl rfl rfl rfl ?_
  refine k_aload_n (q := 121) hC dX10_init_120 rfl rfl ?_
  refine k_bipush (q := 123) (v := (60 : Int32)) hC dX10_init_121 (by decide) rfl ?_
  refine k_newa (q := 125) (w' := (95, 13, 3145)) (at0 := .int) hC rfl ac_int (fun _ => rfl) (by decide) rfl (by decide) (by decide) (by decide) dX10_init_123 (by decide) hsz (Dead.rl hDX3 (by decide) [(81, 30, 93), (81, 29, 92), (81, 22, 91), (81, 21, 90), (81, 20, 89), (81, 14, 88), (81, 13, 87), (81, 12, 86), (81, 4, 85), (81, 3, 84), (81, 2, 83), (81, 1, 82)] (by decide +kernel)) (by decide) rfl rfl ?_
  refine k_putFR (q := 128) (r' := (rl [(81, 32, 94), (81, 30, 93), (81, 29, 92), (81, 22, 91), (81, 21, 90), (81, 20, 89), (81, 14, 88), (81, 13, 87), (81, 12, 86), (81, 4, 85), (81, 3, 84), (81, 2, 83), (81, 1, 82)] (rm fa tr pm 81))) hC hI fl_X10_60 rfl rfl dX10_init_125 (kdn_of (show 81 < 95 by decide) rfl) (fun _ _ _ => rfl) rfl rfl rfl rfl ?_
  refine k_aload_n (q := 129) hC dX10_init_128 rfl rfl ?_
  refine k_bipush (q := 131) (v := (16 : Int32)) hC dX10_init_129 (by decide) rfl ?_
  refine k_newa (q := 133) (w' := (96, 14, 3161)) (at0 := .int) hC rfl ac_int (fun _ => rfl) (by decide) rfl (by decide) (by decide) (by decide) dX10_init_131 (by decide) hsz (Dead.rl hDX3 (by decide) [(81, 32, 94), (81, 30, 93), (81, 29, 92), (81, 22, 91), (81, 21, 90), (81, 20, 89), (81, 14, 88), (81, 13, 87), (81, 12, 86), (81, 4, 85), (81, 3, 84), (81, 2, 83), (81, 1, 82)] (by decide +kernel)) (by decide) rfl rfl ?_
  refine k_putFR (q := 136) (r' := (rl [(81, 33, 95), (81, 32, 94), (81, 30, 93), (81, 29, 92), (81, 22, 91), (81, 21, 90), (81, 20, 89), (81, 14, 88), (81, 13, 87), (81, 12, 86), (81, 4, 85), (81, 3, 84), (81, 2, 83), (81, 1, 82)] (rm fa tr pm 81))) hC hI fl_X10_63 rfl rfl dX10_init_133 (kdn_of (show 81 < 96 by decide) rfl) (fun _ _ _ => rfl) rfl rfl rfl rfl ?_
  refine k_aload_n (q := 137) hC dX10_init_136 rfl rfl ?_
  refine k_bipush (q := 139) (v := (16 : Int32)) hC dX10_init_137 (by decide) rfl ?_
  refine k_newa (q := 141) (w' := (97, 15, 3177)) (at0 := .int) hC rfl ac_int (fun _ => rfl) (by decide) rfl (by decide) (by decide) (by decide) dX10_init_139 (by decide) hsz (Dead.rl hDX3 (by decide) [(81, 33, 95), (81, 32, 94), (81, 30, 93), (81, 29, 92), (81, 22, 91), (81, 21, 90), (81, 20, 89), (81, 14, 88), (81, 13, 87), (81, 12, 86), (81, 4, 85), (81, 3, 84), (81, 2, 83), (81, 1, 82)] (by decide +kernel)) (by decide) rfl rfl ?_
  refine k_putFR (q := 144) (r' := (rl [(81, 34, 96), (81, 33, 95), (81, 32, 94), (81, 30, 93), (81, 29, 92), (81, 22, 91), (81, 21, 90), (81, 20, 89), (81, 14, 88), (81, 13, 87), (81, 12, 86), (81, 4, 85), (81, 3, 84), (81, 2, 83), (81, 1, 82)] (rm fa tr pm 81))) hC hI fl_X10_66 rfl rfl dX10_init_141 (kdn_of (show 81 < 97 by decide) rfl) (fun _ _ _ => rfl) rfl rfl rfl rfl ?_
  refine k_aload_n (q := 145) hC dX10_init_144 rfl rfl ?_
  refine k_bipush (q := 147) (v := (60 : Int32)) hC dX10_init_145 (by decide) rfl ?_
  refine k_newa (q := 149) (w' := (98, 16, 3237)) (at0 := .boolean) hC rfl ac_boolean (fun _ => rfl) (by decide) rfl (by decide) (by decide) (by decide) dX10_init_147 (by decide) hsz (Dead.rl hDX3 (by decide) [(81, 34, 96), (81, 33, 95), (81, 32, 94), (81, 30, 93), (81, 29, 92), (81, 22, 91), (81, 21, 90), (81, 20, 89), (81, 14, 88), (81, 13, 87), (81, 12, 86), (81, 4, 85), (81, 3, 84), (81, 2, 83), (81, 1, 82)] (by decide +kernel)) (by decide) rfl rfl ?_
  refine k_putFR (q := 152) (r' := (rl [(81, 35, 97), (81, 34, 96), (81, 33, 95), (81, 32, 94), (81, 30, 93), (81, 29, 92), (81, 22, 91), (81, 21, 90), (81, 20, 89), (81, 14, 88), (81, 13, 87), (81, 12, 86), (81, 4, 85), (81, 3, 84), (81, 2, 83), (81, 1, 82)] (rm fa tr pm 81))) hC hI fl_X10_69 rfl rfl dX10_init_149 (kdn_of (show 81 < 98 by decide) rfl) (fun _ _ _ => rfl) rfl rfl rfl rfl ?_
  refine k_aload_n (q := 153) hC dX10_init_152 rfl rfl ?_
  refine k_bipush (q := 155) (v := (100 : Int32)) hC dX10_init_153 (by decide) rfl ?_
  refine k_newa (q := 157) (w' := (99, 17, 3337)) (at0 := .byte) hC rfl ac_byte (fun _ => rfl) (by decide) rfl (by decide) (by decide) (by decide) dX10_init_155 (by decide) hsz (Dead.rl hDX3 (by decide) [(81, 35, 97), (81, 34, 96), (81, 33, 95), (81, 32, 94), (81, 30, 93), (81, 29, 92), (81, 22, 91), (81, 21, 90), (81, 20, 89), (81, 14, 88), (81, 13, 87), (81, 12, 86), (81, 4, 85), (81, 3, 84), (81, 2, 83), (81, 1, 82)] (by decide +kernel)) (by decide) rfl rfl ?_
  refine k_putFR (q := 160) (r' := (rl [(81, 40, 98), (81, 35, 97), (81, 34, 96), (81, 33, 95), (81, 32, 94), (81, 30, 93), (81, 29, 92), (81, 22, 91), (81, 21, 90), (81, 20, 89), (81, 14, 88), (81, 13, 87), (81, 12, 86), (81, 4, 85), (81, 3, 84), (81, 2, 83), (81, 1, 82)] (rm fa tr pm 81))) hC hI fl_X10_73 rfl rfl dX10_init_157 (kdn_of (show 81 < 99 by decide) rfl) (fun _ _ _ => rfl) rfl rfl rfl rfl ?_
  refine k_aload_n (q := 161) hC dX10_init_160 rfl rfl ?_
  refine k_bipush (q := 163) (v := (8 : Int32)) hC dX10_init_161 (by decide) rfl ?_
  refine k_rc (r' := RR fa tr pm) (rl_RRm (L := [(81, 40, 98), (81, 35, 97), (81, 34, 96), (81, 33, 95), (81, 32, 94), (81, 30, 93), (81, 29, 92), (81, 22, 91), (81, 21, 90), (81, 20, 89), (81, 14, 88), (81, 13, 87), (81, 12, 86), (81, 4, 85), (81, 3, 84), (81, 2, 83), (81, 1, 82)]) (by decide +kernel) (by decide +kernel) (by decide +kernel)) ?_
  refine k_cV0 (q := 166) (c0 := 81) (As := [.int (8 : Int32)]) hC oX10_isFresh vX10_isFresh rfl (kdn_of (show 81 < 99 by decide) rfl) rfl rfl dX10_init_163 lk_X10_76 (c_X10_isFresh e 99 (Nat.le_refl _) fa tr pm xc (up2 (up2 (up2 hm 81 8 (-1 : Int32)) 81 10 (-1 : Int32)) 81 27 (-1 : Int32)) lo (8 : Int32) o hf) (by decide) rfl (Nat.le_of_ble_eq_true rfl) (by decide) rfl ?_
  exact k_vret hC hQ rfl dX10_init_166
