/-! THE PICTURE OF THE HEAP: numbered cells, from the address eB on; numbers of the class in one function, those of the reference in another -/
abbrev gIH : Type := Nat → Nat → Int32
abbrev gLH : Type := Nat → Nat → Int64
abbrev gXH : Type := gIH × gLH
abbrev gRH : Type := Nat → Nat → Option Nat
abbrev gXW : Type := gXH × gIH × gLH
def up2 {α : Type} (h : Nat → Nat → α) (c j : Nat) (v : α) : Nat → Nat → α := fun c' j' => if c' = c ∧ j' = j then v else h c' j'
theorem up2_ne {α : Type} {h : Nat → Nat → α} {c j : Nat} {v : α} {c' : Nat} (hne : c' ≠ c) : up2 h c j v c' = h c' := by
  funext j'
  simp [up2, hne]
theorem up2_row {h : Nat → Nat → Int32} {c j : Nat} {v : Int32} : up2 h c j v c = upd (h c) j v := by
  funext j'
  simp [up2, upd]
theorem up2_rowL {h : Nat → Nat → Int64} {c j : Nat} {v : Int64} : up2 h c j v c = vp_updL (h c) j v := by
  funext j'
  simp [up2, vp_updL]
theorem up2_rowR {h : Nat → Nat → Option Nat} {c j : Nat} {v : Option Nat} : up2 h c j v c = va_up (h c) j v := by
  funext j'
  simp [up2, va_up]
def sI (x : gXH) (c j : Nat) (v : Int32) : gXH := (up2 x.1 c j v, x.2)
def sL (x : gXH) (c j : Nat) (v : Int64) : gXH := (x.1, up2 x.2 c j v)
/-- a cell's kind: whose numbers (0 the class's, 1 the reference's, 2 the law's), and its class, or element kind (0 int, 1 byte, 2 boolean, 3 long, 4 Net) and length -/
abbrev gKN : Type := Nat × (Nat ⊕ (Nat × Nat))
def gAr (L : Nat) : gKN := (0, .inr (0, L))
def gOb (ci : Nat) : gKN := (0, .inl ci)
def gMr (L : Nat) : gKN := (1, .inr (0, L))
def gKD : List gKN := [(0, .inl 9), (0, .inl 0), (0, .inr (0, 400)), (0, .inl 0), (0, .inr (0, 64)), (0, .inl 7), (0, .inr (0, 400)),
  (0, .inl 6), (0, .inr (0, 60)), (0, .inr (0, 60)), (0, .inr (0, 16)), (0, .inl 6), (0, .inr (0, 60)), (0, .inr (0, 60)), (0, .inr (0, 16)), (0, .inl 6), (0, .inr (0, 60)), (0, .inr (0, 60)), (0, .inr (0, 16)),
  (0, .inl 5), (0, .inr (4, 8)),
  (0, .inl 6), (0, .inr (0, 60)), (0, .inr (0, 60)), (0, .inr (0, 16)), (0, .inl 6), (0, .inr (0, 60)), (0, .inr (0, 60)), (0, .inr (0, 16)), (0, .inl 6), (0, .inr (0, 60)), (0, .inr (0, 60)), (0, .inr (0, 16)), (0, .inl 6), (0, .inr (0, 60)), (0, .inr (0, 60)), (0, .inr (0, 16)),
  (0, .inl 6), (0, .inr (0, 60)), (0, .inr (0, 60)), (0, .inr (0, 16)), (0, .inl 6), (0, .inr (0, 60)), (0, .inr (0, 60)), (0, .inr (0, 16)), (0, .inl 6), (0, .inr (0, 60)), (0, .inr (0, 60)), (0, .inr (0, 16)), (0, .inl 6), (0, .inr (0, 60)), (0, .inr (0, 60)), (0, .inr (0, 16)),
  (0, .inl 1), (0, .inl 8),
  (0, .inl 3), (0, .inr (0, 16)), (0, .inr (0, 16)), (0, .inr (0, 16)), (0, .inr (0, 16)),
  (0, .inr (0, 16)), (0, .inr (0, 16)), (0, .inr (0, 16)), (0, .inr (0, 256)),
  (0, .inl 4), (0, .inr (0, 16)), (0, .inl 2), (0, .inr (0, 1024)), (0, .inr (0, 32)), (0, .inr (0, 32)), (0, .inl 1),
  (0, .inl 3), (0, .inr (0, 16)), (0, .inr (0, 16)), (0, .inr (0, 16)), (0, .inr (0, 16)), (0, .inl 3), (0, .inr (0, 16)), (0, .inr (0, 16)), (0, .inr (0, 16)), (0, .inr (0, 16)),
  (1, .inl 10), (1, .inr (0, 200)), (1, .inr (0, 200)), (1, .inr (0, 200)), (1, .inr (0, 1600)), (1, .inr (0, 16)), (1, .inr (0, 16)), (1, .inr (0, 16)), (1, .inr (0, 16)), (1, .inr (0, 16)),
  (1, .inr (1, 400)), (1, .inr (0, 5)), (1, .inr (0, 400)), (1, .inr (0, 60)), (1, .inr (0, 16)), (1, .inr (0, 16)), (1, .inr (2, 60)), (1, .inr (1, 100)), (2, .inr (3, 1))]
theorem gKD_len : gKD.length = 100 := by decide +kernel
def kdn (n c : Nat) : Option gKN := if c < n then gKD[c]? else none
theorem kdn_lt {n c : Nat} {k : gKN} (h : kdn n c = some k) : c < n ∧ gKD[c]? = some k := by
  unfold kdn at h
  split at h
  · exact ⟨by assumption, h⟩
  · cases h
theorem kdn_of {n c : Nat} {k : gKN} (h : c < n) (hk : gKD[c]? = some k) : kdn n c = some k := by
  unfold kdn
  rw [if_pos h]
  exact hk
def clN (ci : Nat) : Nat := [2, 4, 3, 5, 2, 2, 8, 6, 11, 12, 42].getD ci 0
def clT (ci : Nat) : Nat → FieldType := match ci with
  | 0 => tyX0
  | 1 => tyX1
  | 2 => tyX2
  | 3 => tyX3
  | 4 => tyX4
  | 5 => tyX5
  | 6 => tyX6
  | 7 => tyX7
  | 8 => tyX8
  | 9 => tyX9
  | _ => tyX10
/-- what all the walks have in common: the launch, class numbers, array classes, the first cell's address, the script's, the texts' and their bytes' -/
abbrev gEV : Type := Launch × va_G × (ClassId × ClassId × ClassId × ClassId × ClassId) × Nat × Nat × (Nat → Nat) × (Nat → Nat)
def eL (e : gEV) : Launch := e.1
def eD (e : gEV) : va_G := e.2.1
def eQ (e : gEV) : ClassId × ClassId × ClassId × ClassId × ClassId := e.2.2.1
def eB (e : gEV) : Nat := e.2.2.2.1
def eS (e : gEV) : Nat := e.2.2.2.2.1
def eK (e : gEV) : Nat → Nat := e.2.2.2.2.2.1
def eV (e : gEV) : Nat → Nat := e.2.2.2.2.2.2
def gA (e : gEV) : Nat → Prop := fun q => eB e ≤ q
def cid (q : ClassId × ClassId × ClassId × ClassId × ClassId) (t : Nat) : ClassId := match t with
  | 0 => q.1
  | 1 => q.2.1
  | 2 => q.2.2.1
  | 3 => q.2.2.2.1
  | _ => q.2.2.2.2
def tysO (q : ClassId × ClassId × ClassId × ClassId × ClassId) : List (ClassId × FieldType) := [(q.1, .int), (q.2.1, .byte), (q.2.2.1, .boolean), (q.2.2.2.1, .long), (q.2.2.2.2, .object RX6)]
/-- a value of the picture as the machine has it: a cell's number is its address; .float stands for the script, .retAddr k for the text k -/
def cv (e : gEV) (v : Value) : Value := match v with
  | .ref c => .ref (eB e + c)
  | .float _ => .ref (eS e)
  | .retAddr k => .ref (eK e k)
  | v => v
def xi (x : gXW) (sd : Nat) : gIH := match sd with
  | 0 => x.1.1
  | 1 => x.2.1
  | _ => fun _ _ => 0
def xl (x : gXW) (sd : Nat) : gLH := match sd with
  | 0 => x.1.2
  | 2 => x.2.2
  | _ => fun _ _ => 0
def xsi (x : gXW) (sd c j : Nat) (v : Int32) : gXW := match sd with
  | 0 => ((up2 x.1.1 c j v, x.1.2), x.2)
  | 1 => (x.1, up2 x.2.1 c j v, x.2.2)
  | _ => x
def xsl (x : gXW) (sd c j : Nat) (v : Int64) : gXW := match sd with
  | 0 => ((x.1.1, up2 x.1.2 c j v), x.2)
  | 2 => (x.1, x.2.1, up2 x.2.2 c j v)
  | _ => x
def fvl (e : gEV) (t : FieldType) (r : Option Nat) (i : Int32) (q : Int64) : Value := match t with
  | .long => .long q
  | .object _ => va_rf (r.map (fun c => eB e + c))
  | .array _ => va_rf (r.map (fun c => eB e + c))
  | _ => .int i
def flds (e : gEV) (r : gRH) (x : gXW) (sd ci c : Nat) : List Value := (List.range (clN ci)).map (fun j => fvl e (clT ci j) (r c j) (xi x sd c j) (xl x sd c j))
def ctn (e : gEV) (r : gRH) (x : gXW) (sd t c : Nat) : (Nat → Int32) ⊕ (Nat → Int64) ⊕ (Nat → UInt32) ⊕ (Nat → UInt64) ⊕ (Nat → Option Nat) := match t with
  | 3 => .inr (.inl (xl x sd c))
  | 4 => .inr (.inr (.inr (.inr (fun k => (r c k).map (fun c => eB e + c)))))
  | _ => .inl (xi x sd c)
def cellK (e : gEV) (r : gRH) (x : gXW) (c : Nat) (k : gKN) : va_E := match k with
  | (sd, .inl ci) => .inr (ci, flds e r x sd ci c)
  | (sd, .inr (t, L)) => .inl (cid (eQ e) t, (L, ctn e r x sd t c))
def cellE (e : gEV) (r : gRH) (x : gXW) (c : Nat) : va_E := match gKD[c]? with
  | some k => cellK e r x c k
  | none => .inr (0, [])
def wsO (e : gEV) (n : Nat) (r : gRH) (x : gXW) : va_W := (List.range n).map (fun c => (eB e + c, cellE e r x c))
theorem wsO_get {e : gEV} {n : Nat} {r : gRH} {x : gXW} {c : Nat} (h : c < n) : (wsO e n r x)[c]? = some (eB e + c, cellE e r x c) := by
  simp [wsO, h]
theorem wsO_inv {e : gEV} {n : Nat} {r : gRH} {x : gXW} {c : Nat} {q : Nat × va_E} (h : (wsO e n r x)[c]? = some q) : c < n ∧ q = (eB e + c, cellE e r x c) := by
  have hl : c < (wsO e n r x).length := (List.getElem?_eq_some_iff.mp h).1
  have hl2 : c < n := by simpa [wsO] using hl
  rw [wsO_get hl2] at h
  exact ⟨hl2, (Option.some.inj h).symm⟩
theorem wsO_at {e : gEV} {n : Nat} {r : gRH} {x : gXW} {c : Nat} {k : gKN} (h : kdn n c = some k) : (wsO e n r x)[c]? = some (eB e + c, cellK e r x c k) := by
  obtain ⟨h1, h2⟩ := kdn_lt h
  rw [wsO_get h1]
  simp only [cellE, h2]
theorem wsO_D {e : gEV} {n : Nat} {r : gRH} {x : gXW} : va_D (gA e) (wsO e n r x) := by
  refine ⟨fun i j p q hi hj h => ?_, fun k q hk => ?_⟩
  · have h1 := (wsO_inv hi).2
    have h2 := (wsO_inv hj).2
    subst h1; subst h2
    have h3 : eB e + i = eB e + j := h
    omega
  · have h1 := (wsO_inv hk).2
    subst h1
    exact Nat.le_add_right _ _
theorem cellE_congr {e : gEV} {r r' : gRH} {x x' : gXW} {c : Nat} (h1 : ∀ sd, xi x' sd c = xi x sd c) (h2 : ∀ sd, xl x' sd c = xl x sd c) (h3 : r' c = r c) : cellE e r' x' c = cellE e r x c := by
  unfold cellE
  cases gKD[c]? with
  | none => rfl
  | some k =>
    obtain ⟨sd, k⟩ := k
    cases k with
    | inl ci => simp only [cellK, flds, h1, h2, h3]
    | inr t => simp only [cellK, ctn, h1, h2, h3]
theorem wsO_set {e : gEV} {n : Nat} {r r' : gRH} {x x' : gXW} {c : Nat} {k : gKN} (h : kdn n c = some k) (ho : ∀ c', c' ≠ c → cellE e r' x' c' = cellE e r x c') : (wsO e n r x).set c (eB e + c, cellK e r' x' c k) = wsO e n r' x' := by
  obtain ⟨h1, h2⟩ := kdn_lt h
  apply List.ext_getElem?
  intro i
  by_cases hi : i = c
  · subst hi
    rw [List.getElem?_set_self (by simpa [wsO] using h1), wsO_get h1]
    simp only [cellE, h2]
  · rw [List.getElem?_set_ne (fun q => hi q.symm)]
    by_cases hn : i < n
    · rw [wsO_get hn, wsO_get hn, ho i hi]
    · rw [List.getElem?_eq_none (by simpa [wsO] using hn), List.getElem?_eq_none (by simpa [wsO] using hn)]
theorem wsO_congr {e : gEV} {n : Nat} {r r' : gRH} {x x' : gXW} (h : ∀ c, c < n → cellE e r' x' c = cellE e r x c) : wsO e n r' x' = wsO e n r x := by
  unfold wsO
  apply List.map_congr_left
  intro c hc
  rw [h c (List.mem_range.mp hc)]
theorem xi_xsi {x : gXW} {sd c j : Nat} {v : Int32} (h : sd < 2) : xi (xsi x sd c j v) sd = up2 (xi x sd) c j v := by
  rcases (show sd = 0 ∨ sd = 1 by omega) with rfl | rfl <;> rfl
theorem xi_xsi_ne {x : gXW} {sd c j : Nat} {v : Int32} {c' : Nat} (h : c' ≠ c) (sd' : Nat) : xi (xsi x sd c j v) sd' c' = xi x sd' c' := by
  unfold xsi
  split
  · unfold xi
    split
    · exact up2_ne h
    · rfl
    · rfl
  · unfold xi
    split
    · rfl
    · exact up2_ne h
    · rfl
  · rfl
theorem xl_xsi {x : gXW} {sd c j : Nat} {v : Int32} (sd' : Nat) : xl (xsi x sd c j v) sd' = xl x sd' := by
  unfold xsi
  split <;> rfl
theorem xi_xsl {x : gXW} {sd c j : Nat} {v : Int64} (sd' : Nat) : xi (xsl x sd c j v) sd' = xi x sd' := by
  unfold xsl
  split <;> rfl
theorem xl_xsl_ne {x : gXW} {sd c j : Nat} {v : Int64} {c' : Nat} (h : c' ≠ c) (sd' : Nat) : xl (xsl x sd c j v) sd' c' = xl x sd' c' := by
  unfold xsl
  split
  · unfold xl
    split
    · exact up2_ne h
    · rfl
    · rfl
  · unfold xl
    split
    · rfl
    · exact up2_ne h
    · rfl
  · rfl
theorem cellE_xsi {e : gEV} {r : gRH} {x : gXW} {sd c j : Nat} {v : Int32} {c' : Nat} (h : c' ≠ c) : cellE e r (xsi x sd c j v) c' = cellE e r x c' :=
  cellE_congr (xi_xsi_ne h) (fun sd' => by rw [xl_xsi]) rfl
theorem cellE_xsl {e : gEV} {r : gRH} {x : gXW} {sd c j : Nat} {v : Int64} {c' : Nat} (h : c' ≠ c) : cellE e r (xsl x sd c j v) c' = cellE e r x c' :=
  cellE_congr (fun sd' => by rw [xi_xsl]) (xl_xsl_ne h) rfl
theorem cellE_ref {e : gEV} {r : gRH} {x : gXW} {c j : Nat} {v : Option Nat} {c' : Nat} (h : c' ≠ c) : cellE e (up2 r c j v) x c' = cellE e r x c' :=
  cellE_congr (fun _ => rfl) (fun _ => rfl) (up2_ne h)
theorem flds_len {e : gEV} {r : gRH} {x : gXW} {sd ci c : Nat} : (flds e r x sd ci c).length = clN ci := by simp [flds]
theorem flds_get {e : gEV} {r : gRH} {x : gXW} {sd ci c j : Nat} (h : j < clN ci) : (flds e r x sd ci c)[j]? = some (fvl e (clT ci j) (r c j) (xi x sd c j) (xl x sd c j)) := by
  simp [flds, h]
theorem flds_set {e : gEV} {r r' : gRH} {x x' : gXW} {sd ci c j : Nat} {v : Value} (hj : j < clN ci) (hv : fvl e (clT ci j) (r' c j) (xi x' sd c j) (xl x' sd c j) = v) (ho : ∀ j', j' ≠ j → fvl e (clT ci j') (r' c j') (xi x' sd c j') (xl x' sd c j') = fvl e (clT ci j') (r c j') (xi x sd c j') (xl x sd c j')) :
    (flds e r x sd ci c).set j v = flds e r' x' sd ci c := by
  apply List.ext_getElem?
  intro i
  by_cases hi : i = j
  · subst hi
    rw [List.getElem?_set_self (by rw [flds_len]; exact hj), flds_get hj, hv]
  · rw [List.getElem?_set_ne (fun q => hi q.symm)]
    by_cases hn : i < clN ci
    · rw [flds_get hn, flds_get hn, ho i hi]
    · rw [List.getElem?_eq_none (by rw [flds_len]; omega), List.getElem?_eq_none (by rw [flds_len]; omega)]
/-! locals -/
def lget : List (Option Value) → Nat → Option Value
  | [], _ => none
  | a :: _, 0 => a
  | _ :: l, i + 1 => lget l i
def lset : List (Option Value) → Nat → Option Value → List (Option Value)
  | [], _, _ => []
  | _ :: l, 0, v => v :: l
  | a :: l, i + 1, v => a :: lset l i v
theorem lget_lset : ∀ {l : List (Option Value)} {i j : Nat} {v : Option Value} {u : Value}, lget (lset l i v) j = some u → (j = i ∧ v = some u) ∨ (j ≠ i ∧ lget l j = some u)
  | [], i, j, v, u, h => by simp [lset, lget] at h
  | a :: l, 0, 0, v, u, h => Or.inl ⟨rfl, h⟩
  | a :: l, 0, j + 1, v, u, h => Or.inr ⟨Nat.succ_ne_zero j, h⟩
  | a :: l, i + 1, 0, v, u, h => Or.inr ⟨(Nat.succ_ne_zero i).symm, h⟩
  | a :: l, i + 1, j + 1, v, u, h => by
    rcases lget_lset (l := l) (i := i) (j := j) h with ⟨h1, h2⟩ | ⟨h1, h2⟩
    · exact Or.inl ⟨by rw [h1], h2⟩
    · exact Or.inr ⟨fun q => h1 (Nat.succ.inj q), h2⟩
theorem lget_lt : ∀ {l : List (Option Value)} {i : Nat} {u : Value}, lget l i = some u → i < l.length
  | [], i, u, h => by simp [lget] at h
  | a :: l, 0, u, h => Nat.succ_pos _
  | a :: l, i + 1, u, h => Nat.succ_lt_succ (lget_lt (l := l) h)
def gLV (e : gEV) (ls : Array Slot) (nL : Nat) (lv : List (Option Value)) : Prop := ls.size = nL ∧ lv_wf ls ∧ ∀ (i : Nat) (v : Value), lget lv i = some v → ls[i]? = some (.val (cv e v)) ∧ (cv e v).category = 1
def lprs (e : gEV) (lv : List (Option Value)) : List (Nat × Value) := (List.range lv.length).filterMap (fun i => (lget lv i).map (fun v => (i, cv e v)))
theorem lprs_mem {e : gEV} {lv : List (Option Value)} {q : Nat × Value} : q ∈ lprs e lv ↔ ∃ v, lget lv q.1 = some v ∧ q.2 = cv e v := by
  constructor
  · intro h
    obtain ⟨i, -, hi⟩ := List.mem_filterMap.mp h
    cases hg : lget lv i with
    | none => rw [hg] at hi; cases hi
    | some v =>
      rw [hg] at hi
      have h2 : (i, cv e v) = q := Option.some.inj hi
      subst h2
      exact ⟨v, hg, rfl⟩
  · intro ⟨v, h1, h2⟩
    refine List.mem_filterMap.mpr ⟨q.1, List.mem_range.mpr (lget_lt h1), ?_⟩
    rw [h1]
    obtain ⟨a, b⟩ := q
    exact congrArg (fun z => some (a, z)) h2.symm
theorem gLV.has {e : gEV} {ls : Array Slot} {nL : Nat} {lv : List (Option Value)} (h : gLV e ls nL lv) : lv_has ls nL (lprs e lv) := by
  refine ⟨h.1, h.2.1, fun q hq => ?_⟩
  obtain ⟨v, h1, h2⟩ := lprs_mem.mp hq
  rw [h2]
  exact (h.2.2 q.1 v h1).1
theorem gLV.set {e : gEV} {ls ls' : Array Slot} {nL i : Nat} {lv : List (Option Value)} {v : Value} (h : gLV e ls nL lv) (hc : (cv e v).category = 1)
    (h' : lv_has ls' nL ((i, cv e v) :: (lprs e lv).filter (fun q => !(q.1 == i) && !(q.1 + 1 == i && q.2.category == 2)))) : gLV e ls' nL (lset lv i (some v)) := by
  refine ⟨h'.1, h'.2.1, fun j u hj => ?_⟩
  rcases lget_lset hj with ⟨rfl, h2⟩ | ⟨h1, h2⟩
  · cases h2
    exact ⟨h'.2.2 _ List.mem_cons_self, hc⟩
  · refine ⟨h'.2.2 (j, cv e u) (List.mem_cons_of_mem _ (List.mem_filter.mpr ⟨lprs_mem.mpr ⟨u, h2, rfl⟩, ?_⟩)), (h.2.2 j u h2).2⟩
    have h3 := (h.2.2 j u h2).2
    simp [h1, h3]
theorem gLV.at {e : gEV} {ls : Array Slot} {nL : Nat} {lv : List (Option Value)} (h : gLV e ls nL lv) {i : Nat} {v : Value} (hv : lget lv i = some v) : ls[i]? = some (.val (cv e v)) := (h.2.2 i v hv).1
theorem gLV.sub {e : gEV} {ls : Array Slot} {nL : Nat} {lv lv' : List (Option Value)} (h : gLV e ls nL lv) (hs : ∀ i v, lget lv' i = some v → lget lv i = some v) : gLV e ls nL lv' := ⟨h.1, h.2.1, fun i v hv => h.2.2 i v (hs i v hv)⟩
