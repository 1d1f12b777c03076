/-! THE STEPS, one by one -/
def iush (x y : Int32) : Int32 := (x.toUInt32 >>> (y.toUInt32 &&& Int32.toUInt32 31)).toInt32
def irm (x y : Int32) : Int32 := x - x / y * y
def lush (x : Int64) (y : Int32) : Int64 := (x.toUInt64 >>> (y.toInt64.toUInt64 &&& Int64.toUInt64 63)).toInt64
def gck {α : Type} (L : Nat) (i : Int32) (k : Option α) : Option α := if i < 0 ∨ L ≤ i.toNatClampNeg then none else k
theorem gck_some {α : Type} {L : Nat} {i : Int32} {k : Option α} {o : α} (h : gck L i k = some o) : vp_in i L ∧ k = some o := by
  unfold gck at h
  split at h
  · cases h
  · exact ⟨by assumption, h⟩
theorem ite_l {α : Type} {c : Prop} [Decidable c] {a b : Option α} {o : α} (h : c) (e : (if c then a else b) = some o) : a = some o := by rwa [if_pos h] at e
theorem ite_r {α : Type} {c : Prop} [Decidable c] {a b : Option α} {o : α} (h : ¬ c) (e : (if c then a else b) = some o) : b = some o := by rwa [if_neg h] at e
theorem bnd {α β : Type} {a : Option α} {k : α → Option β} {o : β} (h : a.bind k = some o) : ∃ y, a = some y ∧ k y = some o := Option.bind_eq_some_iff.mp h
section
variable {e : gEV} {C : gCx} {cc : ByteArray} {nL d mc ms pc q : Nat} {own : String} {w : Nat × Nat × Nat} {lv lv' : List (Option Value)} {st st' : List Value} {r r' : gRH} {x x' : gXW}
theorem k_iload_n (hC : COk e C cc nL own d mc ms) {k : Fin 4} {y : Int32} (hd : decode cc pc = .ok (.iload_n k, 1)) (hv : lget lv (k : Nat) = some (.int y)) (hq : pc + 1 = q) (kk : KW e C w q lv (.int y :: st) r x) : KW e C w pc lv st r x := by
  obtain ⟨p, en, R, s, m, args, below, meth, cd, Q⟩ := C
  obtain ⟨hx, hb, hml, hown, hts, hK, hbs, hRf, hRl, hRc, hRs, hJ, hlk⟩ := hC
  subst hq
  intro H locs ls hP hS hl
  exact lv_iload_n hx hb hd rfl (hl.at hv) (kk H locs ls hP hS hl)
theorem k_iload (hC : COk e C cc nL own d mc ms) {i : Nat} {y : Int32} (hd : decode cc pc = .ok (.iload i, 2)) (hv : lget lv i = some (.int y)) (hq : pc + 2 = q) (kk : KW e C w q lv (.int y :: st) r x) : KW e C w pc lv st r x := by
  obtain ⟨p, en, R, s, m, args, below, meth, cd, Q⟩ := C
  obtain ⟨hx, hb, hml, hown, hts, hK, hbs, hRf, hRl, hRc, hRs, hJ, hlk⟩ := hC
  subst hq
  intro H locs ls hP hS hl
  exact lv_iload hx hb hd (hl.at hv) (kk H locs ls hP hS hl)
theorem k_aload_n (hC : COk e C cc nL own d mc ms) {k : Fin 4} {y : Nat} (hd : decode cc pc = .ok (.aload_n k, 1)) (hv : lget lv (k : Nat) = some (.ref y)) (hq : pc + 1 = q) (kk : KW e C w q lv (.ref y :: st) r x) : KW e C w pc lv st r x := by
  obtain ⟨p, en, R, s, m, args, below, meth, cd, Q⟩ := C
  obtain ⟨hx, hb, hml, hown, hts, hK, hbs, hRf, hRl, hRc, hRs, hJ, hlk⟩ := hC
  subst hq
  intro H locs ls hP hS hl
  exact lv_aload_n hx hb hd rfl (hl.at hv) (kk H locs ls hP hS hl)
theorem k_aload (hC : COk e C cc nL own d mc ms) {i : Nat} {y : Nat} (hd : decode cc pc = .ok (.aload i, 2)) (hv : lget lv i = some (.ref y)) (hq : pc + 2 = q) (kk : KW e C w q lv (.ref y :: st) r x) : KW e C w pc lv st r x := by
  obtain ⟨p, en, R, s, m, args, below, meth, cd, Q⟩ := C
  obtain ⟨hx, hb, hml, hown, hts, hK, hbs, hRf, hRl, hRc, hRs, hJ, hlk⟩ := hC
  subst hq
  intro H locs ls hP hS hl
  exact lv_aload hx hb hd (hl.at hv) (kk H locs ls hP hS hl)
theorem k_aload_nS (hC : COk e C cc nL own d mc ms) {k : Fin 4} {y : UInt32} (hd : decode cc pc = .ok (.aload_n k, 1)) (hv : lget lv (k : Nat) = some (.float y)) (hq : pc + 1 = q) (kk : KW e C w q lv (.float y :: st) r x) : KW e C w pc lv st r x := by
  obtain ⟨p, en, R, s, m, args, below, meth, cd, Q⟩ := C
  obtain ⟨hx, hb, hml, hown, hts, hK, hbs, hRf, hRl, hRc, hRs, hJ, hlk⟩ := hC
  subst hq
  intro H locs ls hP hS hl
  exact lv_aload_n hx hb hd rfl (hl.at hv) (kk H locs ls hP hS hl)
theorem k_aloadS (hC : COk e C cc nL own d mc ms) {i : Nat} {y : UInt32} (hd : decode cc pc = .ok (.aload i, 2)) (hv : lget lv i = some (.float y)) (hq : pc + 2 = q) (kk : KW e C w q lv (.float y :: st) r x) : KW e C w pc lv st r x := by
  obtain ⟨p, en, R, s, m, args, below, meth, cd, Q⟩ := C
  obtain ⟨hx, hb, hml, hown, hts, hK, hbs, hRf, hRl, hRc, hRs, hJ, hlk⟩ := hC
  subst hq
  intro H locs ls hP hS hl
  exact lv_aload hx hb hd (hl.at hv) (kk H locs ls hP hS hl)
theorem k_aload_nT (hC : COk e C cc nL own d mc ms) {k : Fin 4} {y : Nat} (hd : decode cc pc = .ok (.aload_n k, 1)) (hv : lget lv (k : Nat) = some (.retAddr y)) (hq : pc + 1 = q) (kk : KW e C w q lv (.retAddr y :: st) r x) : KW e C w pc lv st r x := by
  obtain ⟨p, en, R, s, m, args, below, meth, cd, Q⟩ := C
  obtain ⟨hx, hb, hml, hown, hts, hK, hbs, hRf, hRl, hRc, hRs, hJ, hlk⟩ := hC
  subst hq
  intro H locs ls hP hS hl
  exact lv_aload_n hx hb hd rfl (hl.at hv) (kk H locs ls hP hS hl)
theorem k_aloadT (hC : COk e C cc nL own d mc ms) {i : Nat} {y : Nat} (hd : decode cc pc = .ok (.aload i, 2)) (hv : lget lv i = some (.retAddr y)) (hq : pc + 2 = q) (kk : KW e C w q lv (.retAddr y :: st) r x) : KW e C w pc lv st r x := by
  obtain ⟨p, en, R, s, m, args, below, meth, cd, Q⟩ := C
  obtain ⟨hx, hb, hml, hown, hts, hK, hbs, hRf, hRl, hRc, hRs, hJ, hlk⟩ := hC
  subst hq
  intro H locs ls hP hS hl
  exact lv_aload hx hb hd (hl.at hv) (kk H locs ls hP hS hl)
theorem k_iconst (hC : COk e C cc nL own d mc ms) {n : Int} {v : Int32} (hd : decode cc pc = .ok (.iconst n, 1)) (hv : Int32.ofInt n = v) (hq : pc + 1 = q) (kk : KW e C w q lv (.int v :: st) r x) : KW e C w pc lv st r x := by
  obtain ⟨p, en, R, s, m, args, below, meth, cd, Q⟩ := C
  obtain ⟨hx, hb, hml, hown, hts, hK, hbs, hRf, hRl, hRc, hRs, hJ, hlk⟩ := hC
  subst hq
  intro H locs ls hP hS hl
  exact lv_iconst hx hb hd hv (kk H locs ls hP hS hl)
theorem k_bipush (hC : COk e C cc nL own d mc ms) {n : Int} {v : Int32} (hd : decode cc pc = .ok (.bipush n, 2)) (hv : (Int8.ofInt n).toInt32 = v) (hq : pc + 2 = q) (kk : KW e C w q lv (.int v :: st) r x) : KW e C w pc lv st r x := by
  obtain ⟨p, en, R, s, m, args, below, meth, cd, Q⟩ := C
  obtain ⟨hx, hb, hml, hown, hts, hK, hbs, hRf, hRl, hRc, hRs, hJ, hlk⟩ := hC
  subst hq
  intro H locs ls hP hS hl
  exact lv_bipush hx hb hd hv (kk H locs ls hP hS hl)
theorem k_sipush (hC : COk e C cc nL own d mc ms) {n : Int} {v : Int32} (hd : decode cc pc = .ok (.sipush n, 3)) (hv : (Int16.ofInt n).toInt32 = v) (hq : pc + 3 = q) (kk : KW e C w q lv (.int v :: st) r x) : KW e C w pc lv st r x := by
  obtain ⟨p, en, R, s, m, args, below, meth, cd, Q⟩ := C
  obtain ⟨hx, hb, hml, hown, hts, hK, hbs, hRf, hRl, hRc, hRs, hJ, hlk⟩ := hC
  subst hq
  intro H locs ls hP hS hl
  exact lv_sipush hx hb hd hv (kk H locs ls hP hS hl)
theorem k_lconst (hC : COk e C cc nL own d mc ms) {n : Fin 2} {v : Int64} (hd : decode cc pc = .ok (.lconst n, 1)) (hv : Int64.ofNat (n : Nat) = v) (hq : pc + 1 = q) (kk : KW e C w q lv (.long v :: st) r x) : KW e C w pc lv st r x := by
  obtain ⟨p, en, R, s, m, args, below, meth, cd, Q⟩ := C
  obtain ⟨hx, hb, hml, hown, hts, hK, hbs, hRf, hRl, hRc, hRs, hJ, hlk⟩ := hC
  subst hq
  intro H locs ls hP hS hl
  exact lv_lconst hx hb hd hv (kk H locs ls hP hS hl)
theorem k_ldc (hC : COk e C cc nL own d mc ms) {idx : Nat} {v : Int32} (hd : decode cc pc = .ok (.ldc idx, 2)) (hw : Cond.constant own idx v ∈ gW0) (hq : pc + 2 = q) (kk : KW e C w q lv (.int v :: st) r x) : KW e C w pc lv st r x := by
  obtain ⟨p, en, R, s, m, args, below, meth, cd, Q⟩ := C
  obtain ⟨hx, hb, hml, hown, hts, hK, hbs, hRf, hRl, hRc, hRs, hJ, hlk⟩ := hC
  subst hq
  intro H locs ls hP hS hl
  exact lv_ldc hx hb hown (hts _ hw) hd (kk H locs ls hP hS hl)
theorem k_ldcw (hC : COk e C cc nL own d mc ms) {idx : Nat} {v : Int32} (hd : decode cc pc = .ok (.ldc_w idx, 3)) (hw : Cond.constant own idx v ∈ gW0) (hq : pc + 3 = q) (kk : KW e C w q lv (.int v :: st) r x) : KW e C w pc lv st r x := by
  obtain ⟨p, en, R, s, m, args, below, meth, cd, Q⟩ := C
  obtain ⟨hx, hb, hml, hown, hts, hK, hbs, hRf, hRl, hRc, hRs, hJ, hlk⟩ := hC
  subst hq
  intro H locs ls hP hS hl
  exact lv_ldcw hx hb hown (hts _ hw) hd (kk H locs ls hP hS hl)
theorem k_ldc2 (hC : COk e C cc nL own d mc ms) {idx : Nat} {v : Int64} (hd : decode cc pc = .ok (.ldc2_w idx, 3)) (hw : Cond.constantLong own idx v ∈ gW0) (hq : pc + 3 = q) (kk : KW e C w q lv (.long v :: st) r x) : KW e C w pc lv st r x := by
  obtain ⟨p, en, R, s, m, args, below, meth, cd, Q⟩ := C
  obtain ⟨hx, hb, hml, hown, hts, hK, hbs, hRf, hRl, hRc, hRs, hJ, hlk⟩ := hC
  subst hq
  intro H locs ls hP hS hl
  exact lv_ldc2 hx hb hown (hts _ hw) hd (kk H locs ls hP hS hl)
theorem k_ldcS (hC : COk e C cc nL own d mc ms) {idx k : Nat} {tx : String} (hd : decode cc pc = .ok (.ldc idx, 2)) (hw : (own, idx, tx, k) ∈ gStr) (hq : pc + 2 = q) (kk : KW e C w q lv (.retAddr k :: st) r x) : KW e C w pc lv st r x := by
  obtain ⟨p, en, R, s, m, args, below, meth, cd, Q⟩ := C
  obtain ⟨hx, hb, hml, hown, hts, hK, hbs, hRf, hRl, hRc, hRs, hJ, hlk⟩ := hC
  subst hq
  intro H locs ls hP hS hl
  exact va_ldcS hx hb hown (hJ.2.1 _ hw) hd (kk H locs ls hP hS hl)
theorem k_iadd (hC : COk e C cc nL own d mc ms) {x1 y1 : Int32} (hd : decode cc pc = .ok (.iadd, 1)) (hq : pc + 1 = q) (kk : KW e C w q lv (.int (x1 + y1) :: st) r x) : KW e C w pc lv (.int y1 :: .int x1 :: st) r x := by
  obtain ⟨p, en, R, s, m, args, below, meth, cd, Q⟩ := C
  obtain ⟨hx, hb, hml, hown, hts, hK, hbs, hRf, hRl, hRc, hRs, hJ, hlk⟩ := hC
  subst hq
  intro H locs ls hP hS hl
  exact lv_iadd hx hb hd (kk H locs ls hP hS hl)
theorem k_isub (hC : COk e C cc nL own d mc ms) {x1 y1 : Int32} (hd : decode cc pc = .ok (.isub, 1)) (hq : pc + 1 = q) (kk : KW e C w q lv (.int (x1 - y1) :: st) r x) : KW e C w pc lv (.int y1 :: .int x1 :: st) r x := by
  obtain ⟨p, en, R, s, m, args, below, meth, cd, Q⟩ := C
  obtain ⟨hx, hb, hml, hown, hts, hK, hbs, hRf, hRl, hRc, hRs, hJ, hlk⟩ := hC
  subst hq
  intro H locs ls hP hS hl
  exact lv_isub hx hb hd (kk H locs ls hP hS hl)
theorem k_imul (hC : COk e C cc nL own d mc ms) {x1 y1 : Int32} (hd : decode cc pc = .ok (.imul, 1)) (hq : pc + 1 = q) (kk : KW e C w q lv (.int (x1 * y1) :: st) r x) : KW e C w pc lv (.int y1 :: .int x1 :: st) r x := by
  obtain ⟨p, en, R, s, m, args, below, meth, cd, Q⟩ := C
  obtain ⟨hx, hb, hml, hown, hts, hK, hbs, hRf, hRl, hRc, hRs, hJ, hlk⟩ := hC
  subst hq
  intro H locs ls hP hS hl
  exact lv_imul hx hb hd (kk H locs ls hP hS hl)
theorem k_iand (hC : COk e C cc nL own d mc ms) {x1 y1 : Int32} (hd : decode cc pc = .ok (.iand, 1)) (hq : pc + 1 = q) (kk : KW e C w q lv (.int (x1 &&& y1) :: st) r x) : KW e C w pc lv (.int y1 :: .int x1 :: st) r x := by
  obtain ⟨p, en, R, s, m, args, below, meth, cd, Q⟩ := C
  obtain ⟨hx, hb, hml, hown, hts, hK, hbs, hRf, hRl, hRc, hRs, hJ, hlk⟩ := hC
  subst hq
  intro H locs ls hP hS hl
  exact lv_iand hx hb hd (kk H locs ls hP hS hl)
theorem k_ior (hC : COk e C cc nL own d mc ms) {x1 y1 : Int32} (hd : decode cc pc = .ok (.ior, 1)) (hq : pc + 1 = q) (kk : KW e C w q lv (.int (x1 ||| y1) :: st) r x) : KW e C w pc lv (.int y1 :: .int x1 :: st) r x := by
  obtain ⟨p, en, R, s, m, args, below, meth, cd, Q⟩ := C
  obtain ⟨hx, hb, hml, hown, hts, hK, hbs, hRf, hRl, hRc, hRs, hJ, hlk⟩ := hC
  subst hq
  intro H locs ls hP hS hl
  exact lv_ior hx hb hd (kk H locs ls hP hS hl)
theorem k_ixor (hC : COk e C cc nL own d mc ms) {x1 y1 : Int32} (hd : decode cc pc = .ok (.ixor, 1)) (hq : pc + 1 = q) (kk : KW e C w q lv (.int (x1 ^^^ y1) :: st) r x) : KW e C w pc lv (.int y1 :: .int x1 :: st) r x := by
  obtain ⟨p, en, R, s, m, args, below, meth, cd, Q⟩ := C
  obtain ⟨hx, hb, hml, hown, hts, hK, hbs, hRf, hRl, hRc, hRs, hJ, hlk⟩ := hC
  subst hq
  intro H locs ls hP hS hl
  exact lv_ixor hx hb hd (kk H locs ls hP hS hl)
theorem k_ishl (hC : COk e C cc nL own d mc ms) {x1 y1 : Int32} (hd : decode cc pc = .ok (.ishl, 1)) (hq : pc + 1 = q) (kk : KW e C w q lv (.int (x1 <<< (y1 &&& 31)) :: st) r x) : KW e C w pc lv (.int y1 :: .int x1 :: st) r x := by
  obtain ⟨p, en, R, s, m, args, below, meth, cd, Q⟩ := C
  obtain ⟨hx, hb, hml, hown, hts, hK, hbs, hRf, hRl, hRc, hRs, hJ, hlk⟩ := hC
  subst hq
  intro H locs ls hP hS hl
  exact lv_ishl hx hb hd (kk H locs ls hP hS hl)
theorem k_ishr (hC : COk e C cc nL own d mc ms) {x1 y1 : Int32} (hd : decode cc pc = .ok (.ishr, 1)) (hq : pc + 1 = q) (kk : KW e C w q lv (.int (x1 >>> (y1 &&& 31)) :: st) r x) : KW e C w pc lv (.int y1 :: .int x1 :: st) r x := by
  obtain ⟨p, en, R, s, m, args, below, meth, cd, Q⟩ := C
  obtain ⟨hx, hb, hml, hown, hts, hK, hbs, hRf, hRl, hRc, hRs, hJ, hlk⟩ := hC
  subst hq
  intro H locs ls hP hS hl
  exact lv_ishr hx hb hd (kk H locs ls hP hS hl)
theorem k_iushr (hC : COk e C cc nL own d mc ms) {x1 y1 : Int32} (hd : decode cc pc = .ok (.iushr, 1)) (hq : pc + 1 = q) (kk : KW e C w q lv (.int (iush x1 y1) :: st) r x) : KW e C w pc lv (.int y1 :: .int x1 :: st) r x := by
  obtain ⟨p, en, R, s, m, args, below, meth, cd, Q⟩ := C
  obtain ⟨hx, hb, hml, hown, hts, hK, hbs, hRf, hRl, hRc, hRs, hJ, hlk⟩ := hC
  subst hq
  intro H locs ls hP hS hl
  exact lv_iushr hx hb hd rfl (kk H locs ls hP hS hl)
theorem k_idiv (hC : COk e C cc nL own d mc ms) {x1 y1 : Int32} (hd : decode cc pc = .ok (.idiv, 1)) (hne : ¬ y1 = 0) (hq : pc + 1 = q) (kk : KW e C w q lv (.int (x1 / y1) :: st) r x) : KW e C w pc lv (.int y1 :: .int x1 :: st) r x := by
  obtain ⟨p, en, R, s, m, args, below, meth, cd, Q⟩ := C
  obtain ⟨hx, hb, hml, hown, hts, hK, hbs, hRf, hRl, hRc, hRs, hJ, hlk⟩ := hC
  subst hq
  intro H locs ls hP hS hl
  exact lv_idiv hx hb hd hne (kk H locs ls hP hS hl)
theorem k_irem (hC : COk e C cc nL own d mc ms) {x1 y1 : Int32} (hd : decode cc pc = .ok (.irem, 1)) (hne : ¬ y1 = 0) (hq : pc + 1 = q) (kk : KW e C w q lv (.int (irm x1 y1) :: st) r x) : KW e C w pc lv (.int y1 :: .int x1 :: st) r x := by
  obtain ⟨p, en, R, s, m, args, below, meth, cd, Q⟩ := C
  obtain ⟨hx, hb, hml, hown, hts, hK, hbs, hRf, hRl, hRc, hRs, hJ, hlk⟩ := hC
  subst hq
  intro H locs ls hP hS hl
  exact lv_irem hx hb hd hne (kk H locs ls hP hS hl)
theorem k_ineg (hC : COk e C cc nL own d mc ms) {x1 : Int32} (hd : decode cc pc = .ok (.ineg, 1)) (hq : pc + 1 = q) (kk : KW e C w q lv (.int (-x1) :: st) r x) : KW e C w pc lv (.int x1 :: st) r x := by
  obtain ⟨p, en, R, s, m, args, below, meth, cd, Q⟩ := C
  obtain ⟨hx, hb, hml, hown, hts, hK, hbs, hRf, hRl, hRc, hRs, hJ, hlk⟩ := hC
  subst hq
  intro H locs ls hP hS hl
  exact lv_ineg hx hb hd (kk H locs ls hP hS hl)
theorem k_i2l (hC : COk e C cc nL own d mc ms) {x1 : Int32} (hd : decode cc pc = .ok (.i2l, 1)) (hq : pc + 1 = q) (kk : KW e C w q lv (.long x1.toInt64 :: st) r x) : KW e C w pc lv (.int x1 :: st) r x := by
  obtain ⟨p, en, R, s, m, args, below, meth, cd, Q⟩ := C
  obtain ⟨hx, hb, hml, hown, hts, hK, hbs, hRf, hRl, hRc, hRs, hJ, hlk⟩ := hC
  subst hq
  intro H locs ls hP hS hl
  exact lv_i2l hx hb hd rfl (kk H locs ls hP hS hl)
theorem k_l2i (hC : COk e C cc nL own d mc ms) {x1 : Int64} (hd : decode cc pc = .ok (.l2i, 1)) (hq : pc + 1 = q) (kk : KW e C w q lv (.int x1.toInt32 :: st) r x) : KW e C w pc lv (.long x1 :: st) r x := by
  obtain ⟨p, en, R, s, m, args, below, meth, cd, Q⟩ := C
  obtain ⟨hx, hb, hml, hown, hts, hK, hbs, hRf, hRl, hRc, hRs, hJ, hlk⟩ := hC
  subst hq
  intro H locs ls hP hS hl
  exact lv_l2i hx hb hd rfl (kk H locs ls hP hS hl)
theorem k_i2b (hC : COk e C cc nL own d mc ms) {x1 : Int32} (hd : decode cc pc = .ok (.i2b, 1)) (hq : pc + 1 = q) (kk : KW e C w q lv (.int x1.toInt8.toInt32 :: st) r x) : KW e C w pc lv (.int x1 :: st) r x := by
  obtain ⟨p, en, R, s, m, args, below, meth, cd, Q⟩ := C
  obtain ⟨hx, hb, hml, hown, hts, hK, hbs, hRf, hRl, hRc, hRs, hJ, hlk⟩ := hC
  subst hq
  intro H locs ls hP hS hl
  exact lv_i2b hx hb hd rfl (kk H locs ls hP hS hl)
theorem k_lshl (hC : COk e C cc nL own d mc ms) {x1 : Int64} {y1 : Int32} (hd : decode cc pc = .ok (.lshl, 1)) (hq : pc + 1 = q) (kk : KW e C w q lv (.long (x1 <<< (y1.toInt64 &&& 63)) :: st) r x) : KW e C w pc lv (.int y1 :: .long x1 :: st) r x := by
  obtain ⟨p, en, R, s, m, args, below, meth, cd, Q⟩ := C
  obtain ⟨hx, hb, hml, hown, hts, hK, hbs, hRf, hRl, hRc, hRs, hJ, hlk⟩ := hC
  subst hq
  intro H locs ls hP hS hl
  exact lv_lshl hx hb hd rfl (kk H locs ls hP hS hl)
theorem k_lushr (hC : COk e C cc nL own d mc ms) {x1 : Int64} {y1 : Int32} (hd : decode cc pc = .ok (.lushr, 1)) (hq : pc + 1 = q) (kk : KW e C w q lv (.long (lush x1 y1) :: st) r x) : KW e C w pc lv (.int y1 :: .long x1 :: st) r x := by
  obtain ⟨p, en, R, s, m, args, below, meth, cd, Q⟩ := C
  obtain ⟨hx, hb, hml, hown, hts, hK, hbs, hRf, hRl, hRc, hRs, hJ, hlk⟩ := hC
  subst hq
  intro H locs ls hP hS hl
  exact lv_lushr hx hb hd rfl (kk H locs ls hP hS hl)
theorem k_land (hC : COk e C cc nL own d mc ms) {x1 y1 : Int64} (hd : decode cc pc = .ok (.land, 1)) (hq : pc + 1 = q) (kk : KW e C w q lv (.long (x1 &&& y1) :: st) r x) : KW e C w pc lv (.long y1 :: .long x1 :: st) r x := by
  obtain ⟨p, en, R, s, m, args, below, meth, cd, Q⟩ := C
  obtain ⟨hx, hb, hml, hown, hts, hK, hbs, hRf, hRl, hRc, hRs, hJ, hlk⟩ := hC
  subst hq
  intro H locs ls hP hS hl
  exact lv_land hx hb hd (kk H locs ls hP hS hl)
theorem k_lor (hC : COk e C cc nL own d mc ms) {x1 y1 : Int64} (hd : decode cc pc = .ok (.lor, 1)) (hq : pc + 1 = q) (kk : KW e C w q lv (.long (x1 ||| y1) :: st) r x) : KW e C w pc lv (.long y1 :: .long x1 :: st) r x := by
  obtain ⟨p, en, R, s, m, args, below, meth, cd, Q⟩ := C
  obtain ⟨hx, hb, hml, hown, hts, hK, hbs, hRf, hRl, hRc, hRs, hJ, hlk⟩ := hC
  subst hq
  intro H locs ls hP hS hl
  exact lv_lor hx hb hd (kk H locs ls hP hS hl)
theorem k_lxor (hC : COk e C cc nL own d mc ms) {x1 y1 : Int64} (hd : decode cc pc = .ok (.lxor, 1)) (hq : pc + 1 = q) (kk : KW e C w q lv (.long (x1 ^^^ y1) :: st) r x) : KW e C w pc lv (.long y1 :: .long x1 :: st) r x := by
  obtain ⟨p, en, R, s, m, args, below, meth, cd, Q⟩ := C
  obtain ⟨hx, hb, hml, hown, hts, hK, hbs, hRf, hRl, hRc, hRs, hJ, hlk⟩ := hC
  subst hq
  intro H locs ls hP hS hl
  exact lv_lxor hx hb hd (kk H locs ls hP hS hl)
theorem k_lcmp (hC : COk e C cc nL own d mc ms) {x1 y1 : Int64} (hd : decode cc pc = .ok (.lcmp, 1)) (hq : pc + 1 = q) (kk : KW e C w q lv (.int (lg_cmp x1 y1) :: st) r x) : KW e C w pc lv (.long y1 :: .long x1 :: st) r x := by
  obtain ⟨p, en, R, s, m, args, below, meth, cd, Q⟩ := C
  obtain ⟨hx, hb, hml, hown, hts, hK, hbs, hRf, hRl, hRc, hRs, hJ, hlk⟩ := hC
  subst hq
  intro H locs ls hP hS hl
  exact W.lcmp hx hb hd (kk H locs ls hP hS hl)
theorem k_dup (hC : COk e C cc nL own d mc ms) {v : Value} (hd : decode cc pc = .ok (.dup, 1)) (hc : v.category = 1) (hq : pc + 1 = q) (kk : KW e C w q lv (v :: v :: st) r x) : KW e C w pc lv (v :: st) r x := by
  obtain ⟨p, en, R, s, m, args, below, meth, cd, Q⟩ := C
  obtain ⟨hx, hb, hml, hown, hts, hK, hbs, hRf, hRl, hRc, hRs, hJ, hlk⟩ := hC
  subst hq
  intro H locs ls hP hS hl
  exact lv_dup hx hb hd ((cv_cat e v).trans hc) (kk H locs ls hP hS hl)
theorem k_dup2 (hC : COk e C cc nL own d mc ms) {v u : Value} (hd : decode cc pc = .ok (.dup2, 1)) (hc : v.category = 1) (hc2 : u.category = 1) (hq : pc + 1 = q) (kk : KW e C w q lv (v :: u :: v :: u :: st) r x) : KW e C w pc lv (v :: u :: st) r x := by
  obtain ⟨p, en, R, s, m, args, below, meth, cd, Q⟩ := C
  obtain ⟨hx, hb, hml, hown, hts, hK, hbs, hRf, hRl, hRc, hRs, hJ, hlk⟩ := hC
  subst hq
  intro H locs ls hP hS hl
  exact lv_dup2_11 hx hb hd ((cv_cat e v).trans hc) ((cv_cat e u).trans hc2) (kk H locs ls hP hS hl)
theorem k_pop (hC : COk e C cc nL own d mc ms) {v : Value} (hd : decode cc pc = .ok (.pop, 1)) (hc : v.category = 1) (hq : pc + 1 = q) (kk : KW e C w q lv st r x) : KW e C w pc lv (v :: st) r x := by
  obtain ⟨p, en, R, s, m, args, below, meth, cd, Q⟩ := C
  obtain ⟨hx, hb, hml, hown, hts, hK, hbs, hRf, hRl, hRc, hRs, hJ, hlk⟩ := hC
  subst hq
  intro H locs ls hP hS hl
  exact lv_pop hx hb hd ((cv_cat e v).trans hc) (kk H locs ls hP hS hl)
theorem k_istore_n (hC : COk e C cc nL own d mc ms) {k : Fin 4} {y : Int32} (hd : decode cc pc = .ok (.istore_n k, 1)) (hi : (k : Nat) < nL) (hs : lset lv (k : Nat) (some (.int y)) = lv') (hq : pc + 1 = q) (kk : KW e C w q lv' st r x) : KW e C w pc lv (.int y :: st) r x := by
  obtain ⟨p, en, R, s, m, args, below, meth, cd, Q⟩ := C
  obtain ⟨hx, hb, hml, hown, hts, hK, hbs, hRf, hRl, hRc, hRs, hJ, hlk⟩ := hC
  subst hq
  subst hs
  intro H locs ls hP hS hl
  exact lv_istore_n (nL := cd.maxLocals) hx hb hd rfl hl.has (by rw [hml]; exact hi) rfl (fun ls' h' => kk H locs ls' hP hS (hl.set rfl h'))
theorem k_istore (hC : COk e C cc nL own d mc ms) {i : Nat} {y : Int32} (hd : decode cc pc = .ok (.istore i, 2)) (hi : i < nL) (hs : lset lv i (some (.int y)) = lv') (hq : pc + 2 = q) (kk : KW e C w q lv' st r x) : KW e C w pc lv (.int y :: st) r x := by
  obtain ⟨p, en, R, s, m, args, below, meth, cd, Q⟩ := C
  obtain ⟨hx, hb, hml, hown, hts, hK, hbs, hRf, hRl, hRc, hRs, hJ, hlk⟩ := hC
  subst hq
  subst hs
  intro H locs ls hP hS hl
  exact lv_istore (nL := cd.maxLocals) hx hb hd hl.has (by rw [hml]; exact hi) rfl (fun ls' h' => kk H locs ls' hP hS (hl.set rfl h'))
theorem k_astore_n (hC : COk e C cc nL own d mc ms) {k : Fin 4} {y : Nat} (hd : decode cc pc = .ok (.astore_n k, 1)) (hi : (k : Nat) < nL) (hs : lset lv (k : Nat) (some (.ref y)) = lv') (hq : pc + 1 = q) (kk : KW e C w q lv' st r x) : KW e C w pc lv (.ref y :: st) r x := by
  obtain ⟨p, en, R, s, m, args, below, meth, cd, Q⟩ := C
  obtain ⟨hx, hb, hml, hown, hts, hK, hbs, hRf, hRl, hRc, hRs, hJ, hlk⟩ := hC
  subst hq
  subst hs
  intro H locs ls hP hS hl
  exact lv_astore_n (nL := cd.maxLocals) hx hb hd rfl hl.has (by rw [hml]; exact hi) rfl (fun ls' h' => kk H locs ls' hP hS (hl.set rfl h'))
theorem k_astore (hC : COk e C cc nL own d mc ms) {i : Nat} {y : Nat} (hd : decode cc pc = .ok (.astore i, 2)) (hi : i < nL) (hs : lset lv i (some (.ref y)) = lv') (hq : pc + 2 = q) (kk : KW e C w q lv' st r x) : KW e C w pc lv (.ref y :: st) r x := by
  obtain ⟨p, en, R, s, m, args, below, meth, cd, Q⟩ := C
  obtain ⟨hx, hb, hml, hown, hts, hK, hbs, hRf, hRl, hRc, hRs, hJ, hlk⟩ := hC
  subst hq
  subst hs
  intro H locs ls hP hS hl
  exact lv_astore (nL := cd.maxLocals) hx hb hd hl.has (by rw [hml]; exact hi) rfl (fun ls' h' => kk H locs ls' hP hS (hl.set rfl h'))
theorem k_astore_nT (hC : COk e C cc nL own d mc ms) {k : Fin 4} {y : Nat} (hd : decode cc pc = .ok (.astore_n k, 1)) (hi : (k : Nat) < nL) (hs : lset lv (k : Nat) (some (.retAddr y)) = lv') (hq : pc + 1 = q) (kk : KW e C w q lv' st r x) : KW e C w pc lv (.retAddr y :: st) r x := by
  obtain ⟨p, en, R, s, m, args, below, meth, cd, Q⟩ := C
  obtain ⟨hx, hb, hml, hown, hts, hK, hbs, hRf, hRl, hRc, hRs, hJ, hlk⟩ := hC
  subst hq
  subst hs
  intro H locs ls hP hS hl
  exact lv_astore_n (nL := cd.maxLocals) hx hb hd rfl hl.has (by rw [hml]; exact hi) rfl (fun ls' h' => kk H locs ls' hP hS (hl.set rfl h'))
theorem k_astoreT (hC : COk e C cc nL own d mc ms) {i : Nat} {y : Nat} (hd : decode cc pc = .ok (.astore i, 2)) (hi : i < nL) (hs : lset lv i (some (.retAddr y)) = lv') (hq : pc + 2 = q) (kk : KW e C w q lv' st r x) : KW e C w pc lv (.retAddr y :: st) r x := by
  obtain ⟨p, en, R, s, m, args, below, meth, cd, Q⟩ := C
  obtain ⟨hx, hb, hml, hown, hts, hK, hbs, hRf, hRl, hRc, hRs, hJ, hlk⟩ := hC
  subst hq
  subst hs
  intro H locs ls hP hS hl
  exact lv_astore (nL := cd.maxLocals) hx hb hd hl.has (by rw [hml]; exact hi) rfl (fun ls' h' => kk H locs ls' hP hS (hl.set rfl h'))
theorem k_iinc (hC : COk e C cc nL own d mc ms) {i : Nat} {n : Int} {y v : Int32} (hd : decode cc pc = .ok (.iinc i n, 3)) (hi : i < nL) (hg : lget lv i = some (.int y)) (hn : Int32.ofInt n = v) (hs : lset lv i (some (.int (y + v))) = lv') (hq : pc + 3 = q) (kk : KW e C w q lv' st r x) : KW e C w pc lv st r x := by
  obtain ⟨p, en, R, s, m, args, below, meth, cd, Q⟩ := C
  obtain ⟨hx, hb, hml, hown, hts, hK, hbs, hRf, hRl, hRc, hRs, hJ, hlk⟩ := hC
  subst hq
  subst hs
  subst hn
  intro H locs ls hP hS hl
  obtain ⟨k, hk⟩ := List.getElem?_of_mem (lprs_mem (e := e) (q := (i, Value.int y)) |>.mpr ⟨_, hg, rfl⟩)
  exact lv_iinc (nL := cd.maxLocals) hx hb hd hl.has hk rfl (by rw [hml]; exact hi) rfl (fun ls' h' => kk H locs ls' hP hS (hl.set rfl h'))
theorem k_if_eq (hC : COk e C cc nL own d mc ms) {x1 : Int32} {off : Int} {tgt : Nat} (hd : decode cc pc = .ok (.ifCond .eq off, 3)) (ht : (pc : Int) + off = (tgt : Int)) (hq : pc + 3 = q) (kt : x1 = 0 → KW e C w tgt lv st r x) (kf : ¬ x1 = 0 → KW e C w q lv st r x) : KW e C w pc lv (.int x1 :: st) r x := by
  obtain ⟨p, en, R, s, m, args, below, meth, cd, Q⟩ := C
  obtain ⟨hx, hb, hml, hown, hts, hK, hbs, hRf, hRl, hRc, hRs, hJ, hlk⟩ := hC
  subst hq
  intro H locs ls hP hS hl
  exact lv_if_eq hx hb hd ht (fun h => kt h H locs ls hP hS hl) (fun h => kf h H locs ls hP hS hl)
theorem k_icmp_eq (hC : COk e C cc nL own d mc ms) {x1 y1 : Int32} {off : Int} {tgt : Nat} (hd : decode cc pc = .ok (.if_icmp .eq off, 3)) (ht : (pc : Int) + off = (tgt : Int)) (hq : pc + 3 = q) (kt : x1 = y1 → KW e C w tgt lv st r x) (kf : ¬ x1 = y1 → KW e C w q lv st r x) : KW e C w pc lv (.int y1 :: .int x1 :: st) r x := by
  obtain ⟨p, en, R, s, m, args, below, meth, cd, Q⟩ := C
  obtain ⟨hx, hb, hml, hown, hts, hK, hbs, hRf, hRl, hRc, hRs, hJ, hlk⟩ := hC
  subst hq
  intro H locs ls hP hS hl
  exact lv_icmp_eq hx hb hd ht (fun h => kt h H locs ls hP hS hl) (fun h => kf h H locs ls hP hS hl)
theorem k_if_ne (hC : COk e C cc nL own d mc ms) {x1 : Int32} {off : Int} {tgt : Nat} (hd : decode cc pc = .ok (.ifCond .ne off, 3)) (ht : (pc : Int) + off = (tgt : Int)) (hq : pc + 3 = q) (kt : ¬ x1 = 0 → KW e C w tgt lv st r x) (kf : x1 = 0 → KW e C w q lv st r x) : KW e C w pc lv (.int x1 :: st) r x := by
  obtain ⟨p, en, R, s, m, args, below, meth, cd, Q⟩ := C
  obtain ⟨hx, hb, hml, hown, hts, hK, hbs, hRf, hRl, hRc, hRs, hJ, hlk⟩ := hC
  subst hq
  intro H locs ls hP hS hl
  exact lv_if_ne hx hb hd ht (fun h => kt h H locs ls hP hS hl) (fun h => kf h H locs ls hP hS hl)
theorem k_icmp_ne (hC : COk e C cc nL own d mc ms) {x1 y1 : Int32} {off : Int} {tgt : Nat} (hd : decode cc pc = .ok (.if_icmp .ne off, 3)) (ht : (pc : Int) + off = (tgt : Int)) (hq : pc + 3 = q) (kt : ¬ x1 = y1 → KW e C w tgt lv st r x) (kf : x1 = y1 → KW e C w q lv st r x) : KW e C w pc lv (.int y1 :: .int x1 :: st) r x := by
  obtain ⟨p, en, R, s, m, args, below, meth, cd, Q⟩ := C
  obtain ⟨hx, hb, hml, hown, hts, hK, hbs, hRf, hRl, hRc, hRs, hJ, hlk⟩ := hC
  subst hq
  intro H locs ls hP hS hl
  exact lv_icmp_ne hx hb hd ht (fun h => kt h H locs ls hP hS hl) (fun h => kf h H locs ls hP hS hl)
theorem k_if_lt (hC : COk e C cc nL own d mc ms) {x1 : Int32} {off : Int} {tgt : Nat} (hd : decode cc pc = .ok (.ifCond .lt off, 3)) (ht : (pc : Int) + off = (tgt : Int)) (hq : pc + 3 = q) (kt : x1 < 0 → KW e C w tgt lv st r x) (kf : ¬ x1 < 0 → KW e C w q lv st r x) : KW e C w pc lv (.int x1 :: st) r x := by
  obtain ⟨p, en, R, s, m, args, below, meth, cd, Q⟩ := C
  obtain ⟨hx, hb, hml, hown, hts, hK, hbs, hRf, hRl, hRc, hRs, hJ, hlk⟩ := hC
  subst hq
  intro H locs ls hP hS hl
  exact lv_if_lt hx hb hd ht (fun h => kt h H locs ls hP hS hl) (fun h => kf h H locs ls hP hS hl)
theorem k_icmp_lt (hC : COk e C cc nL own d mc ms) {x1 y1 : Int32} {off : Int} {tgt : Nat} (hd : decode cc pc = .ok (.if_icmp .lt off, 3)) (ht : (pc : Int) + off = (tgt : Int)) (hq : pc + 3 = q) (kt : x1 < y1 → KW e C w tgt lv st r x) (kf : ¬ x1 < y1 → KW e C w q lv st r x) : KW e C w pc lv (.int y1 :: .int x1 :: st) r x := by
  obtain ⟨p, en, R, s, m, args, below, meth, cd, Q⟩ := C
  obtain ⟨hx, hb, hml, hown, hts, hK, hbs, hRf, hRl, hRc, hRs, hJ, hlk⟩ := hC
  subst hq
  intro H locs ls hP hS hl
  exact lv_icmp_lt hx hb hd ht (fun h => kt h H locs ls hP hS hl) (fun h => kf h H locs ls hP hS hl)
theorem k_if_ge (hC : COk e C cc nL own d mc ms) {x1 : Int32} {off : Int} {tgt : Nat} (hd : decode cc pc = .ok (.ifCond .ge off, 3)) (ht : (pc : Int) + off = (tgt : Int)) (hq : pc + 3 = q) (kt : 0 ≤ x1 → KW e C w tgt lv st r x) (kf : ¬ 0 ≤ x1 → KW e C w q lv st r x) : KW e C w pc lv (.int x1 :: st) r x := by
  obtain ⟨p, en, R, s, m, args, below, meth, cd, Q⟩ := C
  obtain ⟨hx, hb, hml, hown, hts, hK, hbs, hRf, hRl, hRc, hRs, hJ, hlk⟩ := hC
  subst hq
  intro H locs ls hP hS hl
  exact lv_if_ge hx hb hd ht (fun h => kt h H locs ls hP hS hl) (fun h => kf h H locs ls hP hS hl)
theorem k_icmp_ge (hC : COk e C cc nL own d mc ms) {x1 y1 : Int32} {off : Int} {tgt : Nat} (hd : decode cc pc = .ok (.if_icmp .ge off, 3)) (ht : (pc : Int) + off = (tgt : Int)) (hq : pc + 3 = q) (kt : y1 ≤ x1 → KW e C w tgt lv st r x) (kf : ¬ y1 ≤ x1 → KW e C w q lv st r x) : KW e C w pc lv (.int y1 :: .int x1 :: st) r x := by
  obtain ⟨p, en, R, s, m, args, below, meth, cd, Q⟩ := C
  obtain ⟨hx, hb, hml, hown, hts, hK, hbs, hRf, hRl, hRc, hRs, hJ, hlk⟩ := hC
  subst hq
  intro H locs ls hP hS hl
  exact lv_icmp_ge hx hb hd ht (fun h => kt h H locs ls hP hS hl) (fun h => kf h H locs ls hP hS hl)
theorem k_if_gt (hC : COk e C cc nL own d mc ms) {x1 : Int32} {off : Int} {tgt : Nat} (hd : decode cc pc = .ok (.ifCond .gt off, 3)) (ht : (pc : Int) + off = (tgt : Int)) (hq : pc + 3 = q) (kt : 0 < x1 → KW e C w tgt lv st r x) (kf : ¬ 0 < x1 → KW e C w q lv st r x) : KW e C w pc lv (.int x1 :: st) r x := by
  obtain ⟨p, en, R, s, m, args, below, meth, cd, Q⟩ := C
  obtain ⟨hx, hb, hml, hown, hts, hK, hbs, hRf, hRl, hRc, hRs, hJ, hlk⟩ := hC
  subst hq
  intro H locs ls hP hS hl
  exact lv_if_gt hx hb hd ht (fun h => kt h H locs ls hP hS hl) (fun h => kf h H locs ls hP hS hl)
theorem k_icmp_gt (hC : COk e C cc nL own d mc ms) {x1 y1 : Int32} {off : Int} {tgt : Nat} (hd : decode cc pc = .ok (.if_icmp .gt off, 3)) (ht : (pc : Int) + off = (tgt : Int)) (hq : pc + 3 = q) (kt : y1 < x1 → KW e C w tgt lv st r x) (kf : ¬ y1 < x1 → KW e C w q lv st r x) : KW e C w pc lv (.int y1 :: .int x1 :: st) r x := by
  obtain ⟨p, en, R, s, m, args, below, meth, cd, Q⟩ := C
  obtain ⟨hx, hb, hml, hown, hts, hK, hbs, hRf, hRl, hRc, hRs, hJ, hlk⟩ := hC
  subst hq
  intro H locs ls hP hS hl
  exact lv_icmp_gt hx hb hd ht (fun h => kt h H locs ls hP hS hl) (fun h => kf h H locs ls hP hS hl)
theorem k_if_le (hC : COk e C cc nL own d mc ms) {x1 : Int32} {off : Int} {tgt : Nat} (hd : decode cc pc = .ok (.ifCond .le off, 3)) (ht : (pc : Int) + off = (tgt : Int)) (hq : pc + 3 = q) (kt : x1 ≤ 0 → KW e C w tgt lv st r x) (kf : ¬ x1 ≤ 0 → KW e C w q lv st r x) : KW e C w pc lv (.int x1 :: st) r x := by
  obtain ⟨p, en, R, s, m, args, below, meth, cd, Q⟩ := C
  obtain ⟨hx, hb, hml, hown, hts, hK, hbs, hRf, hRl, hRc, hRs, hJ, hlk⟩ := hC
  subst hq
  intro H locs ls hP hS hl
  exact lv_if_le hx hb hd ht (fun h => kt h H locs ls hP hS hl) (fun h => kf h H locs ls hP hS hl)
theorem k_icmp_le (hC : COk e C cc nL own d mc ms) {x1 y1 : Int32} {off : Int} {tgt : Nat} (hd : decode cc pc = .ok (.if_icmp .le off, 3)) (ht : (pc : Int) + off = (tgt : Int)) (hq : pc + 3 = q) (kt : x1 ≤ y1 → KW e C w tgt lv st r x) (kf : ¬ x1 ≤ y1 → KW e C w q lv st r x) : KW e C w pc lv (.int y1 :: .int x1 :: st) r x := by
  obtain ⟨p, en, R, s, m, args, below, meth, cd, Q⟩ := C
  obtain ⟨hx, hb, hml, hown, hts, hK, hbs, hRf, hRl, hRc, hRs, hJ, hlk⟩ := hC
  subst hq
  intro H locs ls hP hS hl
  exact lv_icmp_le hx hb hd ht (fun h => kt h H locs ls hP hS hl) (fun h => kf h H locs ls hP hS hl)
theorem k_goto (hC : COk e C cc nL own d mc ms) {off : Int} {tgt : Nat} (hd : decode cc pc = .ok (.goto off, 3)) (ht : (pc : Int) + off = (tgt : Int)) (kk : KW e C w tgt lv st r x) : KW e C w pc lv st r x := by
  obtain ⟨p, en, R, s, m, args, below, meth, cd, Q⟩ := C
  obtain ⟨hx, hb, hml, hown, hts, hK, hbs, hRf, hRl, hRc, hRs, hJ, hlk⟩ := hC
  intro H locs ls hP hS hl
  exact lv_goto hx hb hd ht (kk H locs ls hP hS hl)
theorem k_ifnull (hC : COk e C cc nL own d mc ms) {y : Nat} {off : Int} (hd : decode cc pc = .ok (.ifnull off, 3)) (hq : pc + 3 = q) (kk : KW e C w q lv st r x) : KW e C w pc lv (.ref y :: st) r x := by
  obtain ⟨p, en, R, s, m, args, below, meth, cd, Q⟩ := C
  obtain ⟨hx, hb, hml, hown, hts, hK, hbs, hRf, hRl, hRc, hRs, hJ, hlk⟩ := hC
  subst hq
  intro H locs ls hP hS hl
  exact lv_ifnull hx hb hd (kk H locs ls hP hS hl)
theorem k_tin (hC : COk e C cc nL own d mc ms) {y k : Int32} {dflt lo hi off : Int} {offs : Array Int} {len tgt : Nat} (hd : decode cc pc = .ok (.tableswitch dflt lo hi offs, len)) (hy : y = k) (h1 : ¬ k.toInt < lo) (h2 : ¬ hi < k.toInt) (ho : offs[(k.toInt - lo).toNat]? = some off) (ht : (pc : Int) + off = (tgt : Int)) (kk : KW e C w tgt lv st r x) : KW e C w pc lv (.int y :: st) r x := by
  obtain ⟨p, en, R, s, m, args, below, meth, cd, Q⟩ := C
  obtain ⟨hx, hb, hml, hown, hts, hK, hbs, hRf, hRl, hRc, hRs, hJ, hlk⟩ := hC
  subst hy
  intro H locs ls hP hS hl
  exact lv_tableIn hx hb hd h1 h2 ho ht (kk H locs ls hP hS hl)
theorem k_tout (hC : COk e C cc nL own d mc ms) {y : Int32} {dflt lo hi : Int} {offs : Array Int} {len tgt : Nat} (hd : decode cc pc = .ok (.tableswitch dflt lo hi offs, len)) (h : y.toInt < lo ∨ hi < y.toInt) (ht : (pc : Int) + dflt = (tgt : Int)) (kk : KW e C w tgt lv st r x) : KW e C w pc lv (.int y :: st) r x := by
  obtain ⟨p, en, R, s, m, args, below, meth, cd, Q⟩ := C
  obtain ⟨hx, hb, hml, hown, hts, hK, hbs, hRf, hRl, hRc, hRs, hJ, hlk⟩ := hC
  intro H locs ls hP hS hl
  exact lv_tableOut hx hb hd h ht (kk H locs ls hP hS hl)
theorem k_iret (hC : COk e C cc nL own d mc ms) {ret : Option FieldType} {n' : Nat} {y : Int32} (hQ : QOk e C ret mc ms (some (.int y)) n' r x) (hret : ret = some .int) (hd : decode cc pc = .ok (.ireturn, 1)) : KW e C (n', mc, ms) pc lv [.int y] r x := by
  obtain ⟨p, en, R, s, m, args, below, meth, cd, Q⟩ := C
  obtain ⟨hx, hb, hml, hown, hts, hK, hbs, hRf, hRl, hRc, hRs, hJ, hlk⟩ := hC
  obtain ⟨hr, hQ⟩ := hQ
  subst hQ
  intro H locs ls hP hS hl
  subst hret
  exact W.iret hx hb hr (fun t ht hW => ⟨rfl, by rw [ht]; exact hP, hS.F ht⟩) hS.2.2 hd hlk
theorem k_zret (hC : COk e C cc nL own d mc ms) {ret : Option FieldType} {n' : Nat} {y : Int32} {ty : FieldType} (hQ : QOk e C ret mc ms (some (.int y)) n' r x) (hret : ret = some ty) (hn : narrow ty (.int y) = .int y) (hd : decode cc pc = .ok (.ireturn, 1)) : KW e C (n', mc, ms) pc lv [.int y] r x := by
  obtain ⟨p, en, R, s, m, args, below, meth, cd, Q⟩ := C
  obtain ⟨hx, hb, hml, hown, hts, hK, hbs, hRf, hRl, hRc, hRs, hJ, hlk⟩ := hC
  obtain ⟨hr, hQ⟩ := hQ
  subst hQ
  intro H locs ls hP hS hl
  subst hret
  exact W.zret hx hb hr hn (fun t ht hW => ⟨rfl, by rw [ht]; exact hP, hS.F ht⟩) hS.2.2 hd hlk
theorem k_vret (hC : COk e C cc nL own d mc ms) {ret : Option FieldType} {n' : Nat} (hQ : QOk e C ret mc ms none n' r x) (hret : ret = none) (hd : decode cc pc = .ok (.return_, 1)) : KW e C (n', mc, ms) pc lv [] r x := by
  obtain ⟨p, en, R, s, m, args, below, meth, cd, Q⟩ := C
  obtain ⟨hx, hb, hml, hown, hts, hK, hbs, hRf, hRl, hRc, hRs, hJ, hlk⟩ := hC
  obtain ⟨hr, hQ⟩ := hQ
  subst hQ
  intro H locs ls hP hS hl
  subst hret
  exact W.vret hx hb hr (fun t ht hW => ⟨rfl, by rw [ht]; exact hP, hS.F ht⟩) hS.2.2 hd hlk
theorem k_aret (hC : COk e C cc nL own d mc ms) {ret : Option FieldType} {n' : Nat} {y : Nat} {cn : String} (hQ : QOk e C ret mc ms (some (.ref y)) n' r x) (hret : ret = some (.object cn)) (hd : decode cc pc = .ok (.areturn, 1)) : KW e C (n', mc, ms) pc lv [.ref y] r x := by
  obtain ⟨p, en, R, s, m, args, below, meth, cd, Q⟩ := C
  obtain ⟨hx, hb, hml, hown, hts, hK, hbs, hRf, hRl, hRc, hRs, hJ, hlk⟩ := hC
  obtain ⟨hr, hQ⟩ := hQ
  subst hQ
  intro H locs ls hP hS hl
  subst hret
  exact W.aret (v := .ref (eB e + y)) hx hb hr (Or.inl ⟨_, rfl⟩) (Or.inr ⟨_, rfl⟩) (fun t ht hW => ⟨rfl, by rw [ht]; exact hP, hS.F ht⟩) hS.2.2 hd hlk
def clK (ci : Nat) : vw_C := vwCl.getD ci (RX0, TX0, 2)
/-- an entry of own's pool is the field j of the class number ci; h: the nest's host, if it is another class's private one -/
def FLk (own : String) (idx ci j : Nat) (h : Option String) : Prop := vwCl[ci]? = some (clK ci) ∧ clN ci = (clK ci).2.2 ∧ j < (clK ci).2.2 ∧ (∀ k, k < (clK ci).2.2 → parseFieldDescriptor ((clK ci).2.1 k).2.2.1 = some (clT ci k)) ∧ (∀ a, a < (clK ci).2.2 → ∀ b, b < (clK ci).2.2 → a ≠ b → ((clK ci).2.1 a).2.1 ≠ ((clK ci).2.1 b).2.1) ∧ (∀ u ∈ u_ws (clK ci).1 (clK ci).2.1 (clK ci).2.2, u ∈ gW0) ∧
  (match h with
    | none => Cond.fieldLink own idx ((clK ci).2.1 j).1 ((clK ci).2.1 j).2.1 ((clK ci).2.1 j).2.2.1 ∈ gW0
    | some host => Cond.fieldLinkNest own idx ((clK ci).2.1 j).1 ((clK ci).2.1 j).2.1 ((clK ci).2.1 j).2.2.1 host ∈ gWN)
theorem k_get (hC : COk e C cc nL own d mc ms) {idx ci j c sd : Nat} {h : Option String} {v : Value} (hF : FLk own idx ci j h) (hd : decode cc pc = .ok (.getfield idx, 3)) (hk : kdn w.1 c = some (sd, .inl ci)) (hv : fvl e (clT ci j) (r c j) (xi x sd c j) (xl x sd c j) = cv e v) (hq : pc + 3 = q) (kk : KW e C w q lv (v :: st) r x) : KW e C w pc lv (.ref c :: st) r x := by
  obtain ⟨p, en, R, s, m, args, below, meth, cd, Q⟩ := C
  obtain ⟨hx, hb, hml, hown, hts, hK, hbs, hRf, hRl, hRc, hRs, hJ, hlk⟩ := hC
  obtain ⟨h1, h2, h3, h4, h5, h6, h8⟩ := hF
  subst hq
  intro H locs ls hP hS hl
  have hv2 := flds_get (e := e) (r := r) (x := x) (sd := sd) (ci := ci) (c := c) (j := j) (by rw [h2]; exact h3)
  rw [hv] at hv2
  cases h with
  | none => exact va_get hx hb hts h6 hown hK hP c (wsO_at hk) h1 j h3 (hts _ h8) (fun _ z => z) hv2 hd (kk H locs ls hP hS hl)
  | some host => exact va_getN hx hb hts h6 hown hK hP c (wsO_at hk) h1 j h3 (va_Nw.use rfl (hJ.2.2.2.2.2.2.1 _ h8)) (fun _ z => z) hv2 hd (kk H locs ls hP hS hl)
theorem k_getR (hC : COk e C cc nL own d mc ms) {idx ci j c sd t : Nat} {h : Option String} (hF : FLk own idx ci j h) (hd : decode cc pc = .ok (.getfield idx, 3)) (hk : kdn w.1 c = some (sd, .inl ci)) (hty : ∀ a i l, fvl e (clT ci j) a i l = va_rf (a.map (fun c => eB e + c))) (hr : r c j = some t) (hq : pc + 3 = q) (kk : KW e C w q lv (.ref t :: st) r x) : KW e C w pc lv (.ref c :: st) r x :=
  k_get hC hF hd hk (by rw [hty, hr]; rfl) hq kk
theorem k_putI' (hC : COk e C cc nL own d mc ms) {idx ci j c sd : Nat} {h : Option String} {y : Int32} (hF : FLk own idx ci j h) (h7 : ((clK ci).2.1 j).2.2.2 = false) (hd : decode cc pc = .ok (.putfield idx, 3)) (hk : kdn w.1 c = some (sd, .inl ci)) (hsd : sd < 2) (hty : ∀ a i l, fvl e (clT ci j) a i l = .int i) (hn : narrow (clT ci j) (.int y) = .int y) (hf : fits (clT ci j) (.int y) = true) (hq : pc + 3 = q) (kk : KW e C w q lv st r (xsi x sd c j y)) : KW e C w pc lv (.int y :: .ref c :: st) r x := by
  obtain ⟨p, en, R, s, m, args, below, meth, cd, Q⟩ := C
  obtain ⟨hx, hb, hml, hown, hts, hK, hbs, hRf, hRl, hRc, hRs, hJ, hlk⟩ := hC
  obtain ⟨h1, h2, h3, h4, h5, h6, h8⟩ := hF
  subst hq
  intro H locs ls hP hS hl
  have hset := flds_set (e := e) (r := r) (r' := r) (x := x) (x' := xsi x sd c j y) (sd := sd) (ci := ci) (c := c) (j := j) (v := .int y) (by rw [h2]; exact h3) (by rw [hty, xi_xsi hsd]; simp [up2]) (fun j' hj' => by rw [xi_xsi hsd, xl_xsi]; simp [up2, hj'])
  have hws := wsO_set (e := e) (n := w.1) (r := r) (r' := r) (x := x) (x' := xsi x sd c j y) hk (fun c' hc' => cellE_xsi hc')
  have key : (wsO e w.1 r x).set c (eB e + c, .inr (ci, (flds e r x sd ci c).set j (.int y))) = wsO e w.1 (r) (xsi x sd c j y) := by
    rw [hset]
    exact hws
  cases h with
  | none => exact va_put hx hb hts h6 (clT ci) h4 h5 hown hK hP wsO_D hS c (wsO_at hk) h1 j h3 (hts _ h8) (fun _ z => z) h7 (h4 j h3) hn hf (by rw [flds_len, h2]; exact h3) hd (fun H1 locs1 hP1 hD1 hS1 => kk H1 locs1 ls (by rw [← key]; exact hP1) hS1 hl)
  | some host => exact va_putN hx hb hts h6 (clT ci) h4 h5 hown hK hP wsO_D hS c (wsO_at hk) h1 j h3 (va_Nw.use rfl (hJ.2.2.2.2.2.2.1 _ h8)) (fun _ z => z) h7 (h4 j h3) hn hf (by rw [flds_len, h2]; exact h3) hd (fun H1 locs1 hP1 hD1 hS1 => kk H1 locs1 ls (by rw [← key]; exact hP1) hS1 hl)
theorem k_putL' (hC : COk e C cc nL own d mc ms) {idx ci j c sd : Nat} {h : Option String} {y : Int64} (hF : FLk own idx ci j h) (h7 : ((clK ci).2.1 j).2.2.2 = false) (hd : decode cc pc = .ok (.putfield idx, 3)) (hk : kdn w.1 c = some (sd, .inl ci)) (hsd : sd = 0) (hty : clT ci j = .long) (hq : pc + 3 = q) (kk : KW e C w q lv st r (xsl x sd c j y)) : KW e C w pc lv (.long y :: .ref c :: st) r x := by
  obtain ⟨p, en, R, s, m, args, below, meth, cd, Q⟩ := C
  obtain ⟨hx, hb, hml, hown, hts, hK, hbs, hRf, hRl, hRc, hRs, hJ, hlk⟩ := hC
  subst hsd
  generalize hsd : 0 = sd at *
  obtain ⟨h1, h2, h3, h4, h5, h6, h8⟩ := hF
  subst hq
  intro H locs ls hP hS hl
  have hset := flds_set (e := e) (r := r) (r' := r) (x := x) (x' := xsl x sd c j y) (sd := sd) (ci := ci) (c := c) (j := j) (v := .long y) (by rw [h2]; exact h3) (by rw [hty]; subst hsd; simp [fvl, xl, xsl, up2]) (fun j' hj' => by rw [xi_xsl]; subst hsd; simp [xl, xsl, up2, hj'])
  have hws := wsO_set (e := e) (n := w.1) (r := r) (r' := r) (x := x) (x' := xsl x sd c j y) hk (fun c' hc' => cellE_xsl hc')
  have key : (wsO e w.1 r x).set c (eB e + c, .inr (ci, (flds e r x sd ci c).set j (.long y))) = wsO e w.1 (r) (xsl x sd c j y) := by
    rw [hset]
    exact hws
  cases h with
  | none => exact va_put hx hb hts h6 (clT ci) h4 h5 hown hK hP wsO_D hS c (wsO_at hk) h1 j h3 (hts _ h8) (fun _ z => z) h7 (h4 j h3) (by rw [hty]; rfl) (by rw [hty]; rfl) (by rw [flds_len, h2]; exact h3) hd (fun H1 locs1 hP1 hD1 hS1 => kk H1 locs1 ls (by rw [← key]; exact hP1) hS1 hl)
  | some host => exact va_putN hx hb hts h6 (clT ci) h4 h5 hown hK hP wsO_D hS c (wsO_at hk) h1 j h3 (va_Nw.use rfl (hJ.2.2.2.2.2.2.1 _ h8)) (fun _ z => z) h7 (h4 j h3) (by rw [hty]; rfl) (by rw [hty]; rfl) (by rw [flds_len, h2]; exact h3) hd (fun H1 locs1 hP1 hD1 hS1 => kk H1 locs1 ls (by rw [← key]; exact hP1) hS1 hl)
theorem k_putR (hC : COk e C cc nL own d mc ms) {idx ci j c sd t : Nat} {h : Option String} {cn : String} (hF : FLk own idx ci j h) (h7 : ((clK ci).2.1 j).2.2.2 = false) (hd : decode cc pc = .ok (.putfield idx, 3)) (hk : kdn w.1 c = some (sd, .inl ci)) (hty : clT ci j = .object cn) (hr : up2 r c j (some t) = r') (hq : pc + 3 = q) (kk : KW e C w q lv st r' x) : KW e C w pc lv (.ref t :: .ref c :: st) r x := by
  obtain ⟨p, en, R, s, m, args, below, meth, cd, Q⟩ := C
  obtain ⟨hx, hb, hml, hown, hts, hK, hbs, hRf, hRl, hRc, hRs, hJ, hlk⟩ := hC
  subst hr
  obtain ⟨h1, h2, h3, h4, h5, h6, h8⟩ := hF
  subst hq
  intro H locs ls hP hS hl
  have hset := flds_set (e := e) (r := r) (r' := up2 r c j (some t)) (x := x) (x' := x) (sd := sd) (ci := ci) (c := c) (j := j) (v := .ref (eB e + t)) (by rw [h2]; exact h3) (by rw [hty]; simp [fvl, up2, va_rf]) (fun j' hj' => by simp [up2, hj'])
  have hws := wsO_set (e := e) (n := w.1) (r := r) (r' := up2 r c j (some t)) (x := x) (x' := x) hk (fun c' hc' => cellE_ref hc')
  have key : (wsO e w.1 r x).set c (eB e + c, .inr (ci, (flds e r x sd ci c).set j (.ref (eB e + t)))) = wsO e w.1 (up2 r c j (some t)) (x) := by
    rw [hset]
    exact hws
  cases h with
  | none => exact va_put hx hb hts h6 (clT ci) h4 h5 hown hK hP wsO_D hS c (wsO_at hk) h1 j h3 (hts _ h8) (fun _ z => z) h7 (h4 j h3) (by rw [hty]; rfl) (by rw [hty]; rfl) (by rw [flds_len, h2]; exact h3) hd (fun H1 locs1 hP1 hD1 hS1 => kk H1 locs1 ls (by rw [← key]; exact hP1) hS1 hl)
  | some host => exact va_putN hx hb hts h6 (clT ci) h4 h5 hown hK hP wsO_D hS c (wsO_at hk) h1 j h3 (va_Nw.use rfl (hJ.2.2.2.2.2.2.1 _ h8)) (fun _ z => z) h7 (h4 j h3) (by rw [hty]; rfl) (by rw [hty]; rfl) (by rw [flds_len, h2]; exact h3) hd (fun H1 locs1 hP1 hD1 hS1 => kk H1 locs1 ls (by rw [← key]; exact hP1) hS1 hl)
theorem k_iald (hC : COk e C cc nL own d mc ms) {c sd L : Nat} {i y : Int32} (hd : decode cc pc = .ok (.iaload, 1)) (hk : kdn w.1 c = some (sd, .inr (0, L))) (hin : vp_in i L) (hy : xi x sd c i.toNatClampNeg = y) (hq : pc + 1 = q) (kk : KW e C w q lv (.int y :: st) r x) : KW e C w pc lv (.int i :: .ref c :: st) r x := by
  obtain ⟨p, en, R, s, m, args, below, meth, cd, Q⟩ := C
  obtain ⟨hx, hb, hml, hown, hts, hK, hbs, hRf, hRl, hRc, hRs, hJ, hlk⟩ := hC
  subst hq
  subst hy
  intro H locs ls hP hS hl
  exact va_iald hx hb hK hP c 0 (wsO_at hk) rfl hin hd (kk H locs ls hP hS hl)
theorem k_bald (hC : COk e C cc nL own d mc ms) {c sd L : Nat} {i y : Int32} (hd : decode cc pc = .ok (.baload, 1)) (hk : kdn w.1 c = some (sd, .inr (1, L))) (hin : vp_in i L) (hy : xi x sd c i.toNatClampNeg = y) (hq : pc + 1 = q) (kk : KW e C w q lv (.int y :: st) r x) : KW e C w pc lv (.int i :: .ref c :: st) r x := by
  obtain ⟨p, en, R, s, m, args, below, meth, cd, Q⟩ := C
  obtain ⟨hx, hb, hml, hown, hts, hK, hbs, hRf, hRl, hRc, hRs, hJ, hlk⟩ := hC
  subst hq
  subst hy
  intro H locs ls hP hS hl
  exact va_bald hx hb hK hP c 1 (wsO_at hk) rfl hin hd (kk H locs ls hP hS hl)
theorem k_zald (hC : COk e C cc nL own d mc ms) {c sd L : Nat} {i y : Int32} (hd : decode cc pc = .ok (.baload, 1)) (hk : kdn w.1 c = some (sd, .inr (2, L))) (hin : vp_in i L) (hy : xi x sd c i.toNatClampNeg = y) (hq : pc + 1 = q) (kk : KW e C w q lv (.int y :: st) r x) : KW e C w pc lv (.int i :: .ref c :: st) r x := by
  obtain ⟨p, en, R, s, m, args, below, meth, cd, Q⟩ := C
  obtain ⟨hx, hb, hml, hown, hts, hK, hbs, hRf, hRl, hRc, hRs, hJ, hlk⟩ := hC
  subst hq
  subst hy
  intro H locs ls hP hS hl
  exact va_zald hx hb hK hP c 2 (wsO_at hk) rfl hin hd (kk H locs ls hP hS hl)
theorem k_iast' (hC : COk e C cc nL own d mc ms) {c sd L : Nat} {i y : Int32} (hd : decode cc pc = .ok (.iastore, 1)) (hk : kdn w.1 c = some (sd, .inr (0, L))) (hsd : sd < 2) (hin : vp_in i L) (hq : pc + 1 = q) (kk : KW e C w q lv st r (xsi x sd c i.toNatClampNeg y)) : KW e C w pc lv (.int y :: .int i :: .ref c :: st) r x := by
  obtain ⟨p, en, R, s, m, args, below, meth, cd, Q⟩ := C
  obtain ⟨hx, hb, hml, hown, hts, hK, hbs, hRf, hRl, hRc, hRs, hJ, hlk⟩ := hC
  subst hq
  intro H locs ls hP hS hl
  have hws := wsO_set (e := e) (n := w.1) (r := r) (r' := r) (x := x) (x' := xsi x sd c i.toNatClampNeg y) hk (fun c' hc' => cellE_xsi hc')
  have hrow : xi (xsi x sd c i.toNatClampNeg y) sd c = upd (xi x sd c) i.toNatClampNeg y := by rw [xi_xsi hsd, up2_row]
  exact va_iast hx hb hK hP wsO_D hS c 0 (wsO_at hk) rfl hin hd (fun H1 locs1 hP1 hD1 hS1 => kk H1 locs1 ls (by rw [← hws]; simp only [cellK, ctn, hrow]; exact hP1) hS1 hl)
theorem k_bast' (hC : COk e C cc nL own d mc ms) {c sd L : Nat} {i y : Int32} (hd : decode cc pc = .ok (.bastore, 1)) (hk : kdn w.1 c = some (sd, .inr (1, L))) (hsd : sd < 2) (hin : vp_in i L) (hq : pc + 1 = q) (kk : KW e C w q lv st r (xsi x sd c i.toNatClampNeg (vp_nar .byte y))) : KW e C w pc lv (.int y :: .int i :: .ref c :: st) r x := by
  obtain ⟨p, en, R, s, m, args, below, meth, cd, Q⟩ := C
  obtain ⟨hx, hb, hml, hown, hts, hK, hbs, hRf, hRl, hRc, hRs, hJ, hlk⟩ := hC
  subst hq
  intro H locs ls hP hS hl
  have hws := wsO_set (e := e) (n := w.1) (r := r) (r' := r) (x := x) (x' := xsi x sd c i.toNatClampNeg (vp_nar .byte y)) hk (fun c' hc' => cellE_xsi hc')
  have hrow : xi (xsi x sd c i.toNatClampNeg (vp_nar .byte y)) sd c = upd (xi x sd c) i.toNatClampNeg (vp_nar .byte y) := by rw [xi_xsi hsd, up2_row]
  exact va_bast hx hb hK hP wsO_D hS c 1 (wsO_at hk) rfl hin hd (fun H1 locs1 hP1 hD1 hS1 => kk H1 locs1 ls (by rw [← hws]; simp only [cellK, ctn, hrow]; exact hP1) hS1 hl)
theorem k_zast' (hC : COk e C cc nL own d mc ms) {c sd L : Nat} {i y : Int32} (hd : decode cc pc = .ok (.bastore, 1)) (hk : kdn w.1 c = some (sd, .inr (2, L))) (hsd : sd < 2) (hin : vp_in i L) (hq : pc + 1 = q) (kk : KW e C w q lv st r (xsi x sd c i.toNatClampNeg (vp_nar .boolean y))) : KW e C w pc lv (.int y :: .int i :: .ref c :: st) r x := by
  obtain ⟨p, en, R, s, m, args, below, meth, cd, Q⟩ := C
  obtain ⟨hx, hb, hml, hown, hts, hK, hbs, hRf, hRl, hRc, hRs, hJ, hlk⟩ := hC
  subst hq
  intro H locs ls hP hS hl
  have hws := wsO_set (e := e) (n := w.1) (r := r) (r' := r) (x := x) (x' := xsi x sd c i.toNatClampNeg (vp_nar .boolean y)) hk (fun c' hc' => cellE_xsi hc')
  have hrow : xi (xsi x sd c i.toNatClampNeg (vp_nar .boolean y)) sd c = upd (xi x sd c) i.toNatClampNeg (vp_nar .boolean y) := by rw [xi_xsi hsd, up2_row]
  exact va_zast hx hb hK hP wsO_D hS c 2 (wsO_at hk) rfl hin hd (fun H1 locs1 hP1 hD1 hS1 => kk H1 locs1 ls (by rw [← hws]; simp only [cellK, ctn, hrow]; exact hP1) hS1 hl)
theorem k_lald (hC : COk e C cc nL own d mc ms) {c sd L : Nat} {i : Int32} {y : Int64} (hd : decode cc pc = .ok (.laload, 1)) (hk : kdn w.1 c = some (sd, .inr (3, L))) (hin : vp_in i L) (hy : xl x sd c i.toNatClampNeg = y) (hq : pc + 1 = q) (kk : KW e C w q lv (.long y :: st) r x) : KW e C w pc lv (.int i :: .ref c :: st) r x := by
  obtain ⟨p, en, R, s, m, args, below, meth, cd, Q⟩ := C
  obtain ⟨hx, hb, hml, hown, hts, hK, hbs, hRf, hRl, hRc, hRs, hJ, hlk⟩ := hC
  subst hq
  subst hy
  intro H locs ls hP hS hl
  exact va_lald hx hb hK hP c 3 (wsO_at hk) rfl hin hd (kk H locs ls hP hS hl)
theorem k_last (hC : COk e C cc nL own d mc ms) {c L : Nat} {i : Int32} {y : Int64} {x0 : gXH} {hm : gIH} {lo : gLH} (hd : decode cc pc = .ok (.lastore, 1)) (hk : kdn w.1 c = some (2, .inr (3, L))) (hin : vp_in i L) (hq : pc + 1 = q) (kk : KW e C w q lv st r (x0, hm, up2 lo c i.toNatClampNeg y)) : KW e C w pc lv (.long y :: .int i :: .ref c :: st) r (x0, hm, lo) := by
  obtain ⟨p, en, R, s, m, args, below, meth, cd, Q⟩ := C
  obtain ⟨hx, hb, hml, hown, hts, hK, hbs, hRf, hRl, hRc, hRs, hJ, hlk⟩ := hC
  subst hq
  intro H locs ls hP hS hl
  have hws := wsO_set (e := e) (n := w.1) (r := r) (r' := r) (x := (x0, hm, lo)) (x' := xsl (x0, hm, lo) 2 c i.toNatClampNeg y) hk (fun c' hc' => cellE_xsl hc')
  have hrow : xl (xsl (x0, hm, lo) 2 c i.toNatClampNeg y) 2 c = vp_updL (xl (x0, hm, lo) 2 c) i.toNatClampNeg y := up2_rowL
  exact va_last hx hb hK hP wsO_D hS c 3 (wsO_at hk) rfl hin hd (fun H1 locs1 hP1 hD1 hS1 => kk H1 locs1 ls (by rw [show ((x0, hm, up2 lo c i.toNatClampNeg y) : gXW) = xsl (x0, hm, lo) 2 c i.toNatClampNeg y from rfl, ← hws]; simp only [cellK, ctn, hrow]; exact hP1) hS1 hl)
theorem k_aald (hC : COk e C cc nL own d mc ms) {c sd L t : Nat} {i : Int32} (hd : decode cc pc = .ok (.aaload, 1)) (hk : kdn w.1 c = some (sd, .inr (4, L))) (hin : vp_in i L) (hr : r c i.toNatClampNeg = some t) (hq : pc + 1 = q) (kk : KW e C w q lv (.ref t :: st) r x) : KW e C w pc lv (.int i :: .ref c :: st) r x := by
  obtain ⟨p, en, R, s, m, args, below, meth, cd, Q⟩ := C
  obtain ⟨hx, hb, hml, hown, hts, hK, hbs, hRf, hRl, hRc, hRs, hJ, hlk⟩ := hC
  subst hq
  intro H locs ls hP hS hl
  refine va_aldq hx hb hK hP c 4 (wsO_at hk) rfl hin hd ?_
  rw [hr]
  exact kk H locs ls hP hS hl
theorem k_aast (hC : COk e C cc nL own d mc ms) {c sd sd2 L t : Nat} {i : Int32} (hd : decode cc pc = .ok (.aastore, 1)) (hk : kdn w.1 c = some (sd, .inr (4, L))) (ht : kdn w.1 t = some (sd2, .inl 6)) (hin : vp_in i L) (hr : up2 r c i.toNatClampNeg (some t) = r') (hq : pc + 1 = q) (kk : KW e C w q lv st r' x) : KW e C w pc lv (.ref t :: .int i :: .ref c :: st) r x := by
  obtain ⟨p, en, R, s, m, args, below, meth, cd, Q⟩ := C
  obtain ⟨hx, hb, hml, hown, hts, hK, hbs, hRf, hRl, hRc, hRs, hJ, hlk⟩ := hC
  subst hq
  subst hr
  intro H locs ls hP hS hl
  have hws := wsO_set (e := e) (n := w.1) (r := r) (r' := up2 r c i.toNatClampNeg (some t)) (x := x) (x' := x) hk (fun c' hc' => cellE_ref hc')
  have hrow : (fun k => ((up2 r c i.toNatClampNeg (some t)) c k).map (fun c => eB e + c)) = va_up (fun k => (r c k).map (fun c => eB e + c)) i.toNatClampNeg (some (eB e + t)) := by
    funext k
    by_cases h : k = i.toNatClampNeg <;> simp [up2, va_up, h]
  exact va_astq (r := (RX6, TX6, 8)) hx hb hK hP wsO_D hS c 4 t 6 (wsO_at hk) rfl (wsO_at ht) rfl hin hd (fun H1 locs1 hP1 hD1 hS1 => kk H1 locs1 ls (by rw [← hws]; simp only [cellK, ctn, hrow]; exact hP1) hS1 hl)
theorem k_alen (hC : COk e C cc nL own d mc ms) {c sd t L : Nat} {ty : FieldType} {y : Int32} (hd : decode cc pc = .ok (.arraylength, 1)) (hk : kdn w.1 c = some (sd, .inr (t, L))) (ht : ∀ k, (tysO k)[t]? = some (cid k t, ty)) (hy : Int32.ofNat L = y) (hq : pc + 1 = q) (kk : KW e C w q lv (.int y :: st) r x) : KW e C w pc lv (.ref c :: st) r x := by
  obtain ⟨p, en, R, s, m, args, below, meth, cd, Q⟩ := C
  obtain ⟨hx, hb, hml, hown, hts, hK, hbs, hRf, hRl, hRc, hRs, hJ, hlk⟩ := hC
  subst hq
  intro H locs ls hP hS hl
  exact va_alen hx hb hK hP c t (wsO_at hk) (ht _) hy hd (kk H locs ls hP hS hl)
theorem k_putI {idx ci j c : Nat} {h : Option String} {y : Int32} {xc : gXH} {z : gIH × gLH} (hC : COk e C cc nL own d mc ms) (hF : FLk own idx ci j h) (h7 : ((clK ci).2.1 j).2.2.2 = false) (hd : decode cc pc = .ok (.putfield idx, 3)) (hk : kdn w.1 c = some (0, .inl ci)) (hty : ∀ a i l, fvl e (clT ci j) a i l = .int i) (hn : narrow (clT ci j) (.int y) = .int y) (hf : fits (clT ci j) (.int y) = true) (hq : pc + 3 = q) (kk : KW e C w q lv st r (sI xc c j y, z)) : KW e C w pc lv (.int y :: .ref c :: st) r (xc, z) :=
  k_putI' hC hF h7 hd hk (by decide) hty hn hf hq kk
theorem k_putM {idx ci j c : Nat} {h : Option String} {y : Int32} {xc : gXH} {hm : gIH} {lo : gLH} (hC : COk e C cc nL own d mc ms) (hF : FLk own idx ci j h) (h7 : ((clK ci).2.1 j).2.2.2 = false) (hd : decode cc pc = .ok (.putfield idx, 3)) (hk : kdn w.1 c = some (1, .inl ci)) (hty : ∀ a i l, fvl e (clT ci j) a i l = .int i) (hn : narrow (clT ci j) (.int y) = .int y) (hf : fits (clT ci j) (.int y) = true) (hq : pc + 3 = q) (kk : KW e C w q lv st r (xc, up2 hm c j y, lo)) : KW e C w pc lv (.int y :: .ref c :: st) r (xc, hm, lo) :=
  k_putI' hC hF h7 hd hk (by decide) hty hn hf hq kk
theorem k_putL {idx ci j c : Nat} {h : Option String} {y : Int64} {xc : gXH} {z : gIH × gLH} (hC : COk e C cc nL own d mc ms) (hF : FLk own idx ci j h) (h7 : ((clK ci).2.1 j).2.2.2 = false) (hd : decode cc pc = .ok (.putfield idx, 3)) (hk : kdn w.1 c = some (0, .inl ci)) (hty : clT ci j = .long) (hq : pc + 3 = q) (kk : KW e C w q lv st r (sL xc c j y, z)) : KW e C w pc lv (.long y :: .ref c :: st) r (xc, z) :=
  k_putL' hC hF h7 hd hk rfl hty hq kk
theorem k_iast {c L : Nat} {i y : Int32} {xc : gXH} {z : gIH × gLH} (hC : COk e C cc nL own d mc ms) (hd : decode cc pc = .ok (.iastore, 1)) (hk : kdn w.1 c = some (0, .inr (0, L))) (hin : vp_in i L) (hq : pc + 1 = q) (kk : KW e C w q lv st r (sI xc c i.toNatClampNeg y, z)) : KW e C w pc lv (.int y :: .int i :: .ref c :: st) r (xc, z) :=
  k_iast' hC hd hk (by decide) hin hq kk
theorem k_iastM {c L : Nat} {i y : Int32} {xc : gXH} {hm : gIH} {lo : gLH} (hC : COk e C cc nL own d mc ms) (hd : decode cc pc = .ok (.iastore, 1)) (hk : kdn w.1 c = some (1, .inr (0, L))) (hin : vp_in i L) (hq : pc + 1 = q) (kk : KW e C w q lv st r (xc, up2 hm c i.toNatClampNeg y, lo)) : KW e C w pc lv (.int y :: .int i :: .ref c :: st) r (xc, hm, lo) :=
  k_iast' hC hd hk (by decide) hin hq kk
theorem k_bastM {c L : Nat} {i y : Int32} {xc : gXH} {hm : gIH} {lo : gLH} (hC : COk e C cc nL own d mc ms) (hd : decode cc pc = .ok (.bastore, 1)) (hk : kdn w.1 c = some (1, .inr (1, L))) (hin : vp_in i L) (hq : pc + 1 = q) (kk : KW e C w q lv st r (xc, up2 hm c i.toNatClampNeg (vp_nar .byte y), lo)) : KW e C w pc lv (.int y :: .int i :: .ref c :: st) r (xc, hm, lo) :=
  k_bast' hC hd hk (by decide) hin hq kk
theorem k_zastM {c L : Nat} {i y : Int32} {xc : gXH} {hm : gIH} {lo : gLH} (hC : COk e C cc nL own d mc ms) (hd : decode cc pc = .ok (.bastore, 1)) (hk : kdn w.1 c = some (1, .inr (2, L))) (hin : vp_in i L) (hq : pc + 1 = q) (kk : KW e C w q lv st r (xc, up2 hm c i.toNatClampNeg (vp_nar .boolean y), lo)) : KW e C w pc lv (.int y :: .int i :: .ref c :: st) r (xc, hm, lo) :=
  k_zast' hC hd hk (by decide) hin hq kk
theorem k_callS (hC : COk e C cc nL own d mc ms) {mi : gMI} {idx d0 cm sm n' : Nat} {ex : Bool} {av rest : List Value} {v : Option Value} (hM : gMOk mi) (hsx : Cond.static mi.1 ∈ gW0) (hlen : av.length = mi.2.2.2.2) (hd : decode cc pc = .ok (.invokestatic idx, 3)) (hlnk : Cond.methodLink own idx mi.1 ∈ gW0) (hcal : Cal e mi d0 cm sm ex w.1 av r x v n' r' x') (hd0 : d0 + 1 ≤ d) (hst : st = av.reverse ++ rest) (hrest : gWt rest ≤ 8) (hroom : w.2.1 + cm ≤ mc ∧ w.2.2 + sm ≤ ms) (hz : ex = true → ∃ n0, n0 + w.2.1 = w.1 ∧ gSz C (eB e + n0)) (hst' : st' = v.toList ++ rest) (hq : pc + 3 = q) (kk : KW e C (n', w.2.1 + cm, w.2.2 + sm) q lv st' r' x') : KW e C w pc lv st r x := by
  obtain ⟨p, en, R, s, m, args, below, meth, cd, Q⟩ := C
  obtain ⟨hx, hb, hml, hown, hts, hK, hbs, hRf, hRl, hRc, hRs, hJ, hlk⟩ := hC
  obtain ⟨n, cells, slots⟩ := w
  intro H locs ls hP hS hl T hT X
  have hex : ex = true → H.size = eB e + n := fun h => by
    obtain ⟨n0, h1, h2⟩ := hz h
    exact gSize X hT hP hS h2 h1
  have hpre : ∀ U : State, U.heap = H → s.WarmedH U.vm → gPre e ex n av r x (av.map (cv e)).toArray U := fun U hU hW => ⟨rfl, by rw [hU]; exact Nat.le_trans hbs hS.1, fun h => by rw [hU]; exact hex h, by rw [hU]; exact hP, va_K.moved hW.alike hK, gJS_at hJ hS hW hU⟩
  have hr := va_runS (cells := cells) (slots := slots) (R := R) (e := en) (p := p) (m := m) (below := below) (meth := meth) (locs := locs) (As := av.map (cv e)) (rest := rest.map (cv e)) (g := F0 m pc ls (st.map (cv e))) ⟨hx, hb, hml, hown, hts⟩ hcal ⟨gCallB (e := e) hts hM hlnk hd0 hRf hRl, hts _ hsx⟩ ⟨gPre_blind, hpre⟩ rfl (by rw [List.length_map]; exact hlen) (hl.1.trans hml) (by rw [hst]; simp) (lv_room (by rw [gWt_eq]; exact hrest)) hd (by rw [hRc, hRs]; exact hroom)
  exact KW_run hr hS hl hst' hq kk T hT X
theorem k_callSN (hC : COk e C cc nL own d mc ms) {mi : gMI} {idx d0 cm sm n' : Nat} {ex : Bool} {av rest : List Value} {v : Option Value} {host : String} (hM : gMOk mi) (hsx : Cond.static mi.1 ∈ gW0) (hlen : av.length = mi.2.2.2.2) (hd : decode cc pc = .ok (.invokestatic idx, 3)) (hlnk : Cond.methodLinkNest own idx mi.1 host ∈ gWN) (hcal : Cal e mi d0 cm sm ex w.1 av r x v n' r' x') (hd0 : d0 + 1 ≤ d) (hst : st = av.reverse ++ rest) (hrest : gWt rest ≤ 8) (hroom : w.2.1 + cm ≤ mc ∧ w.2.2 + sm ≤ ms) (hz : ex = true → ∃ n0, n0 + w.2.1 = w.1 ∧ gSz C (eB e + n0)) (hst' : st' = v.toList ++ rest) (hq : pc + 3 = q) (kk : KW e C (n', w.2.1 + cm, w.2.2 + sm) q lv st' r' x') : KW e C w pc lv st r x := by
  obtain ⟨p, en, R, s, m, args, below, meth, cd, Q⟩ := C
  obtain ⟨hx, hb, hml, hown, hts, hK, hbs, hRf, hRl, hRc, hRs, hJ, hlk⟩ := hC
  obtain ⟨n, cells, slots⟩ := w
  intro H locs ls hP hS hl T hT X
  have hex : ex = true → H.size = eB e + n := fun h => by
    obtain ⟨n0, h1, h2⟩ := hz h
    exact gSize X hT hP hS h2 h1
  have hpre : ∀ U : State, U.heap = H → s.WarmedH U.vm → gPre e ex n av r x (av.map (cv e)).toArray U := fun U hU hW => ⟨rfl, by rw [hU]; exact Nat.le_trans hbs hS.1, fun h => by rw [hU]; exact hex h, by rw [hU]; exact hP, va_K.moved hW.alike hK, gJS_at hJ hS hW hU⟩
  have hr := va_runSN (cells := cells) (slots := slots) (R := R) (e := en) (p := p) (m := m) (below := below) (meth := meth) (locs := locs) (As := av.map (cv e)) (rest := rest.map (cv e)) (g := F0 m pc ls (st.map (cv e))) ⟨hx, hb, hml, hown, hts⟩ hcal ⟨gCallN (e := e) hts hJ.2.2.2.2.2.2.1 hM hlnk hd0 hRf hRl, hts _ hsx, trivial⟩ ⟨gPre_blind, hpre⟩ rfl (by rw [List.length_map]; exact hlen) (hl.1.trans hml) (by rw [hst]; simp) (lv_room (by rw [gWt_eq]; exact hrest)) hd (by rw [hRc, hRs]; exact hroom)
  exact KW_run hr hS hl hst' hq kk T hT X
theorem k_callV (hC : COk e C cc nL own d mc ms) {mi : gMI} {idx d0 cm sm n' : Nat} {ex : Bool} {av rest : List Value} {v : Option Value} {c0 ci sd : Nat} {As : List Value} {K : vw_C} (hM : gMOk mi) (hvx : gVOk mi) (hav : av = .ref c0 :: As) (hlen : As.length = mi.2.2.2.2) (hk : kdn w.1 c0 = some (sd, .inl ci)) (hcl : vwCl[ci]? = some K) (hcn : K.1 = mi.1.cls) (hd : decode cc pc = .ok (.invokevirtual idx, 3)) (hlnk : Cond.methodLink own idx mi.1 ∈ gW0) (hcal : Cal e mi d0 cm sm ex w.1 av r x v n' r' x') (hd0 : d0 + 1 ≤ d) (hst : st = av.reverse ++ rest) (hrest : gWt rest ≤ 8) (hroom : w.2.1 + cm ≤ mc ∧ w.2.2 + sm ≤ ms) (hz : ex = true → ∃ n0, n0 + w.2.1 = w.1 ∧ gSz C (eB e + n0)) (hst' : st' = v.toList ++ rest) (hq : pc + 3 = q) (kk : KW e C (n', w.2.1 + cm, w.2.2 + sm) q lv st' r' x') : KW e C w pc lv st r x := by
  obtain ⟨p, en, R, s, m, args, below, meth, cd, Q⟩ := C
  obtain ⟨hx, hb, hml, hown, hts, hK, hbs, hRf, hRl, hRc, hRs, hJ, hlk⟩ := hC
  obtain ⟨n, cells, slots⟩ := w
  intro H locs ls hP hS hl T hT X
  have hex : ex = true → H.size = eB e + n := fun h => by
    obtain ⟨n0, h1, h2⟩ := hz h
    exact gSize X hT hP hS h2 h1
  have hpre : ∀ U : State, U.heap = H → s.WarmedH U.vm → gPre e ex n av r x (av.map (cv e)).toArray U := fun U hU hW => ⟨rfl, by rw [hU]; exact Nat.le_trans hbs hS.1, fun h => by rw [hU]; exact hex h, by rw [hU]; exact hP, va_K.moved hW.alike hK, gJS_at hJ hS hW hU⟩
  subst hav
  obtain ⟨cellB, hcB1, hcB2, hcB3⟩ := va_recv hK hP hcl (wsO_at hk)
  rw [hcn] at hcB3
  have hr := va_runV (cells := cells) (slots := slots) (R := R) (e := en) (p := p) (m := m) (below := below) (meth := meth) (locs := locs) (b := eB e + c0) (As := As.map (cv e)) (rest := rest.map (cv e)) (g := F0 m pc ls (st.map (cv e))) ⟨hx, hb, hml, hown, hts⟩ hcal ⟨gCallB (e := e) hts hM hlnk hd0 hRf hRl, hts _ hvx.1, hts _ hvx.2⟩ ⟨gPre_blind, ⟨cellB, hcB1, hcB2, hcB3⟩, hpre⟩ rfl (by rw [List.length_map]; exact hlen) (hl.1.trans hml) (by rw [hst]; simp [cv]) (lv_room (by rw [gWt_eq]; exact hrest)) hd (by rw [hRc, hRs]; exact hroom)
  exact KW_run hr hS hl hst' hq kk T hT X
theorem k_callI (hC : COk e C cc nL own d mc ms) {mi : gMI} {idx d0 cm sm n' : Nat} {ex : Bool} {av rest : List Value} {v : Option Value} {c0 : Nat} {As : List Value} (hM : gMOk mi) (hin : mi.1.name = "<init>" ∧ Cond.instanceMethod mi.1 ∈ gW0) (hrn : mi.2.2.2.1 = none) (hav : av = .ref c0 :: As) (hlen : As.length = mi.2.2.2.2) (hd : decode cc pc = .ok (.invokespecial idx, 3)) (hlnk : Cond.methodLink own idx mi.1 ∈ gW0) (hcal : Cal e mi d0 cm sm ex w.1 av r x v n' r' x') (hd0 : d0 + 1 ≤ d) (hst : st = av.reverse ++ rest) (hrest : gWt rest ≤ 8) (hroom : w.2.1 + cm ≤ mc ∧ w.2.2 + sm ≤ ms) (hz : ex = true → ∃ n0, n0 + w.2.1 = w.1 ∧ gSz C (eB e + n0)) (hst' : st' = v.toList ++ rest) (hq : pc + 3 = q) (kk : KW e C (n', w.2.1 + cm, w.2.2 + sm) q lv st' r' x') : KW e C w pc lv st r x := by
  obtain ⟨p, en, R, s, m, args, below, meth, cd, Q⟩ := C
  obtain ⟨hx, hb, hml, hown, hts, hK, hbs, hRf, hRl, hRc, hRs, hJ, hlk⟩ := hC
  obtain ⟨n, cells, slots⟩ := w
  intro H locs ls hP hS hl T hT X
  have hex : ex = true → H.size = eB e + n := fun h => by
    obtain ⟨n0, h1, h2⟩ := hz h
    exact gSize X hT hP hS h2 h1
  have hpre : ∀ U : State, U.heap = H → s.WarmedH U.vm → gPre e ex n av r x (av.map (cv e)).toArray U := fun U hU hW => ⟨rfl, by rw [hU]; exact Nat.le_trans hbs hS.1, fun h => by rw [hU]; exact hex h, by rw [hU]; exact hP, va_K.moved hW.alike hK, gJS_at hJ hS hW hU⟩
  subst hav
  obtain ⟨y0, b0, m0, r0, k0⟩ := mi
  have hrn : r0 = none := hrn
  subst hrn
  have hr := va_runI (cells := cells) (slots := slots) (R := R) (e := en) (p := p) (m := m) (below := below) (meth := meth) (locs := locs) (b := eB e + c0) (As := As.map (cv e)) (rest := rest.map (cv e)) (g := F0 m pc ls (st.map (cv e))) ⟨hx, hb, hml, hown, hts⟩ hcal ⟨gCallB (e := e) hts hM hlnk hd0 hRf hRl, hin.1, hts _ hin.2⟩ ⟨gPre_blind, hpre⟩ rfl (by rw [List.length_map]; exact hlen) (hl.1.trans hml) (by rw [hst]; simp [cv]) (lv_room (by rw [gWt_eq]; exact hrest)) hd (by rw [hRc, hRs]; exact hroom)
  exact KW_run hr hS hl hst' hq kk T hT X
theorem k_callIN (hC : COk e C cc nL own d mc ms) {mi : gMI} {idx d0 cm sm n' : Nat} {ex : Bool} {av rest : List Value} {v : Option Value} {host : String} {c0 : Nat} {As : List Value} (hM : gMOk mi) (hin : mi.1.name = "<init>" ∧ Cond.instanceMethod mi.1 ∈ gW0) (hrn : mi.2.2.2.1 = none) (hav : av = .ref c0 :: As) (hlen : As.length = mi.2.2.2.2) (hd : decode cc pc = .ok (.invokespecial idx, 3)) (hlnk : Cond.methodLinkNest own idx mi.1 host ∈ gWN) (hcal : Cal e mi d0 cm sm ex w.1 av r x v n' r' x') (hd0 : d0 + 1 ≤ d) (hst : st = av.reverse ++ rest) (hrest : gWt rest ≤ 8) (hroom : w.2.1 + cm ≤ mc ∧ w.2.2 + sm ≤ ms) (hz : ex = true → ∃ n0, n0 + w.2.1 = w.1 ∧ gSz C (eB e + n0)) (hst' : st' = v.toList ++ rest) (hq : pc + 3 = q) (kk : KW e C (n', w.2.1 + cm, w.2.2 + sm) q lv st' r' x') : KW e C w pc lv st r x := by
  obtain ⟨p, en, R, s, m, args, below, meth, cd, Q⟩ := C
  obtain ⟨hx, hb, hml, hown, hts, hK, hbs, hRf, hRl, hRc, hRs, hJ, hlk⟩ := hC
  obtain ⟨n, cells, slots⟩ := w
  intro H locs ls hP hS hl T hT X
  have hex : ex = true → H.size = eB e + n := fun h => by
    obtain ⟨n0, h1, h2⟩ := hz h
    exact gSize X hT hP hS h2 h1
  have hpre : ∀ U : State, U.heap = H → s.WarmedH U.vm → gPre e ex n av r x (av.map (cv e)).toArray U := fun U hU hW => ⟨rfl, by rw [hU]; exact Nat.le_trans hbs hS.1, fun h => by rw [hU]; exact hex h, by rw [hU]; exact hP, va_K.moved hW.alike hK, gJS_at hJ hS hW hU⟩
  subst hav
  obtain ⟨y0, b0, m0, r0, k0⟩ := mi
  have hrn : r0 = none := hrn
  subst hrn
  have hr := va_runIN (cells := cells) (slots := slots) (R := R) (e := en) (p := p) (m := m) (below := below) (meth := meth) (locs := locs) (b := eB e + c0) (As := As.map (cv e)) (rest := rest.map (cv e)) (g := F0 m pc ls (st.map (cv e))) ⟨hx, hb, hml, hown, hts⟩ hcal ⟨gCallN (e := e) hts hJ.2.2.2.2.2.2.1 hM hlnk hd0 hRf hRl, hin.1, hts _ hin.2⟩ ⟨gPre_blind, hpre⟩ rfl (by rw [List.length_map]; exact hlen) (hl.1.trans hml) (by rw [hst]; simp [cv]) (lv_room (by rw [gWt_eq]; exact hrest)) hd (by rw [hRc, hRs]; exact hroom)
  exact KW_run hr hS hl hst' hq kk T hT X
theorem k_callVS (hC : COk e C cc nL own d mc ms) {mi : gMI} {idx d0 cm sm n' : Nat} {ex : Bool} {av rest : List Value} {v : Option Value} {k0 : Nat} {As : List Value} (hM : gMOk mi) (hvx : gVOk mi) (hav : av = .retAddr k0 :: As) (hlen : As.length = mi.2.2.2.2) (hk0 : k0 < 7) (hcn : mi.1.cls = "java/lang/String") (hd : decode cc pc = .ok (.invokevirtual idx, 3)) (hlnk : Cond.methodLink own idx mi.1 ∈ gW0) (hcal : Cal e mi d0 cm sm ex w.1 av r x v n' r' x') (hd0 : d0 + 1 ≤ d) (hst : st = av.reverse ++ rest) (hrest : gWt rest ≤ 8) (hroom : w.2.1 + cm ≤ mc ∧ w.2.2 + sm ≤ ms) (hz : ex = true → ∃ n0, n0 + w.2.1 = w.1 ∧ gSz C (eB e + n0)) (hst' : st' = v.toList ++ rest) (hq : pc + 3 = q) (kk : KW e C (n', w.2.1 + cm, w.2.2 + sm) q lv st' r' x') : KW e C w pc lv st r x := by
  obtain ⟨p, en, R, s, m, args, below, meth, cd, Q⟩ := C
  obtain ⟨hx, hb, hml, hown, hts, hK, hbs, hRf, hRl, hRc, hRs, hJ, hlk⟩ := hC
  obtain ⟨n, cells, slots⟩ := w
  intro H locs ls hP hS hl T hT X
  have hex : ex = true → H.size = eB e + n := fun h => by
    obtain ⟨n0, h1, h2⟩ := hz h
    exact gSize X hT hP hS h2 h1
  have hpre : ∀ U : State, U.heap = H → s.WarmedH U.vm → gPre e ex n av r x (av.map (cv e)).toArray U := fun U hU hW => ⟨rfl, by rw [hU]; exact Nat.le_trans hbs hS.1, fun h => by rw [hU]; exact hex h, by rw [hU]; exact hP, va_K.moved hW.alike hK, gJS_at hJ hS hW hU⟩
  subst hav
  obtain ⟨cellB, hcB1, hcB2, hcB3⟩ := vk_recv hJ.1 hk0 hS
  rw [← hcn] at hcB3
  have hr := va_runV (cells := cells) (slots := slots) (R := R) (e := en) (p := p) (m := m) (below := below) (meth := meth) (locs := locs) (b := eK e k0) (As := As.map (cv e)) (rest := rest.map (cv e)) (g := F0 m pc ls (st.map (cv e))) ⟨hx, hb, hml, hown, hts⟩ hcal ⟨gCallB (e := e) hts hM hlnk hd0 hRf hRl, hts _ hvx.1, hts _ hvx.2⟩ ⟨gPre_blind, ⟨cellB, hcB1, hcB2, hcB3⟩, hpre⟩ rfl (by rw [List.length_map]; exact hlen) (hl.1.trans hml) (by rw [hst]; simp [cv]) (lv_room (by rw [gWt_eq]; exact hrest)) hd (by rw [hRc, hRs]; exact hroom)
  exact KW_run hr hS hl hst' hq kk T hT X
theorem k_top {v v' : Value} (h : v = v') (kk : KW e C w pc lv (v' :: st) r x) : KW e C w pc lv (v :: st) r x := by rw [h]; exact kk
theorem k_topi {y y' : Int32} (h : y = y') (kk : KW e C w pc lv (.int y' :: st) r x) : KW e C w pc lv (.int y :: st) r x := by rw [h]; exact kk
theorem k_hp (h : x = x') (kk : KW e C w pc lv st r x') : KW e C w pc lv st r x := by rw [h]; exact kk
theorem k_hc {xc xc' : gXH} {z : gIH × gLH} (h : xc = xc') (kk : KW e C w pc lv st r (xc', z)) : KW e C w pc lv st r (xc, z) := by rw [h]; exact kk
theorem k_hm {xc : gXH} {hm hm' : gIH} {lo : gLH} (h : hm = hm') (kk : KW e C w pc lv st r (xc, hm', lo)) : KW e C w pc lv st r (xc, hm, lo) := by rw [h]; exact kk
theorem k_rr (h : r = r') (kk : KW e C w pc lv st r' x) : KW e C w pc lv st r x := by rw [h]; exact kk
/-- fewer locals known -/
theorem k_lv (h : ∀ i v, lget lv' i = some v → lget lv i = some v) (kk : KW e C w pc lv' st r x) : KW e C w pc lv st r x := by
  obtain ⟨p, en, R, s, m, args, below, meth, cd, Q⟩ := C
  intro H locs ls hP hS hl
  exact kk H locs ls hP hS (hl.sub h)
theorem k_getI {idx ci j c : Nat} {h : Option String} {xc : gXH} {z : gIH × gLH} (hC : COk e C cc nL own d mc ms) (hF : FLk own idx ci j h) (hd : decode cc pc = .ok (.getfield idx, 3)) (hk : kdn w.1 c = some (0, .inl ci)) (hty : ∀ a i l, fvl e (clT ci j) a i l = .int i) (hq : pc + 3 = q) (kk : KW e C w q lv (.int (xc.1 c j) :: st) r (xc, z)) : KW e C w pc lv (.ref c :: st) r (xc, z) :=
  k_get hC hF hd hk (v := .int (xc.1 c j)) (by rw [hty]; rfl) hq kk
theorem k_getM {idx ci j c : Nat} {h : Option String} {xc : gXH} {hm : gIH} {lo : gLH} (hC : COk e C cc nL own d mc ms) (hF : FLk own idx ci j h) (hd : decode cc pc = .ok (.getfield idx, 3)) (hk : kdn w.1 c = some (1, .inl ci)) (hty : ∀ a i l, fvl e (clT ci j) a i l = .int i) (hq : pc + 3 = q) (kk : KW e C w q lv (.int (hm c j) :: st) r (xc, hm, lo)) : KW e C w pc lv (.ref c :: st) r (xc, hm, lo) :=
  k_get hC hF hd hk (v := .int (hm c j)) (by rw [hty]; rfl) hq kk
theorem k_getL {idx ci j c : Nat} {h : Option String} {xc : gXH} {z : gIH × gLH} (hC : COk e C cc nL own d mc ms) (hF : FLk own idx ci j h) (hd : decode cc pc = .ok (.getfield idx, 3)) (hk : kdn w.1 c = some (0, .inl ci)) (hty : ∀ a i l, fvl e (clT ci j) a i l = .long l) (hq : pc + 3 = q) (kk : KW e C w q lv (.long (xc.2 c j) :: st) r (xc, z)) : KW e C w pc lv (.ref c :: st) r (xc, z) :=
  k_get hC hF hd hk (v := .long (xc.2 c j)) (by rw [hty]; rfl) hq kk
theorem k_ialdC {c L : Nat} {i : Int32} {xc : gXH} {z : gIH × gLH} (hC : COk e C cc nL own d mc ms) (hd : decode cc pc = .ok (.iaload, 1)) (hk : kdn w.1 c = some (0, .inr (0, L))) (hin : vp_in i L) (hq : pc + 1 = q) (kk : KW e C w q lv (.int (xc.1 c i.toNatClampNeg) :: st) r (xc, z)) : KW e C w pc lv (.int i :: .ref c :: st) r (xc, z) :=
  k_iald hC hd hk hin rfl hq kk
theorem k_ialdM {c L : Nat} {i : Int32} {xc : gXH} {hm : gIH} {lo : gLH} (hC : COk e C cc nL own d mc ms) (hd : decode cc pc = .ok (.iaload, 1)) (hk : kdn w.1 c = some (1, .inr (0, L))) (hin : vp_in i L) (hq : pc + 1 = q) (kk : KW e C w q lv (.int (hm c i.toNatClampNeg) :: st) r (xc, hm, lo)) : KW e C w pc lv (.int i :: .ref c :: st) r (xc, hm, lo) :=
  k_iald hC hd hk hin rfl hq kk
theorem k_baldM {c L : Nat} {i : Int32} {xc : gXH} {hm : gIH} {lo : gLH} (hC : COk e C cc nL own d mc ms) (hd : decode cc pc = .ok (.baload, 1)) (hk : kdn w.1 c = some (1, .inr (1, L))) (hin : vp_in i L) (hq : pc + 1 = q) (kk : KW e C w q lv (.int (hm c i.toNatClampNeg) :: st) r (xc, hm, lo)) : KW e C w pc lv (.int i :: .ref c :: st) r (xc, hm, lo) :=
  k_bald hC hd hk hin rfl hq kk
theorem k_zaldM {c L : Nat} {i : Int32} {xc : gXH} {hm : gIH} {lo : gLH} (hC : COk e C cc nL own d mc ms) (hd : decode cc pc = .ok (.baload, 1)) (hk : kdn w.1 c = some (1, .inr (2, L))) (hin : vp_in i L) (hq : pc + 1 = q) (kk : KW e C w q lv (.int (hm c i.toNatClampNeg) :: st) r (xc, hm, lo)) : KW e C w pc lv (.int i :: .ref c :: st) r (xc, hm, lo) :=
  k_zald hC hd hk hin rfl hq kk
theorem k_mmax (hC : COk e C cc nL own d mc ms) {idx : Nat} {x1 y1 : Int32} (hd1 : 1 ≤ d) (hst : gWt st ≤ 8) (hroom : w.2.1 ≤ mc ∧ w.2.2 ≤ ms) (hlnk : Cond.methodLink own idx Lib.Math.max.name ∈ gW0) (hs : Cond.static Lib.Math.max.name ∈ gW0) (hi : Cond.initialized "java/lang/Math" ∈ gW0) (hco : Cond.code Lib.Math.max.name Lib.Math.max.code 2 (some .int) ∈ gW0) (hd : decode cc pc = .ok (.invokestatic idx, 3)) (hq : pc + 3 = q) (kk : KW e C w q lv (.int (if x1 < y1 then y1 else x1) :: st) r x) : KW e C w pc lv (.int y1 :: .int x1 :: st) r x := by
  obtain ⟨p, en, R, s, m, args, below, meth, cd, Q⟩ := C
  obtain ⟨hx, hb, hml, hown, hts, hK, hbs, hRf, hRl, hRc, hRs, hJ, hlk⟩ := hC
  subst hq
  intro H locs ls hP hS hl
  exact va_mmax hx hb hl.1.symm hown (hts _ hlnk) (hts _ hs) (hts _ hi) (hts _ hco) (by omega) (by rw [gWt_eq]; omega) (by rw [hRc]; exact hroom.1) (by rw [hRs]; exact hroom.2) hd (kk H locs ls hP hS hl)
theorem k_mmin (hC : COk e C cc nL own d mc ms) {idx : Nat} {x1 y1 : Int32} (hd1 : 1 ≤ d) (hst : gWt st ≤ 8) (hroom : w.2.1 ≤ mc ∧ w.2.2 ≤ ms) (hlnk : Cond.methodLink own idx Lib.Math.min.name ∈ gW0) (hs : Cond.static Lib.Math.min.name ∈ gW0) (hi : Cond.initialized "java/lang/Math" ∈ gW0) (hco : Cond.code Lib.Math.min.name Lib.Math.min.code 2 (some .int) ∈ gW0) (hd : decode cc pc = .ok (.invokestatic idx, 3)) (hq : pc + 3 = q) (kk : KW e C w q lv (.int (if y1 < x1 then y1 else x1) :: st) r x) : KW e C w pc lv (.int y1 :: .int x1 :: st) r x := by
  obtain ⟨p, en, R, s, m, args, below, meth, cd, Q⟩ := C
  obtain ⟨hx, hb, hml, hown, hts, hK, hbs, hRf, hRl, hRc, hRs, hJ, hlk⟩ := hC
  subst hq
  intro H locs ls hP hS hl
  exact va_mmin hx hb hl.1.symm hown (hts _ hlnk) (hts _ hs) (hts _ hi) (hts _ hco) (by omega) (by rw [gWt_eq]; omega) (by rw [hRc]; exact hroom.1) (by rw [hRs]; exact hroom.2) hd (kk H locs ls hP hS hl)
end
