/-! TEXTS: length and charAt of the seven words -/
theorem lks_len_coder : Cond.methodLink RJ0 335 yJ0_coder_7d493 ∈ gW0 := gW0_mem (gt_3 (List.mem_of_getElem? (i := 176) (by decide +kernel))) rfl
theorem lks_chr_lat : Cond.methodLink RJ0 492 yJ0_isLatin1_aae02 ∈ gW0 := gW0_mem (gt_3 (List.mem_of_getElem? (i := 186) (by decide +kernel))) rfl
theorem lks_chr_l1 : Cond.methodLink RJ0 495 yJ1_charAt_3b067 ∈ gW0 := gW0_mem (gt_3 (List.mem_of_getElem? (i := 190) (by decide +kernel))) rfl
theorem lks_l1_ci : Cond.methodLink RJ1 9 yJ0_checkIndex_df160 ∈ gW0 := gW0_mem (gt_3 (List.mem_of_getElem? (i := 193) (by decide +kernel))) rfl
theorem lks_ci_p : Cond.methodLink RJ0 1059 yJ3_checkIndex_8e157 ∈ gW0 := gW0_mem (gt_3 (List.mem_of_getElem? (i := 198) (by decide +kernel))) rfl
theorem fls_value : Cond.fieldLink RJ0 9 "java/lang/String" "value" "[B" ∈ gW0 := gW0_mem (gt_8 (List.mem_of_getElem? (i := 180) (by decide +kernel))) rfl
theorem fls_coder : Cond.fieldLink RJ0 15 "java/lang/String" "coder" "B" ∈ gW0 := gW0_mem (gt_8 (List.mem_of_getElem? (i := 181) (by decide +kernel))) rfl
theorem fls_compact : Cond.fieldLink RJ0 38 "java/lang/String" "COMPACT_STRINGS" "Z" ∈ gW0 := gW0_mem (gt_3 (List.mem_of_getElem? (i := 180) (by decide +kernel))) rfl
theorem fls_fmt : Cond.fieldLink RJ0 1053 "jdk/internal/util/Preconditions" "SIOOBE_FORMATTER" "Ljava/util/function/BiFunction;" ∈ gW0 := gW0_mem (gt_3 (List.mem_of_getElem? (i := 196) (by decide +kernel))) rfl
def eSK (e : gEV) (f : Nat → Nat) : gEV := (e.1, e.2.1, e.2.2.1, e.2.2.2.1, e.2.2.2.2.1, f, e.2.2.2.2.2.2)
theorem gStr_lt : ∀ q ∈ gStr, q.2.2.2 < 16 := by decide +kernel
theorem gJS_env {e : gEV} {f : Nat → Nat} (hf : ∀ i, i < 100 → f i = eK e i) {U : State} {H : Heap} (h : gJS e U H) : gJS (eSK e f) U H := by
  obtain ⟨h1, h2, h3⟩ := h
  refine ⟨⟨fun i hi => ?_, fun i j hi hj q => ?_⟩, fun q hq => ?_, h3⟩
  · have := h1.1 i hi
    rw [← hf i (by omega)] at this
    exact this
  · have q' : f i = f j := q
    rw [hf i (by omega), hf j (by omega)] at q'
    exact h1.2 i j hi hj q'
  · have h4 := h2 q hq
    have h5 := gStr_lt q hq
    rw [← hf _ (by omega)] at h4
    exact h4
section
variable {e : gEV} {C : gCx} {cc : ByteArray} {nL d mc ms pc q : Nat} {own : String} {w : Nat × Nat × Nat} {lv : List (Option Value)} {st : List Value} {r : gRH} {x : gXW}
theorem COk_env {f : Nat → Nat} (hf : ∀ i, i < 100 → f i = eK e i) (h : COk e C cc nL own d mc ms) : COk (eSK e f) C cc nL own d mc ms := by
  obtain ⟨p, en, R, s, m, args, below, meth, cd, Q⟩ := C
  obtain ⟨hx, hb, hml, hown, hts, hK, hbs, hRf, hRl, hRc, hRs, hJ, hlk⟩ := h
  exact ⟨hx, hb, hml, hown, hts, hK, hbs, hRf, hRl, hRc, hRs, gJS_env hf hJ, hlk⟩
theorem KW_env {f : Nat → Nat} (hlv : ∀ i v, lget lv i = some v → cv (eSK e f) v = cv e v) (hst : st.map (cv (eSK e f)) = st.map (cv e)) (kk : KW (eSK e f) C w pc lv st r x) : KW e C w pc lv st r x := by
  obtain ⟨p, en, R, s, m, args, below, meth, cd, Q⟩ := C
  intro H locs ls hP hS hl
  have h := kk H locs ls hP hS ⟨hl.1, hl.2.1, fun i v hv => by rw [hlv i v hv]; exact hl.2.2 i v hv⟩
  rw [hst] at h
  exact h
theorem QOk_env {f : Nat → Nat} {ret : Option FieldType} {v : Option Value} {n' : Nat} {r' : gRH} {x' : gXW} (hv : v.map (cv (eSK e f)) = v.map (cv e)) (h : QOk e C ret mc ms v n' r' x') : QOk (eSK e f) C ret mc ms v n' r' x' := by
  obtain ⟨p, en, R, s, m, args, below, meth, cd, Q⟩ := C
  obtain ⟨h1, h2⟩ := h
  refine ⟨h1, ?_⟩
  rw [h2]
  unfold MQ
  rw [← hv]
  rfl
theorem k_gsC (hC : COk e C cc nL RJ0 d mc ms) (hd : decode cc pc = .ok (.getstatic 38, 3)) (hq : pc + 3 = q) (kk : KW e C w q lv (.int 1 :: st) r x) : KW e C w pc lv st r x := by
  obtain ⟨p, en, R, s, m, args, below, meth, cd, Q⟩ := C
  obtain ⟨hx, hb, hml, hown, hts, hK, hbs, hRf, hRl, hRc, hRs, hJ, hlk⟩ := hC
  subst hq
  intro H locs ls hP hS hl
  exact va_gets hx hb hJ.2.2.2.2.1 hS hown (hts _ fls_compact) (fun _ z => z) hd (kk H locs ls hP hS hl)
theorem k_cdr (hC : COk e C cc nL RJ0 d mc ms) {k : Nat} (hk : k < 7) (hd : decode cc pc = .ok (.getfield 15, 3)) (hq : pc + 3 = q) (kk : KW e C w q lv (.int 0 :: st) r x) : KW e C w pc lv (.retAddr k :: st) r x := by
  obtain ⟨p, en, R, s, m, args, below, meth, cd, Q⟩ := C
  obtain ⟨hx, hb, hml, hown, hts, hK, hbs, hRf, hRl, hRc, hRs, hJ, hlk⟩ := hC
  subst hq
  intro H locs ls hP hS hl
  exact vk_getf hx hb (hJ.1.1 k hk).2.1 hS hown (hts _ fls_coder) (fun _ z => z) hd (kk H locs ls hP hS hl)
theorem k_val (hC : COk e C cc nL RJ0 d mc ms) {k : Nat} (hk : k < 7) (hv : eK e 100 = eV e k) (hd : decode cc pc = .ok (.getfield 9, 3)) (hq : pc + 3 = q) (kk : KW e C w q lv (.retAddr 100 :: st) r x) : KW e C w pc lv (.retAddr k :: st) r x := by
  obtain ⟨p, en, R, s, m, args, below, meth, cd, Q⟩ := C
  obtain ⟨hx, hb, hml, hown, hts, hK, hbs, hRf, hRl, hRc, hRs, hJ, hlk⟩ := hC
  subst hq
  intro H locs ls hP hS hl
  have h := kk H locs ls hP hS hl
  have e1 : cv e (.retAddr 100) = .ref (eV e k) := by rw [← hv]; rfl
  refine vk_getf hx hb (hJ.1.1 k hk).2.2.1 hS hown (hts _ fls_value) (fun _ z => z) hd ?_
  rw [← e1]
  exact h
theorem k_tln (hC : COk e C cc nL own d mc ms) {k : Nat} (hk : k < 7) (hv : eK e 100 = eV e k) (hd : decode cc pc = .ok (.arraylength, 1)) (hq : pc + 1 = q) (kk : KW e C w q lv (.int (slen k) :: st) r x) : KW e C w pc lv (.retAddr 100 :: st) r x := by
  obtain ⟨p, en, R, s, m, args, below, meth, cd, Q⟩ := C
  obtain ⟨hx, hb, hml, hown, hts, hK, hbs, hRf, hRl, hRc, hRs, hJ, hlk⟩ := hC
  subst hq
  intro H locs ls hP hS hl
  have e1 : cv e (.retAddr 100) = .ref (eV e k) := by rw [← hv]; rfl
  show W _ _ _ _ _ _ _ _ _ _ _ _ _ _ _ (F0 m pc ls (cv e (.retAddr 100) :: st.map (cv e)))
  rw [e1]
  exact va_tlen hx hb (hJ.1.1 k hk).2.2.2 hS rfl hd (kk H locs ls hP hS hl)
theorem k_tbl (hC : COk e C cc nL own d mc ms) {k : Nat} {i : Int32} (hk : k < 7) (hv : eK e 100 = eV e k) (hin : vp_in i (slenN k)) (hd : decode cc pc = .ok (.baload, 1)) (hq : pc + 1 = q) (kk : KW e C w q lv (.int (schar k i) :: st) r x) : KW e C w pc lv (.int i :: .retAddr 100 :: st) r x := by
  obtain ⟨p, en, R, s, m, args, below, meth, cd, Q⟩ := C
  obtain ⟨hx, hb, hml, hown, hts, hK, hbs, hRf, hRl, hRc, hRs, hJ, hlk⟩ := hC
  subst hq
  intro H locs ls hP hS hl
  have e1 : cv e (.retAddr 100) = .ref (eV e k) := by rw [← hv]; rfl
  show W _ _ _ _ _ _ _ _ _ _ _ _ _ _ _ (F0 m pc ls (.int i :: cv e (.retAddr 100) :: st.map (cv e)))
  rw [e1]
  exact va_tb hx hb (hJ.1.1 k hk).2.2.2 hS hin rfl hd (kk H locs ls hP hS hl)
theorem k_i2c (hC : COk e C cc nL own d mc ms) {x1 y1 : Int32} (hd : decode cc pc = .ok (.i2c, 1)) (hy : (x1.toUInt32 % 65536).toInt32 = y1) (hq : pc + 1 = q) (kk : KW e C w q lv (.int y1 :: st) r x) : KW e C w pc lv (.int x1 :: st) r x := by
  obtain ⟨p, en, R, s, m, args, below, meth, cd, Q⟩ := C
  obtain ⟨hx, hb, hml, hown, hts, hK, hbs, hRf, hRl, hRc, hRs, hJ, hlk⟩ := hC
  subst hq
  intro H locs ls hP hS hl
  exact lv_i2c hx hb hd hy (kk H locs ls hP hS hl)
theorem k_gsF (hC : COk e C cc nL RJ0 d mc ms) (hd : decode cc pc = .ok (.getstatic 1053, 3)) (hq : pc + 3 = q) (kk : ∀ f : Nat → Nat, (∀ i, i < 100 → f i = eK e i) → ∀ F : Value, F.category = 1 → KW (eSK e f) C w q lv (F :: st) r x) (hlv : ∀ f i v, lget lv i = some v → cv (eSK e f) v = cv e v) (hst : ∀ f, st.map (cv (eSK e f)) = st.map (cv e)) : KW e C w pc lv st r x := by
  obtain ⟨p, en, R, s, m, args, below, meth, cd, Q⟩ := C
  obtain ⟨hx, hb, hml, hown, hts, hK, hbs, hRf, hRl, hRc, hRs, hJ, hlk⟩ := hC
  subst hq
  intro H locs ls hP hS hl
  rcases hJ.2.2.2.2.2.1 with hZ | ⟨t, hZ⟩
  · have h := kk (eK e) (fun _ _ => rfl) .null rfl H locs ls hP hS ⟨hl.1, hl.2.1, fun i v hv => by rw [hlv _ i v hv]; exact hl.2.2 i v hv⟩
    refine va_gets hx hb hZ hS hown (hts _ fls_fmt) (fun _ z => z) hd ?_
    have h2 := hst (eK e)
    rw [← h2]
    exact h
  · have h := kk (fun i => if i = 101 then t else eK e i) (fun i hi => if_neg (by omega)) (.retAddr 101) rfl H locs ls hP hS ⟨hl.1, hl.2.1, fun i v hv => by rw [hlv _ i v hv]; exact hl.2.2 i v hv⟩
    refine va_gets hx hb hZ hS hown (hts _ fls_fmt) (fun _ z => z) hd ?_
    have h2 := hst (fun i => if i = 101 then t else eK e i)
    rw [← h2]
    exact h
end
theorem schar_ok : ∀ k, k < 7 → ∀ j, j < slenN k → ((((gSB.getD k []).getD j 0) &&& 255).toUInt32 % 65536).toInt32 = (gSB.getD k []).getD j 0 ∧ narrow .char (.int ((gSB.getD k []).getD j 0)) = .int ((gSB.getD k []).getD j 0) := by decide +kernel
theorem c_coder (e : gEV) (n : Nat) (k : Nat) (hk : k < 7) (r : gRH) (x : gXW) : Cal e qJ0_coder_7d493 1 0 0 false n [.retAddr k] r x (some (.int 0)) n r x := by
  refine cal_of oJ0_coder_7d493 (lv := [some (.retAddr k)]) (fun v hv => by simp at hv; subst hv; rfl) (Nat.le_of_ble_eq_true rfl) rfl (fun C hC hQ _ => ?_)
  refine k_gsC (q := 3) hC dJ0_coder_7d493_0 rfl ?_
  refine k_if_eq (q := 6) (tgt := 13) hC dJ0_coder_7d493_3 (by decide) rfl (fun h => absurd h (by decide)) (fun _ => ?_)
  refine k_aload_nT (q := 7) hC dJ0_coder_7d493_6 rfl rfl ?_
  refine k_cdr (q := 10) hC hk dJ0_coder_7d493_7 rfl ?_
  refine k_goto (tgt := 14) hC dJ0_coder_7d493_10 (by decide) ?_
  exact k_zret (ty := .byte) hC hQ rfl rfl dJ0_coder_7d493_14
theorem c_isLatin1 (e : gEV) (n : Nat) (k : Nat) (hk : k < 7) (r : gRH) (x : gXW) : Cal e qJ0_isLatin1_aae02 1 0 0 false n [.retAddr k] r x (some (.int 1)) n r x := by
  refine cal_of oJ0_isLatin1_aae02 (lv := [some (.retAddr k)]) (fun v hv => by simp at hv; subst hv; rfl) (Nat.le_of_ble_eq_true rfl) rfl (fun C hC hQ _ => ?_)
  refine k_gsC (q := 3) hC dJ0_isLatin1_aae02_0 rfl ?_
  refine k_if_eq (q := 6) (tgt := 17) hC dJ0_isLatin1_aae02_3 (by decide) rfl (fun h => absurd h (by decide)) (fun _ => ?_)
  refine k_aload_nT (q := 7) hC dJ0_isLatin1_aae02_6 rfl rfl ?_
  refine k_cdr (q := 10) hC hk dJ0_isLatin1_aae02_7 rfl ?_
  refine k_if_ne (q := 13) (tgt := 17) hC dJ0_isLatin1_aae02_10 (by decide) rfl (fun h => absurd rfl h) (fun _ => ?_)
  refine k_iconst (q := 14) (v := (1 : Int32)) hC dJ0_isLatin1_aae02_13 (by decide) rfl ?_
  refine k_goto (tgt := 18) hC dJ0_isLatin1_aae02_14 (by decide) ?_
  exact k_zret (ty := .boolean) hC hQ rfl rfl dJ0_isLatin1_aae02_18
theorem c_pci (e : gEV) (n : Nat) (i m : Int32) (F : Value) (hF : F.category = 1) (h0 : ¬ i < 0) (h1 : i < m) (r : gRH) (x : gXW) : Cal e qJ3_checkIndex_8e157 1 0 0 false n [.int i, .int m, F] r x (some (.int i)) n r x := by
  refine cal_of oJ3_checkIndex_8e157 (lv := [some (.int i), some (.int m), some F]) (fun v hv => by simp at hv; rcases hv with rfl | rfl | rfl <;> first | rfl | exact hF) (Nat.le_of_ble_eq_true rfl) rfl (fun C hC hQ _ => ?_)
  refine k_iload_n (q := 1) hC dJ3_checkIndex_8e157_0 rfl rfl ?_
  refine k_if_lt (q := 4) (tgt := 9) hC dJ3_checkIndex_8e157_1 (by decide) rfl (fun h => absurd h h0) (fun _ => ?_)
  refine k_iload_n (q := 5) hC dJ3_checkIndex_8e157_4 rfl rfl ?_
  refine k_iload_n (q := 6) hC dJ3_checkIndex_8e157_5 rfl rfl ?_
  refine k_icmp_lt (q := 9) (tgt := 16) hC dJ3_checkIndex_8e157_6 (by decide) rfl (fun _ => ?_) (fun h => absurd h1 h)
  refine k_iload_n (q := 17) hC dJ3_checkIndex_8e157_16 rfl rfl ?_
  exact k_iret hC hQ rfl dJ3_checkIndex_8e157_17
theorem c_sci (e : gEV) (n : Nat) (i m : Int32) (h0 : ¬ i < 0) (h1 : i < m) (r : gRH) (x : gXW) : Cal e qJ0_checkIndex_df160 2 0 0 false n [.int i, .int m] r x none n r x := by
  refine cal_of oJ0_checkIndex_df160 (lv := [some (.int i), some (.int m)]) (fun v hv => by simp at hv; rcases hv with rfl | rfl <;> rfl) (Nat.le_of_ble_eq_true rfl) rfl (fun C hC hQ _ => ?_)
  refine k_iload_n (q := 1) hC dJ0_checkIndex_df160_0 rfl rfl ?_
  refine k_iload_n (q := 2) hC dJ0_checkIndex_df160_1 rfl rfl ?_
  refine k_gsF (q := 5) hC dJ0_checkIndex_df160_2 rfl (fun f hf F hF => ?_) (fun f j v hv => ?_) (fun f => rfl)
  · have hC' := COk_env hf hC
    have hQ' := QOk_env (f := f) (v := none) rfl hQ
    refine k_cS1 (q := 8) (av := [.int i, .int m, F]) hC' oJ3_checkIndex_8e157 sJ3_checkIndex_8e157 rfl dJ0_checkIndex_df160_5 lks_ci_p (c_pci (eSK e f) n i m F hF h0 h1 r x) (by decide) rfl (Nat.le_of_ble_eq_true rfl) ab0 rfl ?_
    refine k_pop (q := 9) hC' dJ0_checkIndex_df160_8 rfl rfl ?_
    exact k_vret hC' hQ' rfl dJ0_checkIndex_df160_9
  · match j, hv with
    | 0, hv => cases hv; rfl
    | 1, hv => cases hv; rfl
    | j + 2, hv => simp [lget] at hv
theorem slen_lt {k : Nat} (hk : k < 7) {i : Int32} (hin : vp_in i (slenN k)) : ¬ i < 0 ∧ i < slen k := by
  have hl : slenN k ≤ 1600 := by
    have : ∀ k, k < 7 → slenN k ≤ 1600 := by decide +kernel
    exact this k hk
  refine ⟨fun h => hin (Or.inl h), ?_⟩
  have h1 : i.toNatClampNeg < slenN k := vp_lt hin
  have h0 : (0 : Int) ≤ i.toInt := by
    have := Int32.not_lt.mp (fun h => hin (Or.inl h))
    simpa using Int32.le_iff_toInt_le.mp this
  rw [Int32.lt_iff_toInt_lt]
  show i.toInt < (Int32.ofNat (slenN k)).toInt
  rw [Int32.toInt_ofNat_of_lt (by omega)]
  have e2 : (i.toNatClampNeg : Int) = i.toInt := by
    show ((i.toInt.toNat : Nat) : Int) = i.toInt
    omega
  omega
theorem c_l1c (e : gEV) (n : Nat) (k : Nat) (hk : k < 7) (hv : eK e 100 = eV e k) (i : Int32) (hin : vp_in i (slenN k)) (r : gRH) (x : gXW) : Cal e qJ1_charAt_3b067 3 0 0 false n [.retAddr 100, .int i] r x (some (.int (schar k i))) n r x := by
  refine cal_of oJ1_charAt_3b067 (lv := [some (.retAddr 100), some (.int i)]) (fun v hv => by simp at hv; rcases hv with rfl | rfl <;> rfl) (Nat.le_of_ble_eq_true rfl) rfl (fun C hC hQ _ => ?_)
  obtain ⟨h0, h1⟩ := slen_lt hk hin
  obtain ⟨h2, h3⟩ := schar_ok k hk _ (vp_lt hin)
  refine k_iload_n (q := 1) hC dJ1_charAt_3b067_0 rfl rfl ?_
  refine k_aload_nT (q := 2) hC dJ1_charAt_3b067_1 rfl rfl ?_
  refine k_tln (q := 3) hC hk hv dJ1_charAt_3b067_2 rfl ?_
  refine k_cS0 (q := 6) (av := [.int i, .int (slen k)]) hC oJ0_checkIndex_df160 sJ0_checkIndex_df160 rfl dJ1_charAt_3b067_3 lks_l1_ci (c_sci e n i (slen k) h0 h1 r x) (by decide) rfl (Nat.le_of_ble_eq_true rfl) ab0 rfl ?_
  refine k_aload_nT (q := 7) hC dJ1_charAt_3b067_6 rfl rfl ?_
  refine k_iload_n (q := 8) hC dJ1_charAt_3b067_7 rfl rfl ?_
  refine k_tbl (q := 9) hC hk hv hin dJ1_charAt_3b067_8 rfl ?_
  refine k_sipush (q := 12) (v := (255 : Int32)) hC dJ1_charAt_3b067_9 (by decide) rfl ?_
  refine k_iand (q := 13) hC dJ1_charAt_3b067_12 rfl ?_
  refine k_i2c (q := 14) (y1 := schar k i) hC dJ1_charAt_3b067_13 h2 rfl ?_
  exact k_zret (ty := .char) hC hQ rfl h3 dJ1_charAt_3b067_14
theorem c_slen (e : gEV) (n : Nat) (k : Nat) (hk : k < 7) (r : gRH) (x : gXW) : Cal e qJ0_length_8abf5 3 0 0 false n [.retAddr k] r x (some (.int (slen k))) n r x := by
  refine cal_of oJ0_length_8abf5 (lv := [some (.retAddr k)]) (fun v hv => by simp at hv; subst hv; rfl) (Nat.le_of_ble_eq_true rfl) rfl (fun C hC hQ _ => ?_)
  have hf : ∀ i, i < 100 → (fun i => if i = 100 then eV e k else eK e i) i = eK e i := fun i hi => if_neg (by omega)
  refine KW_env (f := fun i => if i = 100 then eV e k else eK e i) (fun j v hv => ?_) rfl ?_
  · match j, hv with
    | 0, hv =>
      cases hv
      show Value.ref (if k = 100 then eV e k else eK e k) = _
      rw [if_neg (by omega)]
      rfl
    | j + 1, hv => simp [lget] at hv
  · have hC' := COk_env hf hC
    have hQ' := QOk_env (f := fun i => if i = 100 then eV e k else eK e i) (v := some (.int (slen k))) rfl hQ
    have hv : eK (eSK e (fun i => if i = 100 then eV e k else eK e i)) 100 = eV (eSK e (fun i => if i = 100 then eV e k else eK e i)) k := rfl
    generalize eSK e (fun i => if i = 100 then eV e k else eK e i) = e' at hC' hQ' hv ⊢
    refine k_aload_nT (q := 1) hC' dJ0_length_8abf5_0 rfl rfl ?_
    refine k_val (q := 4) hC' hk hv dJ0_length_8abf5_1 rfl ?_
    refine k_tln (q := 5) hC' hk hv dJ0_length_8abf5_4 rfl ?_
    refine k_aload_nT (q := 6) hC' dJ0_length_8abf5_5 rfl rfl ?_
    refine k_cVS1 (q := 9) (k0 := k) (As := []) hC' oJ0_coder_7d493 vJ0_coder_7d493 rfl hk rfl dJ0_length_8abf5_6 lks_len_coder (c_coder e' n k hk r x) (by decide) rfl (Nat.le_of_ble_eq_true rfl) ab0 rfl ?_
    refine k_ishr (q := 10) hC' dJ0_length_8abf5_9 rfl ?_
    refine k_topi (y' := slen k) ?_ (k_iret hC' hQ' rfl dJ0_length_8abf5_10)
    have : ∀ k, k < 7 → slen k >>> ((0 : Int32) &&& 31) = slen k := by decide +kernel
    exact this k hk
theorem c_schar (e : gEV) (n : Nat) (k : Nat) (hk : k < 7) (i : Int32) (r : gRH) (x : gXW) (hin : vp_in i (slenN k)) : Cal e qJ0_charAt_5068e 6 0 0 false n [.retAddr k, .int i] r x (some (.int (schar k i))) n r x := by
  refine cal_of oJ0_charAt_5068e (lv := [some (.retAddr k), some (.int i)]) (fun v hv => by simp at hv; rcases hv with rfl | rfl <;> rfl) (Nat.le_of_ble_eq_true rfl) rfl (fun C hC hQ _ => ?_)
  obtain ⟨h2, h3⟩ := schar_ok k hk _ (vp_lt hin)
  have hf : ∀ i, i < 100 → (fun i => if i = 100 then eV e k else eK e i) i = eK e i := fun i hi => if_neg (by omega)
  refine KW_env (f := fun i => if i = 100 then eV e k else eK e i) (fun j v hv => ?_) rfl ?_
  · match j, hv with
    | 0, hv =>
      cases hv
      show Value.ref (if k = 100 then eV e k else eK e k) = _
      rw [if_neg (by omega)]
      rfl
    | 1, hv => cases hv; rfl
    | j + 2, hv => simp [lget] at hv
  · have hC' := COk_env hf hC
    have hQ' := QOk_env (f := fun i => if i = 100 then eV e k else eK e i) (v := some (.int (schar k i))) rfl hQ
    have hv : eK (eSK e (fun i => if i = 100 then eV e k else eK e i)) 100 = eV (eSK e (fun i => if i = 100 then eV e k else eK e i)) k := rfl
    generalize eSK e (fun i => if i = 100 then eV e k else eK e i) = e' at hC' hQ' hv ⊢
    refine k_aload_nT (q := 1) hC' dJ0_charAt_5068e_0 rfl rfl ?_
    refine k_cVS1 (q := 4) (k0 := k) (As := []) hC' oJ0_isLatin1_aae02 vJ0_isLatin1_aae02 rfl hk rfl dJ0_charAt_5068e_1 lks_chr_lat (c_isLatin1 e' n k hk r x) (by decide) rfl (Nat.le_of_ble_eq_true rfl) ab0 rfl ?_
    refine k_if_eq (q := 7) (tgt := 16) hC' dJ0_charAt_5068e_4 (by decide) rfl (fun h => absurd h (by decide)) (fun _ => ?_)
    refine k_aload_nT (q := 8) hC' dJ0_charAt_5068e_7 rfl rfl ?_
    refine k_val (q := 11) hC' hk hv dJ0_charAt_5068e_8 rfl ?_
    refine k_iload_n (q := 12) hC' dJ0_charAt_5068e_11 rfl rfl ?_
    refine k_cS1 (q := 15) (av := [.retAddr 100, .int i]) hC' oJ1_charAt_3b067 sJ1_charAt_3b067 rfl dJ0_charAt_5068e_12 lks_chr_l1 (c_l1c e' n k hk hv i hin r x) (by decide) rfl (Nat.le_of_ble_eq_true rfl) ab0 rfl ?_
    exact k_zret (ty := .char) hC' hQ' rfl h3 dJ0_charAt_5068e_15
