/-! FIRST PIECES: rows by guarded places; guards of the roles -/
theorem vp_lt {i : Int32} {L : Nat} (h : vp_in i L) : i.toNatClampNeg < L := Nat.not_le.mp (fun q => h (Or.inr q))
def gnN {α : Type} (g : Nat) (k : Option α) : Option α := if g ∈ [7, 11, 15, 21, 25, 29, 33, 37, 41, 45, 49] then k else none
theorem gnN_some {α : Type} {g : Nat} {k : Option α} {o : α} (h : gnN g k = some o) : IsN g ∧ k = some o := by
  unfold gnN at h
  split at h
  · exact ⟨by assumption, h⟩
  · cases h
def gnG {α : Type} (fa tr : Nat) (k : Option α) : Option α := if (fa = 71 ∧ tr = 76) ∨ (fa = 76 ∧ tr = 71) then k else none
theorem gnG_some {α : Type} {fa tr : Nat} {k : Option α} {o : α} (h : gnG fa tr k = some o) : (IsG fa ∧ IsG tr) ∧ k = some o := by
  unfold gnG at h
  split at h
  · rename_i hq
    refine ⟨?_, h⟩
    rcases hq with ⟨rfl, rfl⟩ | ⟨rfl, rfl⟩ <;> simp [IsG]
  · cases h
theorem gKD_all : ∀ k ∈ gKD, ∀ t L, k.2 = .inr (t, L) → L ≤ 1600 := by
  have h : gKD.all (fun k => match k.2 with | .inr (_, L) => decide (L ≤ 1600) | _ => true) = true := by decide +kernel
  intro k hk t L he
  have h2 := List.all_eq_true.mp h k hk
  rw [he] at h2
  simpa using h2
theorem kdn_len {n c sd t L : Nat} (h : kdn n c = some (sd, .inr (t, L))) : L ≤ 1600 := gKD_all _ (List.mem_of_getElem? (kdn_lt h).2) t L rfl
def atv (xc : gXH) (c L : Nat) (i : Int32) : Int32 := if 0 ≤ i ∧ i < Int32.ofNat L then xc.1 c i.toNatClampNeg else 0
def putv (xc : gXH) (c L : Nat) (i v : Int32) : gXH := if 0 ≤ i ∧ i < Int32.ofNat L then sI xc c i.toNatClampNeg v else xc
theorem gin {i : Int32} {L : Nat} (hL : L ≤ 1600) (h0 : 0 ≤ i) (h1 : i < Int32.ofNat L) : vp_in i L := by
  have e0 : (0 : Int) ≤ i.toInt := by simpa using Int32.le_iff_toInt_le.mp h0
  have e1 : i.toInt < (Int32.ofNat L).toInt := Int32.lt_iff_toInt_lt.mp h1
  rw [Int32.toInt_ofNat_of_lt (by omega)] at e1
  intro q
  rcases q with q | q
  · have := Int32.lt_iff_toInt_lt.mp q
    simp at this
    omega
  · have e2 : (i.toNatClampNeg : Int) = i.toInt := by
      show ((i.toInt.toNat : Nat) : Int) = i.toInt
      omega
    omega
theorem gck_in {α : Type} {i : Int32} {L : Nat} {k : Option α} (h : vp_in i L) : gck L i k = k := by
  unfold gck
  exact if_neg h
def f_X9_at (c0 L0 : Nat) (xc : gXH) (a1 : Int32) : Option (Int32) := if a1 < (0 : Int32) then (some (0 : Int32)) else (if (Int32.ofNat L0) ≤ a1 then (some (0 : Int32)) else (gck L0 a1 (some (xc.1 c0 a1.toNatClampNeg))))
set_option maxRecDepth 100000 in
set_option maxHeartbeats 8000000 in
theorem cp_X9_at (e : gEV) (n : Nat) (hn : 81 ≤ n) (c0 L0 : Nat) (hc0 : kdn n c0 = some (0, .inr (0, L0))) (r : gRH) (xc : gXH) (z : gIH × gLH) (a1 : Int32) (o : Int32) (hf : f_X9_at c0 L0 xc a1 = some o) : Cal e qX9_at 2 0 0 false n [.ref c0, .int a1] r (xc, z) (some (.int o)) n r (xc, z) := by
  refine cal_of oX9_at (lv := [some (.ref c0), some (.int a1)]) (fun v hv => by simp at hv; rcases hv with rfl | rfl <;> rfl) (Nat.le_of_ble_eq_true rfl) rfl (fun C hC hQ _ => ?_)
  unfold f_X9_at at hf
  refine k_iload_n (q := 1) hC dX9_at_0 rfl rfl ?_
  refine k_if_lt (q := 4) (tgt := 16) hC dX9_at_1 (by decide) rfl (fun hc => ?_) (fun hc => ?_)
  · have hf := itl hc hf
    refine k_iconst (q := 17) (v := (0 : Int32)) hC dX9_at_16 (by decide) rfl ?_
    cases hf
    exact k_iret hC hQ rfl dX9_at_17
  · have hf := itr hc hf
    refine k_iload_n (q := 5) hC dX9_at_4 rfl rfl ?_
    refine k_aload_n (q := 6) hC dX9_at_5 rfl rfl ?_
    refine k_alen (q := 7) (y := (Int32.ofNat L0)) hC dX9_at_6 hc0 (fun _ => rfl) rfl rfl ?_
    refine k_icmp_ge (q := 10) (tgt := 16) hC dX9_at_7 (by decide) rfl (fun hc => ?_) (fun hc => ?_)
    · have hf := itl hc hf
      refine k_iconst (q := 17) (v := (0 : Int32)) hC dX9_at_16 (by decide) rfl ?_
      cases hf
      exact k_iret hC hQ rfl dX9_at_17
    · have hf := itr hc hf
      refine k_aload_n (q := 11) hC dX9_at_10 rfl rfl ?_
      refine k_iload_n (q := 12) hC dX9_at_11 rfl rfl ?_
      obtain ⟨hin, hf⟩ := gck_some hf
      refine k_ialdC (q := 13) hC dX9_at_12 hc0 hin rfl ?_
      refine k_goto (tgt := 17) hC dX9_at_13 (by decide) ?_
      cases hf
      exact k_iret hC hQ rfl dX9_at_17

def f_X9_put (c0 L0 : Nat) (xc : gXH) (a1 : Int32) (a2 : Int32) : Option (gXH) := if a1 < (0 : Int32) then (some xc) else (if (Int32.ofNat L0) ≤ a1 then (some xc) else (gck L0 a1 (lt (sI xc c0 a1.toNatClampNeg a2) (fun x1 => some x1))))
set_option maxRecDepth 100000 in
set_option maxHeartbeats 8000000 in
theorem cp_X9_put (e : gEV) (n : Nat) (hn : 81 ≤ n) (c0 L0 : Nat) (hc0 : kdn n c0 = some (0, .inr (0, L0))) (r : gRH) (xc : gXH) (z : gIH × gLH) (a1 : Int32) (a2 : Int32) (o : gXH) (hf : f_X9_put c0 L0 xc a1 a2 = some o) : Cal e qX9_put 2 0 0 false n [.ref c0, .int a1, .int a2] r (xc, z) none n r (o, z) := by
  refine cal_of oX9_put (lv := [some (.ref c0), some (.int a1), some (.int a2)]) (fun v hv => by simp at hv; rcases hv with rfl | rfl | rfl <;> rfl) (Nat.le_of_ble_eq_true rfl) rfl (fun C hC hQ _ => ?_)
  unfold f_X9_put at hf
  refine k_iload_n (q := 1) hC dX9_put_0 rfl rfl ?_
  refine k_if_lt (q := 4) (tgt := 14) hC dX9_put_1 (by decide) rfl (fun hc => ?_) (fun hc => ?_)
  · have hf := itl hc hf
    cases hf
    exact k_vret hC hQ rfl dX9_put_14
  · have hf := itr hc hf
    refine k_iload_n (q := 5) hC dX9_put_4 rfl rfl ?_
    refine k_aload_n (q := 6) hC dX9_put_5 rfl rfl ?_
    refine k_alen (q := 7) (y := (Int32.ofNat L0)) hC dX9_put_6 hc0 (fun _ => rfl) rfl rfl ?_
    refine k_icmp_ge (q := 10) (tgt := 14) hC dX9_put_7 (by decide) rfl (fun hc => ?_) (fun hc => ?_)
    · have hf := itl hc hf
      cases hf
      exact k_vret hC hQ rfl dX9_put_14
    · have hf := itr hc hf
      refine k_aload_n (q := 11) hC dX9_put_10 rfl rfl ?_
      refine k_iload_n (q := 12) hC dX9_put_11 rfl rfl ?_
      refine k_iload_n (q := 13) hC dX9_put_12 rfl rfl ?_
      obtain ⟨hin, hf⟩ := gck_some hf
      obtain ⟨x1, ex1, hf⟩ := lt_i hf
      refine k_iast (q := 14) hC dX9_put_13 hc0 hin rfl ?_
      refine k_hc ex1 ?_
      cases hf
      exact k_vret hC hQ rfl dX9_put_14
theorem f_at_eq {c L : Nat} {xc : gXH} {i : Int32} (hL : L ≤ 1600) : f_X9_at c L xc i = some (atv xc c L i) := by
  unfold f_X9_at atv
  by_cases h0 : i < 0
  · rw [if_pos h0, if_neg (fun q => Int32.not_le.mpr h0 q.1)]
  · rw [if_neg h0]
    have h0' : 0 ≤ i := Int32.not_lt.mp h0
    by_cases h1 : Int32.ofNat L ≤ i
    · rw [if_pos h1, if_neg (fun q => Int32.not_le.mpr q.2 h1)]
    · have h1' : i < Int32.ofNat L := Int32.not_le.mp h1
      rw [if_neg h1, gck_in (gin hL h0' h1'), if_pos ⟨h0', h1'⟩]
theorem f_put_eq {c L : Nat} {xc : gXH} {i v : Int32} (hL : L ≤ 1600) : f_X9_put c L xc i v = some (putv xc c L i v) := by
  unfold f_X9_put putv
  by_cases h0 : i < 0
  · rw [if_pos h0, if_neg (fun q => Int32.not_le.mpr h0 q.1)]
  · rw [if_neg h0]
    have h0' : 0 ≤ i := Int32.not_lt.mp h0
    by_cases h1 : Int32.ofNat L ≤ i
    · rw [if_pos h1, if_neg (fun q => Int32.not_le.mpr q.2 h1)]
    · have h1' : i < Int32.ofNat L := Int32.not_le.mp h1
      rw [if_neg h1, gck_in (gin hL h0' h1'), if_pos ⟨h0', h1'⟩]
      rfl
theorem c_X9_at (e : gEV) (n : Nat) (hn : 81 ≤ n) (c0 L0 : Nat) (hc0 : kdn n c0 = some (0, .inr (0, L0))) (r : gRH) (xc : gXH) (z : gIH × gLH) (a1 : Int32) : Cal e qX9_at 2 0 0 false n [.ref c0, .int a1] r (xc, z) (some (.int (atv xc c0 L0 a1))) n r (xc, z) :=
  cp_X9_at e n hn c0 L0 hc0 r xc z a1 _ (f_at_eq (kdn_len hc0))
theorem c_X9_put (e : gEV) (n : Nat) (hn : 81 ≤ n) (c0 L0 : Nat) (hc0 : kdn n c0 = some (0, .inr (0, L0))) (r : gRH) (xc : gXH) (z : gIH × gLH) (a1 a2 : Int32) : Cal e qX9_put 2 0 0 false n [.ref c0, .int a1, .int a2] r (xc, z) none n r (putv xc c0 L0 a1 a2, z) :=
  cp_X9_put e n hn c0 L0 hc0 r xc z a1 a2 _ (f_put_eq (kdn_len hc0))
