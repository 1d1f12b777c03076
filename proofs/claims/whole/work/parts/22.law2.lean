/-! THE LAW'S BODY over an invariant Rel of both heaps: what the calls must answer alike -/
abbrev gRel : Type := gXH → Nat → Nat → (Nat → Nat) → gIH → Prop
def Agr (L : List Nat) (v : Int32 ⊕ Nat) (r t : Int32) : Prop := t = wcode L v ∧ (∀ k, v = .inr k → k ∈ L) ∧ ∀ i, v = .inl i → r = i
def AgU (L : List Nat) (v : Unit ⊕ Nat) (t : Int32) : Prop := t = wcode L v ∧ (∀ k, v = .inr k → k ∈ L)
def M0 (Rel : gRel) : Prop := ∀ (xc : gXH) (fa tr : Nat) (pm : Nat → Nat) (hm : gIH), Rel xc fa tr pm hm → ∀ a1 : Int32, ∀ a2 : Int32, ∀ a3 : Int32, ∀ a4 : Int32, ∀ a5 : Int32, ∃ o, f_X9_feed xc a1 a2 a3 a4 a5 = some o ∧ ∃ z, f_X10_feed hm a1 a2 a3 a4 a5 = some z ∧ Rel o.2 fa tr pm z.2 ∧ o.1 = z.1
def M1 (Rel : gRel) : Prop := ∀ (xc : gXH) (fa tr : Nat) (pm : Nat → Nat) (hm : gIH), Rel xc fa tr pm hm → ∀ a1 : Int32, ∃ o, f_X9_end xc a1 = o ∧ ∃ z, f_X10_end hm a1 = z ∧ Rel o.2 fa tr pm z.2 ∧ o.1 = z.1
def M2 (Rel : gRel) : Prop := ∀ (xc : gXH) (fa tr : Nat) (pm : Nat → Nat) (hm : gIH), Rel xc fa tr pm hm → ∃ o, f_X9_acts fa tr pm xc = some o ∧ ∃ z, f_X10_acts hm = some z ∧ Rel o.2.1 o.2.2.1 o.2.2.2.1 o.2.2.2.2 z.2 ∧ Agr [0] o.1 z.1 (f_X10_thrown z.2)
def M3 (Rel : gRel) : Prop := ∀ (xc : gXH) (fa tr : Nat) (pm : Nat → Nat) (hm : gIH), Rel xc fa tr pm hm → ∃ o, o = f_X9_fault xc ∧ ∃ z, f_X10_fault hm = z ∧ Rel xc fa tr pm z.2 ∧ o = z.1
def M4 (Rel : gRel) : Prop := ∀ (xc : gXH) (fa tr : Nat) (pm : Nat → Nat) (hm : gIH), Rel xc fa tr pm hm → ∃ o, o = f_X9_why xc ∧ ∃ z, f_X10_why hm = z ∧ Rel xc fa tr pm z.2 ∧ o = z.1
def M5 (Rel : gRel) : Prop := ∀ (xc : gXH) (fa tr : Nat) (pm : Nat → Nat) (hm : gIH), Rel xc fa tr pm hm → ∀ a1 : Int32, ∃ o, f_X9_net fa tr pm xc a1 = some o ∧ ∃ z, f_X10_net hm a1 = some z ∧ Rel o.2.1 o.2.2.1 o.2.2.2.1 o.2.2.2.2 z ∧ AgU [0] o.1 (f_X10_thrown z)
def M6 (Rel : gRel) : Prop := ∀ (xc : gXH) (fa tr : Nat) (pm : Nat → Nat) (hm : gIH), Rel xc fa tr pm hm → ∀ a1 : Int32, ∀ a2 : Int32, (a2 = 0 ∨ a2 = 1) → ∃ o, f_X9_tell fa tr pm xc a1 a2 = some o ∧ ∃ z, f_X10_tell hm a1 a2 = some z ∧ Rel o.2.1 o.2.2.1 o.2.2.2.1 o.2.2.2.2 z.2 ∧ Agr [1] o.1 z.1 (f_X10_thrown z.2)
def M7 (Rel : gRel) : Prop := ∀ (xc : gXH) (fa tr : Nat) (pm : Nat → Nat) (hm : gIH), Rel xc fa tr pm hm → ∀ a1 : Int32, ∀ a2 : Int32, ∃ o, f_X9_lay fa tr pm xc a1 a2 = some o ∧ ∃ z, f_X10_lay hm a1 a2 = some z ∧ Rel o.2.1 o.2.2.1 o.2.2.2.1 o.2.2.2.2 z.2 ∧ Agr [1] o.1 z.1 (f_X10_thrown z.2)
def M8 (Rel : gRel) : Prop := ∀ (xc : gXH) (fa tr : Nat) (pm : Nat → Nat) (hm : gIH), Rel xc fa tr pm hm → ∀ a1 : Int32, ∃ o, f_X9_shut fa tr pm xc a1 = some o ∧ ∃ z, f_X10_shut hm a1 = some z ∧ Rel o.2.1 o.2.2.1 o.2.2.2.1 o.2.2.2.2 z.2 ∧ Agr [1] o.1 z.1 (f_X10_thrown z.2)
def M9 (Rel : gRel) : Prop := ∀ (xc : gXH) (fa tr : Nat) (pm : Nat → Nat) (hm : gIH), Rel xc fa tr pm hm → ∀ a1 : Int32, ∃ o, f_X9_open fa tr pm xc a1 = some o ∧ ∃ z, f_X10_open hm a1 = some z ∧ Rel o.2.1 o.2.2.1 o.2.2.2.1 o.2.2.2.2 z.2 ∧ Agr [1] o.1 z.1 (f_X10_thrown z.2)
def M10 (Rel : gRel) : Prop := ∀ (xc : gXH) (fa tr : Nat) (pm : Nat → Nat) (hm : gIH), Rel xc fa tr pm hm → ∀ a1 : Int32, ∀ a2 : Int32, ∃ o, f_X9_toll fa tr pm xc a1 a2 = some o ∧ ∃ z, f_X10_toll hm a1 a2 = some z ∧ Rel o.2.1 o.2.2.1 o.2.2.2.1 o.2.2.2.2 z.2 ∧ Agr [0, 1] o.1 z.1 (f_X10_thrown z.2)
def M11 (Rel : gRel) : Prop := ∀ (xc : gXH) (fa tr : Nat) (pm : Nat → Nat) (hm : gIH), Rel xc fa tr pm hm → ∃ o, f_X9_undo fa tr pm xc = some o ∧ ∃ z, f_X10_undo hm = some z ∧ Rel o.2.1 o.2.2.1 o.2.2.2.1 o.2.2.2.2 z.2 ∧ Agr [1] o.1 z.1 (f_X10_thrown z.2)
def M12 (Rel : gRel) : Prop := ∀ (xc : gXH) (fa tr : Nat) (pm : Nat → Nat) (hm : gIH), Rel xc fa tr pm hm → ∀ a1 : Int32, ∃ o, f_X9_latest xc a1 = o ∧ ∃ z, f_X10_latest hm a1 = z ∧ Rel xc fa tr pm z.2 ∧ Agr [3] o z.1 (f_X10_thrown z.2)
def M13 (Rel : gRel) : Prop := ∀ (xc : gXH) (fa tr : Nat) (pm : Nat → Nat) (hm : gIH), Rel xc fa tr pm hm → ∀ a1 : Int32, ∀ a2 : Int32, ∃ o, f_X9_node fa tr xc a1 a2 = some o ∧ ∃ z, f_X10_node hm a1 a2 = some z ∧ Rel o.2 fa tr pm z.2 ∧ Agr [2, 3] o.1 z.1 (f_X10_thrown z.2)
def M14 (Rel : gRel) : Prop := ∀ (xc : gXH) (fa tr : Nat) (pm : Nat → Nat) (hm : gIH), Rel xc fa tr pm hm → ∀ a1 : Int32, ∀ a2 : Int32, ∃ o, f_X9_keeps fa xc a1 a2 = o ∧ ∃ z, f_X10_keeps hm a1 a2 = some z ∧ Rel xc fa tr pm z.2 ∧ Agr [2] o z.1 (f_X10_thrown z.2)
def M15 (Rel : gRel) : Prop := ∀ (xc : gXH) (fa tr : Nat) (pm : Nat → Nat) (hm : gIH), Rel xc fa tr pm hm → ∀ a1 : Int32, ∀ a2 : Int32, ∃ o, f_X9_common fa xc a1 a2 = some o ∧ ∃ z, f_X10_common hm a1 a2 = some z ∧ Rel xc fa tr pm z.2 ∧ Agr [2] o z.1 (f_X10_thrown z.2)
def M16 (Rel : gRel) : Prop := ∀ (xc : gXH) (fa tr : Nat) (pm : Nat → Nat) (hm : gIH), Rel xc fa tr pm hm → ∀ a1 : Int32, ∃ o, f_X9_walk fa xc a1 = some o ∧ ∃ z, f_X10_walk hm a1 = some z ∧ Rel o.2 fa tr pm z.2 ∧ o.1 = z.1
def M17 (Rel : gRel) : Prop := ∀ (xc : gXH) (fa tr : Nat) (pm : Nat → Nat) (hm : gIH), Rel xc fa tr pm hm → ∀ a1 : Int32, ∀ a2 : Int32, ∃ o, f_X9_arc fa tr xc a1 a2 = some o ∧ ∃ z, f_X10_arc hm a1 a2 = some z ∧ Rel o.2 fa tr pm z.2 ∧ Agr [2, 3] o.1 z.1 (f_X10_thrown z.2)
def M18 (Rel : gRel) : Prop := ∀ (xc : gXH) (fa tr : Nat) (pm : Nat → Nat) (hm : gIH), Rel xc fa tr pm hm → ∀ a1 : Int32, ∃ o, f_X9_without fa xc a1 = o ∧ ∃ z, f_X10_without hm a1 = some z ∧ Rel xc fa tr pm z.2 ∧ Agr [2] o z.1 (f_X10_thrown z.2)
def M19 (Rel : gRel) : Prop := ∀ (xc : gXH) (fa tr : Nat) (pm : Nat → Nat) (hm : gIH), Rel xc fa tr pm hm → ∀ a1 : Int32, ∃ o, f_X9_seal fa xc a1 = some o ∧ ∃ z, f_X10_seal hm a1 = some z ∧ Rel xc fa tr pm z.2 ∧ Agr [0] o z.1 (f_X10_thrown z.2)
def M20 (Rel : gRel) : Prop := ∀ (xc : gXH) (fa tr : Nat) (pm : Nat → Nat) (hm : gIH), Rel xc fa tr pm hm → ∀ a1 : Int32, ∀ a2 : Int32, ∃ o, f_X9_chain fa xc a1 a2 = some o ∧ ∃ z, f_X10_chain hm a1 a2 = some z ∧ Rel xc fa tr pm z.2 ∧ Agr [2] o z.1 (f_X10_thrown z.2)
def M21 (Rel : gRel) : Prop := ∀ (xc : gXH) (fa tr : Nat) (pm : Nat → Nat) (hm : gIH), Rel xc fa tr pm hm → ∀ a1 : Int32, ∃ o, f_X9_level fa xc a1 = some o ∧ ∃ z, f_X10_level hm a1 = some z ∧ Rel xc fa tr pm z.2 ∧ o = z.1
def M22 (Rel : gRel) : Prop := ∀ (xc : gXH) (fa tr : Nat) (pm : Nat → Nat) (hm : gIH), Rel xc fa tr pm hm → ∀ a1 : Int32, ∀ a2 : Int32, ∃ o, f_X9_via fa xc a1 a2 = some o ∧ ∃ z, f_X10_via hm a1 a2 = some z ∧ Rel xc fa tr pm z.2 ∧ Agr [2] o z.1 (f_X10_thrown z.2)
def M23 (Rel : gRel) : Prop := ∀ (xc : gXH) (fa tr : Nat) (pm : Nat → Nat) (hm : gIH), Rel xc fa tr pm hm → ∀ a1 : Int32, ∀ a2 : Int32, ∃ o, f_X9_pass fa tr xc a1 a2 = some o ∧ ∃ z, f_X10_pass hm a1 a2 = some z ∧ Rel o.2 fa tr pm z.2 ∧ Agr [2] o.1 z.1 (f_X10_thrown z.2)
def M24 (Rel : gRel) : Prop := ∀ (xc : gXH) (fa tr : Nat) (pm : Nat → Nat) (hm : gIH), Rel xc fa tr pm hm → ∀ a1 : Int32, ∀ a2 : Int32, ∃ o, f_X9_fall fa tr xc a1 a2 = some o ∧ ∃ z, f_X10_fall hm a1 a2 = some z ∧ Rel o.2 fa tr pm z.2 ∧ Agr [2, 3, 1] o.1 z.1 (f_X10_thrown z.2)
def M25 (Rel : gRel) : Prop := ∀ (xc : gXH) (fa tr : Nat) (pm : Nat → Nat) (hm : gIH), Rel xc fa tr pm hm → ∀ a1 : Int32, ∃ o, f_X9_row fa xc a1 = some o ∧ ∃ z, f_X10_row hm a1 = some z ∧ Rel xc fa tr pm z.2 ∧ o = z.1
def M26 (Rel : gRel) : Prop := ∀ (xc : gXH) (fa tr : Nat) (pm : Nat → Nat) (hm : gIH), Rel xc fa tr pm hm → ∀ a1 : Int32, ∃ o, f_X9_worst fa tr xc a1 = some o ∧ ∃ z, f_X10_worst hm a1 = some z ∧ Rel o.2 fa tr pm z.2 ∧ Agr [3] o.1 z.1 (f_X10_thrown z.2)
def M27 (Rel : gRel) : Prop := ∀ (xc : gXH) (fa tr : Nat) (pm : Nat → Nat) (hm : gIH), Rel xc fa tr pm hm → ∀ a1 : Int32, ∀ a2 : Int32, ∀ a3 : Int32, ∃ o, f_X9_would fa tr xc a1 a2 a3 = some o ∧ ∃ z, f_X10_would hm a1 a2 a3 = some z ∧ Rel o.2 fa tr pm z.2 ∧ Agr [2, 3] o.1 z.1 (f_X10_thrown z.2)
def M28 (Rel : gRel) : Prop := ∀ (xc : gXH) (fa tr : Nat) (pm : Nat → Nat) (hm : gIH), Rel xc fa tr pm hm → ∀ a1 : Int32, ∃ o, f_X9_best fa xc a1 = some o ∧ ∃ z, f_X10_best hm a1 = some z ∧ Rel o.2 fa tr pm z.2 ∧ Agr [3] o.1 z.1 (f_X10_thrown z.2)
def M29 (Rel : gRel) : Prop := ∀ (xc : gXH) (fa tr : Nat) (pm : Nat → Nat) (hm : gIH), Rel xc fa tr pm hm → ∀ a1 : Int32, ∃ o, f_X9_text fa xc a1 = some o ∧ ∃ z, f_X10_text hm a1 = some z ∧ Rel o.2 fa tr pm z.2 ∧ Agr [2] o.1 z.1 (f_X10_thrown z.2)
def M30 (Rel : gRel) : Prop := ∀ (xc : gXH) (fa tr : Nat) (pm : Nat → Nat) (hm : gIH), Rel xc fa tr pm hm → ∀ a1 : Int32, ∃ o, f_X9_octet xc a1 = some o ∧ ∃ z, f_X10_octet hm a1 = some z ∧ Rel xc fa tr pm z.2 ∧ o = z.1
def M31 (Rel : gRel) : Prop := ∀ (xc : gXH) (fa tr : Nat) (pm : Nat → Nat) (hm : gIH), Rel xc fa tr pm hm → ∃ o, f_X9_image xc = o ∧ ∃ z, f_X10_image hm = some z ∧ Rel o fa tr pm z ∧ True
def M32 (Rel : gRel) : Prop := ∀ (xc : gXH) (fa tr : Nat) (pm : Nat → Nat) (hm : gIH), Rel xc fa tr pm hm → ∃ o, f_X9_back fa tr pm xc = some o ∧ ∃ z, f_X10_back hm = some z ∧ Rel o.2.1 o.2.2.1 o.2.2.2.1 o.2.2.2.2 z.2 ∧ o.1 = z.1
def M33 (Rel : gRel) : Prop := ∀ (xc : gXH) (fa tr : Nat) (pm : Nat → Nat) (hm : gIH), Rel xc fa tr pm hm → ∀ a1 : Int32, ∃ o, f_X9_count fa tr xc a1 = some o ∧ ∃ z, f_X10_count hm a1 = some z ∧ Rel o.2 fa tr pm z.2 ∧ o.1 = z.1
def MG (Rel : gRel) : Prop := ∀ (xc : gXH) (fa tr : Nat) (pm : Nat → Nat) (hm : gIH), Rel xc fa tr pm hm → IsG fa ∧ IsG tr
theorem wcode_zero {L : List Nat} {α : Type} {v : α ⊕ Nat} (hL : L.length ≤ 100) (h : wcode L v = 0) (hv : ∀ k, v = .inr k → k ∈ L) : ∃ i, v = .inl i := by
  cases v with
  | inl i => exact ⟨i, rfl⟩
  | inr k =>
    exfalso
    have h1 : L.idxOf k < L.length := List.idxOf_lt_length_of_mem (hv k rfl)
    have h2 : (Int32.ofNat (L.idxOf k + 1)).toInt = ((L.idxOf k + 1 : Nat) : Int) := Int32.toInt_ofNat_of_lt (by omega)
    have h3 : Int32.ofNat (L.idxOf k + 1) = 0 := h
    rw [h3] at h2
    simp at h2
    omega
def lvL (i : Int32) : List (Option Value) := [some (.float 0), some (.ref 0), some (.ref 81), some (.ref 99), some (.int i), none, none]
set_option maxRecDepth 100000 in
set_option maxHeartbeats 8000000 in
theorem lc_0 {e : gEV} {C : gCx} (hC : COk e C cL_law 7 RL 2048 601024 7293034) {Ln : Nat} {xs : Nat → Int32} (hX : gScr e C Ln xs) (hl : (eL e).stackTraces = false) {Rel : gRel} (hG : MG Rel) (hM : M0 Rel) {a b : Nat} (hab : a + 1 ≤ 601024 ∧ b + 6 ≤ 7293034) {i : Int32} (hv1 : vp_in (i + (1 : Int32)) Ln) (hv2 : vp_in (i + (2 : Int32)) Ln) (hv3 : vp_in (i + (3 : Int32)) Ln) (hv4 : vp_in (i + (4 : Int32)) Ln) (hv5 : vp_in (i + (5 : Int32)) Ln) {xc : gXH} {fa tr : Nat} {pm : Nat → Nat} {hm : gIH} {lo : gLH} (hR : Rel xc fa tr pm hm)
    (kk : ∀ xc fa tr pm hm lo a' b', Rel xc fa tr pm hm → a' ≤ a + 1 → b' ≤ b + 6 → KW e C (100, a', b') 1888 (lvL i) [] (RR fa tr pm) (xc, hm, lo)) : KW e C (100, a, b) 192 (lvL i) [] (RR fa tr pm) (xc, hm, lo) := by
  obtain ⟨hfa, htr⟩ := hG _ _ _ _ _ hR
  have h0 : a + 0 ≤ 601024 ∧ b + 0 ≤ 7293034 := ⟨by omega, by omega⟩
  have h1 : a + 1 + 0 ≤ 601024 ∧ b + 6 + 0 ≤ 7293034 := ⟨by omega, by omega⟩
  obtain ⟨a1, ha1⟩ : ∃ y, xs (i + (1 : Int32)).toNatClampNeg = y := ⟨_, rfl⟩
  obtain ⟨a2, ha2⟩ : ∃ y, xs (i + (2 : Int32)).toNatClampNeg = y := ⟨_, rfl⟩
  obtain ⟨a3, ha3⟩ : ∃ y, xs (i + (3 : Int32)).toNatClampNeg = y := ⟨_, rfl⟩
  obtain ⟨a4, ha4⟩ : ∃ y, xs (i + (4 : Int32)).toNatClampNeg = y := ⟨_, rfl⟩
  obtain ⟨a5, ha5⟩ : ∃ y, xs (i + (5 : Int32)).toNatClampNeg = y := ⟨_, rfl⟩
  unfold lvL
  obtain ⟨o, ho, z, hz, hR2, hag⟩ := hM _ _ _ _ _ hR a1 a2 a3 a4 a5
  refine k_aload_n (q := 193) hC dL_law_192 rfl rfl ?_
  refine k_aload_nS (q := 194) hC dL_law_193 rfl rfl ?_
  refine k_iload (q := 196) hC dL_law_194 rfl rfl ?_
  refine k_iconst (q := 197) (v := (1 : Int32)) hC dL_law_196 (by decide) rfl ?_
  refine k_iadd (q := 198) hC dL_law_197 rfl ?_
  refine k_sld (q := 199) (y := a1) hC hX dL_law_198 hv1 ha1 rfl ?_
  refine k_aload_nS (q := 200) hC dL_law_199 rfl rfl ?_
  refine k_iload (q := 202) hC dL_law_200 rfl rfl ?_
  refine k_iconst (q := 203) (v := (2 : Int32)) hC dL_law_202 (by decide) rfl ?_
  refine k_iadd (q := 204) hC dL_law_203 rfl ?_
  refine k_sld (q := 205) (y := a2) hC hX dL_law_204 hv2 ha2 rfl ?_
  refine k_aload_nS (q := 206) hC dL_law_205 rfl rfl ?_
  refine k_iload (q := 208) hC dL_law_206 rfl rfl ?_
  refine k_iconst (q := 209) (v := (3 : Int32)) hC dL_law_208 (by decide) rfl ?_
  refine k_iadd (q := 210) hC dL_law_209 rfl ?_
  refine k_sld (q := 211) (y := a3) hC hX dL_law_210 hv3 ha3 rfl ?_
  refine k_aload_nS (q := 212) hC dL_law_211 rfl rfl ?_
  refine k_iload (q := 214) hC dL_law_212 rfl rfl ?_
  refine k_iconst (q := 215) (v := (4 : Int32)) hC dL_law_214 (by decide) rfl ?_
  refine k_iadd (q := 216) hC dL_law_215 rfl ?_
  refine k_sld (q := 217) (y := a4) hC hX dL_law_216 hv4 ha4 rfl ?_
  refine k_aload_nS (q := 218) hC dL_law_217 rfl rfl ?_
  refine k_iload (q := 220) hC dL_law_218 rfl rfl ?_
  refine k_iconst (q := 221) (v := (5 : Int32)) hC dL_law_220 (by decide) rfl ?_
  refine k_iadd (q := 222) hC dL_law_221 rfl ?_
  refine k_sld (q := 223) (y := a5) hC hX dL_law_222 hv5 ha5 rfl ?_
  refine k_callV (q := 226) (ex := false) (av := [.ref 0, .int a1, .int a2, .int a3, .int a4, .int a5]) (c0 := 0) (As := [.int a1, .int a2, .int a3, .int a4, .int a5]) (cm := 0) (sm := 0) hC oX9_feed vX9_feed rfl rfl (kd0 (n := 100) (by decide)) rfl rfl dL_law_223 lk_L_97 (c_X9_feed e 100 (by decide) fa tr pm xc (hm, lo) a1 a2 a3 a4 a5 o ho) (by decide) rfl (Nat.le_of_ble_eq_true rfl) h0 (fun h => Bool.noConfusion h) rfl rfl ?_
  refine k_aload_n (q := 227) hC dL_law_226 rfl rfl ?_
  refine k_aload_nS (q := 228) hC dL_law_227 rfl rfl ?_
  refine k_iload (q := 230) hC dL_law_228 rfl rfl ?_
  refine k_iconst (q := 231) (v := (1 : Int32)) hC dL_law_230 (by decide) rfl ?_
  refine k_iadd (q := 232) hC dL_law_231 rfl ?_
  refine k_sld (q := 233) (y := a1) hC hX dL_law_232 hv1 ha1 rfl ?_
  refine k_aload_nS (q := 234) hC dL_law_233 rfl rfl ?_
  refine k_iload (q := 236) hC dL_law_234 rfl rfl ?_
  refine k_iconst (q := 237) (v := (2 : Int32)) hC dL_law_236 (by decide) rfl ?_
  refine k_iadd (q := 238) hC dL_law_237 rfl ?_
  refine k_sld (q := 239) (y := a2) hC hX dL_law_238 hv2 ha2 rfl ?_
  refine k_aload_nS (q := 240) hC dL_law_239 rfl rfl ?_
  refine k_iload (q := 242) hC dL_law_240 rfl rfl ?_
  refine k_iconst (q := 243) (v := (3 : Int32)) hC dL_law_242 (by decide) rfl ?_
  refine k_iadd (q := 244) hC dL_law_243 rfl ?_
  refine k_sld (q := 245) (y := a3) hC hX dL_law_244 hv3 ha3 rfl ?_
  refine k_aload_nS (q := 246) hC dL_law_245 rfl rfl ?_
  refine k_iload (q := 248) hC dL_law_246 rfl rfl ?_
  refine k_iconst (q := 249) (v := (4 : Int32)) hC dL_law_248 (by decide) rfl ?_
  refine k_iadd (q := 250) hC dL_law_249 rfl ?_
  refine k_sld (q := 251) (y := a4) hC hX dL_law_250 hv4 ha4 rfl ?_
  refine k_aload_nS (q := 252) hC dL_law_251 rfl rfl ?_
  refine k_iload (q := 254) hC dL_law_252 rfl rfl ?_
  refine k_iconst (q := 255) (v := (5 : Int32)) hC dL_law_254 (by decide) rfl ?_
  refine k_iadd (q := 256) hC dL_law_255 rfl ?_
  refine k_sld (q := 257) (y := a5) hC hX dL_law_256 hv5 ha5 rfl ?_
  refine k_callV (q := 260) (ex := false) (av := [.ref 81, .int a1, .int a2, .int a3, .int a4, .int a5]) (c0 := 81) (As := [.int a1, .int a2, .int a3, .int a4, .int a5]) (cm := 0) (sm := 0) hC oX10_feed vX10_feed rfl rfl (kd81 (n := 100) (by decide)) rfl rfl dL_law_257 lk_L_101 (c_X10_feed e 100 (by decide) fa tr pm o.2 hm lo a1 a2 a3 a4 a5 z hz) (by decide) rfl (Nat.le_of_ble_eq_true rfl) h0 (fun h => Bool.noConfusion h) rfl rfl ?_
  refine k_icmp_eq (q := 263) (tgt := 1888) hC dL_law_260 (by decide) rfl (fun _ => ?_) (fun h => absurd hag h)
  refine k_lv (lv' := lvL i) (LSub.ok (by unfold lvL; exact ⟨rfl, rfl, rfl, rfl, rfl, trivial⟩)) ?_
  exact kk _ _ _ _ _ _ _ _ hR2 (by dsimp only; omega) (by dsimp only; omega)
set_option maxRecDepth 100000 in
set_option maxHeartbeats 8000000 in
theorem lc_1 {e : gEV} {C : gCx} (hC : COk e C cL_law 7 RL 2048 601024 7293034) {Ln : Nat} {xs : Nat → Int32} (hX : gScr e C Ln xs) (hl : (eL e).stackTraces = false) {Rel : gRel} (hG : MG Rel) (hM : M1 Rel) {a b : Nat} (hab : a + 1 ≤ 601024 ∧ b + 6 ≤ 7293034) {i : Int32} (hv1 : vp_in (i + (1 : Int32)) Ln) {xc : gXH} {fa tr : Nat} {pm : Nat → Nat} {hm : gIH} {lo : gLH} (hR : Rel xc fa tr pm hm)
    (kk : ∀ xc fa tr pm hm lo a' b', Rel xc fa tr pm hm → a' ≤ a + 1 → b' ≤ b + 6 → KW e C (100, a', b') 1888 (lvL i) [] (RR fa tr pm) (xc, hm, lo)) : KW e C (100, a, b) 265 (lvL i) [] (RR fa tr pm) (xc, hm, lo) := by
  obtain ⟨hfa, htr⟩ := hG _ _ _ _ _ hR
  have h0 : a + 0 ≤ 601024 ∧ b + 0 ≤ 7293034 := ⟨by omega, by omega⟩
  have h1 : a + 1 + 0 ≤ 601024 ∧ b + 6 + 0 ≤ 7293034 := ⟨by omega, by omega⟩
  obtain ⟨a1, ha1⟩ : ∃ y, xs (i + (1 : Int32)).toNatClampNeg = y := ⟨_, rfl⟩
  unfold lvL
  obtain ⟨o, ho, z, hz, hR2, hag⟩ := hM _ _ _ _ _ hR a1
  refine k_aload_n (q := 266) hC dL_law_265 rfl rfl ?_
  refine k_aload_nS (q := 267) hC dL_law_266 rfl rfl ?_
  refine k_iload (q := 269) hC dL_law_267 rfl rfl ?_
  refine k_iconst (q := 270) (v := (1 : Int32)) hC dL_law_269 (by decide) rfl ?_
  refine k_iadd (q := 271) hC dL_law_270 rfl ?_
  refine k_sld (q := 272) (y := a1) hC hX dL_law_271 hv1 ha1 rfl ?_
  refine k_callV (q := 275) (ex := false) (av := [.ref 0, .int a1]) (c0 := 0) (As := [.int a1]) (cm := 0) (sm := 0) hC oX9_end vX9_end rfl rfl (kd0 (n := 100) (by decide)) rfl rfl dL_law_272 lk_L_102 (c_X9_end e 100 (by decide) fa tr pm xc (hm, lo) a1 o ho) (by decide) rfl (Nat.le_of_ble_eq_true rfl) h0 (fun h => Bool.noConfusion h) rfl rfl ?_
  refine k_aload_n (q := 276) hC dL_law_275 rfl rfl ?_
  refine k_aload_nS (q := 277) hC dL_law_276 rfl rfl ?_
  refine k_iload (q := 279) hC dL_law_277 rfl rfl ?_
  refine k_iconst (q := 280) (v := (1 : Int32)) hC dL_law_279 (by decide) rfl ?_
  refine k_iadd (q := 281) hC dL_law_280 rfl ?_
  refine k_sld (q := 282) (y := a1) hC hX dL_law_281 hv1 ha1 rfl ?_
  refine k_callV (q := 285) (ex := false) (av := [.ref 81, .int a1]) (c0 := 81) (As := [.int a1]) (cm := 0) (sm := 0) hC oX10_end vX10_end rfl rfl (kd81 (n := 100) (by decide)) rfl rfl dL_law_282 lk_L_106 (c_X10_end e 100 (by decide) _ o.2 hm lo a1 z hz) (by decide) rfl (Nat.le_of_ble_eq_true rfl) h0 (fun h => Bool.noConfusion h) rfl rfl ?_
  refine k_icmp_eq (q := 288) (tgt := 1888) hC dL_law_285 (by decide) rfl (fun _ => ?_) (fun h => absurd hag h)
  refine k_lv (lv' := lvL i) (LSub.ok (by unfold lvL; exact ⟨rfl, rfl, rfl, rfl, rfl, trivial⟩)) ?_
  exact kk _ _ _ _ _ _ _ _ hR2 (by dsimp only; omega) (by dsimp only; omega)
set_option maxRecDepth 100000 in
set_option maxHeartbeats 8000000 in
theorem lc_2 {e : gEV} {C : gCx} (hC : COk e C cL_law 7 RL 2048 601024 7293034) {Ln : Nat} {xs : Nat → Int32} (hX : gScr e C Ln xs) (hl : (eL e).stackTraces = false) {Rel : gRel} (hG : MG Rel) (hM : M2 Rel) {a b : Nat} (hab : a + 1 ≤ 601024 ∧ b + 6 ≤ 7293034) {i : Int32} {xc : gXH} {fa tr : Nat} {pm : Nat → Nat} {hm : gIH} {lo : gLH} (hR : Rel xc fa tr pm hm)
    (kk : ∀ xc fa tr pm hm lo a' b', Rel xc fa tr pm hm → a' ≤ a + 1 → b' ≤ b + 6 → KW e C (100, a', b') 1888 (lvL i) [] (RR fa tr pm) (xc, hm, lo)) : KW e C (100, a, b) 290 (lvL i) [] (RR fa tr pm) (xc, hm, lo) := by
  obtain ⟨hfa, htr⟩ := hG _ _ _ _ _ hR
  have h0 : a + 0 ≤ 601024 ∧ b + 0 ≤ 7293034 := ⟨by omega, by omega⟩
  have h1 : a + 1 + 0 ≤ 601024 ∧ b + 6 + 0 ≤ 7293034 := ⟨by omega, by omega⟩
  unfold lvL
  obtain ⟨o, ho, z, hz, hR2, hag⟩ := hM _ _ _ _ _ hR
  refine k_aload_n (q := 291) hC dL_law_290 rfl rfl ?_
  refine k_aload_n (q := 292) hC dL_law_291 rfl rfl ?_
  refine k_wS (q := 295) (av := [.ref 0, .ref 99]) hC oL_acts sL_acts rfl dL_law_292 lk_L_107 (wL_acts e 100 (by decide) (RR fa tr pm) (RR o.2.2.1 o.2.2.2.1 o.2.2.2.2) xc o.2.1 hm lo  o.1 (c_X9_acts e 100 (by decide) fa tr pm hfa htr hl xc (hm, lo) o ho) hag.2.1) (by decide) rfl (Nat.le_of_ble_eq_true rfl) hab rfl ?_
  refine k_istore (q := 297) (lv' := [some (.float 0), some (.ref 0), some (.ref 81), some (.ref 99), some (.int i), some (.int (wcode [0] o.1)), none]) hC dL_law_295 (by decide) rfl rfl ?_
  refine k_aload_n (q := 298) hC dL_law_297 rfl rfl ?_
  refine k_callV (q := 301) (ex := false) (av := [.ref 81]) (c0 := 81) (As := []) (cm := 0) (sm := 0) hC oX10_acts vX10_acts rfl rfl (kd81 (n := 100) (by decide)) rfl rfl dL_law_298 lk_L_112 (c_X10_acts e 100 (by decide) o.2.2.1 o.2.2.2.1 o.2.2.2.2 o.2.1 hm (wlo o.1 lo) z hz) (by decide) rfl (Nat.le_of_ble_eq_true rfl) h1 (fun h => Bool.noConfusion h) rfl rfl ?_
  refine k_istore (q := 303) (lv' := [some (.float 0), some (.ref 0), some (.ref 81), some (.ref 99), some (.int i), some (.int (wcode [0] o.1)), some (.int z.1)]) hC dL_law_301 (by decide) rfl rfl ?_
  refine k_aload_n (q := 304) hC dL_law_303 rfl rfl ?_
  refine k_callV (q := 307) (ex := false) (av := [.ref 81]) (c0 := 81) (As := []) (cm := 0) (sm := 0) hC oX10_thrown vX10_thrown rfl rfl (kd81 (n := 100) (by decide)) rfl rfl dL_law_304 lk_L_113 (c_X10_thrown e 100 (by decide) _ o.2.1 z.2 (wlo o.1 lo)) (by decide) rfl (Nat.le_of_ble_eq_true rfl) h1 (fun h => Bool.noConfusion h) rfl rfl ?_
  refine k_iload (q := 309) hC dL_law_307 rfl rfl ?_
  refine k_icmp_eq (q := 312) (tgt := 314) hC dL_law_309 (by decide) rfl (fun _ => ?_) (fun h => absurd hag.1 h)
  refine k_iload (q := 316) hC dL_law_314 rfl rfl ?_
  refine k_if_ne (q := 319) (tgt := 331) hC dL_law_316 (by decide) rfl (fun _ => ?_) (fun hk0 => ?_)
  · skip
    refine k_goto (tgt := 1888) hC dL_law_331 (by decide) ?_
    refine k_lv (lv' := lvL i) (LSub.ok (by unfold lvL; exact ⟨rfl, rfl, rfl, rfl, rfl, trivial⟩)) ?_
    exact kk _ _ _ _ _ _ _ _ hR2 (by dsimp only; omega) (by dsimp only; omega)
  · obtain ⟨iv, hiv⟩ := wcode_zero (Nat.le_of_ble_eq_true rfl) hk0 hag.2.1
    have hzi := hag.2.2 iv hiv
    refine k_aload_n (q := 320) hC dL_law_319 rfl rfl ?_
    refine k_iconst (q := 321) (v := (0 : Int32)) hC dL_law_320 (by decide) rfl ?_
    refine k_lald (q := 322) (y := iv.toInt64) hC dL_law_321 (kd99 (n := 100) (by decide)) (by unfold vp_in; decide) (by rw [hiv]; simp [xl, wlo, up2]) rfl ?_
    refine k_iload (q := 324) hC dL_law_322 rfl rfl ?_
    refine k_i2l (q := 325) hC dL_law_324 rfl ?_
    refine k_lcmp (q := 326) hC dL_law_325 rfl ?_
    refine k_if_eq (q := 329) (tgt := 331) hC dL_law_326 (by decide) rfl (fun _ => ?_) (fun h => absurd (by rw [hzi]; simp [lg_cmp]) h)
    refine k_goto (tgt := 1888) hC dL_law_331 (by decide) ?_
    refine k_lv (lv' := lvL i) (LSub.ok (by unfold lvL; exact ⟨rfl, rfl, rfl, rfl, rfl, trivial⟩)) ?_
    exact kk _ _ _ _ _ _ _ _ hR2 (by dsimp only; omega) (by dsimp only; omega)
set_option maxRecDepth 100000 in
set_option maxHeartbeats 8000000 in
theorem lc_3 {e : gEV} {C : gCx} (hC : COk e C cL_law 7 RL 2048 601024 7293034) {Ln : Nat} {xs : Nat → Int32} (hX : gScr e C Ln xs) (hl : (eL e).stackTraces = false) {Rel : gRel} (hG : MG Rel) (hM : M3 Rel) {a b : Nat} (hab : a + 1 ≤ 601024 ∧ b + 6 ≤ 7293034) {i : Int32} {xc : gXH} {fa tr : Nat} {pm : Nat → Nat} {hm : gIH} {lo : gLH} (hR : Rel xc fa tr pm hm)
    (kk : ∀ xc fa tr pm hm lo a' b', Rel xc fa tr pm hm → a' ≤ a + 1 → b' ≤ b + 6 → KW e C (100, a', b') 1888 (lvL i) [] (RR fa tr pm) (xc, hm, lo)) : KW e C (100, a, b) 334 (lvL i) [] (RR fa tr pm) (xc, hm, lo) := by
  obtain ⟨hfa, htr⟩ := hG _ _ _ _ _ hR
  have h0 : a + 0 ≤ 601024 ∧ b + 0 ≤ 7293034 := ⟨by omega, by omega⟩
  have h1 : a + 1 + 0 ≤ 601024 ∧ b + 6 + 0 ≤ 7293034 := ⟨by omega, by omega⟩
  unfold lvL
  obtain ⟨o, ho, z, hz, hR2, hag⟩ := hM _ _ _ _ _ hR
  refine k_aload_n (q := 335) hC dL_law_334 rfl rfl ?_
  refine k_callV (q := 338) (ex := false) (av := [.ref 0]) (c0 := 0) (As := []) (cm := 0) (sm := 0) hC oX9_fault vX9_fault rfl rfl (kd0 (n := 100) (by decide)) rfl rfl dL_law_335 lk_L_116 (c_X9_fault e 100 (by decide) _ xc (hm, lo)) (by decide) rfl (Nat.le_of_ble_eq_true rfl) h0 (fun h => Bool.noConfusion h) rfl rfl ?_
  refine k_aload_n (q := 339) hC dL_law_338 rfl rfl ?_
  refine k_callV (q := 342) (ex := false) (av := [.ref 81]) (c0 := 81) (As := []) (cm := 0) (sm := 0) hC oX10_fault vX10_fault rfl rfl (kd81 (n := 100) (by decide)) rfl rfl dL_law_339 lk_L_119 (c_X10_fault e 100 (by decide) _ xc hm lo z hz) (by decide) rfl (Nat.le_of_ble_eq_true rfl) h0 (fun h => Bool.noConfusion h) rfl rfl ?_
  refine k_icmp_eq (q := 345) (tgt := 1888) hC dL_law_342 (by decide) rfl (fun _ => ?_) (fun h => absurd (ho.symm.trans hag) h)
  refine k_lv (lv' := lvL i) (LSub.ok (by unfold lvL; exact ⟨rfl, rfl, rfl, rfl, rfl, trivial⟩)) ?_
  exact kk _ _ _ _ _ _ _ _ hR2 (by dsimp only; omega) (by dsimp only; omega)
set_option maxRecDepth 100000 in
set_option maxHeartbeats 8000000 in
theorem lc_4 {e : gEV} {C : gCx} (hC : COk e C cL_law 7 RL 2048 601024 7293034) {Ln : Nat} {xs : Nat → Int32} (hX : gScr e C Ln xs) (hl : (eL e).stackTraces = false) {Rel : gRel} (hG : MG Rel) (hM : M4 Rel) {a b : Nat} (hab : a + 1 ≤ 601024 ∧ b + 6 ≤ 7293034) {i : Int32} {xc : gXH} {fa tr : Nat} {pm : Nat → Nat} {hm : gIH} {lo : gLH} (hR : Rel xc fa tr pm hm)
    (kk : ∀ xc fa tr pm hm lo a' b', Rel xc fa tr pm hm → a' ≤ a + 1 → b' ≤ b + 6 → KW e C (100, a', b') 1888 (lvL i) [] (RR fa tr pm) (xc, hm, lo)) : KW e C (100, a, b) 347 (lvL i) [] (RR fa tr pm) (xc, hm, lo) := by
  obtain ⟨hfa, htr⟩ := hG _ _ _ _ _ hR
  have h0 : a + 0 ≤ 601024 ∧ b + 0 ≤ 7293034 := ⟨by omega, by omega⟩
  have h1 : a + 1 + 0 ≤ 601024 ∧ b + 6 + 0 ≤ 7293034 := ⟨by omega, by omega⟩
  unfold lvL
  obtain ⟨o, ho, z, hz, hR2, hag⟩ := hM _ _ _ _ _ hR
  refine k_aload_n (q := 348) hC dL_law_347 rfl rfl ?_
  refine k_callV (q := 351) (ex := false) (av := [.ref 0]) (c0 := 0) (As := []) (cm := 0) (sm := 0) hC oX9_why vX9_why rfl rfl (kd0 (n := 100) (by decide)) rfl rfl dL_law_348 lk_L_120 (c_X9_why e 100 (by decide) _ xc (hm, lo)) (by decide) rfl (Nat.le_of_ble_eq_true rfl) h0 (fun h => Bool.noConfusion h) rfl rfl ?_
  refine k_aload_n (q := 352) hC dL_law_351 rfl rfl ?_
  refine k_callV (q := 355) (ex := false) (av := [.ref 81]) (c0 := 81) (As := []) (cm := 0) (sm := 0) hC oX10_why vX10_why rfl rfl (kd81 (n := 100) (by decide)) rfl rfl dL_law_352 lk_L_123 (c_X10_why e 100 (by decide) _ xc hm lo z hz) (by decide) rfl (Nat.le_of_ble_eq_true rfl) h0 (fun h => Bool.noConfusion h) rfl rfl ?_
  refine k_icmp_eq (q := 358) (tgt := 1888) hC dL_law_355 (by decide) rfl (fun _ => ?_) (fun h => absurd (ho.symm.trans hag) h)
  refine k_lv (lv' := lvL i) (LSub.ok (by unfold lvL; exact ⟨rfl, rfl, rfl, rfl, rfl, trivial⟩)) ?_
  exact kk _ _ _ _ _ _ _ _ hR2 (by dsimp only; omega) (by dsimp only; omega)
set_option maxRecDepth 100000 in
set_option maxHeartbeats 8000000 in
theorem lc_5 {e : gEV} {C : gCx} (hC : COk e C cL_law 7 RL 2048 601024 7293034) {Ln : Nat} {xs : Nat → Int32} (hX : gScr e C Ln xs) (hl : (eL e).stackTraces = false) {Rel : gRel} (hG : MG Rel) (hM : M5 Rel) {a b : Nat} (hab : a + 1 ≤ 601024 ∧ b + 6 ≤ 7293034) {i : Int32} (hv1 : vp_in (i + (1 : Int32)) Ln) {xc : gXH} {fa tr : Nat} {pm : Nat → Nat} {hm : gIH} {lo : gLH} (hR : Rel xc fa tr pm hm)
    (kk : ∀ xc fa tr pm hm lo a' b', Rel xc fa tr pm hm → a' ≤ a + 1 → b' ≤ b + 6 → KW e C (100, a', b') 1888 (lvL i) [] (RR fa tr pm) (xc, hm, lo)) : KW e C (100, a, b) 360 (lvL i) [] (RR fa tr pm) (xc, hm, lo) := by
  obtain ⟨hfa, htr⟩ := hG _ _ _ _ _ hR
  have h0 : a + 0 ≤ 601024 ∧ b + 0 ≤ 7293034 := ⟨by omega, by omega⟩
  have h1 : a + 1 + 0 ≤ 601024 ∧ b + 6 + 0 ≤ 7293034 := ⟨by omega, by omega⟩
  obtain ⟨a1, ha1⟩ : ∃ y, xs (i + (1 : Int32)).toNatClampNeg = y := ⟨_, rfl⟩
  unfold lvL
  obtain ⟨o, ho, z, hz, hR2, hag⟩ := hM _ _ _ _ _ hR a1
  refine k_aload_n (q := 361) hC dL_law_360 rfl rfl ?_
  refine k_aload_nS (q := 362) hC dL_law_361 rfl rfl ?_
  refine k_iload (q := 364) hC dL_law_362 rfl rfl ?_
  refine k_iconst (q := 365) (v := (1 : Int32)) hC dL_law_364 (by decide) rfl ?_
  refine k_iadd (q := 366) hC dL_law_365 rfl ?_
  refine k_sld (q := 367) (y := a1) hC hX dL_law_366 hv1 ha1 rfl ?_
  refine k_wS (q := 370) (av := [.ref 0, .int a1]) hC oL_net sL_net rfl dL_law_367 lk_L_124 (wL_net e 100 (by decide) (RR fa tr pm) (RR o.2.2.1 o.2.2.2.1 o.2.2.2.2) xc o.2.1 hm lo a1 o.1 (c_X9_net e 100 (by decide) fa tr pm hfa htr hl xc (hm, lo) a1 o ho) hag.2) (by decide) rfl (Nat.le_of_ble_eq_true rfl) hab rfl ?_
  refine k_istore (q := 372) (lv' := [some (.float 0), some (.ref 0), some (.ref 81), some (.ref 99), some (.int i), some (.int (wcode [0] o.1)), none]) hC dL_law_370 (by decide) rfl rfl ?_
  refine k_aload_n (q := 373) hC dL_law_372 rfl rfl ?_
  refine k_aload_nS (q := 374) hC dL_law_373 rfl rfl ?_
  refine k_iload (q := 376) hC dL_law_374 rfl rfl ?_
  refine k_iconst (q := 377) (v := (1 : Int32)) hC dL_law_376 (by decide) rfl ?_
  refine k_iadd (q := 378) hC dL_law_377 rfl ?_
  refine k_sld (q := 379) (y := a1) hC hX dL_law_378 hv1 ha1 rfl ?_
  refine k_callV (q := 382) (ex := false) (av := [.ref 81, .int a1]) (c0 := 81) (As := [.int a1]) (cm := 0) (sm := 0) hC oX10_net vX10_net rfl rfl (kd81 (n := 100) (by decide)) rfl rfl dL_law_379 lk_L_127 (c_X10_net e 100 (by decide) o.2.2.1 o.2.2.2.1 o.2.2.2.2 o.2.1 hm lo a1 z hz) (by decide) rfl (Nat.le_of_ble_eq_true rfl) h1 (fun h => Bool.noConfusion h) rfl rfl ?_
  refine k_aload_n (q := 383) hC dL_law_382 rfl rfl ?_
  refine k_callV (q := 386) (ex := false) (av := [.ref 81]) (c0 := 81) (As := []) (cm := 0) (sm := 0) hC oX10_thrown vX10_thrown rfl rfl (kd81 (n := 100) (by decide)) rfl rfl dL_law_383 lk_L_113 (c_X10_thrown e 100 (by decide) _ o.2.1 z lo) (by decide) rfl (Nat.le_of_ble_eq_true rfl) h1 (fun h => Bool.noConfusion h) rfl rfl ?_
  refine k_iload (q := 388) hC dL_law_386 rfl rfl ?_
  refine k_icmp_eq (q := 391) (tgt := 393) hC dL_law_388 (by decide) rfl (fun _ => ?_) (fun h => absurd hag.1 h)
  refine k_goto (tgt := 1888) hC dL_law_393 (by decide) ?_
  refine k_lv (lv' := lvL i) (LSub.ok (by unfold lvL; exact ⟨rfl, rfl, rfl, rfl, rfl, trivial⟩)) ?_
  exact kk _ _ _ _ _ _ _ _ hR2 (by dsimp only; omega) (by dsimp only; omega)
set_option maxRecDepth 100000 in
set_option maxHeartbeats 8000000 in
theorem lc_6 {e : gEV} {C : gCx} (hC : COk e C cL_law 7 RL 2048 601024 7293034) {Ln : Nat} {xs : Nat → Int32} (hX : gScr e C Ln xs) (hl : (eL e).stackTraces = false) {Rel : gRel} (hG : MG Rel) (hM : M6 Rel) {a b : Nat} (hab : a + 1 ≤ 601024 ∧ b + 6 ≤ 7293034) {i : Int32} (hv1 : vp_in (i + (1 : Int32)) Ln) (hv2 : vp_in (i + (2 : Int32)) Ln) {xc : gXH} {fa tr : Nat} {pm : Nat → Nat} {hm : gIH} {lo : gLH} (hR : Rel xc fa tr pm hm)
    (kk : ∀ xc fa tr pm hm lo a' b', Rel xc fa tr pm hm → a' ≤ a + 1 → b' ≤ b + 6 → KW e C (100, a', b') 1888 (lvL i) [] (RR fa tr pm) (xc, hm, lo)) : KW e C (100, a, b) 396 (lvL i) [] (RR fa tr pm) (xc, hm, lo) := by
  obtain ⟨hfa, htr⟩ := hG _ _ _ _ _ hR
  have h0 : a + 0 ≤ 601024 ∧ b + 0 ≤ 7293034 := ⟨by omega, by omega⟩
  have h1 : a + 1 + 0 ≤ 601024 ∧ b + 6 + 0 ≤ 7293034 := ⟨by omega, by omega⟩
  obtain ⟨a1, ha1⟩ : ∃ y, xs (i + (1 : Int32)).toNatClampNeg = y := ⟨_, rfl⟩
  obtain ⟨a2, ha2⟩ : ∃ y, xs (i + (2 : Int32)).toNatClampNeg = y := ⟨_, rfl⟩
  unfold lvL
  refine k_aload_n (q := 397) hC dL_law_396 rfl rfl ?_
  refine k_aload_nS (q := 398) hC dL_law_397 rfl rfl ?_
  refine k_iload (q := 400) hC dL_law_398 rfl rfl ?_
  refine k_iconst (q := 401) (v := (1 : Int32)) hC dL_law_400 (by decide) rfl ?_
  refine k_iadd (q := 402) hC dL_law_401 rfl ?_
  refine k_sld (q := 403) (y := a1) hC hX dL_law_402 hv1 ha1 rfl ?_
  refine k_aload_nS (q := 404) hC dL_law_403 rfl rfl ?_
  refine k_iload (q := 406) hC dL_law_404 rfl rfl ?_
  refine k_iconst (q := 407) (v := (2 : Int32)) hC dL_law_406 (by decide) rfl ?_
  refine k_iadd (q := 408) hC dL_law_407 rfl ?_
  refine k_sld (q := 409) (y := a2) hC hX dL_law_408 hv2 ha2 rfl ?_
  refine k_if_eq (q := 412) (tgt := 416) hC dL_law_409 (by decide) rfl (fun hc2 => ?_) (fun hc2 => ?_)
  · obtain ⟨o, ho, z, hz, hR2, hag⟩ := hM _ _ _ _ _ hR a1 (0 : Int32) (Or.inl rfl)
    refine k_iconst (q := 417) (v := (0 : Int32)) hC dL_law_416 (by decide) rfl ?_
    refine k_aload_n (q := 418) hC dL_law_417 rfl rfl ?_
    refine k_wS (q := 421) (av := [.ref 0, .int a1, .int (0 : Int32), .ref 99]) hC oL_tell sL_tell rfl dL_law_418 lk_L_128 (wL_tell e 100 (by decide) (RR fa tr pm) (RR o.2.2.1 o.2.2.2.1 o.2.2.2.2) xc o.2.1 hm lo a1 (0 : Int32) o.1 (c_X9_tell e 100 (by decide) fa tr pm hfa htr hl xc (hm, lo) a1 (0 : Int32) o ho) hag.2.1) (by decide) rfl (Nat.le_of_ble_eq_true rfl) hab rfl ?_
    refine k_istore (q := 423) (lv' := [some (.float 0), some (.ref 0), some (.ref 81), some (.ref 99), some (.int i), some (.int (wcode [1] o.1)), none]) hC dL_law_421 (by decide) rfl rfl ?_
    refine k_aload_n (q := 424) hC dL_law_423 rfl rfl ?_
    refine k_aload_nS (q := 425) hC dL_law_424 rfl rfl ?_
    refine k_iload (q := 427) hC dL_law_425 rfl rfl ?_
    refine k_iconst (q := 428) (v := (1 : Int32)) hC dL_law_427 (by decide) rfl ?_
    refine k_iadd (q := 429) hC dL_law_428 rfl ?_
    refine k_sld (q := 430) (y := a1) hC hX dL_law_429 hv1 ha1 rfl ?_
    refine k_aload_nS (q := 431) hC dL_law_430 rfl rfl ?_
    refine k_iload (q := 433) hC dL_law_431 rfl rfl ?_
    refine k_iconst (q := 434) (v := (2 : Int32)) hC dL_law_433 (by decide) rfl ?_
    refine k_iadd (q := 435) hC dL_law_434 rfl ?_
    refine k_sld (q := 436) (y := a2) hC hX dL_law_435 hv2 ha2 rfl ?_
    refine k_if_eq (q := 439) (tgt := 443) hC dL_law_436 (by decide) rfl (fun _ => ?_) (fun h => absurd hc2 h)
    refine k_iconst (q := 444) (v := (0 : Int32)) hC dL_law_443 (by decide) rfl ?_
    refine k_callV (q := 447) (ex := false) (av := [.ref 81, .int a1, .int (0 : Int32)]) (c0 := 81) (As := [.int a1, .int (0 : Int32)]) (cm := 0) (sm := 0) hC oX10_tell vX10_tell rfl rfl (kd81 (n := 100) (by decide)) rfl rfl dL_law_444 lk_L_131 (c_X10_tell e 100 (by decide) o.2.2.1 o.2.2.2.1 o.2.2.2.2 o.2.1 hm (wlo o.1 lo) a1 (0 : Int32) z hz) (by decide) rfl (Nat.le_of_ble_eq_true rfl) h1 (fun h => Bool.noConfusion h) rfl rfl ?_
    refine k_istore (q := 449) (lv' := [some (.float 0), some (.ref 0), some (.ref 81), some (.ref 99), some (.int i), some (.int (wcode [1] o.1)), some (.int z.1)]) hC dL_law_447 (by decide) rfl rfl ?_
    refine k_aload_n (q := 450) hC dL_law_449 rfl rfl ?_
    refine k_callV (q := 453) (ex := false) (av := [.ref 81]) (c0 := 81) (As := []) (cm := 0) (sm := 0) hC oX10_thrown vX10_thrown rfl rfl (kd81 (n := 100) (by decide)) rfl rfl dL_law_450 lk_L_113 (c_X10_thrown e 100 (by decide) _ o.2.1 z.2 (wlo o.1 lo)) (by decide) rfl (Nat.le_of_ble_eq_true rfl) h1 (fun h => Bool.noConfusion h) rfl rfl ?_
    refine k_iload (q := 455) hC dL_law_453 rfl rfl ?_
    refine k_icmp_eq (q := 458) (tgt := 460) hC dL_law_455 (by decide) rfl (fun _ => ?_) (fun h => absurd hag.1 h)
    refine k_iload (q := 462) hC dL_law_460 rfl rfl ?_
    refine k_if_ne (q := 465) (tgt := 477) hC dL_law_462 (by decide) rfl (fun _ => ?_) (fun hk0 => ?_)
    · skip
      refine k_goto (tgt := 1888) hC dL_law_477 (by decide) ?_
      refine k_lv (lv' := lvL i) (LSub.ok (by unfold lvL; exact ⟨rfl, rfl, rfl, rfl, rfl, trivial⟩)) ?_
      exact kk _ _ _ _ _ _ _ _ hR2 (by dsimp only; omega) (by dsimp only; omega)
    · obtain ⟨iv, hiv⟩ := wcode_zero (Nat.le_of_ble_eq_true rfl) hk0 hag.2.1
      have hzi := hag.2.2 iv hiv
      refine k_aload_n (q := 466) hC dL_law_465 rfl rfl ?_
      refine k_iconst (q := 467) (v := (0 : Int32)) hC dL_law_466 (by decide) rfl ?_
      refine k_lald (q := 468) (y := iv.toInt64) hC dL_law_467 (kd99 (n := 100) (by decide)) (by unfold vp_in; decide) (by rw [hiv]; simp [xl, wlo, up2]) rfl ?_
      refine k_iload (q := 470) hC dL_law_468 rfl rfl ?_
      refine k_i2l (q := 471) hC dL_law_470 rfl ?_
      refine k_lcmp (q := 472) hC dL_law_471 rfl ?_
      refine k_if_eq (q := 475) (tgt := 477) hC dL_law_472 (by decide) rfl (fun _ => ?_) (fun h => absurd (by rw [hzi]; simp [lg_cmp]) h)
      refine k_goto (tgt := 1888) hC dL_law_477 (by decide) ?_
      refine k_lv (lv' := lvL i) (LSub.ok (by unfold lvL; exact ⟨rfl, rfl, rfl, rfl, rfl, trivial⟩)) ?_
      exact kk _ _ _ _ _ _ _ _ hR2 (by dsimp only; omega) (by dsimp only; omega)
  · obtain ⟨o, ho, z, hz, hR2, hag⟩ := hM _ _ _ _ _ hR a1 (1 : Int32) (Or.inr rfl)
    refine k_iconst (q := 413) (v := (1 : Int32)) hC dL_law_412 (by decide) rfl ?_
    refine k_goto (tgt := 417) hC dL_law_413 (by decide) ?_
    refine k_aload_n (q := 418) hC dL_law_417 rfl rfl ?_
    refine k_wS (q := 421) (av := [.ref 0, .int a1, .int (1 : Int32), .ref 99]) hC oL_tell sL_tell rfl dL_law_418 lk_L_128 (wL_tell e 100 (by decide) (RR fa tr pm) (RR o.2.2.1 o.2.2.2.1 o.2.2.2.2) xc o.2.1 hm lo a1 (1 : Int32) o.1 (c_X9_tell e 100 (by decide) fa tr pm hfa htr hl xc (hm, lo) a1 (1 : Int32) o ho) hag.2.1) (by decide) rfl (Nat.le_of_ble_eq_true rfl) hab rfl ?_
    refine k_istore (q := 423) (lv' := [some (.float 0), some (.ref 0), some (.ref 81), some (.ref 99), some (.int i), some (.int (wcode [1] o.1)), none]) hC dL_law_421 (by decide) rfl rfl ?_
    refine k_aload_n (q := 424) hC dL_law_423 rfl rfl ?_
    refine k_aload_nS (q := 425) hC dL_law_424 rfl rfl ?_
    refine k_iload (q := 427) hC dL_law_425 rfl rfl ?_
    refine k_iconst (q := 428) (v := (1 : Int32)) hC dL_law_427 (by decide) rfl ?_
    refine k_iadd (q := 429) hC dL_law_428 rfl ?_
    refine k_sld (q := 430) (y := a1) hC hX dL_law_429 hv1 ha1 rfl ?_
    refine k_aload_nS (q := 431) hC dL_law_430 rfl rfl ?_
    refine k_iload (q := 433) hC dL_law_431 rfl rfl ?_
    refine k_iconst (q := 434) (v := (2 : Int32)) hC dL_law_433 (by decide) rfl ?_
    refine k_iadd (q := 435) hC dL_law_434 rfl ?_
    refine k_sld (q := 436) (y := a2) hC hX dL_law_435 hv2 ha2 rfl ?_
    refine k_if_eq (q := 439) (tgt := 443) hC dL_law_436 (by decide) rfl (fun h => absurd h hc2) (fun _ => ?_)
    refine k_iconst (q := 440) (v := (1 : Int32)) hC dL_law_439 (by decide) rfl ?_
    refine k_goto (tgt := 444) hC dL_law_440 (by decide) ?_
    refine k_callV (q := 447) (ex := false) (av := [.ref 81, .int a1, .int (1 : Int32)]) (c0 := 81) (As := [.int a1, .int (1 : Int32)]) (cm := 0) (sm := 0) hC oX10_tell vX10_tell rfl rfl (kd81 (n := 100) (by decide)) rfl rfl dL_law_444 lk_L_131 (c_X10_tell e 100 (by decide) o.2.2.1 o.2.2.2.1 o.2.2.2.2 o.2.1 hm (wlo o.1 lo) a1 (1 : Int32) z hz) (by decide) rfl (Nat.le_of_ble_eq_true rfl) h1 (fun h => Bool.noConfusion h) rfl rfl ?_
    refine k_istore (q := 449) (lv' := [some (.float 0), some (.ref 0), some (.ref 81), some (.ref 99), some (.int i), some (.int (wcode [1] o.1)), some (.int z.1)]) hC dL_law_447 (by decide) rfl rfl ?_
    refine k_aload_n (q := 450) hC dL_law_449 rfl rfl ?_
    refine k_callV (q := 453) (ex := false) (av := [.ref 81]) (c0 := 81) (As := []) (cm := 0) (sm := 0) hC oX10_thrown vX10_thrown rfl rfl (kd81 (n := 100) (by decide)) rfl rfl dL_law_450 lk_L_113 (c_X10_thrown e 100 (by decide) _ o.2.1 z.2 (wlo o.1 lo)) (by decide) rfl (Nat.le_of_ble_eq_true rfl) h1 (fun h => Bool.noConfusion h) rfl rfl ?_
    refine k_iload (q := 455) hC dL_law_453 rfl rfl ?_
    refine k_icmp_eq (q := 458) (tgt := 460) hC dL_law_455 (by decide) rfl (fun _ => ?_) (fun h => absurd hag.1 h)
    refine k_iload (q := 462) hC dL_law_460 rfl rfl ?_
    refine k_if_ne (q := 465) (tgt := 477) hC dL_law_462 (by decide) rfl (fun _ => ?_) (fun hk0 => ?_)
    · skip
      refine k_goto (tgt := 1888) hC dL_law_477 (by decide) ?_
      refine k_lv (lv' := lvL i) (LSub.ok (by unfold lvL; exact ⟨rfl, rfl, rfl, rfl, rfl, trivial⟩)) ?_
      exact kk _ _ _ _ _ _ _ _ hR2 (by dsimp only; omega) (by dsimp only; omega)
    · obtain ⟨iv, hiv⟩ := wcode_zero (Nat.le_of_ble_eq_true rfl) hk0 hag.2.1
      have hzi := hag.2.2 iv hiv
      refine k_aload_n (q := 466) hC dL_law_465 rfl rfl ?_
      refine k_iconst (q := 467) (v := (0 : Int32)) hC dL_law_466 (by decide) rfl ?_
      refine k_lald (q := 468) (y := iv.toInt64) hC dL_law_467 (kd99 (n := 100) (by decide)) (by unfold vp_in; decide) (by rw [hiv]; simp [xl, wlo, up2]) rfl ?_
      refine k_iload (q := 470) hC dL_law_468 rfl rfl ?_
      refine k_i2l (q := 471) hC dL_law_470 rfl ?_
      refine k_lcmp (q := 472) hC dL_law_471 rfl ?_
      refine k_if_eq (q := 475) (tgt := 477) hC dL_law_472 (by decide) rfl (fun _ => ?_) (fun h => absurd (by rw [hzi]; simp [lg_cmp]) h)
      refine k_goto (tgt := 1888) hC dL_law_477 (by decide) ?_
      refine k_lv (lv' := lvL i) (LSub.ok (by unfold lvL; exact ⟨rfl, rfl, rfl, rfl, rfl, trivial⟩)) ?_
      exact kk _ _ _ _ _ _ _ _ hR2 (by dsimp only; omega) (by dsimp only; omega)
set_option maxRecDepth 100000 in
set_option maxHeartbeats 8000000 in
theorem lc_7 {e : gEV} {C : gCx} (hC : COk e C cL_law 7 RL 2048 601024 7293034) {Ln : Nat} {xs : Nat → Int32} (hX : gScr e C Ln xs) (hl : (eL e).stackTraces = false) {Rel : gRel} (hG : MG Rel) (hM : M7 Rel) {a b : Nat} (hab : a + 1 ≤ 601024 ∧ b + 6 ≤ 7293034) {i : Int32} (hv1 : vp_in (i + (1 : Int32)) Ln) (hv2 : vp_in (i + (2 : Int32)) Ln) {xc : gXH} {fa tr : Nat} {pm : Nat → Nat} {hm : gIH} {lo : gLH} (hR : Rel xc fa tr pm hm)
    (kk : ∀ xc fa tr pm hm lo a' b', Rel xc fa tr pm hm → a' ≤ a + 1 → b' ≤ b + 6 → KW e C (100, a', b') 1888 (lvL i) [] (RR fa tr pm) (xc, hm, lo)) : KW e C (100, a, b) 480 (lvL i) [] (RR fa tr pm) (xc, hm, lo) := by
  obtain ⟨hfa, htr⟩ := hG _ _ _ _ _ hR
  have h0 : a + 0 ≤ 601024 ∧ b + 0 ≤ 7293034 := ⟨by omega, by omega⟩
  have h1 : a + 1 + 0 ≤ 601024 ∧ b + 6 + 0 ≤ 7293034 := ⟨by omega, by omega⟩
  obtain ⟨a1, ha1⟩ : ∃ y, xs (i + (1 : Int32)).toNatClampNeg = y := ⟨_, rfl⟩
  obtain ⟨a2, ha2⟩ : ∃ y, xs (i + (2 : Int32)).toNatClampNeg = y := ⟨_, rfl⟩
  unfold lvL
  obtain ⟨o, ho, z, hz, hR2, hag⟩ := hM _ _ _ _ _ hR a1 a2
  refine k_aload_n (q := 481) hC dL_law_480 rfl rfl ?_
  refine k_aload_nS (q := 482) hC dL_law_481 rfl rfl ?_
  refine k_iload (q := 484) hC dL_law_482 rfl rfl ?_
  refine k_iconst (q := 485) (v := (1 : Int32)) hC dL_law_484 (by decide) rfl ?_
  refine k_iadd (q := 486) hC dL_law_485 rfl ?_
  refine k_sld (q := 487) (y := a1) hC hX dL_law_486 hv1 ha1 rfl ?_
  refine k_aload_nS (q := 488) hC dL_law_487 rfl rfl ?_
  refine k_iload (q := 490) hC dL_law_488 rfl rfl ?_
  refine k_iconst (q := 491) (v := (2 : Int32)) hC dL_law_490 (by decide) rfl ?_
  refine k_iadd (q := 492) hC dL_law_491 rfl ?_
  refine k_sld (q := 493) (y := a2) hC hX dL_law_492 hv2 ha2 rfl ?_
  refine k_aload_n (q := 494) hC dL_law_493 rfl rfl ?_
  refine k_wS (q := 497) (av := [.ref 0, .int a1, .int a2, .ref 99]) hC oL_lay sL_lay rfl dL_law_494 lk_L_132 (wL_lay e 100 (by decide) (RR fa tr pm) (RR o.2.2.1 o.2.2.2.1 o.2.2.2.2) xc o.2.1 hm lo a1 a2 o.1 (c_X9_lay e 100 (by decide) fa tr pm hfa htr hl xc (hm, lo) a1 a2 o ho) hag.2.1) (by decide) rfl (Nat.le_of_ble_eq_true rfl) hab rfl ?_
  refine k_istore (q := 499) (lv' := [some (.float 0), some (.ref 0), some (.ref 81), some (.ref 99), some (.int i), some (.int (wcode [1] o.1)), none]) hC dL_law_497 (by decide) rfl rfl ?_
  refine k_aload_n (q := 500) hC dL_law_499 rfl rfl ?_
  refine k_aload_nS (q := 501) hC dL_law_500 rfl rfl ?_
  refine k_iload (q := 503) hC dL_law_501 rfl rfl ?_
  refine k_iconst (q := 504) (v := (1 : Int32)) hC dL_law_503 (by decide) rfl ?_
  refine k_iadd (q := 505) hC dL_law_504 rfl ?_
  refine k_sld (q := 506) (y := a1) hC hX dL_law_505 hv1 ha1 rfl ?_
  refine k_aload_nS (q := 507) hC dL_law_506 rfl rfl ?_
  refine k_iload (q := 509) hC dL_law_507 rfl rfl ?_
  refine k_iconst (q := 510) (v := (2 : Int32)) hC dL_law_509 (by decide) rfl ?_
  refine k_iadd (q := 511) hC dL_law_510 rfl ?_
  refine k_sld (q := 512) (y := a2) hC hX dL_law_511 hv2 ha2 rfl ?_
  refine k_callV (q := 515) (ex := false) (av := [.ref 81, .int a1, .int a2]) (c0 := 81) (As := [.int a1, .int a2]) (cm := 0) (sm := 0) hC oX10_lay vX10_lay rfl rfl (kd81 (n := 100) (by decide)) rfl rfl dL_law_512 lk_L_135 (c_X10_lay e 100 (by decide) o.2.2.1 o.2.2.2.1 o.2.2.2.2 o.2.1 hm (wlo o.1 lo) a1 a2 z hz) (by decide) rfl (Nat.le_of_ble_eq_true rfl) h1 (fun h => Bool.noConfusion h) rfl rfl ?_
  refine k_istore (q := 517) (lv' := [some (.float 0), some (.ref 0), some (.ref 81), some (.ref 99), some (.int i), some (.int (wcode [1] o.1)), some (.int z.1)]) hC dL_law_515 (by decide) rfl rfl ?_
  refine k_aload_n (q := 518) hC dL_law_517 rfl rfl ?_
  refine k_callV (q := 521) (ex := false) (av := [.ref 81]) (c0 := 81) (As := []) (cm := 0) (sm := 0) hC oX10_thrown vX10_thrown rfl rfl (kd81 (n := 100) (by decide)) rfl rfl dL_law_518 lk_L_113 (c_X10_thrown e 100 (by decide) _ o.2.1 z.2 (wlo o.1 lo)) (by decide) rfl (Nat.le_of_ble_eq_true rfl) h1 (fun h => Bool.noConfusion h) rfl rfl ?_
  refine k_iload (q := 523) hC dL_law_521 rfl rfl ?_
  refine k_icmp_eq (q := 526) (tgt := 528) hC dL_law_523 (by decide) rfl (fun _ => ?_) (fun h => absurd hag.1 h)
  refine k_iload (q := 530) hC dL_law_528 rfl rfl ?_
  refine k_if_ne (q := 533) (tgt := 545) hC dL_law_530 (by decide) rfl (fun _ => ?_) (fun hk0 => ?_)
  · skip
    refine k_goto (tgt := 1888) hC dL_law_545 (by decide) ?_
    refine k_lv (lv' := lvL i) (LSub.ok (by unfold lvL; exact ⟨rfl, rfl, rfl, rfl, rfl, trivial⟩)) ?_
    exact kk _ _ _ _ _ _ _ _ hR2 (by dsimp only; omega) (by dsimp only; omega)
  · obtain ⟨iv, hiv⟩ := wcode_zero (Nat.le_of_ble_eq_true rfl) hk0 hag.2.1
    have hzi := hag.2.2 iv hiv
    refine k_aload_n (q := 534) hC dL_law_533 rfl rfl ?_
    refine k_iconst (q := 535) (v := (0 : Int32)) hC dL_law_534 (by decide) rfl ?_
    refine k_lald (q := 536) (y := iv.toInt64) hC dL_law_535 (kd99 (n := 100) (by decide)) (by unfold vp_in; decide) (by rw [hiv]; simp [xl, wlo, up2]) rfl ?_
    refine k_iload (q := 538) hC dL_law_536 rfl rfl ?_
    refine k_i2l (q := 539) hC dL_law_538 rfl ?_
    refine k_lcmp (q := 540) hC dL_law_539 rfl ?_
    refine k_if_eq (q := 543) (tgt := 545) hC dL_law_540 (by decide) rfl (fun _ => ?_) (fun h => absurd (by rw [hzi]; simp [lg_cmp]) h)
    refine k_goto (tgt := 1888) hC dL_law_545 (by decide) ?_
    refine k_lv (lv' := lvL i) (LSub.ok (by unfold lvL; exact ⟨rfl, rfl, rfl, rfl, rfl, trivial⟩)) ?_
    exact kk _ _ _ _ _ _ _ _ hR2 (by dsimp only; omega) (by dsimp only; omega)
set_option maxRecDepth 100000 in
set_option maxHeartbeats 8000000 in
theorem lc_8 {e : gEV} {C : gCx} (hC : COk e C cL_law 7 RL 2048 601024 7293034) {Ln : Nat} {xs : Nat → Int32} (hX : gScr e C Ln xs) (hl : (eL e).stackTraces = false) {Rel : gRel} (hG : MG Rel) (hM : M8 Rel) {a b : Nat} (hab : a + 1 ≤ 601024 ∧ b + 6 ≤ 7293034) {i : Int32} (hv1 : vp_in (i + (1 : Int32)) Ln) {xc : gXH} {fa tr : Nat} {pm : Nat → Nat} {hm : gIH} {lo : gLH} (hR : Rel xc fa tr pm hm)
    (kk : ∀ xc fa tr pm hm lo a' b', Rel xc fa tr pm hm → a' ≤ a + 1 → b' ≤ b + 6 → KW e C (100, a', b') 1888 (lvL i) [] (RR fa tr pm) (xc, hm, lo)) : KW e C (100, a, b) 548 (lvL i) [] (RR fa tr pm) (xc, hm, lo) := by
  obtain ⟨hfa, htr⟩ := hG _ _ _ _ _ hR
  have h0 : a + 0 ≤ 601024 ∧ b + 0 ≤ 7293034 := ⟨by omega, by omega⟩
  have h1 : a + 1 + 0 ≤ 601024 ∧ b + 6 + 0 ≤ 7293034 := ⟨by omega, by omega⟩
  obtain ⟨a1, ha1⟩ : ∃ y, xs (i + (1 : Int32)).toNatClampNeg = y := ⟨_, rfl⟩
  unfold lvL
  obtain ⟨o, ho, z, hz, hR2, hag⟩ := hM _ _ _ _ _ hR a1
  refine k_aload_n (q := 549) hC dL_law_548 rfl rfl ?_
  refine k_aload_nS (q := 550) hC dL_law_549 rfl rfl ?_
  refine k_iload (q := 552) hC dL_law_550 rfl rfl ?_
  refine k_iconst (q := 553) (v := (1 : Int32)) hC dL_law_552 (by decide) rfl ?_
  refine k_iadd (q := 554) hC dL_law_553 rfl ?_
  refine k_sld (q := 555) (y := a1) hC hX dL_law_554 hv1 ha1 rfl ?_
  refine k_aload_n (q := 556) hC dL_law_555 rfl rfl ?_
  refine k_wS (q := 559) (av := [.ref 0, .int a1, .ref 99]) hC oL_shut sL_shut rfl dL_law_556 lk_L_136 (wL_shut e 100 (by decide) (RR fa tr pm) (RR o.2.2.1 o.2.2.2.1 o.2.2.2.2) xc o.2.1 hm lo a1 o.1 (c_X9_shut e 100 (by decide) fa tr pm hfa htr hl xc (hm, lo) a1 o ho) hag.2.1) (by decide) rfl (Nat.le_of_ble_eq_true rfl) hab rfl ?_
  refine k_istore (q := 561) (lv' := [some (.float 0), some (.ref 0), some (.ref 81), some (.ref 99), some (.int i), some (.int (wcode [1] o.1)), none]) hC dL_law_559 (by decide) rfl rfl ?_
  refine k_aload_n (q := 562) hC dL_law_561 rfl rfl ?_
  refine k_aload_nS (q := 563) hC dL_law_562 rfl rfl ?_
  refine k_iload (q := 565) hC dL_law_563 rfl rfl ?_
  refine k_iconst (q := 566) (v := (1 : Int32)) hC dL_law_565 (by decide) rfl ?_
  refine k_iadd (q := 567) hC dL_law_566 rfl ?_
  refine k_sld (q := 568) (y := a1) hC hX dL_law_567 hv1 ha1 rfl ?_
  refine k_callV (q := 571) (ex := false) (av := [.ref 81, .int a1]) (c0 := 81) (As := [.int a1]) (cm := 0) (sm := 0) hC oX10_shut vX10_shut rfl rfl (kd81 (n := 100) (by decide)) rfl rfl dL_law_568 lk_L_139 (c_X10_shut e 100 (by decide) o.2.2.1 o.2.2.2.1 o.2.2.2.2 o.2.1 hm (wlo o.1 lo) a1 z hz) (by decide) rfl (Nat.le_of_ble_eq_true rfl) h1 (fun h => Bool.noConfusion h) rfl rfl ?_
  refine k_istore (q := 573) (lv' := [some (.float 0), some (.ref 0), some (.ref 81), some (.ref 99), some (.int i), some (.int (wcode [1] o.1)), some (.int z.1)]) hC dL_law_571 (by decide) rfl rfl ?_
  refine k_aload_n (q := 574) hC dL_law_573 rfl rfl ?_
  refine k_callV (q := 577) (ex := false) (av := [.ref 81]) (c0 := 81) (As := []) (cm := 0) (sm := 0) hC oX10_thrown vX10_thrown rfl rfl (kd81 (n := 100) (by decide)) rfl rfl dL_law_574 lk_L_113 (c_X10_thrown e 100 (by decide) _ o.2.1 z.2 (wlo o.1 lo)) (by decide) rfl (Nat.le_of_ble_eq_true rfl) h1 (fun h => Bool.noConfusion h) rfl rfl ?_
  refine k_iload (q := 579) hC dL_law_577 rfl rfl ?_
  refine k_icmp_eq (q := 582) (tgt := 584) hC dL_law_579 (by decide) rfl (fun _ => ?_) (fun h => absurd hag.1 h)
  refine k_iload (q := 586) hC dL_law_584 rfl rfl ?_
  refine k_if_ne (q := 589) (tgt := 601) hC dL_law_586 (by decide) rfl (fun _ => ?_) (fun hk0 => ?_)
  · skip
    refine k_goto (tgt := 1888) hC dL_law_601 (by decide) ?_
    refine k_lv (lv' := lvL i) (LSub.ok (by unfold lvL; exact ⟨rfl, rfl, rfl, rfl, rfl, trivial⟩)) ?_
    exact kk _ _ _ _ _ _ _ _ hR2 (by dsimp only; omega) (by dsimp only; omega)
  · obtain ⟨iv, hiv⟩ := wcode_zero (Nat.le_of_ble_eq_true rfl) hk0 hag.2.1
    have hzi := hag.2.2 iv hiv
    refine k_aload_n (q := 590) hC dL_law_589 rfl rfl ?_
    refine k_iconst (q := 591) (v := (0 : Int32)) hC dL_law_590 (by decide) rfl ?_
    refine k_lald (q := 592) (y := iv.toInt64) hC dL_law_591 (kd99 (n := 100) (by decide)) (by unfold vp_in; decide) (by rw [hiv]; simp [xl, wlo, up2]) rfl ?_
    refine k_iload (q := 594) hC dL_law_592 rfl rfl ?_
    refine k_i2l (q := 595) hC dL_law_594 rfl ?_
    refine k_lcmp (q := 596) hC dL_law_595 rfl ?_
    refine k_if_eq (q := 599) (tgt := 601) hC dL_law_596 (by decide) rfl (fun _ => ?_) (fun h => absurd (by rw [hzi]; simp [lg_cmp]) h)
    refine k_goto (tgt := 1888) hC dL_law_601 (by decide) ?_
    refine k_lv (lv' := lvL i) (LSub.ok (by unfold lvL; exact ⟨rfl, rfl, rfl, rfl, rfl, trivial⟩)) ?_
    exact kk _ _ _ _ _ _ _ _ hR2 (by dsimp only; omega) (by dsimp only; omega)
set_option maxRecDepth 100000 in
set_option maxHeartbeats 8000000 in
theorem lc_9 {e : gEV} {C : gCx} (hC : COk e C cL_law 7 RL 2048 601024 7293034) {Ln : Nat} {xs : Nat → Int32} (hX : gScr e C Ln xs) (hl : (eL e).stackTraces = false) {Rel : gRel} (hG : MG Rel) (hM : M9 Rel) {a b : Nat} (hab : a + 1 ≤ 601024 ∧ b + 6 ≤ 7293034) {i : Int32} (hv1 : vp_in (i + (1 : Int32)) Ln) {xc : gXH} {fa tr : Nat} {pm : Nat → Nat} {hm : gIH} {lo : gLH} (hR : Rel xc fa tr pm hm)
    (kk : ∀ xc fa tr pm hm lo a' b', Rel xc fa tr pm hm → a' ≤ a + 1 → b' ≤ b + 6 → KW e C (100, a', b') 1888 (lvL i) [] (RR fa tr pm) (xc, hm, lo)) : KW e C (100, a, b) 604 (lvL i) [] (RR fa tr pm) (xc, hm, lo) := by
  obtain ⟨hfa, htr⟩ := hG _ _ _ _ _ hR
  have h0 : a + 0 ≤ 601024 ∧ b + 0 ≤ 7293034 := ⟨by omega, by omega⟩
  have h1 : a + 1 + 0 ≤ 601024 ∧ b + 6 + 0 ≤ 7293034 := ⟨by omega, by omega⟩
  obtain ⟨a1, ha1⟩ : ∃ y, xs (i + (1 : Int32)).toNatClampNeg = y := ⟨_, rfl⟩
  unfold lvL
  obtain ⟨o, ho, z, hz, hR2, hag⟩ := hM _ _ _ _ _ hR a1
  refine k_aload_n (q := 605) hC dL_law_604 rfl rfl ?_
  refine k_aload_nS (q := 606) hC dL_law_605 rfl rfl ?_
  refine k_iload (q := 608) hC dL_law_606 rfl rfl ?_
  refine k_iconst (q := 609) (v := (1 : Int32)) hC dL_law_608 (by decide) rfl ?_
  refine k_iadd (q := 610) hC dL_law_609 rfl ?_
  refine k_sld (q := 611) (y := a1) hC hX dL_law_610 hv1 ha1 rfl ?_
  refine k_aload_n (q := 612) hC dL_law_611 rfl rfl ?_
  refine k_wS (q := 615) (av := [.ref 0, .int a1, .ref 99]) hC oL_open sL_open rfl dL_law_612 lk_L_140 (wL_open e 100 (by decide) (RR fa tr pm) (RR o.2.2.1 o.2.2.2.1 o.2.2.2.2) xc o.2.1 hm lo a1 o.1 (c_X9_open e 100 (by decide) fa tr pm hfa htr hl xc (hm, lo) a1 o ho) hag.2.1) (by decide) rfl (Nat.le_of_ble_eq_true rfl) hab rfl ?_
  refine k_istore (q := 617) (lv' := [some (.float 0), some (.ref 0), some (.ref 81), some (.ref 99), some (.int i), some (.int (wcode [1] o.1)), none]) hC dL_law_615 (by decide) rfl rfl ?_
  refine k_aload_n (q := 618) hC dL_law_617 rfl rfl ?_
  refine k_aload_nS (q := 619) hC dL_law_618 rfl rfl ?_
  refine k_iload (q := 621) hC dL_law_619 rfl rfl ?_
  refine k_iconst (q := 622) (v := (1 : Int32)) hC dL_law_621 (by decide) rfl ?_
  refine k_iadd (q := 623) hC dL_law_622 rfl ?_
  refine k_sld (q := 624) (y := a1) hC hX dL_law_623 hv1 ha1 rfl ?_
  refine k_callV (q := 627) (ex := false) (av := [.ref 81, .int a1]) (c0 := 81) (As := [.int a1]) (cm := 0) (sm := 0) hC oX10_open vX10_open rfl rfl (kd81 (n := 100) (by decide)) rfl rfl dL_law_624 lk_L_142 (c_X10_open e 100 (by decide) o.2.2.1 o.2.2.2.1 o.2.2.2.2 o.2.1 hm (wlo o.1 lo) a1 z hz) (by decide) rfl (Nat.le_of_ble_eq_true rfl) h1 (fun h => Bool.noConfusion h) rfl rfl ?_
  refine k_istore (q := 629) (lv' := [some (.float 0), some (.ref 0), some (.ref 81), some (.ref 99), some (.int i), some (.int (wcode [1] o.1)), some (.int z.1)]) hC dL_law_627 (by decide) rfl rfl ?_
  refine k_aload_n (q := 630) hC dL_law_629 rfl rfl ?_
  refine k_callV (q := 633) (ex := false) (av := [.ref 81]) (c0 := 81) (As := []) (cm := 0) (sm := 0) hC oX10_thrown vX10_thrown rfl rfl (kd81 (n := 100) (by decide)) rfl rfl dL_law_630 lk_L_113 (c_X10_thrown e 100 (by decide) _ o.2.1 z.2 (wlo o.1 lo)) (by decide) rfl (Nat.le_of_ble_eq_true rfl) h1 (fun h => Bool.noConfusion h) rfl rfl ?_
  refine k_iload (q := 635) hC dL_law_633 rfl rfl ?_
  refine k_icmp_eq (q := 638) (tgt := 640) hC dL_law_635 (by decide) rfl (fun _ => ?_) (fun h => absurd hag.1 h)
  refine k_iload (q := 642) hC dL_law_640 rfl rfl ?_
  refine k_if_ne (q := 645) (tgt := 657) hC dL_law_642 (by decide) rfl (fun _ => ?_) (fun hk0 => ?_)
  · skip
    refine k_goto (tgt := 1888) hC dL_law_657 (by decide) ?_
    refine k_lv (lv' := lvL i) (LSub.ok (by unfold lvL; exact ⟨rfl, rfl, rfl, rfl, rfl, trivial⟩)) ?_
    exact kk _ _ _ _ _ _ _ _ hR2 (by dsimp only; omega) (by dsimp only; omega)
  · obtain ⟨iv, hiv⟩ := wcode_zero (Nat.le_of_ble_eq_true rfl) hk0 hag.2.1
    have hzi := hag.2.2 iv hiv
    refine k_aload_n (q := 646) hC dL_law_645 rfl rfl ?_
    refine k_iconst (q := 647) (v := (0 : Int32)) hC dL_law_646 (by decide) rfl ?_
    refine k_lald (q := 648) (y := iv.toInt64) hC dL_law_647 (kd99 (n := 100) (by decide)) (by unfold vp_in; decide) (by rw [hiv]; simp [xl, wlo, up2]) rfl ?_
    refine k_iload (q := 650) hC dL_law_648 rfl rfl ?_
    refine k_i2l (q := 651) hC dL_law_650 rfl ?_
    refine k_lcmp (q := 652) hC dL_law_651 rfl ?_
    refine k_if_eq (q := 655) (tgt := 657) hC dL_law_652 (by decide) rfl (fun _ => ?_) (fun h => absurd (by rw [hzi]; simp [lg_cmp]) h)
    refine k_goto (tgt := 1888) hC dL_law_657 (by decide) ?_
    refine k_lv (lv' := lvL i) (LSub.ok (by unfold lvL; exact ⟨rfl, rfl, rfl, rfl, rfl, trivial⟩)) ?_
    exact kk _ _ _ _ _ _ _ _ hR2 (by dsimp only; omega) (by dsimp only; omega)
set_option maxRecDepth 100000 in
set_option maxHeartbeats 8000000 in
theorem lc_10 {e : gEV} {C : gCx} (hC : COk e C cL_law 7 RL 2048 601024 7293034) {Ln : Nat} {xs : Nat → Int32} (hX : gScr e C Ln xs) (hl : (eL e).stackTraces = false) {Rel : gRel} (hG : MG Rel) (hM : M10 Rel) {a b : Nat} (hab : a + 1 ≤ 601024 ∧ b + 6 ≤ 7293034) {i : Int32} (hv1 : vp_in (i + (1 : Int32)) Ln) (hv2 : vp_in (i + (2 : Int32)) Ln) {xc : gXH} {fa tr : Nat} {pm : Nat → Nat} {hm : gIH} {lo : gLH} (hR : Rel xc fa tr pm hm)
    (kk : ∀ xc fa tr pm hm lo a' b', Rel xc fa tr pm hm → a' ≤ a + 1 → b' ≤ b + 6 → KW e C (100, a', b') 1888 (lvL i) [] (RR fa tr pm) (xc, hm, lo)) : KW e C (100, a, b) 660 (lvL i) [] (RR fa tr pm) (xc, hm, lo) := by
  obtain ⟨hfa, htr⟩ := hG _ _ _ _ _ hR
  have h0 : a + 0 ≤ 601024 ∧ b + 0 ≤ 7293034 := ⟨by omega, by omega⟩
  have h1 : a + 1 + 0 ≤ 601024 ∧ b + 6 + 0 ≤ 7293034 := ⟨by omega, by omega⟩
  obtain ⟨a1, ha1⟩ : ∃ y, xs (i + (1 : Int32)).toNatClampNeg = y := ⟨_, rfl⟩
  obtain ⟨a2, ha2⟩ : ∃ y, xs (i + (2 : Int32)).toNatClampNeg = y := ⟨_, rfl⟩
  unfold lvL
  obtain ⟨o, ho, z, hz, hR2, hag⟩ := hM _ _ _ _ _ hR a1 a2
  refine k_aload_n (q := 661) hC dL_law_660 rfl rfl ?_
  refine k_aload_nS (q := 662) hC dL_law_661 rfl rfl ?_
  refine k_iload (q := 664) hC dL_law_662 rfl rfl ?_
  refine k_iconst (q := 665) (v := (1 : Int32)) hC dL_law_664 (by decide) rfl ?_
  refine k_iadd (q := 666) hC dL_law_665 rfl ?_
  refine k_sld (q := 667) (y := a1) hC hX dL_law_666 hv1 ha1 rfl ?_
  refine k_aload_nS (q := 668) hC dL_law_667 rfl rfl ?_
  refine k_iload (q := 670) hC dL_law_668 rfl rfl ?_
  refine k_iconst (q := 671) (v := (2 : Int32)) hC dL_law_670 (by decide) rfl ?_
  refine k_iadd (q := 672) hC dL_law_671 rfl ?_
  refine k_sld (q := 673) (y := a2) hC hX dL_law_672 hv2 ha2 rfl ?_
  refine k_aload_n (q := 674) hC dL_law_673 rfl rfl ?_
  refine k_wS (q := 677) (av := [.ref 0, .int a1, .int a2, .ref 99]) hC oL_toll sL_toll rfl dL_law_674 lk_L_143 (wL_toll e 100 (by decide) (RR fa tr pm) (RR o.2.2.1 o.2.2.2.1 o.2.2.2.2) xc o.2.1 hm lo a1 a2 o.1 (c_X9_toll e 100 (by decide) fa tr pm hfa htr hl xc (hm, lo) a1 a2 o ho) hag.2.1) (by decide) rfl (Nat.le_of_ble_eq_true rfl) hab rfl ?_
  refine k_istore (q := 679) (lv' := [some (.float 0), some (.ref 0), some (.ref 81), some (.ref 99), some (.int i), some (.int (wcode [0, 1] o.1)), none]) hC dL_law_677 (by decide) rfl rfl ?_
  refine k_aload_n (q := 680) hC dL_law_679 rfl rfl ?_
  refine k_aload_nS (q := 681) hC dL_law_680 rfl rfl ?_
  refine k_iload (q := 683) hC dL_law_681 rfl rfl ?_
  refine k_iconst (q := 684) (v := (1 : Int32)) hC dL_law_683 (by decide) rfl ?_
  refine k_iadd (q := 685) hC dL_law_684 rfl ?_
  refine k_sld (q := 686) (y := a1) hC hX dL_law_685 hv1 ha1 rfl ?_
  refine k_aload_nS (q := 687) hC dL_law_686 rfl rfl ?_
  refine k_iload (q := 689) hC dL_law_687 rfl rfl ?_
  refine k_iconst (q := 690) (v := (2 : Int32)) hC dL_law_689 (by decide) rfl ?_
  refine k_iadd (q := 691) hC dL_law_690 rfl ?_
  refine k_sld (q := 692) (y := a2) hC hX dL_law_691 hv2 ha2 rfl ?_
  refine k_callV (q := 695) (ex := false) (av := [.ref 81, .int a1, .int a2]) (c0 := 81) (As := [.int a1, .int a2]) (cm := 0) (sm := 0) hC oX10_toll vX10_toll rfl rfl (kd81 (n := 100) (by decide)) rfl rfl dL_law_692 lk_L_145 (c_X10_toll e 100 (by decide) o.2.2.1 o.2.2.2.1 o.2.2.2.2 o.2.1 hm (wlo o.1 lo) a1 a2 z hz) (by decide) rfl (Nat.le_of_ble_eq_true rfl) h1 (fun h => Bool.noConfusion h) rfl rfl ?_
  refine k_istore (q := 697) (lv' := [some (.float 0), some (.ref 0), some (.ref 81), some (.ref 99), some (.int i), some (.int (wcode [0, 1] o.1)), some (.int z.1)]) hC dL_law_695 (by decide) rfl rfl ?_
  refine k_aload_n (q := 698) hC dL_law_697 rfl rfl ?_
  refine k_callV (q := 701) (ex := false) (av := [.ref 81]) (c0 := 81) (As := []) (cm := 0) (sm := 0) hC oX10_thrown vX10_thrown rfl rfl (kd81 (n := 100) (by decide)) rfl rfl dL_law_698 lk_L_113 (c_X10_thrown e 100 (by decide) _ o.2.1 z.2 (wlo o.1 lo)) (by decide) rfl (Nat.le_of_ble_eq_true rfl) h1 (fun h => Bool.noConfusion h) rfl rfl ?_
  refine k_iload (q := 703) hC dL_law_701 rfl rfl ?_
  refine k_icmp_eq (q := 706) (tgt := 708) hC dL_law_703 (by decide) rfl (fun _ => ?_) (fun h => absurd hag.1 h)
  refine k_iload (q := 710) hC dL_law_708 rfl rfl ?_
  refine k_if_ne (q := 713) (tgt := 725) hC dL_law_710 (by decide) rfl (fun _ => ?_) (fun hk0 => ?_)
  · skip
    refine k_goto (tgt := 1888) hC dL_law_725 (by decide) ?_
    refine k_lv (lv' := lvL i) (LSub.ok (by unfold lvL; exact ⟨rfl, rfl, rfl, rfl, rfl, trivial⟩)) ?_
    exact kk _ _ _ _ _ _ _ _ hR2 (by dsimp only; omega) (by dsimp only; omega)
  · obtain ⟨iv, hiv⟩ := wcode_zero (Nat.le_of_ble_eq_true rfl) hk0 hag.2.1
    have hzi := hag.2.2 iv hiv
    refine k_aload_n (q := 714) hC dL_law_713 rfl rfl ?_
    refine k_iconst (q := 715) (v := (0 : Int32)) hC dL_law_714 (by decide) rfl ?_
    refine k_lald (q := 716) (y := iv.toInt64) hC dL_law_715 (kd99 (n := 100) (by decide)) (by unfold vp_in; decide) (by rw [hiv]; simp [xl, wlo, up2]) rfl ?_
    refine k_iload (q := 718) hC dL_law_716 rfl rfl ?_
    refine k_i2l (q := 719) hC dL_law_718 rfl ?_
    refine k_lcmp (q := 720) hC dL_law_719 rfl ?_
    refine k_if_eq (q := 723) (tgt := 725) hC dL_law_720 (by decide) rfl (fun _ => ?_) (fun h => absurd (by rw [hzi]; simp [lg_cmp]) h)
    refine k_goto (tgt := 1888) hC dL_law_725 (by decide) ?_
    refine k_lv (lv' := lvL i) (LSub.ok (by unfold lvL; exact ⟨rfl, rfl, rfl, rfl, rfl, trivial⟩)) ?_
    exact kk _ _ _ _ _ _ _ _ hR2 (by dsimp only; omega) (by dsimp only; omega)
set_option maxRecDepth 100000 in
set_option maxHeartbeats 8000000 in
theorem lc_11 {e : gEV} {C : gCx} (hC : COk e C cL_law 7 RL 2048 601024 7293034) {Ln : Nat} {xs : Nat → Int32} (hX : gScr e C Ln xs) (hl : (eL e).stackTraces = false) {Rel : gRel} (hG : MG Rel) (hM : M11 Rel) {a b : Nat} (hab : a + 1 ≤ 601024 ∧ b + 6 ≤ 7293034) {i : Int32} {xc : gXH} {fa tr : Nat} {pm : Nat → Nat} {hm : gIH} {lo : gLH} (hR : Rel xc fa tr pm hm)
    (kk : ∀ xc fa tr pm hm lo a' b', Rel xc fa tr pm hm → a' ≤ a + 1 → b' ≤ b + 6 → KW e C (100, a', b') 1888 (lvL i) [] (RR fa tr pm) (xc, hm, lo)) : KW e C (100, a, b) 728 (lvL i) [] (RR fa tr pm) (xc, hm, lo) := by
  obtain ⟨hfa, htr⟩ := hG _ _ _ _ _ hR
  have h0 : a + 0 ≤ 601024 ∧ b + 0 ≤ 7293034 := ⟨by omega, by omega⟩
  have h1 : a + 1 + 0 ≤ 601024 ∧ b + 6 + 0 ≤ 7293034 := ⟨by omega, by omega⟩
  unfold lvL
  obtain ⟨o, ho, z, hz, hR2, hag⟩ := hM _ _ _ _ _ hR
  refine k_aload_n (q := 729) hC dL_law_728 rfl rfl ?_
  refine k_aload_n (q := 730) hC dL_law_729 rfl rfl ?_
  refine k_wS (q := 733) (av := [.ref 0, .ref 99]) hC oL_undo sL_undo rfl dL_law_730 lk_L_146 (wL_undo e 100 (by decide) (RR fa tr pm) (RR o.2.2.1 o.2.2.2.1 o.2.2.2.2) xc o.2.1 hm lo  o.1 (c_X9_undo e 100 (by decide) fa tr pm hfa htr hl xc (hm, lo) o ho) hag.2.1) (by decide) rfl (Nat.le_of_ble_eq_true rfl) hab rfl ?_
  refine k_istore (q := 735) (lv' := [some (.float 0), some (.ref 0), some (.ref 81), some (.ref 99), some (.int i), some (.int (wcode [1] o.1)), none]) hC dL_law_733 (by decide) rfl rfl ?_
  refine k_aload_n (q := 736) hC dL_law_735 rfl rfl ?_
  refine k_callV (q := 739) (ex := false) (av := [.ref 81]) (c0 := 81) (As := []) (cm := 0) (sm := 0) hC oX10_undo vX10_undo rfl rfl (kd81 (n := 100) (by decide)) rfl rfl dL_law_736 lk_L_148 (c_X10_undo e 100 (by decide) o.2.2.1 o.2.2.2.1 o.2.2.2.2 o.2.1 hm (wlo o.1 lo) z hz) (by decide) rfl (Nat.le_of_ble_eq_true rfl) h1 (fun h => Bool.noConfusion h) rfl rfl ?_
  refine k_istore (q := 741) (lv' := [some (.float 0), some (.ref 0), some (.ref 81), some (.ref 99), some (.int i), some (.int (wcode [1] o.1)), some (.int z.1)]) hC dL_law_739 (by decide) rfl rfl ?_
  refine k_aload_n (q := 742) hC dL_law_741 rfl rfl ?_
  refine k_callV (q := 745) (ex := false) (av := [.ref 81]) (c0 := 81) (As := []) (cm := 0) (sm := 0) hC oX10_thrown vX10_thrown rfl rfl (kd81 (n := 100) (by decide)) rfl rfl dL_law_742 lk_L_113 (c_X10_thrown e 100 (by decide) _ o.2.1 z.2 (wlo o.1 lo)) (by decide) rfl (Nat.le_of_ble_eq_true rfl) h1 (fun h => Bool.noConfusion h) rfl rfl ?_
  refine k_iload (q := 747) hC dL_law_745 rfl rfl ?_
  refine k_icmp_eq (q := 750) (tgt := 752) hC dL_law_747 (by decide) rfl (fun _ => ?_) (fun h => absurd hag.1 h)
  refine k_iload (q := 754) hC dL_law_752 rfl rfl ?_
  refine k_if_ne (q := 757) (tgt := 769) hC dL_law_754 (by decide) rfl (fun _ => ?_) (fun hk0 => ?_)
  · skip
    refine k_goto (tgt := 1888) hC dL_law_769 (by decide) ?_
    refine k_lv (lv' := lvL i) (LSub.ok (by unfold lvL; exact ⟨rfl, rfl, rfl, rfl, rfl, trivial⟩)) ?_
    exact kk _ _ _ _ _ _ _ _ hR2 (by dsimp only; omega) (by dsimp only; omega)
  · obtain ⟨iv, hiv⟩ := wcode_zero (Nat.le_of_ble_eq_true rfl) hk0 hag.2.1
    have hzi := hag.2.2 iv hiv
    refine k_aload_n (q := 758) hC dL_law_757 rfl rfl ?_
    refine k_iconst (q := 759) (v := (0 : Int32)) hC dL_law_758 (by decide) rfl ?_
    refine k_lald (q := 760) (y := iv.toInt64) hC dL_law_759 (kd99 (n := 100) (by decide)) (by unfold vp_in; decide) (by rw [hiv]; simp [xl, wlo, up2]) rfl ?_
    refine k_iload (q := 762) hC dL_law_760 rfl rfl ?_
    refine k_i2l (q := 763) hC dL_law_762 rfl ?_
    refine k_lcmp (q := 764) hC dL_law_763 rfl ?_
    refine k_if_eq (q := 767) (tgt := 769) hC dL_law_764 (by decide) rfl (fun _ => ?_) (fun h => absurd (by rw [hzi]; simp [lg_cmp]) h)
    refine k_goto (tgt := 1888) hC dL_law_769 (by decide) ?_
    refine k_lv (lv' := lvL i) (LSub.ok (by unfold lvL; exact ⟨rfl, rfl, rfl, rfl, rfl, trivial⟩)) ?_
    exact kk _ _ _ _ _ _ _ _ hR2 (by dsimp only; omega) (by dsimp only; omega)
set_option maxRecDepth 100000 in
set_option maxHeartbeats 8000000 in
theorem lc_12 {e : gEV} {C : gCx} (hC : COk e C cL_law 7 RL 2048 601024 7293034) {Ln : Nat} {xs : Nat → Int32} (hX : gScr e C Ln xs) (hl : (eL e).stackTraces = false) {Rel : gRel} (hG : MG Rel) (hM : M12 Rel) {a b : Nat} (hab : a + 1 ≤ 601024 ∧ b + 6 ≤ 7293034) {i : Int32} (hv1 : vp_in (i + (1 : Int32)) Ln) {xc : gXH} {fa tr : Nat} {pm : Nat → Nat} {hm : gIH} {lo : gLH} (hR : Rel xc fa tr pm hm)
    (kk : ∀ xc fa tr pm hm lo a' b', Rel xc fa tr pm hm → a' ≤ a + 1 → b' ≤ b + 6 → KW e C (100, a', b') 1888 (lvL i) [] (RR fa tr pm) (xc, hm, lo)) : KW e C (100, a, b) 772 (lvL i) [] (RR fa tr pm) (xc, hm, lo) := by
  obtain ⟨hfa, htr⟩ := hG _ _ _ _ _ hR
  have h0 : a + 0 ≤ 601024 ∧ b + 0 ≤ 7293034 := ⟨by omega, by omega⟩
  have h1 : a + 1 + 0 ≤ 601024 ∧ b + 6 + 0 ≤ 7293034 := ⟨by omega, by omega⟩
  obtain ⟨a1, ha1⟩ : ∃ y, xs (i + (1 : Int32)).toNatClampNeg = y := ⟨_, rfl⟩
  unfold lvL
  obtain ⟨o, ho, z, hz, hR2, hag⟩ := hM _ _ _ _ _ hR a1
  refine k_aload_n (q := 773) hC dL_law_772 rfl rfl ?_
  refine k_aload_nS (q := 774) hC dL_law_773 rfl rfl ?_
  refine k_iload (q := 776) hC dL_law_774 rfl rfl ?_
  refine k_iconst (q := 777) (v := (1 : Int32)) hC dL_law_776 (by decide) rfl ?_
  refine k_iadd (q := 778) hC dL_law_777 rfl ?_
  refine k_sld (q := 779) (y := a1) hC hX dL_law_778 hv1 ha1 rfl ?_
  refine k_aload_n (q := 780) hC dL_law_779 rfl rfl ?_
  refine k_wS (q := 783) (av := [.ref 0, .int a1, .ref 99]) hC oL_latest sL_latest rfl dL_law_780 lk_L_149 (wL_latest e 100 (by decide) (RR fa tr pm) (RR fa tr pm) xc xc hm lo a1 o (c_X9_latest e 100 (by decide) fa tr pm hl xc (hm, lo) a1 o ho) hag.2.1) (by decide) rfl (Nat.le_of_ble_eq_true rfl) hab rfl ?_
  refine k_istore (q := 785) (lv' := [some (.float 0), some (.ref 0), some (.ref 81), some (.ref 99), some (.int i), some (.int (wcode [3] o)), none]) hC dL_law_783 (by decide) rfl rfl ?_
  refine k_aload_n (q := 786) hC dL_law_785 rfl rfl ?_
  refine k_aload_nS (q := 787) hC dL_law_786 rfl rfl ?_
  refine k_iload (q := 789) hC dL_law_787 rfl rfl ?_
  refine k_iconst (q := 790) (v := (1 : Int32)) hC dL_law_789 (by decide) rfl ?_
  refine k_iadd (q := 791) hC dL_law_790 rfl ?_
  refine k_sld (q := 792) (y := a1) hC hX dL_law_791 hv1 ha1 rfl ?_
  refine k_callV (q := 795) (ex := false) (av := [.ref 81, .int a1]) (c0 := 81) (As := [.int a1]) (cm := 0) (sm := 0) hC oX10_latest vX10_latest rfl rfl (kd81 (n := 100) (by decide)) rfl rfl dL_law_792 lk_L_151 (c_X10_latest e 100 (by decide) _ xc hm (wlo o lo) a1 z hz) (by decide) rfl (Nat.le_of_ble_eq_true rfl) h1 (fun h => Bool.noConfusion h) rfl rfl ?_
  refine k_istore (q := 797) (lv' := [some (.float 0), some (.ref 0), some (.ref 81), some (.ref 99), some (.int i), some (.int (wcode [3] o)), some (.int z.1)]) hC dL_law_795 (by decide) rfl rfl ?_
  refine k_aload_n (q := 798) hC dL_law_797 rfl rfl ?_
  refine k_callV (q := 801) (ex := false) (av := [.ref 81]) (c0 := 81) (As := []) (cm := 0) (sm := 0) hC oX10_thrown vX10_thrown rfl rfl (kd81 (n := 100) (by decide)) rfl rfl dL_law_798 lk_L_113 (c_X10_thrown e 100 (by decide) _ xc z.2 (wlo o lo)) (by decide) rfl (Nat.le_of_ble_eq_true rfl) h1 (fun h => Bool.noConfusion h) rfl rfl ?_
  refine k_iload (q := 803) hC dL_law_801 rfl rfl ?_
  refine k_icmp_eq (q := 806) (tgt := 808) hC dL_law_803 (by decide) rfl (fun _ => ?_) (fun h => absurd hag.1 h)
  refine k_iload (q := 810) hC dL_law_808 rfl rfl ?_
  refine k_if_ne (q := 813) (tgt := 825) hC dL_law_810 (by decide) rfl (fun _ => ?_) (fun hk0 => ?_)
  · skip
    refine k_goto (tgt := 1888) hC dL_law_825 (by decide) ?_
    refine k_lv (lv' := lvL i) (LSub.ok (by unfold lvL; exact ⟨rfl, rfl, rfl, rfl, rfl, trivial⟩)) ?_
    exact kk _ _ _ _ _ _ _ _ hR2 (by dsimp only; omega) (by dsimp only; omega)
  · obtain ⟨iv, hiv⟩ := wcode_zero (Nat.le_of_ble_eq_true rfl) hk0 hag.2.1
    have hzi := hag.2.2 iv hiv
    refine k_aload_n (q := 814) hC dL_law_813 rfl rfl ?_
    refine k_iconst (q := 815) (v := (0 : Int32)) hC dL_law_814 (by decide) rfl ?_
    refine k_lald (q := 816) (y := iv.toInt64) hC dL_law_815 (kd99 (n := 100) (by decide)) (by unfold vp_in; decide) (by rw [hiv]; simp [xl, wlo, up2]) rfl ?_
    refine k_iload (q := 818) hC dL_law_816 rfl rfl ?_
    refine k_i2l (q := 819) hC dL_law_818 rfl ?_
    refine k_lcmp (q := 820) hC dL_law_819 rfl ?_
    refine k_if_eq (q := 823) (tgt := 825) hC dL_law_820 (by decide) rfl (fun _ => ?_) (fun h => absurd (by rw [hzi]; simp [lg_cmp]) h)
    refine k_goto (tgt := 1888) hC dL_law_825 (by decide) ?_
    refine k_lv (lv' := lvL i) (LSub.ok (by unfold lvL; exact ⟨rfl, rfl, rfl, rfl, rfl, trivial⟩)) ?_
    exact kk _ _ _ _ _ _ _ _ hR2 (by dsimp only; omega) (by dsimp only; omega)
set_option maxRecDepth 100000 in
set_option maxHeartbeats 8000000 in
theorem lc_13 {e : gEV} {C : gCx} (hC : COk e C cL_law 7 RL 2048 601024 7293034) {Ln : Nat} {xs : Nat → Int32} (hX : gScr e C Ln xs) (hl : (eL e).stackTraces = false) {Rel : gRel} (hG : MG Rel) (hM : M13 Rel) {a b : Nat} (hab : a + 1 ≤ 601024 ∧ b + 6 ≤ 7293034) {i : Int32} (hv1 : vp_in (i + (1 : Int32)) Ln) (hv2 : vp_in (i + (2 : Int32)) Ln) {xc : gXH} {fa tr : Nat} {pm : Nat → Nat} {hm : gIH} {lo : gLH} (hR : Rel xc fa tr pm hm)
    (kk : ∀ xc fa tr pm hm lo a' b', Rel xc fa tr pm hm → a' ≤ a + 1 → b' ≤ b + 6 → KW e C (100, a', b') 1888 (lvL i) [] (RR fa tr pm) (xc, hm, lo)) : KW e C (100, a, b) 828 (lvL i) [] (RR fa tr pm) (xc, hm, lo) := by
  obtain ⟨hfa, htr⟩ := hG _ _ _ _ _ hR
  have h0 : a + 0 ≤ 601024 ∧ b + 0 ≤ 7293034 := ⟨by omega, by omega⟩
  have h1 : a + 1 + 0 ≤ 601024 ∧ b + 6 + 0 ≤ 7293034 := ⟨by omega, by omega⟩
  obtain ⟨a1, ha1⟩ : ∃ y, xs (i + (1 : Int32)).toNatClampNeg = y := ⟨_, rfl⟩
  obtain ⟨a2, ha2⟩ : ∃ y, xs (i + (2 : Int32)).toNatClampNeg = y := ⟨_, rfl⟩
  unfold lvL
  obtain ⟨o, ho, z, hz, hR2, hag⟩ := hM _ _ _ _ _ hR a1 a2
  refine k_aload_n (q := 829) hC dL_law_828 rfl rfl ?_
  refine k_aload_nS (q := 830) hC dL_law_829 rfl rfl ?_
  refine k_iload (q := 832) hC dL_law_830 rfl rfl ?_
  refine k_iconst (q := 833) (v := (1 : Int32)) hC dL_law_832 (by decide) rfl ?_
  refine k_iadd (q := 834) hC dL_law_833 rfl ?_
  refine k_sld (q := 835) (y := a1) hC hX dL_law_834 hv1 ha1 rfl ?_
  refine k_aload_nS (q := 836) hC dL_law_835 rfl rfl ?_
  refine k_iload (q := 838) hC dL_law_836 rfl rfl ?_
  refine k_iconst (q := 839) (v := (2 : Int32)) hC dL_law_838 (by decide) rfl ?_
  refine k_iadd (q := 840) hC dL_law_839 rfl ?_
  refine k_sld (q := 841) (y := a2) hC hX dL_law_840 hv2 ha2 rfl ?_
  refine k_aload_n (q := 842) hC dL_law_841 rfl rfl ?_
  refine k_wS (q := 845) (av := [.ref 0, .int a1, .int a2, .ref 99]) hC oL_node sL_node rfl dL_law_842 lk_L_152 (wL_node e 100 (by decide) (RR fa tr pm) (RR fa tr pm) xc o.2 hm lo a1 a2 o.1 (c_X9_node e 100 (by decide) fa tr pm hfa htr hl xc (hm, lo) a1 a2 o ho) hag.2.1) (by decide) rfl (Nat.le_of_ble_eq_true rfl) hab rfl ?_
  refine k_istore (q := 847) (lv' := [some (.float 0), some (.ref 0), some (.ref 81), some (.ref 99), some (.int i), some (.int (wcode [2, 3] o.1)), none]) hC dL_law_845 (by decide) rfl rfl ?_
  refine k_aload_n (q := 848) hC dL_law_847 rfl rfl ?_
  refine k_aload_nS (q := 849) hC dL_law_848 rfl rfl ?_
  refine k_iload (q := 851) hC dL_law_849 rfl rfl ?_
  refine k_iconst (q := 852) (v := (1 : Int32)) hC dL_law_851 (by decide) rfl ?_
  refine k_iadd (q := 853) hC dL_law_852 rfl ?_
  refine k_sld (q := 854) (y := a1) hC hX dL_law_853 hv1 ha1 rfl ?_
  refine k_aload_nS (q := 855) hC dL_law_854 rfl rfl ?_
  refine k_iload (q := 857) hC dL_law_855 rfl rfl ?_
  refine k_iconst (q := 858) (v := (2 : Int32)) hC dL_law_857 (by decide) rfl ?_
  refine k_iadd (q := 859) hC dL_law_858 rfl ?_
  refine k_sld (q := 860) (y := a2) hC hX dL_law_859 hv2 ha2 rfl ?_
  refine k_callV (q := 863) (ex := false) (av := [.ref 81, .int a1, .int a2]) (c0 := 81) (As := [.int a1, .int a2]) (cm := 0) (sm := 0) hC oX10_node vX10_node rfl rfl (kd81 (n := 100) (by decide)) rfl rfl dL_law_860 lk_L_154 (c_X10_node e 100 (by decide) fa tr pm o.2 hm (wlo o.1 lo) a1 a2 z hz) (by decide) rfl (Nat.le_of_ble_eq_true rfl) h1 (fun h => Bool.noConfusion h) rfl rfl ?_
  refine k_istore (q := 865) (lv' := [some (.float 0), some (.ref 0), some (.ref 81), some (.ref 99), some (.int i), some (.int (wcode [2, 3] o.1)), some (.int z.1)]) hC dL_law_863 (by decide) rfl rfl ?_
  refine k_aload_n (q := 866) hC dL_law_865 rfl rfl ?_
  refine k_callV (q := 869) (ex := false) (av := [.ref 81]) (c0 := 81) (As := []) (cm := 0) (sm := 0) hC oX10_thrown vX10_thrown rfl rfl (kd81 (n := 100) (by decide)) rfl rfl dL_law_866 lk_L_113 (c_X10_thrown e 100 (by decide) _ o.2 z.2 (wlo o.1 lo)) (by decide) rfl (Nat.le_of_ble_eq_true rfl) h1 (fun h => Bool.noConfusion h) rfl rfl ?_
  refine k_iload (q := 871) hC dL_law_869 rfl rfl ?_
  refine k_icmp_eq (q := 874) (tgt := 876) hC dL_law_871 (by decide) rfl (fun _ => ?_) (fun h => absurd hag.1 h)
  refine k_iload (q := 878) hC dL_law_876 rfl rfl ?_
  refine k_if_ne (q := 881) (tgt := 893) hC dL_law_878 (by decide) rfl (fun _ => ?_) (fun hk0 => ?_)
  · skip
    refine k_goto (tgt := 1888) hC dL_law_893 (by decide) ?_
    refine k_lv (lv' := lvL i) (LSub.ok (by unfold lvL; exact ⟨rfl, rfl, rfl, rfl, rfl, trivial⟩)) ?_
    exact kk _ _ _ _ _ _ _ _ hR2 (by dsimp only; omega) (by dsimp only; omega)
  · obtain ⟨iv, hiv⟩ := wcode_zero (Nat.le_of_ble_eq_true rfl) hk0 hag.2.1
    have hzi := hag.2.2 iv hiv
    refine k_aload_n (q := 882) hC dL_law_881 rfl rfl ?_
    refine k_iconst (q := 883) (v := (0 : Int32)) hC dL_law_882 (by decide) rfl ?_
    refine k_lald (q := 884) (y := iv.toInt64) hC dL_law_883 (kd99 (n := 100) (by decide)) (by unfold vp_in; decide) (by rw [hiv]; simp [xl, wlo, up2]) rfl ?_
    refine k_iload (q := 886) hC dL_law_884 rfl rfl ?_
    refine k_i2l (q := 887) hC dL_law_886 rfl ?_
    refine k_lcmp (q := 888) hC dL_law_887 rfl ?_
    refine k_if_eq (q := 891) (tgt := 893) hC dL_law_888 (by decide) rfl (fun _ => ?_) (fun h => absurd (by rw [hzi]; simp [lg_cmp]) h)
    refine k_goto (tgt := 1888) hC dL_law_893 (by decide) ?_
    refine k_lv (lv' := lvL i) (LSub.ok (by unfold lvL; exact ⟨rfl, rfl, rfl, rfl, rfl, trivial⟩)) ?_
    exact kk _ _ _ _ _ _ _ _ hR2 (by dsimp only; omega) (by dsimp only; omega)
set_option maxRecDepth 100000 in
set_option maxHeartbeats 8000000 in
theorem lc_14 {e : gEV} {C : gCx} (hC : COk e C cL_law 7 RL 2048 601024 7293034) {Ln : Nat} {xs : Nat → Int32} (hX : gScr e C Ln xs) (hl : (eL e).stackTraces = false) {Rel : gRel} (hG : MG Rel) (hM : M14 Rel) {a b : Nat} (hab : a + 1 ≤ 601024 ∧ b + 6 ≤ 7293034) {i : Int32} (hv1 : vp_in (i + (1 : Int32)) Ln) (hv2 : vp_in (i + (2 : Int32)) Ln) {xc : gXH} {fa tr : Nat} {pm : Nat → Nat} {hm : gIH} {lo : gLH} (hR : Rel xc fa tr pm hm)
    (kk : ∀ xc fa tr pm hm lo a' b', Rel xc fa tr pm hm → a' ≤ a + 1 → b' ≤ b + 6 → KW e C (100, a', b') 1888 (lvL i) [] (RR fa tr pm) (xc, hm, lo)) : KW e C (100, a, b) 896 (lvL i) [] (RR fa tr pm) (xc, hm, lo) := by
  obtain ⟨hfa, htr⟩ := hG _ _ _ _ _ hR
  have h0 : a + 0 ≤ 601024 ∧ b + 0 ≤ 7293034 := ⟨by omega, by omega⟩
  have h1 : a + 1 + 0 ≤ 601024 ∧ b + 6 + 0 ≤ 7293034 := ⟨by omega, by omega⟩
  obtain ⟨a1, ha1⟩ : ∃ y, xs (i + (1 : Int32)).toNatClampNeg = y := ⟨_, rfl⟩
  obtain ⟨a2, ha2⟩ : ∃ y, xs (i + (2 : Int32)).toNatClampNeg = y := ⟨_, rfl⟩
  unfold lvL
  obtain ⟨o, ho, z, hz, hR2, hag⟩ := hM _ _ _ _ _ hR a1 a2
  refine k_aload_n (q := 897) hC dL_law_896 rfl rfl ?_
  refine k_aload_nS (q := 898) hC dL_law_897 rfl rfl ?_
  refine k_iload (q := 900) hC dL_law_898 rfl rfl ?_
  refine k_iconst (q := 901) (v := (1 : Int32)) hC dL_law_900 (by decide) rfl ?_
  refine k_iadd (q := 902) hC dL_law_901 rfl ?_
  refine k_sld (q := 903) (y := a1) hC hX dL_law_902 hv1 ha1 rfl ?_
  refine k_aload_nS (q := 904) hC dL_law_903 rfl rfl ?_
  refine k_iload (q := 906) hC dL_law_904 rfl rfl ?_
  refine k_iconst (q := 907) (v := (2 : Int32)) hC dL_law_906 (by decide) rfl ?_
  refine k_iadd (q := 908) hC dL_law_907 rfl ?_
  refine k_sld (q := 909) (y := a2) hC hX dL_law_908 hv2 ha2 rfl ?_
  refine k_aload_n (q := 910) hC dL_law_909 rfl rfl ?_
  refine k_wS (q := 913) (av := [.ref 0, .int a1, .int a2, .ref 99]) hC oL_keeps sL_keeps rfl dL_law_910 lk_L_155 (wL_keeps e 100 (by decide) (RR fa tr pm) (RR fa tr pm) xc xc hm lo a1 a2 o (c_X9_keeps e 100 (by decide) fa tr pm hfa hl xc (hm, lo) a1 a2 o ho) hag.2.1) (by decide) rfl (Nat.le_of_ble_eq_true rfl) hab rfl ?_
  refine k_istore (q := 915) (lv' := [some (.float 0), some (.ref 0), some (.ref 81), some (.ref 99), some (.int i), some (.int (wcode [2] o)), none]) hC dL_law_913 (by decide) rfl rfl ?_
  refine k_aload_n (q := 916) hC dL_law_915 rfl rfl ?_
  refine k_aload_nS (q := 917) hC dL_law_916 rfl rfl ?_
  refine k_iload (q := 919) hC dL_law_917 rfl rfl ?_
  refine k_iconst (q := 920) (v := (1 : Int32)) hC dL_law_919 (by decide) rfl ?_
  refine k_iadd (q := 921) hC dL_law_920 rfl ?_
  refine k_sld (q := 922) (y := a1) hC hX dL_law_921 hv1 ha1 rfl ?_
  refine k_aload_nS (q := 923) hC dL_law_922 rfl rfl ?_
  refine k_iload (q := 925) hC dL_law_923 rfl rfl ?_
  refine k_iconst (q := 926) (v := (2 : Int32)) hC dL_law_925 (by decide) rfl ?_
  refine k_iadd (q := 927) hC dL_law_926 rfl ?_
  refine k_sld (q := 928) (y := a2) hC hX dL_law_927 hv2 ha2 rfl ?_
  refine k_callV (q := 931) (ex := false) (av := [.ref 81, .int a1, .int a2]) (c0 := 81) (As := [.int a1, .int a2]) (cm := 0) (sm := 0) hC oX10_keeps vX10_keeps rfl rfl (kd81 (n := 100) (by decide)) rfl rfl dL_law_928 lk_L_157 (c_X10_keeps e 100 (by decide) fa tr pm xc hm (wlz o lo) a1 a2 z hz) (by decide) rfl (Nat.le_of_ble_eq_true rfl) h1 (fun h => Bool.noConfusion h) rfl rfl ?_
  refine k_istore (q := 933) (lv' := [some (.float 0), some (.ref 0), some (.ref 81), some (.ref 99), some (.int i), some (.int (wcode [2] o)), some (.int z.1)]) hC dL_law_931 (by decide) rfl rfl ?_
  refine k_aload_n (q := 934) hC dL_law_933 rfl rfl ?_
  refine k_callV (q := 937) (ex := false) (av := [.ref 81]) (c0 := 81) (As := []) (cm := 0) (sm := 0) hC oX10_thrown vX10_thrown rfl rfl (kd81 (n := 100) (by decide)) rfl rfl dL_law_934 lk_L_113 (c_X10_thrown e 100 (by decide) _ xc z.2 (wlz o lo)) (by decide) rfl (Nat.le_of_ble_eq_true rfl) h1 (fun h => Bool.noConfusion h) rfl rfl ?_
  refine k_iload (q := 939) hC dL_law_937 rfl rfl ?_
  refine k_icmp_eq (q := 942) (tgt := 944) hC dL_law_939 (by decide) rfl (fun _ => ?_) (fun h => absurd hag.1 h)
  refine k_iload (q := 946) hC dL_law_944 rfl rfl ?_
  refine k_if_ne (q := 949) (tgt := 968) hC dL_law_946 (by decide) rfl (fun _ => ?_) (fun hk0 => ?_)
  · skip
    refine k_goto (tgt := 1888) hC dL_law_968 (by decide) ?_
    refine k_lv (lv' := lvL i) (LSub.ok (by unfold lvL; exact ⟨rfl, rfl, rfl, rfl, rfl, trivial⟩)) ?_
    exact kk _ _ _ _ _ _ _ _ hR2 (by dsimp only; omega) (by dsimp only; omega)
  · obtain ⟨iv, hiv⟩ := wcode_zero (Nat.le_of_ble_eq_true rfl) hk0 hag.2.1
    have hzi := hag.2.2 iv hiv
    refine k_aload_n (q := 950) hC dL_law_949 rfl rfl ?_
    refine k_iconst (q := 951) (v := (0 : Int32)) hC dL_law_950 (by decide) rfl ?_
    refine k_lald (q := 952) (y := if iv = 0 then (0 : Int64) else 1) hC dL_law_951 (kd99 (n := 100) (by decide)) (by unfold vp_in; decide) (by rw [hiv]; simp [xl, wlz, up2]) rfl ?_
    refine k_iload (q := 954) hC dL_law_952 rfl rfl ?_
    refine k_if_eq (q := 957) (tgt := 961) hC dL_law_954 (by decide) rfl (fun hc6 => ?_) (fun hc6 => ?_)
    · skip
      refine k_lconst (q := 962) (v := (0 : Int64)) hC dL_law_961 (by decide) rfl ?_
      refine k_lcmp (q := 963) hC dL_law_962 rfl ?_
      refine k_if_eq (q := 966) (tgt := 968) hC dL_law_963 (by decide) rfl (fun _ => ?_) (fun h => absurd (by rw [if_pos (by rw [← hzi]; exact hc6)]; simp [lg_cmp]) h)
      refine k_goto (tgt := 1888) hC dL_law_968 (by decide) ?_
      refine k_lv (lv' := lvL i) (LSub.ok (by unfold lvL; exact ⟨rfl, rfl, rfl, rfl, rfl, trivial⟩)) ?_
      exact kk _ _ _ _ _ _ _ _ hR2 (by dsimp only; omega) (by dsimp only; omega)
    · skip
      refine k_lconst (q := 958) (v := (1 : Int64)) hC dL_law_957 (by decide) rfl ?_
      refine k_goto (tgt := 962) hC dL_law_958 (by decide) ?_
      refine k_lcmp (q := 963) hC dL_law_962 rfl ?_
      refine k_if_eq (q := 966) (tgt := 968) hC dL_law_963 (by decide) rfl (fun _ => ?_) (fun h => absurd (by rw [if_neg (by rw [← hzi]; exact hc6)]; simp [lg_cmp]) h)
      refine k_goto (tgt := 1888) hC dL_law_968 (by decide) ?_
      refine k_lv (lv' := lvL i) (LSub.ok (by unfold lvL; exact ⟨rfl, rfl, rfl, rfl, rfl, trivial⟩)) ?_
      exact kk _ _ _ _ _ _ _ _ hR2 (by dsimp only; omega) (by dsimp only; omega)
set_option maxRecDepth 100000 in
set_option maxHeartbeats 8000000 in
theorem lc_15 {e : gEV} {C : gCx} (hC : COk e C cL_law 7 RL 2048 601024 7293034) {Ln : Nat} {xs : Nat → Int32} (hX : gScr e C Ln xs) (hl : (eL e).stackTraces = false) {Rel : gRel} (hG : MG Rel) (hM : M15 Rel) {a b : Nat} (hab : a + 1 ≤ 601024 ∧ b + 6 ≤ 7293034) {i : Int32} (hv1 : vp_in (i + (1 : Int32)) Ln) (hv2 : vp_in (i + (2 : Int32)) Ln) {xc : gXH} {fa tr : Nat} {pm : Nat → Nat} {hm : gIH} {lo : gLH} (hR : Rel xc fa tr pm hm)
    (kk : ∀ xc fa tr pm hm lo a' b', Rel xc fa tr pm hm → a' ≤ a + 1 → b' ≤ b + 6 → KW e C (100, a', b') 1888 (lvL i) [] (RR fa tr pm) (xc, hm, lo)) : KW e C (100, a, b) 971 (lvL i) [] (RR fa tr pm) (xc, hm, lo) := by
  obtain ⟨hfa, htr⟩ := hG _ _ _ _ _ hR
  have h0 : a + 0 ≤ 601024 ∧ b + 0 ≤ 7293034 := ⟨by omega, by omega⟩
  have h1 : a + 1 + 0 ≤ 601024 ∧ b + 6 + 0 ≤ 7293034 := ⟨by omega, by omega⟩
  obtain ⟨a1, ha1⟩ : ∃ y, xs (i + (1 : Int32)).toNatClampNeg = y := ⟨_, rfl⟩
  obtain ⟨a2, ha2⟩ : ∃ y, xs (i + (2 : Int32)).toNatClampNeg = y := ⟨_, rfl⟩
  unfold lvL
  obtain ⟨o, ho, z, hz, hR2, hag⟩ := hM _ _ _ _ _ hR a1 a2
  refine k_aload_n (q := 972) hC dL_law_971 rfl rfl ?_
  refine k_aload_nS (q := 973) hC dL_law_972 rfl rfl ?_
  refine k_iload (q := 975) hC dL_law_973 rfl rfl ?_
  refine k_iconst (q := 976) (v := (1 : Int32)) hC dL_law_975 (by decide) rfl ?_
  refine k_iadd (q := 977) hC dL_law_976 rfl ?_
  refine k_sld (q := 978) (y := a1) hC hX dL_law_977 hv1 ha1 rfl ?_
  refine k_aload_nS (q := 979) hC dL_law_978 rfl rfl ?_
  refine k_iload (q := 981) hC dL_law_979 rfl rfl ?_
  refine k_iconst (q := 982) (v := (2 : Int32)) hC dL_law_981 (by decide) rfl ?_
  refine k_iadd (q := 983) hC dL_law_982 rfl ?_
  refine k_sld (q := 984) (y := a2) hC hX dL_law_983 hv2 ha2 rfl ?_
  refine k_aload_n (q := 985) hC dL_law_984 rfl rfl ?_
  refine k_wS (q := 988) (av := [.ref 0, .int a1, .int a2, .ref 99]) hC oL_common sL_common rfl dL_law_985 lk_L_158 (wL_common e 100 (by decide) (RR fa tr pm) (RR fa tr pm) xc xc hm lo a1 a2 o (c_X9_common e 100 (by decide) fa tr pm hfa hl xc (hm, lo) a1 a2 o ho) hag.2.1) (by decide) rfl (Nat.le_of_ble_eq_true rfl) hab rfl ?_
  refine k_istore (q := 990) (lv' := [some (.float 0), some (.ref 0), some (.ref 81), some (.ref 99), some (.int i), some (.int (wcode [2] o)), none]) hC dL_law_988 (by decide) rfl rfl ?_
  refine k_aload_n (q := 991) hC dL_law_990 rfl rfl ?_
  refine k_aload_nS (q := 992) hC dL_law_991 rfl rfl ?_
  refine k_iload (q := 994) hC dL_law_992 rfl rfl ?_
  refine k_iconst (q := 995) (v := (1 : Int32)) hC dL_law_994 (by decide) rfl ?_
  refine k_iadd (q := 996) hC dL_law_995 rfl ?_
  refine k_sld (q := 997) (y := a1) hC hX dL_law_996 hv1 ha1 rfl ?_
  refine k_aload_nS (q := 998) hC dL_law_997 rfl rfl ?_
  refine k_iload (q := 1000) hC dL_law_998 rfl rfl ?_
  refine k_iconst (q := 1001) (v := (2 : Int32)) hC dL_law_1000 (by decide) rfl ?_
  refine k_iadd (q := 1002) hC dL_law_1001 rfl ?_
  refine k_sld (q := 1003) (y := a2) hC hX dL_law_1002 hv2 ha2 rfl ?_
  refine k_callV (q := 1006) (ex := false) (av := [.ref 81, .int a1, .int a2]) (c0 := 81) (As := [.int a1, .int a2]) (cm := 0) (sm := 0) hC oX10_common vX10_common rfl rfl (kd81 (n := 100) (by decide)) rfl rfl dL_law_1003 lk_L_160 (c_X10_common e 100 (by decide) fa tr pm xc hm (wlo o lo) a1 a2 z hz) (by decide) rfl (Nat.le_of_ble_eq_true rfl) h1 (fun h => Bool.noConfusion h) rfl rfl ?_
  refine k_istore (q := 1008) (lv' := [some (.float 0), some (.ref 0), some (.ref 81), some (.ref 99), some (.int i), some (.int (wcode [2] o)), some (.int z.1)]) hC dL_law_1006 (by decide) rfl rfl ?_
  refine k_aload_n (q := 1009) hC dL_law_1008 rfl rfl ?_
  refine k_callV (q := 1012) (ex := false) (av := [.ref 81]) (c0 := 81) (As := []) (cm := 0) (sm := 0) hC oX10_thrown vX10_thrown rfl rfl (kd81 (n := 100) (by decide)) rfl rfl dL_law_1009 lk_L_113 (c_X10_thrown e 100 (by decide) _ xc z.2 (wlo o lo)) (by decide) rfl (Nat.le_of_ble_eq_true rfl) h1 (fun h => Bool.noConfusion h) rfl rfl ?_
  refine k_iload (q := 1014) hC dL_law_1012 rfl rfl ?_
  refine k_icmp_eq (q := 1017) (tgt := 1019) hC dL_law_1014 (by decide) rfl (fun _ => ?_) (fun h => absurd hag.1 h)
  refine k_iload (q := 1021) hC dL_law_1019 rfl rfl ?_
  refine k_if_ne (q := 1024) (tgt := 1036) hC dL_law_1021 (by decide) rfl (fun _ => ?_) (fun hk0 => ?_)
  · skip
    refine k_goto (tgt := 1888) hC dL_law_1036 (by decide) ?_
    refine k_lv (lv' := lvL i) (LSub.ok (by unfold lvL; exact ⟨rfl, rfl, rfl, rfl, rfl, trivial⟩)) ?_
    exact kk _ _ _ _ _ _ _ _ hR2 (by dsimp only; omega) (by dsimp only; omega)
  · obtain ⟨iv, hiv⟩ := wcode_zero (Nat.le_of_ble_eq_true rfl) hk0 hag.2.1
    have hzi := hag.2.2 iv hiv
    refine k_aload_n (q := 1025) hC dL_law_1024 rfl rfl ?_
    refine k_iconst (q := 1026) (v := (0 : Int32)) hC dL_law_1025 (by decide) rfl ?_
    refine k_lald (q := 1027) (y := iv.toInt64) hC dL_law_1026 (kd99 (n := 100) (by decide)) (by unfold vp_in; decide) (by rw [hiv]; simp [xl, wlo, up2]) rfl ?_
    refine k_iload (q := 1029) hC dL_law_1027 rfl rfl ?_
    refine k_i2l (q := 1030) hC dL_law_1029 rfl ?_
    refine k_lcmp (q := 1031) hC dL_law_1030 rfl ?_
    refine k_if_eq (q := 1034) (tgt := 1036) hC dL_law_1031 (by decide) rfl (fun _ => ?_) (fun h => absurd (by rw [hzi]; simp [lg_cmp]) h)
    refine k_goto (tgt := 1888) hC dL_law_1036 (by decide) ?_
    refine k_lv (lv' := lvL i) (LSub.ok (by unfold lvL; exact ⟨rfl, rfl, rfl, rfl, rfl, trivial⟩)) ?_
    exact kk _ _ _ _ _ _ _ _ hR2 (by dsimp only; omega) (by dsimp only; omega)
set_option maxRecDepth 100000 in
set_option maxHeartbeats 8000000 in
theorem lc_16 {e : gEV} {C : gCx} (hC : COk e C cL_law 7 RL 2048 601024 7293034) {Ln : Nat} {xs : Nat → Int32} (hX : gScr e C Ln xs) (hl : (eL e).stackTraces = false) {Rel : gRel} (hG : MG Rel) (hM : M16 Rel) {a b : Nat} (hab : a + 1 ≤ 601024 ∧ b + 6 ≤ 7293034) {i : Int32} (hv1 : vp_in (i + (1 : Int32)) Ln) {xc : gXH} {fa tr : Nat} {pm : Nat → Nat} {hm : gIH} {lo : gLH} (hR : Rel xc fa tr pm hm)
    (kk : ∀ xc fa tr pm hm lo a' b', Rel xc fa tr pm hm → a' ≤ a + 1 → b' ≤ b + 6 → KW e C (100, a', b') 1888 (lvL i) [] (RR fa tr pm) (xc, hm, lo)) : KW e C (100, a, b) 1039 (lvL i) [] (RR fa tr pm) (xc, hm, lo) := by
  obtain ⟨hfa, htr⟩ := hG _ _ _ _ _ hR
  have h0 : a + 0 ≤ 601024 ∧ b + 0 ≤ 7293034 := ⟨by omega, by omega⟩
  have h1 : a + 1 + 0 ≤ 601024 ∧ b + 6 + 0 ≤ 7293034 := ⟨by omega, by omega⟩
  obtain ⟨a1, ha1⟩ : ∃ y, xs (i + (1 : Int32)).toNatClampNeg = y := ⟨_, rfl⟩
  unfold lvL
  obtain ⟨o, ho, z, hz, hR2, hag⟩ := hM _ _ _ _ _ hR a1
  refine k_aload_n (q := 1040) hC dL_law_1039 rfl rfl ?_
  refine k_aload_nS (q := 1041) hC dL_law_1040 rfl rfl ?_
  refine k_iload (q := 1043) hC dL_law_1041 rfl rfl ?_
  refine k_iconst (q := 1044) (v := (1 : Int32)) hC dL_law_1043 (by decide) rfl ?_
  refine k_iadd (q := 1045) hC dL_law_1044 rfl ?_
  refine k_sld (q := 1046) (y := a1) hC hX dL_law_1045 hv1 ha1 rfl ?_
  refine k_callV (q := 1049) (ex := false) (av := [.ref 0, .int a1]) (c0 := 0) (As := [.int a1]) (cm := 0) (sm := 0) hC oX9_walk vX9_walk rfl rfl (kd0 (n := 100) (by decide)) rfl rfl dL_law_1046 lk_L_161 (c_X9_walk e 100 (by decide) fa tr pm hfa xc (hm, lo) a1 o ho) (by decide) rfl (Nat.le_of_ble_eq_true rfl) h0 (fun h => Bool.noConfusion h) rfl rfl ?_
  refine k_aload_n (q := 1050) hC dL_law_1049 rfl rfl ?_
  refine k_aload_nS (q := 1051) hC dL_law_1050 rfl rfl ?_
  refine k_iload (q := 1053) hC dL_law_1051 rfl rfl ?_
  refine k_iconst (q := 1054) (v := (1 : Int32)) hC dL_law_1053 (by decide) rfl ?_
  refine k_iadd (q := 1055) hC dL_law_1054 rfl ?_
  refine k_sld (q := 1056) (y := a1) hC hX dL_law_1055 hv1 ha1 rfl ?_
  refine k_callV (q := 1059) (ex := false) (av := [.ref 81, .int a1]) (c0 := 81) (As := [.int a1]) (cm := 0) (sm := 0) hC oX10_walk vX10_walk rfl rfl (kd81 (n := 100) (by decide)) rfl rfl dL_law_1056 lk_L_164 (c_X10_walk e 100 (by decide) fa tr pm o.2 hm lo a1 z hz) (by decide) rfl (Nat.le_of_ble_eq_true rfl) h0 (fun h => Bool.noConfusion h) rfl rfl ?_
  refine k_icmp_eq (q := 1062) (tgt := 1888) hC dL_law_1059 (by decide) rfl (fun _ => ?_) (fun h => absurd hag h)
  refine k_lv (lv' := lvL i) (LSub.ok (by unfold lvL; exact ⟨rfl, rfl, rfl, rfl, rfl, trivial⟩)) ?_
  exact kk _ _ _ _ _ _ _ _ hR2 (by dsimp only; omega) (by dsimp only; omega)
set_option maxRecDepth 100000 in
set_option maxHeartbeats 8000000 in
theorem lc_17 {e : gEV} {C : gCx} (hC : COk e C cL_law 7 RL 2048 601024 7293034) {Ln : Nat} {xs : Nat → Int32} (hX : gScr e C Ln xs) (hl : (eL e).stackTraces = false) {Rel : gRel} (hG : MG Rel) (hM : M17 Rel) {a b : Nat} (hab : a + 1 ≤ 601024 ∧ b + 6 ≤ 7293034) {i : Int32} (hv1 : vp_in (i + (1 : Int32)) Ln) (hv2 : vp_in (i + (2 : Int32)) Ln) {xc : gXH} {fa tr : Nat} {pm : Nat → Nat} {hm : gIH} {lo : gLH} (hR : Rel xc fa tr pm hm)
    (kk : ∀ xc fa tr pm hm lo a' b', Rel xc fa tr pm hm → a' ≤ a + 1 → b' ≤ b + 6 → KW e C (100, a', b') 1888 (lvL i) [] (RR fa tr pm) (xc, hm, lo)) : KW e C (100, a, b) 1064 (lvL i) [] (RR fa tr pm) (xc, hm, lo) := by
  obtain ⟨hfa, htr⟩ := hG _ _ _ _ _ hR
  have h0 : a + 0 ≤ 601024 ∧ b + 0 ≤ 7293034 := ⟨by omega, by omega⟩
  have h1 : a + 1 + 0 ≤ 601024 ∧ b + 6 + 0 ≤ 7293034 := ⟨by omega, by omega⟩
  obtain ⟨a1, ha1⟩ : ∃ y, xs (i + (1 : Int32)).toNatClampNeg = y := ⟨_, rfl⟩
  obtain ⟨a2, ha2⟩ : ∃ y, xs (i + (2 : Int32)).toNatClampNeg = y := ⟨_, rfl⟩
  unfold lvL
  obtain ⟨o, ho, z, hz, hR2, hag⟩ := hM _ _ _ _ _ hR a1 a2
  refine k_aload_n (q := 1065) hC dL_law_1064 rfl rfl ?_
  refine k_aload_nS (q := 1066) hC dL_law_1065 rfl rfl ?_
  refine k_iload (q := 1068) hC dL_law_1066 rfl rfl ?_
  refine k_iconst (q := 1069) (v := (1 : Int32)) hC dL_law_1068 (by decide) rfl ?_
  refine k_iadd (q := 1070) hC dL_law_1069 rfl ?_
  refine k_sld (q := 1071) (y := a1) hC hX dL_law_1070 hv1 ha1 rfl ?_
  refine k_aload_nS (q := 1072) hC dL_law_1071 rfl rfl ?_
  refine k_iload (q := 1074) hC dL_law_1072 rfl rfl ?_
  refine k_iconst (q := 1075) (v := (2 : Int32)) hC dL_law_1074 (by decide) rfl ?_
  refine k_iadd (q := 1076) hC dL_law_1075 rfl ?_
  refine k_sld (q := 1077) (y := a2) hC hX dL_law_1076 hv2 ha2 rfl ?_
  refine k_aload_n (q := 1078) hC dL_law_1077 rfl rfl ?_
  refine k_wS (q := 1081) (av := [.ref 0, .int a1, .int a2, .ref 99]) hC oL_arc sL_arc rfl dL_law_1078 lk_L_165 (wL_arc e 100 (by decide) (RR fa tr pm) (RR fa tr pm) xc o.2 hm lo a1 a2 o.1 (c_X9_arc e 100 (by decide) fa tr pm hfa htr hl xc (hm, lo) a1 a2 o ho) hag.2.1) (by decide) rfl (Nat.le_of_ble_eq_true rfl) hab rfl ?_
  refine k_istore (q := 1083) (lv' := [some (.float 0), some (.ref 0), some (.ref 81), some (.ref 99), some (.int i), some (.int (wcode [2, 3] o.1)), none]) hC dL_law_1081 (by decide) rfl rfl ?_
  refine k_aload_n (q := 1084) hC dL_law_1083 rfl rfl ?_
  refine k_aload_nS (q := 1085) hC dL_law_1084 rfl rfl ?_
  refine k_iload (q := 1087) hC dL_law_1085 rfl rfl ?_
  refine k_iconst (q := 1088) (v := (1 : Int32)) hC dL_law_1087 (by decide) rfl ?_
  refine k_iadd (q := 1089) hC dL_law_1088 rfl ?_
  refine k_sld (q := 1090) (y := a1) hC hX dL_law_1089 hv1 ha1 rfl ?_
  refine k_aload_nS (q := 1091) hC dL_law_1090 rfl rfl ?_
  refine k_iload (q := 1093) hC dL_law_1091 rfl rfl ?_
  refine k_iconst (q := 1094) (v := (2 : Int32)) hC dL_law_1093 (by decide) rfl ?_
  refine k_iadd (q := 1095) hC dL_law_1094 rfl ?_
  refine k_sld (q := 1096) (y := a2) hC hX dL_law_1095 hv2 ha2 rfl ?_
  refine k_callV (q := 1099) (ex := false) (av := [.ref 81, .int a1, .int a2]) (c0 := 81) (As := [.int a1, .int a2]) (cm := 0) (sm := 0) hC oX10_arc vX10_arc rfl rfl (kd81 (n := 100) (by decide)) rfl rfl dL_law_1096 lk_L_167 (c_X10_arc e 100 (by decide) fa tr pm o.2 hm (wlo o.1 lo) a1 a2 z hz) (by decide) rfl (Nat.le_of_ble_eq_true rfl) h1 (fun h => Bool.noConfusion h) rfl rfl ?_
  refine k_istore (q := 1101) (lv' := [some (.float 0), some (.ref 0), some (.ref 81), some (.ref 99), some (.int i), some (.int (wcode [2, 3] o.1)), some (.int z.1)]) hC dL_law_1099 (by decide) rfl rfl ?_
  refine k_aload_n (q := 1102) hC dL_law_1101 rfl rfl ?_
  refine k_callV (q := 1105) (ex := false) (av := [.ref 81]) (c0 := 81) (As := []) (cm := 0) (sm := 0) hC oX10_thrown vX10_thrown rfl rfl (kd81 (n := 100) (by decide)) rfl rfl dL_law_1102 lk_L_113 (c_X10_thrown e 100 (by decide) _ o.2 z.2 (wlo o.1 lo)) (by decide) rfl (Nat.le_of_ble_eq_true rfl) h1 (fun h => Bool.noConfusion h) rfl rfl ?_
  refine k_iload (q := 1107) hC dL_law_1105 rfl rfl ?_
  refine k_icmp_eq (q := 1110) (tgt := 1112) hC dL_law_1107 (by decide) rfl (fun _ => ?_) (fun h => absurd hag.1 h)
  refine k_iload (q := 1114) hC dL_law_1112 rfl rfl ?_
  refine k_if_ne (q := 1117) (tgt := 1129) hC dL_law_1114 (by decide) rfl (fun _ => ?_) (fun hk0 => ?_)
  · skip
    refine k_goto (tgt := 1888) hC dL_law_1129 (by decide) ?_
    refine k_lv (lv' := lvL i) (LSub.ok (by unfold lvL; exact ⟨rfl, rfl, rfl, rfl, rfl, trivial⟩)) ?_
    exact kk _ _ _ _ _ _ _ _ hR2 (by dsimp only; omega) (by dsimp only; omega)
  · obtain ⟨iv, hiv⟩ := wcode_zero (Nat.le_of_ble_eq_true rfl) hk0 hag.2.1
    have hzi := hag.2.2 iv hiv
    refine k_aload_n (q := 1118) hC dL_law_1117 rfl rfl ?_
    refine k_iconst (q := 1119) (v := (0 : Int32)) hC dL_law_1118 (by decide) rfl ?_
    refine k_lald (q := 1120) (y := iv.toInt64) hC dL_law_1119 (kd99 (n := 100) (by decide)) (by unfold vp_in; decide) (by rw [hiv]; simp [xl, wlo, up2]) rfl ?_
    refine k_iload (q := 1122) hC dL_law_1120 rfl rfl ?_
    refine k_i2l (q := 1123) hC dL_law_1122 rfl ?_
    refine k_lcmp (q := 1124) hC dL_law_1123 rfl ?_
    refine k_if_eq (q := 1127) (tgt := 1129) hC dL_law_1124 (by decide) rfl (fun _ => ?_) (fun h => absurd (by rw [hzi]; simp [lg_cmp]) h)
    refine k_goto (tgt := 1888) hC dL_law_1129 (by decide) ?_
    refine k_lv (lv' := lvL i) (LSub.ok (by unfold lvL; exact ⟨rfl, rfl, rfl, rfl, rfl, trivial⟩)) ?_
    exact kk _ _ _ _ _ _ _ _ hR2 (by dsimp only; omega) (by dsimp only; omega)
set_option maxRecDepth 100000 in
set_option maxHeartbeats 8000000 in
theorem lc_18 {e : gEV} {C : gCx} (hC : COk e C cL_law 7 RL 2048 601024 7293034) {Ln : Nat} {xs : Nat → Int32} (hX : gScr e C Ln xs) (hl : (eL e).stackTraces = false) {Rel : gRel} (hG : MG Rel) (hM : M18 Rel) {a b : Nat} (hab : a + 1 ≤ 601024 ∧ b + 6 ≤ 7293034) {i : Int32} (hv1 : vp_in (i + (1 : Int32)) Ln) {xc : gXH} {fa tr : Nat} {pm : Nat → Nat} {hm : gIH} {lo : gLH} (hR : Rel xc fa tr pm hm)
    (kk : ∀ xc fa tr pm hm lo a' b', Rel xc fa tr pm hm → a' ≤ a + 1 → b' ≤ b + 6 → KW e C (100, a', b') 1888 (lvL i) [] (RR fa tr pm) (xc, hm, lo)) : KW e C (100, a, b) 1132 (lvL i) [] (RR fa tr pm) (xc, hm, lo) := by
  obtain ⟨hfa, htr⟩ := hG _ _ _ _ _ hR
  have h0 : a + 0 ≤ 601024 ∧ b + 0 ≤ 7293034 := ⟨by omega, by omega⟩
  have h1 : a + 1 + 0 ≤ 601024 ∧ b + 6 + 0 ≤ 7293034 := ⟨by omega, by omega⟩
  obtain ⟨a1, ha1⟩ : ∃ y, xs (i + (1 : Int32)).toNatClampNeg = y := ⟨_, rfl⟩
  unfold lvL
  obtain ⟨o, ho, z, hz, hR2, hag⟩ := hM _ _ _ _ _ hR a1
  refine k_aload_n (q := 1133) hC dL_law_1132 rfl rfl ?_
  refine k_aload_nS (q := 1134) hC dL_law_1133 rfl rfl ?_
  refine k_iload (q := 1136) hC dL_law_1134 rfl rfl ?_
  refine k_iconst (q := 1137) (v := (1 : Int32)) hC dL_law_1136 (by decide) rfl ?_
  refine k_iadd (q := 1138) hC dL_law_1137 rfl ?_
  refine k_sld (q := 1139) (y := a1) hC hX dL_law_1138 hv1 ha1 rfl ?_
  refine k_aload_n (q := 1140) hC dL_law_1139 rfl rfl ?_
  refine k_wS (q := 1143) (av := [.ref 0, .int a1, .ref 99]) hC oL_without sL_without rfl dL_law_1140 lk_L_168 (wL_without e 100 (by decide) (RR fa tr pm) (RR fa tr pm) xc xc hm lo a1 o (c_X9_without e 100 (by decide) fa tr pm hfa hl xc (hm, lo) a1 o ho) hag.2.1) (by decide) rfl (Nat.le_of_ble_eq_true rfl) hab rfl ?_
  refine k_istore (q := 1145) (lv' := [some (.float 0), some (.ref 0), some (.ref 81), some (.ref 99), some (.int i), some (.int (wcode [2] o)), none]) hC dL_law_1143 (by decide) rfl rfl ?_
  refine k_aload_n (q := 1146) hC dL_law_1145 rfl rfl ?_
  refine k_aload_nS (q := 1147) hC dL_law_1146 rfl rfl ?_
  refine k_iload (q := 1149) hC dL_law_1147 rfl rfl ?_
  refine k_iconst (q := 1150) (v := (1 : Int32)) hC dL_law_1149 (by decide) rfl ?_
  refine k_iadd (q := 1151) hC dL_law_1150 rfl ?_
  refine k_sld (q := 1152) (y := a1) hC hX dL_law_1151 hv1 ha1 rfl ?_
  refine k_callV (q := 1155) (ex := false) (av := [.ref 81, .int a1]) (c0 := 81) (As := [.int a1]) (cm := 0) (sm := 0) hC oX10_without vX10_without rfl rfl (kd81 (n := 100) (by decide)) rfl rfl dL_law_1152 lk_L_170 (c_X10_without e 100 (by decide) fa tr pm xc hm (wlo o lo) a1 z hz) (by decide) rfl (Nat.le_of_ble_eq_true rfl) h1 (fun h => Bool.noConfusion h) rfl rfl ?_
  refine k_istore (q := 1157) (lv' := [some (.float 0), some (.ref 0), some (.ref 81), some (.ref 99), some (.int i), some (.int (wcode [2] o)), some (.int z.1)]) hC dL_law_1155 (by decide) rfl rfl ?_
  refine k_aload_n (q := 1158) hC dL_law_1157 rfl rfl ?_
  refine k_callV (q := 1161) (ex := false) (av := [.ref 81]) (c0 := 81) (As := []) (cm := 0) (sm := 0) hC oX10_thrown vX10_thrown rfl rfl (kd81 (n := 100) (by decide)) rfl rfl dL_law_1158 lk_L_113 (c_X10_thrown e 100 (by decide) _ xc z.2 (wlo o lo)) (by decide) rfl (Nat.le_of_ble_eq_true rfl) h1 (fun h => Bool.noConfusion h) rfl rfl ?_
  refine k_iload (q := 1163) hC dL_law_1161 rfl rfl ?_
  refine k_icmp_eq (q := 1166) (tgt := 1168) hC dL_law_1163 (by decide) rfl (fun _ => ?_) (fun h => absurd hag.1 h)
  refine k_iload (q := 1170) hC dL_law_1168 rfl rfl ?_
  refine k_if_ne (q := 1173) (tgt := 1185) hC dL_law_1170 (by decide) rfl (fun _ => ?_) (fun hk0 => ?_)
  · skip
    refine k_goto (tgt := 1888) hC dL_law_1185 (by decide) ?_
    refine k_lv (lv' := lvL i) (LSub.ok (by unfold lvL; exact ⟨rfl, rfl, rfl, rfl, rfl, trivial⟩)) ?_
    exact kk _ _ _ _ _ _ _ _ hR2 (by dsimp only; omega) (by dsimp only; omega)
  · obtain ⟨iv, hiv⟩ := wcode_zero (Nat.le_of_ble_eq_true rfl) hk0 hag.2.1
    have hzi := hag.2.2 iv hiv
    refine k_aload_n (q := 1174) hC dL_law_1173 rfl rfl ?_
    refine k_iconst (q := 1175) (v := (0 : Int32)) hC dL_law_1174 (by decide) rfl ?_
    refine k_lald (q := 1176) (y := iv.toInt64) hC dL_law_1175 (kd99 (n := 100) (by decide)) (by unfold vp_in; decide) (by rw [hiv]; simp [xl, wlo, up2]) rfl ?_
    refine k_iload (q := 1178) hC dL_law_1176 rfl rfl ?_
    refine k_i2l (q := 1179) hC dL_law_1178 rfl ?_
    refine k_lcmp (q := 1180) hC dL_law_1179 rfl ?_
    refine k_if_eq (q := 1183) (tgt := 1185) hC dL_law_1180 (by decide) rfl (fun _ => ?_) (fun h => absurd (by rw [hzi]; simp [lg_cmp]) h)
    refine k_goto (tgt := 1888) hC dL_law_1185 (by decide) ?_
    refine k_lv (lv' := lvL i) (LSub.ok (by unfold lvL; exact ⟨rfl, rfl, rfl, rfl, rfl, trivial⟩)) ?_
    exact kk _ _ _ _ _ _ _ _ hR2 (by dsimp only; omega) (by dsimp only; omega)
set_option maxRecDepth 100000 in
set_option maxHeartbeats 8000000 in
theorem lc_19 {e : gEV} {C : gCx} (hC : COk e C cL_law 7 RL 2048 601024 7293034) {Ln : Nat} {xs : Nat → Int32} (hX : gScr e C Ln xs) (hl : (eL e).stackTraces = false) {Rel : gRel} (hG : MG Rel) (hM : M19 Rel) {a b : Nat} (hab : a + 1 ≤ 601024 ∧ b + 6 ≤ 7293034) {i : Int32} (hv1 : vp_in (i + (1 : Int32)) Ln) {xc : gXH} {fa tr : Nat} {pm : Nat → Nat} {hm : gIH} {lo : gLH} (hR : Rel xc fa tr pm hm)
    (kk : ∀ xc fa tr pm hm lo a' b', Rel xc fa tr pm hm → a' ≤ a + 1 → b' ≤ b + 6 → KW e C (100, a', b') 1888 (lvL i) [] (RR fa tr pm) (xc, hm, lo)) : KW e C (100, a, b) 1188 (lvL i) [] (RR fa tr pm) (xc, hm, lo) := by
  obtain ⟨hfa, htr⟩ := hG _ _ _ _ _ hR
  have h0 : a + 0 ≤ 601024 ∧ b + 0 ≤ 7293034 := ⟨by omega, by omega⟩
  have h1 : a + 1 + 0 ≤ 601024 ∧ b + 6 + 0 ≤ 7293034 := ⟨by omega, by omega⟩
  obtain ⟨a1, ha1⟩ : ∃ y, xs (i + (1 : Int32)).toNatClampNeg = y := ⟨_, rfl⟩
  unfold lvL
  obtain ⟨o, ho, z, hz, hR2, hag⟩ := hM _ _ _ _ _ hR a1
  refine k_aload_n (q := 1189) hC dL_law_1188 rfl rfl ?_
  refine k_aload_nS (q := 1190) hC dL_law_1189 rfl rfl ?_
  refine k_iload (q := 1192) hC dL_law_1190 rfl rfl ?_
  refine k_iconst (q := 1193) (v := (1 : Int32)) hC dL_law_1192 (by decide) rfl ?_
  refine k_iadd (q := 1194) hC dL_law_1193 rfl ?_
  refine k_sld (q := 1195) (y := a1) hC hX dL_law_1194 hv1 ha1 rfl ?_
  refine k_aload_n (q := 1196) hC dL_law_1195 rfl rfl ?_
  refine k_wS (q := 1199) (av := [.ref 0, .int a1, .ref 99]) hC oL_seal sL_seal rfl dL_law_1196 lk_L_171 (wL_seal e 100 (by decide) (RR fa tr pm) (RR fa tr pm) xc xc hm lo a1 o (c_X9_seal e 100 (by decide) fa tr pm hfa hl xc (hm, lo) a1 o ho) hag.2.1) (by decide) rfl (Nat.le_of_ble_eq_true rfl) hab rfl ?_
  refine k_istore (q := 1201) (lv' := [some (.float 0), some (.ref 0), some (.ref 81), some (.ref 99), some (.int i), some (.int (wcode [0] o)), none]) hC dL_law_1199 (by decide) rfl rfl ?_
  refine k_aload_n (q := 1202) hC dL_law_1201 rfl rfl ?_
  refine k_aload_nS (q := 1203) hC dL_law_1202 rfl rfl ?_
  refine k_iload (q := 1205) hC dL_law_1203 rfl rfl ?_
  refine k_iconst (q := 1206) (v := (1 : Int32)) hC dL_law_1205 (by decide) rfl ?_
  refine k_iadd (q := 1207) hC dL_law_1206 rfl ?_
  refine k_sld (q := 1208) (y := a1) hC hX dL_law_1207 hv1 ha1 rfl ?_
  refine k_callV (q := 1211) (ex := false) (av := [.ref 81, .int a1]) (c0 := 81) (As := [.int a1]) (cm := 0) (sm := 0) hC oX10_seal vX10_seal rfl rfl (kd81 (n := 100) (by decide)) rfl rfl dL_law_1208 lk_L_173 (c_X10_seal e 100 (by decide) fa tr pm xc hm (wlo o lo) a1 z hz) (by decide) rfl (Nat.le_of_ble_eq_true rfl) h1 (fun h => Bool.noConfusion h) rfl rfl ?_
  refine k_istore (q := 1213) (lv' := [some (.float 0), some (.ref 0), some (.ref 81), some (.ref 99), some (.int i), some (.int (wcode [0] o)), some (.int z.1)]) hC dL_law_1211 (by decide) rfl rfl ?_
  refine k_aload_n (q := 1214) hC dL_law_1213 rfl rfl ?_
  refine k_callV (q := 1217) (ex := false) (av := [.ref 81]) (c0 := 81) (As := []) (cm := 0) (sm := 0) hC oX10_thrown vX10_thrown rfl rfl (kd81 (n := 100) (by decide)) rfl rfl dL_law_1214 lk_L_113 (c_X10_thrown e 100 (by decide) _ xc z.2 (wlo o lo)) (by decide) rfl (Nat.le_of_ble_eq_true rfl) h1 (fun h => Bool.noConfusion h) rfl rfl ?_
  refine k_iload (q := 1219) hC dL_law_1217 rfl rfl ?_
  refine k_icmp_eq (q := 1222) (tgt := 1224) hC dL_law_1219 (by decide) rfl (fun _ => ?_) (fun h => absurd hag.1 h)
  refine k_iload (q := 1226) hC dL_law_1224 rfl rfl ?_
  refine k_if_ne (q := 1229) (tgt := 1241) hC dL_law_1226 (by decide) rfl (fun _ => ?_) (fun hk0 => ?_)
  · skip
    refine k_goto (tgt := 1888) hC dL_law_1241 (by decide) ?_
    refine k_lv (lv' := lvL i) (LSub.ok (by unfold lvL; exact ⟨rfl, rfl, rfl, rfl, rfl, trivial⟩)) ?_
    exact kk _ _ _ _ _ _ _ _ hR2 (by dsimp only; omega) (by dsimp only; omega)
  · obtain ⟨iv, hiv⟩ := wcode_zero (Nat.le_of_ble_eq_true rfl) hk0 hag.2.1
    have hzi := hag.2.2 iv hiv
    refine k_aload_n (q := 1230) hC dL_law_1229 rfl rfl ?_
    refine k_iconst (q := 1231) (v := (0 : Int32)) hC dL_law_1230 (by decide) rfl ?_
    refine k_lald (q := 1232) (y := iv.toInt64) hC dL_law_1231 (kd99 (n := 100) (by decide)) (by unfold vp_in; decide) (by rw [hiv]; simp [xl, wlo, up2]) rfl ?_
    refine k_iload (q := 1234) hC dL_law_1232 rfl rfl ?_
    refine k_i2l (q := 1235) hC dL_law_1234 rfl ?_
    refine k_lcmp (q := 1236) hC dL_law_1235 rfl ?_
    refine k_if_eq (q := 1239) (tgt := 1241) hC dL_law_1236 (by decide) rfl (fun _ => ?_) (fun h => absurd (by rw [hzi]; simp [lg_cmp]) h)
    refine k_goto (tgt := 1888) hC dL_law_1241 (by decide) ?_
    refine k_lv (lv' := lvL i) (LSub.ok (by unfold lvL; exact ⟨rfl, rfl, rfl, rfl, rfl, trivial⟩)) ?_
    exact kk _ _ _ _ _ _ _ _ hR2 (by dsimp only; omega) (by dsimp only; omega)
set_option maxRecDepth 100000 in
set_option maxHeartbeats 8000000 in
theorem lc_20 {e : gEV} {C : gCx} (hC : COk e C cL_law 7 RL 2048 601024 7293034) {Ln : Nat} {xs : Nat → Int32} (hX : gScr e C Ln xs) (hl : (eL e).stackTraces = false) {Rel : gRel} (hG : MG Rel) (hM : M20 Rel) {a b : Nat} (hab : a + 1 ≤ 601024 ∧ b + 6 ≤ 7293034) {i : Int32} (hv1 : vp_in (i + (1 : Int32)) Ln) (hv2 : vp_in (i + (2 : Int32)) Ln) {xc : gXH} {fa tr : Nat} {pm : Nat → Nat} {hm : gIH} {lo : gLH} (hR : Rel xc fa tr pm hm)
    (kk : ∀ xc fa tr pm hm lo a' b', Rel xc fa tr pm hm → a' ≤ a + 1 → b' ≤ b + 6 → KW e C (100, a', b') 1888 (lvL i) [] (RR fa tr pm) (xc, hm, lo)) : KW e C (100, a, b) 1244 (lvL i) [] (RR fa tr pm) (xc, hm, lo) := by
  obtain ⟨hfa, htr⟩ := hG _ _ _ _ _ hR
  have h0 : a + 0 ≤ 601024 ∧ b + 0 ≤ 7293034 := ⟨by omega, by omega⟩
  have h1 : a + 1 + 0 ≤ 601024 ∧ b + 6 + 0 ≤ 7293034 := ⟨by omega, by omega⟩
  obtain ⟨a1, ha1⟩ : ∃ y, xs (i + (1 : Int32)).toNatClampNeg = y := ⟨_, rfl⟩
  obtain ⟨a2, ha2⟩ : ∃ y, xs (i + (2 : Int32)).toNatClampNeg = y := ⟨_, rfl⟩
  unfold lvL
  obtain ⟨o, ho, z, hz, hR2, hag⟩ := hM _ _ _ _ _ hR a1 a2
  refine k_aload_n (q := 1245) hC dL_law_1244 rfl rfl ?_
  refine k_aload_nS (q := 1246) hC dL_law_1245 rfl rfl ?_
  refine k_iload (q := 1248) hC dL_law_1246 rfl rfl ?_
  refine k_iconst (q := 1249) (v := (1 : Int32)) hC dL_law_1248 (by decide) rfl ?_
  refine k_iadd (q := 1250) hC dL_law_1249 rfl ?_
  refine k_sld (q := 1251) (y := a1) hC hX dL_law_1250 hv1 ha1 rfl ?_
  refine k_aload_nS (q := 1252) hC dL_law_1251 rfl rfl ?_
  refine k_iload (q := 1254) hC dL_law_1252 rfl rfl ?_
  refine k_iconst (q := 1255) (v := (2 : Int32)) hC dL_law_1254 (by decide) rfl ?_
  refine k_iadd (q := 1256) hC dL_law_1255 rfl ?_
  refine k_sld (q := 1257) (y := a2) hC hX dL_law_1256 hv2 ha2 rfl ?_
  refine k_aload_n (q := 1258) hC dL_law_1257 rfl rfl ?_
  refine k_wS (q := 1261) (av := [.ref 0, .int a1, .int a2, .ref 99]) hC oL_chain sL_chain rfl dL_law_1258 lk_L_174 (wL_chain e 100 (by decide) (RR fa tr pm) (RR fa tr pm) xc xc hm lo a1 a2 o (c_X9_chain e 100 (by decide) fa tr pm hfa hl xc (hm, lo) a1 a2 o ho) hag.2.1) (by decide) rfl (Nat.le_of_ble_eq_true rfl) hab rfl ?_
  refine k_istore (q := 1263) (lv' := [some (.float 0), some (.ref 0), some (.ref 81), some (.ref 99), some (.int i), some (.int (wcode [2] o)), none]) hC dL_law_1261 (by decide) rfl rfl ?_
  refine k_aload_n (q := 1264) hC dL_law_1263 rfl rfl ?_
  refine k_aload_nS (q := 1265) hC dL_law_1264 rfl rfl ?_
  refine k_iload (q := 1267) hC dL_law_1265 rfl rfl ?_
  refine k_iconst (q := 1268) (v := (1 : Int32)) hC dL_law_1267 (by decide) rfl ?_
  refine k_iadd (q := 1269) hC dL_law_1268 rfl ?_
  refine k_sld (q := 1270) (y := a1) hC hX dL_law_1269 hv1 ha1 rfl ?_
  refine k_aload_nS (q := 1271) hC dL_law_1270 rfl rfl ?_
  refine k_iload (q := 1273) hC dL_law_1271 rfl rfl ?_
  refine k_iconst (q := 1274) (v := (2 : Int32)) hC dL_law_1273 (by decide) rfl ?_
  refine k_iadd (q := 1275) hC dL_law_1274 rfl ?_
  refine k_sld (q := 1276) (y := a2) hC hX dL_law_1275 hv2 ha2 rfl ?_
  refine k_callV (q := 1279) (ex := false) (av := [.ref 81, .int a1, .int a2]) (c0 := 81) (As := [.int a1, .int a2]) (cm := 0) (sm := 0) hC oX10_chain vX10_chain rfl rfl (kd81 (n := 100) (by decide)) rfl rfl dL_law_1276 lk_L_176 (c_X10_chain e 100 (by decide) fa tr pm xc hm (wlo o lo) a1 a2 z hz) (by decide) rfl (Nat.le_of_ble_eq_true rfl) h1 (fun h => Bool.noConfusion h) rfl rfl ?_
  refine k_istore (q := 1281) (lv' := [some (.float 0), some (.ref 0), some (.ref 81), some (.ref 99), some (.int i), some (.int (wcode [2] o)), some (.int z.1)]) hC dL_law_1279 (by decide) rfl rfl ?_
  refine k_aload_n (q := 1282) hC dL_law_1281 rfl rfl ?_
  refine k_callV (q := 1285) (ex := false) (av := [.ref 81]) (c0 := 81) (As := []) (cm := 0) (sm := 0) hC oX10_thrown vX10_thrown rfl rfl (kd81 (n := 100) (by decide)) rfl rfl dL_law_1282 lk_L_113 (c_X10_thrown e 100 (by decide) _ xc z.2 (wlo o lo)) (by decide) rfl (Nat.le_of_ble_eq_true rfl) h1 (fun h => Bool.noConfusion h) rfl rfl ?_
  refine k_iload (q := 1287) hC dL_law_1285 rfl rfl ?_
  refine k_icmp_eq (q := 1290) (tgt := 1292) hC dL_law_1287 (by decide) rfl (fun _ => ?_) (fun h => absurd hag.1 h)
  refine k_iload (q := 1294) hC dL_law_1292 rfl rfl ?_
  refine k_if_ne (q := 1297) (tgt := 1309) hC dL_law_1294 (by decide) rfl (fun _ => ?_) (fun hk0 => ?_)
  · skip
    refine k_goto (tgt := 1888) hC dL_law_1309 (by decide) ?_
    refine k_lv (lv' := lvL i) (LSub.ok (by unfold lvL; exact ⟨rfl, rfl, rfl, rfl, rfl, trivial⟩)) ?_
    exact kk _ _ _ _ _ _ _ _ hR2 (by dsimp only; omega) (by dsimp only; omega)
  · obtain ⟨iv, hiv⟩ := wcode_zero (Nat.le_of_ble_eq_true rfl) hk0 hag.2.1
    have hzi := hag.2.2 iv hiv
    refine k_aload_n (q := 1298) hC dL_law_1297 rfl rfl ?_
    refine k_iconst (q := 1299) (v := (0 : Int32)) hC dL_law_1298 (by decide) rfl ?_
    refine k_lald (q := 1300) (y := iv.toInt64) hC dL_law_1299 (kd99 (n := 100) (by decide)) (by unfold vp_in; decide) (by rw [hiv]; simp [xl, wlo, up2]) rfl ?_
    refine k_iload (q := 1302) hC dL_law_1300 rfl rfl ?_
    refine k_i2l (q := 1303) hC dL_law_1302 rfl ?_
    refine k_lcmp (q := 1304) hC dL_law_1303 rfl ?_
    refine k_if_eq (q := 1307) (tgt := 1309) hC dL_law_1304 (by decide) rfl (fun _ => ?_) (fun h => absurd (by rw [hzi]; simp [lg_cmp]) h)
    refine k_goto (tgt := 1888) hC dL_law_1309 (by decide) ?_
    refine k_lv (lv' := lvL i) (LSub.ok (by unfold lvL; exact ⟨rfl, rfl, rfl, rfl, rfl, trivial⟩)) ?_
    exact kk _ _ _ _ _ _ _ _ hR2 (by dsimp only; omega) (by dsimp only; omega)
set_option maxRecDepth 100000 in
set_option maxHeartbeats 8000000 in
theorem lc_21 {e : gEV} {C : gCx} (hC : COk e C cL_law 7 RL 2048 601024 7293034) {Ln : Nat} {xs : Nat → Int32} (hX : gScr e C Ln xs) (hl : (eL e).stackTraces = false) {Rel : gRel} (hG : MG Rel) (hM : M21 Rel) {a b : Nat} (hab : a + 1 ≤ 601024 ∧ b + 6 ≤ 7293034) {i : Int32} (hv1 : vp_in (i + (1 : Int32)) Ln) {xc : gXH} {fa tr : Nat} {pm : Nat → Nat} {hm : gIH} {lo : gLH} (hR : Rel xc fa tr pm hm)
    (kk : ∀ xc fa tr pm hm lo a' b', Rel xc fa tr pm hm → a' ≤ a + 1 → b' ≤ b + 6 → KW e C (100, a', b') 1888 (lvL i) [] (RR fa tr pm) (xc, hm, lo)) : KW e C (100, a, b) 1312 (lvL i) [] (RR fa tr pm) (xc, hm, lo) := by
  obtain ⟨hfa, htr⟩ := hG _ _ _ _ _ hR
  have h0 : a + 0 ≤ 601024 ∧ b + 0 ≤ 7293034 := ⟨by omega, by omega⟩
  have h1 : a + 1 + 0 ≤ 601024 ∧ b + 6 + 0 ≤ 7293034 := ⟨by omega, by omega⟩
  obtain ⟨a1, ha1⟩ : ∃ y, xs (i + (1 : Int32)).toNatClampNeg = y := ⟨_, rfl⟩
  unfold lvL
  obtain ⟨o, ho, z, hz, hR2, hag⟩ := hM _ _ _ _ _ hR a1
  refine k_aload_n (q := 1313) hC dL_law_1312 rfl rfl ?_
  refine k_aload_nS (q := 1314) hC dL_law_1313 rfl rfl ?_
  refine k_iload (q := 1316) hC dL_law_1314 rfl rfl ?_
  refine k_iconst (q := 1317) (v := (1 : Int32)) hC dL_law_1316 (by decide) rfl ?_
  refine k_iadd (q := 1318) hC dL_law_1317 rfl ?_
  refine k_sld (q := 1319) (y := a1) hC hX dL_law_1318 hv1 ha1 rfl ?_
  refine k_callV (q := 1322) (ex := false) (av := [.ref 0, .int a1]) (c0 := 0) (As := [.int a1]) (cm := 0) (sm := 0) hC oX9_level vX9_level rfl rfl (kd0 (n := 100) (by decide)) rfl rfl dL_law_1319 lk_L_177 (c_X9_level e 100 (by decide) fa tr pm hfa xc (hm, lo) a1 o ho) (by decide) rfl (Nat.le_of_ble_eq_true rfl) h0 (fun h => Bool.noConfusion h) rfl rfl ?_
  refine k_aload_n (q := 1323) hC dL_law_1322 rfl rfl ?_
  refine k_aload_nS (q := 1324) hC dL_law_1323 rfl rfl ?_
  refine k_iload (q := 1326) hC dL_law_1324 rfl rfl ?_
  refine k_iconst (q := 1327) (v := (1 : Int32)) hC dL_law_1326 (by decide) rfl ?_
  refine k_iadd (q := 1328) hC dL_law_1327 rfl ?_
  refine k_sld (q := 1329) (y := a1) hC hX dL_law_1328 hv1 ha1 rfl ?_
  refine k_callV (q := 1332) (ex := false) (av := [.ref 81, .int a1]) (c0 := 81) (As := [.int a1]) (cm := 0) (sm := 0) hC oX10_level vX10_level rfl rfl (kd81 (n := 100) (by decide)) rfl rfl dL_law_1329 lk_L_180 (c_X10_level e 100 (by decide) fa tr pm xc hm lo a1 z hz) (by decide) rfl (Nat.le_of_ble_eq_true rfl) h0 (fun h => Bool.noConfusion h) rfl rfl ?_
  refine k_icmp_eq (q := 1335) (tgt := 1888) hC dL_law_1332 (by decide) rfl (fun _ => ?_) (fun h => absurd hag h)
  refine k_lv (lv' := lvL i) (LSub.ok (by unfold lvL; exact ⟨rfl, rfl, rfl, rfl, rfl, trivial⟩)) ?_
  exact kk _ _ _ _ _ _ _ _ hR2 (by dsimp only; omega) (by dsimp only; omega)
set_option maxRecDepth 100000 in
set_option maxHeartbeats 8000000 in
theorem lc_22 {e : gEV} {C : gCx} (hC : COk e C cL_law 7 RL 2048 601024 7293034) {Ln : Nat} {xs : Nat → Int32} (hX : gScr e C Ln xs) (hl : (eL e).stackTraces = false) {Rel : gRel} (hG : MG Rel) (hM : M22 Rel) {a b : Nat} (hab : a + 1 ≤ 601024 ∧ b + 6 ≤ 7293034) {i : Int32} (hv1 : vp_in (i + (1 : Int32)) Ln) (hv2 : vp_in (i + (2 : Int32)) Ln) {xc : gXH} {fa tr : Nat} {pm : Nat → Nat} {hm : gIH} {lo : gLH} (hR : Rel xc fa tr pm hm)
    (kk : ∀ xc fa tr pm hm lo a' b', Rel xc fa tr pm hm → a' ≤ a + 1 → b' ≤ b + 6 → KW e C (100, a', b') 1888 (lvL i) [] (RR fa tr pm) (xc, hm, lo)) : KW e C (100, a, b) 1337 (lvL i) [] (RR fa tr pm) (xc, hm, lo) := by
  obtain ⟨hfa, htr⟩ := hG _ _ _ _ _ hR
  have h0 : a + 0 ≤ 601024 ∧ b + 0 ≤ 7293034 := ⟨by omega, by omega⟩
  have h1 : a + 1 + 0 ≤ 601024 ∧ b + 6 + 0 ≤ 7293034 := ⟨by omega, by omega⟩
  obtain ⟨a1, ha1⟩ : ∃ y, xs (i + (1 : Int32)).toNatClampNeg = y := ⟨_, rfl⟩
  obtain ⟨a2, ha2⟩ : ∃ y, xs (i + (2 : Int32)).toNatClampNeg = y := ⟨_, rfl⟩
  unfold lvL
  obtain ⟨o, ho, z, hz, hR2, hag⟩ := hM _ _ _ _ _ hR a1 a2
  refine k_aload_n (q := 1338) hC dL_law_1337 rfl rfl ?_
  refine k_aload_nS (q := 1339) hC dL_law_1338 rfl rfl ?_
  refine k_iload (q := 1341) hC dL_law_1339 rfl rfl ?_
  refine k_iconst (q := 1342) (v := (1 : Int32)) hC dL_law_1341 (by decide) rfl ?_
  refine k_iadd (q := 1343) hC dL_law_1342 rfl ?_
  refine k_sld (q := 1344) (y := a1) hC hX dL_law_1343 hv1 ha1 rfl ?_
  refine k_aload_nS (q := 1345) hC dL_law_1344 rfl rfl ?_
  refine k_iload (q := 1347) hC dL_law_1345 rfl rfl ?_
  refine k_iconst (q := 1348) (v := (2 : Int32)) hC dL_law_1347 (by decide) rfl ?_
  refine k_iadd (q := 1349) hC dL_law_1348 rfl ?_
  refine k_sld (q := 1350) (y := a2) hC hX dL_law_1349 hv2 ha2 rfl ?_
  refine k_aload_n (q := 1351) hC dL_law_1350 rfl rfl ?_
  refine k_wS (q := 1354) (av := [.ref 0, .int a1, .int a2, .ref 99]) hC oL_via sL_via rfl dL_law_1351 lk_L_181 (wL_via e 100 (by decide) (RR fa tr pm) (RR fa tr pm) xc xc hm lo a1 a2 o (c_X9_via e 100 (by decide) fa tr pm hfa hl xc (hm, lo) a1 a2 o ho) hag.2.1) (by decide) rfl (Nat.le_of_ble_eq_true rfl) hab rfl ?_
  refine k_istore (q := 1356) (lv' := [some (.float 0), some (.ref 0), some (.ref 81), some (.ref 99), some (.int i), some (.int (wcode [2] o)), none]) hC dL_law_1354 (by decide) rfl rfl ?_
  refine k_aload_n (q := 1357) hC dL_law_1356 rfl rfl ?_
  refine k_aload_nS (q := 1358) hC dL_law_1357 rfl rfl ?_
  refine k_iload (q := 1360) hC dL_law_1358 rfl rfl ?_
  refine k_iconst (q := 1361) (v := (1 : Int32)) hC dL_law_1360 (by decide) rfl ?_
  refine k_iadd (q := 1362) hC dL_law_1361 rfl ?_
  refine k_sld (q := 1363) (y := a1) hC hX dL_law_1362 hv1 ha1 rfl ?_
  refine k_aload_nS (q := 1364) hC dL_law_1363 rfl rfl ?_
  refine k_iload (q := 1366) hC dL_law_1364 rfl rfl ?_
  refine k_iconst (q := 1367) (v := (2 : Int32)) hC dL_law_1366 (by decide) rfl ?_
  refine k_iadd (q := 1368) hC dL_law_1367 rfl ?_
  refine k_sld (q := 1369) (y := a2) hC hX dL_law_1368 hv2 ha2 rfl ?_
  refine k_callV (q := 1372) (ex := false) (av := [.ref 81, .int a1, .int a2]) (c0 := 81) (As := [.int a1, .int a2]) (cm := 0) (sm := 0) hC oX10_via vX10_via rfl rfl (kd81 (n := 100) (by decide)) rfl rfl dL_law_1369 lk_L_183 (c_X10_via e 100 (by decide) fa tr pm xc hm (wlo o lo) a1 a2 z hz) (by decide) rfl (Nat.le_of_ble_eq_true rfl) h1 (fun h => Bool.noConfusion h) rfl rfl ?_
  refine k_istore (q := 1374) (lv' := [some (.float 0), some (.ref 0), some (.ref 81), some (.ref 99), some (.int i), some (.int (wcode [2] o)), some (.int z.1)]) hC dL_law_1372 (by decide) rfl rfl ?_
  refine k_aload_n (q := 1375) hC dL_law_1374 rfl rfl ?_
  refine k_callV (q := 1378) (ex := false) (av := [.ref 81]) (c0 := 81) (As := []) (cm := 0) (sm := 0) hC oX10_thrown vX10_thrown rfl rfl (kd81 (n := 100) (by decide)) rfl rfl dL_law_1375 lk_L_113 (c_X10_thrown e 100 (by decide) _ xc z.2 (wlo o lo)) (by decide) rfl (Nat.le_of_ble_eq_true rfl) h1 (fun h => Bool.noConfusion h) rfl rfl ?_
  refine k_iload (q := 1380) hC dL_law_1378 rfl rfl ?_
  refine k_icmp_eq (q := 1383) (tgt := 1385) hC dL_law_1380 (by decide) rfl (fun _ => ?_) (fun h => absurd hag.1 h)
  refine k_iload (q := 1387) hC dL_law_1385 rfl rfl ?_
  refine k_if_ne (q := 1390) (tgt := 1402) hC dL_law_1387 (by decide) rfl (fun _ => ?_) (fun hk0 => ?_)
  · skip
    refine k_goto (tgt := 1888) hC dL_law_1402 (by decide) ?_
    refine k_lv (lv' := lvL i) (LSub.ok (by unfold lvL; exact ⟨rfl, rfl, rfl, rfl, rfl, trivial⟩)) ?_
    exact kk _ _ _ _ _ _ _ _ hR2 (by dsimp only; omega) (by dsimp only; omega)
  · obtain ⟨iv, hiv⟩ := wcode_zero (Nat.le_of_ble_eq_true rfl) hk0 hag.2.1
    have hzi := hag.2.2 iv hiv
    refine k_aload_n (q := 1391) hC dL_law_1390 rfl rfl ?_
    refine k_iconst (q := 1392) (v := (0 : Int32)) hC dL_law_1391 (by decide) rfl ?_
    refine k_lald (q := 1393) (y := iv.toInt64) hC dL_law_1392 (kd99 (n := 100) (by decide)) (by unfold vp_in; decide) (by rw [hiv]; simp [xl, wlo, up2]) rfl ?_
    refine k_iload (q := 1395) hC dL_law_1393 rfl rfl ?_
    refine k_i2l (q := 1396) hC dL_law_1395 rfl ?_
    refine k_lcmp (q := 1397) hC dL_law_1396 rfl ?_
    refine k_if_eq (q := 1400) (tgt := 1402) hC dL_law_1397 (by decide) rfl (fun _ => ?_) (fun h => absurd (by rw [hzi]; simp [lg_cmp]) h)
    refine k_goto (tgt := 1888) hC dL_law_1402 (by decide) ?_
    refine k_lv (lv' := lvL i) (LSub.ok (by unfold lvL; exact ⟨rfl, rfl, rfl, rfl, rfl, trivial⟩)) ?_
    exact kk _ _ _ _ _ _ _ _ hR2 (by dsimp only; omega) (by dsimp only; omega)
set_option maxRecDepth 100000 in
set_option maxHeartbeats 8000000 in
theorem lc_23 {e : gEV} {C : gCx} (hC : COk e C cL_law 7 RL 2048 601024 7293034) {Ln : Nat} {xs : Nat → Int32} (hX : gScr e C Ln xs) (hl : (eL e).stackTraces = false) {Rel : gRel} (hG : MG Rel) (hM : M23 Rel) {a b : Nat} (hab : a + 1 ≤ 601024 ∧ b + 6 ≤ 7293034) {i : Int32} (hv1 : vp_in (i + (1 : Int32)) Ln) (hv2 : vp_in (i + (2 : Int32)) Ln) {xc : gXH} {fa tr : Nat} {pm : Nat → Nat} {hm : gIH} {lo : gLH} (hR : Rel xc fa tr pm hm)
    (kk : ∀ xc fa tr pm hm lo a' b', Rel xc fa tr pm hm → a' ≤ a + 1 → b' ≤ b + 6 → KW e C (100, a', b') 1888 (lvL i) [] (RR fa tr pm) (xc, hm, lo)) : KW e C (100, a, b) 1405 (lvL i) [] (RR fa tr pm) (xc, hm, lo) := by
  obtain ⟨hfa, htr⟩ := hG _ _ _ _ _ hR
  have h0 : a + 0 ≤ 601024 ∧ b + 0 ≤ 7293034 := ⟨by omega, by omega⟩
  have h1 : a + 1 + 0 ≤ 601024 ∧ b + 6 + 0 ≤ 7293034 := ⟨by omega, by omega⟩
  obtain ⟨a1, ha1⟩ : ∃ y, xs (i + (1 : Int32)).toNatClampNeg = y := ⟨_, rfl⟩
  obtain ⟨a2, ha2⟩ : ∃ y, xs (i + (2 : Int32)).toNatClampNeg = y := ⟨_, rfl⟩
  unfold lvL
  obtain ⟨o, ho, z, hz, hR2, hag⟩ := hM _ _ _ _ _ hR a1 a2
  refine k_aload_n (q := 1406) hC dL_law_1405 rfl rfl ?_
  refine k_aload_nS (q := 1407) hC dL_law_1406 rfl rfl ?_
  refine k_iload (q := 1409) hC dL_law_1407 rfl rfl ?_
  refine k_iconst (q := 1410) (v := (1 : Int32)) hC dL_law_1409 (by decide) rfl ?_
  refine k_iadd (q := 1411) hC dL_law_1410 rfl ?_
  refine k_sld (q := 1412) (y := a1) hC hX dL_law_1411 hv1 ha1 rfl ?_
  refine k_aload_nS (q := 1413) hC dL_law_1412 rfl rfl ?_
  refine k_iload (q := 1415) hC dL_law_1413 rfl rfl ?_
  refine k_iconst (q := 1416) (v := (2 : Int32)) hC dL_law_1415 (by decide) rfl ?_
  refine k_iadd (q := 1417) hC dL_law_1416 rfl ?_
  refine k_sld (q := 1418) (y := a2) hC hX dL_law_1417 hv2 ha2 rfl ?_
  refine k_aload_n (q := 1419) hC dL_law_1418 rfl rfl ?_
  refine k_wS (q := 1422) (av := [.ref 0, .int a1, .int a2, .ref 99]) hC oL_pass sL_pass rfl dL_law_1419 lk_L_184 (wL_pass e 100 (by decide) (RR fa tr pm) (RR fa tr pm) xc o.2 hm lo a1 a2 o.1 (c_X9_pass e 100 (by decide) fa tr pm hfa htr hl xc (hm, lo) a1 a2 o ho) hag.2.1) (by decide) rfl (Nat.le_of_ble_eq_true rfl) hab rfl ?_
  refine k_istore (q := 1424) (lv' := [some (.float 0), some (.ref 0), some (.ref 81), some (.ref 99), some (.int i), some (.int (wcode [2] o.1)), none]) hC dL_law_1422 (by decide) rfl rfl ?_
  refine k_aload_n (q := 1425) hC dL_law_1424 rfl rfl ?_
  refine k_aload_nS (q := 1426) hC dL_law_1425 rfl rfl ?_
  refine k_iload (q := 1428) hC dL_law_1426 rfl rfl ?_
  refine k_iconst (q := 1429) (v := (1 : Int32)) hC dL_law_1428 (by decide) rfl ?_
  refine k_iadd (q := 1430) hC dL_law_1429 rfl ?_
  refine k_sld (q := 1431) (y := a1) hC hX dL_law_1430 hv1 ha1 rfl ?_
  refine k_aload_nS (q := 1432) hC dL_law_1431 rfl rfl ?_
  refine k_iload (q := 1434) hC dL_law_1432 rfl rfl ?_
  refine k_iconst (q := 1435) (v := (2 : Int32)) hC dL_law_1434 (by decide) rfl ?_
  refine k_iadd (q := 1436) hC dL_law_1435 rfl ?_
  refine k_sld (q := 1437) (y := a2) hC hX dL_law_1436 hv2 ha2 rfl ?_
  refine k_callV (q := 1440) (ex := false) (av := [.ref 81, .int a1, .int a2]) (c0 := 81) (As := [.int a1, .int a2]) (cm := 0) (sm := 0) hC oX10_pass vX10_pass rfl rfl (kd81 (n := 100) (by decide)) rfl rfl dL_law_1437 lk_L_186 (c_X10_pass e 100 (by decide) fa tr pm o.2 hm (wlo o.1 lo) a1 a2 z hz) (by decide) rfl (Nat.le_of_ble_eq_true rfl) h1 (fun h => Bool.noConfusion h) rfl rfl ?_
  refine k_istore (q := 1442) (lv' := [some (.float 0), some (.ref 0), some (.ref 81), some (.ref 99), some (.int i), some (.int (wcode [2] o.1)), some (.int z.1)]) hC dL_law_1440 (by decide) rfl rfl ?_
  refine k_aload_n (q := 1443) hC dL_law_1442 rfl rfl ?_
  refine k_callV (q := 1446) (ex := false) (av := [.ref 81]) (c0 := 81) (As := []) (cm := 0) (sm := 0) hC oX10_thrown vX10_thrown rfl rfl (kd81 (n := 100) (by decide)) rfl rfl dL_law_1443 lk_L_113 (c_X10_thrown e 100 (by decide) _ o.2 z.2 (wlo o.1 lo)) (by decide) rfl (Nat.le_of_ble_eq_true rfl) h1 (fun h => Bool.noConfusion h) rfl rfl ?_
  refine k_iload (q := 1448) hC dL_law_1446 rfl rfl ?_
  refine k_icmp_eq (q := 1451) (tgt := 1453) hC dL_law_1448 (by decide) rfl (fun _ => ?_) (fun h => absurd hag.1 h)
  refine k_iload (q := 1455) hC dL_law_1453 rfl rfl ?_
  refine k_if_ne (q := 1458) (tgt := 1470) hC dL_law_1455 (by decide) rfl (fun _ => ?_) (fun hk0 => ?_)
  · skip
    refine k_goto (tgt := 1888) hC dL_law_1470 (by decide) ?_
    refine k_lv (lv' := lvL i) (LSub.ok (by unfold lvL; exact ⟨rfl, rfl, rfl, rfl, rfl, trivial⟩)) ?_
    exact kk _ _ _ _ _ _ _ _ hR2 (by dsimp only; omega) (by dsimp only; omega)
  · obtain ⟨iv, hiv⟩ := wcode_zero (Nat.le_of_ble_eq_true rfl) hk0 hag.2.1
    have hzi := hag.2.2 iv hiv
    refine k_aload_n (q := 1459) hC dL_law_1458 rfl rfl ?_
    refine k_iconst (q := 1460) (v := (0 : Int32)) hC dL_law_1459 (by decide) rfl ?_
    refine k_lald (q := 1461) (y := iv.toInt64) hC dL_law_1460 (kd99 (n := 100) (by decide)) (by unfold vp_in; decide) (by rw [hiv]; simp [xl, wlo, up2]) rfl ?_
    refine k_iload (q := 1463) hC dL_law_1461 rfl rfl ?_
    refine k_i2l (q := 1464) hC dL_law_1463 rfl ?_
    refine k_lcmp (q := 1465) hC dL_law_1464 rfl ?_
    refine k_if_eq (q := 1468) (tgt := 1470) hC dL_law_1465 (by decide) rfl (fun _ => ?_) (fun h => absurd (by rw [hzi]; simp [lg_cmp]) h)
    refine k_goto (tgt := 1888) hC dL_law_1470 (by decide) ?_
    refine k_lv (lv' := lvL i) (LSub.ok (by unfold lvL; exact ⟨rfl, rfl, rfl, rfl, rfl, trivial⟩)) ?_
    exact kk _ _ _ _ _ _ _ _ hR2 (by dsimp only; omega) (by dsimp only; omega)
set_option maxRecDepth 100000 in
set_option maxHeartbeats 8000000 in
theorem lc_24 {e : gEV} {C : gCx} (hC : COk e C cL_law 7 RL 2048 601024 7293034) {Ln : Nat} {xs : Nat → Int32} (hX : gScr e C Ln xs) (hl : (eL e).stackTraces = false) {Rel : gRel} (hG : MG Rel) (hM : M24 Rel) {a b : Nat} (hab : a + 1 ≤ 601024 ∧ b + 6 ≤ 7293034) {i : Int32} (hv1 : vp_in (i + (1 : Int32)) Ln) (hv2 : vp_in (i + (2 : Int32)) Ln) {xc : gXH} {fa tr : Nat} {pm : Nat → Nat} {hm : gIH} {lo : gLH} (hR : Rel xc fa tr pm hm)
    (kk : ∀ xc fa tr pm hm lo a' b', Rel xc fa tr pm hm → a' ≤ a + 1 → b' ≤ b + 6 → KW e C (100, a', b') 1888 (lvL i) [] (RR fa tr pm) (xc, hm, lo)) : KW e C (100, a, b) 1473 (lvL i) [] (RR fa tr pm) (xc, hm, lo) := by
  obtain ⟨hfa, htr⟩ := hG _ _ _ _ _ hR
  have h0 : a + 0 ≤ 601024 ∧ b + 0 ≤ 7293034 := ⟨by omega, by omega⟩
  have h1 : a + 1 + 0 ≤ 601024 ∧ b + 6 + 0 ≤ 7293034 := ⟨by omega, by omega⟩
  obtain ⟨a1, ha1⟩ : ∃ y, xs (i + (1 : Int32)).toNatClampNeg = y := ⟨_, rfl⟩
  obtain ⟨a2, ha2⟩ : ∃ y, xs (i + (2 : Int32)).toNatClampNeg = y := ⟨_, rfl⟩
  unfold lvL
  obtain ⟨o, ho, z, hz, hR2, hag⟩ := hM _ _ _ _ _ hR a1 a2
  refine k_aload_n (q := 1474) hC dL_law_1473 rfl rfl ?_
  refine k_aload_nS (q := 1475) hC dL_law_1474 rfl rfl ?_
  refine k_iload (q := 1477) hC dL_law_1475 rfl rfl ?_
  refine k_iconst (q := 1478) (v := (1 : Int32)) hC dL_law_1477 (by decide) rfl ?_
  refine k_iadd (q := 1479) hC dL_law_1478 rfl ?_
  refine k_sld (q := 1480) (y := a1) hC hX dL_law_1479 hv1 ha1 rfl ?_
  refine k_aload_nS (q := 1481) hC dL_law_1480 rfl rfl ?_
  refine k_iload (q := 1483) hC dL_law_1481 rfl rfl ?_
  refine k_iconst (q := 1484) (v := (2 : Int32)) hC dL_law_1483 (by decide) rfl ?_
  refine k_iadd (q := 1485) hC dL_law_1484 rfl ?_
  refine k_sld (q := 1486) (y := a2) hC hX dL_law_1485 hv2 ha2 rfl ?_
  refine k_aload_n (q := 1487) hC dL_law_1486 rfl rfl ?_
  refine k_wS (q := 1490) (av := [.ref 0, .int a1, .int a2, .ref 99]) hC oL_fall sL_fall rfl dL_law_1487 lk_L_187 (wL_fall e 100 (by decide) (RR fa tr pm) (RR fa tr pm) xc o.2 hm lo a1 a2 o.1 (c_X9_fall e 100 (by decide) fa tr pm hfa htr hl xc (hm, lo) a1 a2 o ho) hag.2.1) (by decide) rfl (Nat.le_of_ble_eq_true rfl) hab rfl ?_
  refine k_istore (q := 1492) (lv' := [some (.float 0), some (.ref 0), some (.ref 81), some (.ref 99), some (.int i), some (.int (wcode [2, 3, 1] o.1)), none]) hC dL_law_1490 (by decide) rfl rfl ?_
  refine k_aload_n (q := 1493) hC dL_law_1492 rfl rfl ?_
  refine k_aload_nS (q := 1494) hC dL_law_1493 rfl rfl ?_
  refine k_iload (q := 1496) hC dL_law_1494 rfl rfl ?_
  refine k_iconst (q := 1497) (v := (1 : Int32)) hC dL_law_1496 (by decide) rfl ?_
  refine k_iadd (q := 1498) hC dL_law_1497 rfl ?_
  refine k_sld (q := 1499) (y := a1) hC hX dL_law_1498 hv1 ha1 rfl ?_
  refine k_aload_nS (q := 1500) hC dL_law_1499 rfl rfl ?_
  refine k_iload (q := 1502) hC dL_law_1500 rfl rfl ?_
  refine k_iconst (q := 1503) (v := (2 : Int32)) hC dL_law_1502 (by decide) rfl ?_
  refine k_iadd (q := 1504) hC dL_law_1503 rfl ?_
  refine k_sld (q := 1505) (y := a2) hC hX dL_law_1504 hv2 ha2 rfl ?_
  refine k_callV (q := 1508) (ex := false) (av := [.ref 81, .int a1, .int a2]) (c0 := 81) (As := [.int a1, .int a2]) (cm := 0) (sm := 0) hC oX10_fall vX10_fall rfl rfl (kd81 (n := 100) (by decide)) rfl rfl dL_law_1505 lk_L_189 (c_X10_fall e 100 (by decide) fa tr pm o.2 hm (wlo o.1 lo) a1 a2 z hz) (by decide) rfl (Nat.le_of_ble_eq_true rfl) h1 (fun h => Bool.noConfusion h) rfl rfl ?_
  refine k_istore (q := 1510) (lv' := [some (.float 0), some (.ref 0), some (.ref 81), some (.ref 99), some (.int i), some (.int (wcode [2, 3, 1] o.1)), some (.int z.1)]) hC dL_law_1508 (by decide) rfl rfl ?_
  refine k_aload_n (q := 1511) hC dL_law_1510 rfl rfl ?_
  refine k_callV (q := 1514) (ex := false) (av := [.ref 81]) (c0 := 81) (As := []) (cm := 0) (sm := 0) hC oX10_thrown vX10_thrown rfl rfl (kd81 (n := 100) (by decide)) rfl rfl dL_law_1511 lk_L_113 (c_X10_thrown e 100 (by decide) _ o.2 z.2 (wlo o.1 lo)) (by decide) rfl (Nat.le_of_ble_eq_true rfl) h1 (fun h => Bool.noConfusion h) rfl rfl ?_
  refine k_iload (q := 1516) hC dL_law_1514 rfl rfl ?_
  refine k_icmp_eq (q := 1519) (tgt := 1521) hC dL_law_1516 (by decide) rfl (fun _ => ?_) (fun h => absurd hag.1 h)
  refine k_iload (q := 1523) hC dL_law_1521 rfl rfl ?_
  refine k_if_ne (q := 1526) (tgt := 1538) hC dL_law_1523 (by decide) rfl (fun _ => ?_) (fun hk0 => ?_)
  · skip
    refine k_goto (tgt := 1888) hC dL_law_1538 (by decide) ?_
    refine k_lv (lv' := lvL i) (LSub.ok (by unfold lvL; exact ⟨rfl, rfl, rfl, rfl, rfl, trivial⟩)) ?_
    exact kk _ _ _ _ _ _ _ _ hR2 (by dsimp only; omega) (by dsimp only; omega)
  · obtain ⟨iv, hiv⟩ := wcode_zero (Nat.le_of_ble_eq_true rfl) hk0 hag.2.1
    have hzi := hag.2.2 iv hiv
    refine k_aload_n (q := 1527) hC dL_law_1526 rfl rfl ?_
    refine k_iconst (q := 1528) (v := (0 : Int32)) hC dL_law_1527 (by decide) rfl ?_
    refine k_lald (q := 1529) (y := iv.toInt64) hC dL_law_1528 (kd99 (n := 100) (by decide)) (by unfold vp_in; decide) (by rw [hiv]; simp [xl, wlo, up2]) rfl ?_
    refine k_iload (q := 1531) hC dL_law_1529 rfl rfl ?_
    refine k_i2l (q := 1532) hC dL_law_1531 rfl ?_
    refine k_lcmp (q := 1533) hC dL_law_1532 rfl ?_
    refine k_if_eq (q := 1536) (tgt := 1538) hC dL_law_1533 (by decide) rfl (fun _ => ?_) (fun h => absurd (by rw [hzi]; simp [lg_cmp]) h)
    refine k_goto (tgt := 1888) hC dL_law_1538 (by decide) ?_
    refine k_lv (lv' := lvL i) (LSub.ok (by unfold lvL; exact ⟨rfl, rfl, rfl, rfl, rfl, trivial⟩)) ?_
    exact kk _ _ _ _ _ _ _ _ hR2 (by dsimp only; omega) (by dsimp only; omega)
set_option maxRecDepth 100000 in
set_option maxHeartbeats 8000000 in
theorem lc_25 {e : gEV} {C : gCx} (hC : COk e C cL_law 7 RL 2048 601024 7293034) {Ln : Nat} {xs : Nat → Int32} (hX : gScr e C Ln xs) (hl : (eL e).stackTraces = false) {Rel : gRel} (hG : MG Rel) (hM : M25 Rel) {a b : Nat} (hab : a + 1 ≤ 601024 ∧ b + 6 ≤ 7293034) {i : Int32} (hv1 : vp_in (i + (1 : Int32)) Ln) {xc : gXH} {fa tr : Nat} {pm : Nat → Nat} {hm : gIH} {lo : gLH} (hR : Rel xc fa tr pm hm)
    (kk : ∀ xc fa tr pm hm lo a' b', Rel xc fa tr pm hm → a' ≤ a + 1 → b' ≤ b + 6 → KW e C (100, a', b') 1888 (lvL i) [] (RR fa tr pm) (xc, hm, lo)) : KW e C (100, a, b) 1541 (lvL i) [] (RR fa tr pm) (xc, hm, lo) := by
  obtain ⟨hfa, htr⟩ := hG _ _ _ _ _ hR
  have h0 : a + 0 ≤ 601024 ∧ b + 0 ≤ 7293034 := ⟨by omega, by omega⟩
  have h1 : a + 1 + 0 ≤ 601024 ∧ b + 6 + 0 ≤ 7293034 := ⟨by omega, by omega⟩
  obtain ⟨a1, ha1⟩ : ∃ y, xs (i + (1 : Int32)).toNatClampNeg = y := ⟨_, rfl⟩
  unfold lvL
  obtain ⟨o, ho, z, hz, hR2, hag⟩ := hM _ _ _ _ _ hR a1
  refine k_aload_n (q := 1542) hC dL_law_1541 rfl rfl ?_
  refine k_aload_nS (q := 1543) hC dL_law_1542 rfl rfl ?_
  refine k_iload (q := 1545) hC dL_law_1543 rfl rfl ?_
  refine k_iconst (q := 1546) (v := (1 : Int32)) hC dL_law_1545 (by decide) rfl ?_
  refine k_iadd (q := 1547) hC dL_law_1546 rfl ?_
  refine k_sld (q := 1548) (y := a1) hC hX dL_law_1547 hv1 ha1 rfl ?_
  refine k_callV (q := 1551) (ex := false) (av := [.ref 0, .int a1]) (c0 := 0) (As := [.int a1]) (cm := 0) (sm := 0) hC oX9_row vX9_row rfl rfl (kd0 (n := 100) (by decide)) rfl rfl dL_law_1548 lk_L_190 (c_X9_row e 100 (by decide) fa tr pm hfa xc (hm, lo) a1 o ho) (by decide) rfl (Nat.le_of_ble_eq_true rfl) h0 (fun h => Bool.noConfusion h) rfl rfl ?_
  refine k_aload_n (q := 1552) hC dL_law_1551 rfl rfl ?_
  refine k_aload_nS (q := 1553) hC dL_law_1552 rfl rfl ?_
  refine k_iload (q := 1555) hC dL_law_1553 rfl rfl ?_
  refine k_iconst (q := 1556) (v := (1 : Int32)) hC dL_law_1555 (by decide) rfl ?_
  refine k_iadd (q := 1557) hC dL_law_1556 rfl ?_
  refine k_sld (q := 1558) (y := a1) hC hX dL_law_1557 hv1 ha1 rfl ?_
  refine k_callV (q := 1561) (ex := false) (av := [.ref 81, .int a1]) (c0 := 81) (As := [.int a1]) (cm := 0) (sm := 0) hC oX10_row vX10_row rfl rfl (kd81 (n := 100) (by decide)) rfl rfl dL_law_1558 lk_L_193 (c_X10_row e 100 (by decide) fa tr pm xc hm lo a1 z hz) (by decide) rfl (Nat.le_of_ble_eq_true rfl) h0 (fun h => Bool.noConfusion h) rfl rfl ?_
  refine k_icmp_eq (q := 1564) (tgt := 1888) hC dL_law_1561 (by decide) rfl (fun _ => ?_) (fun h => absurd hag h)
  refine k_lv (lv' := lvL i) (LSub.ok (by unfold lvL; exact ⟨rfl, rfl, rfl, rfl, rfl, trivial⟩)) ?_
  exact kk _ _ _ _ _ _ _ _ hR2 (by dsimp only; omega) (by dsimp only; omega)
set_option maxRecDepth 100000 in
set_option maxHeartbeats 8000000 in
theorem lc_26 {e : gEV} {C : gCx} (hC : COk e C cL_law 7 RL 2048 601024 7293034) {Ln : Nat} {xs : Nat → Int32} (hX : gScr e C Ln xs) (hl : (eL e).stackTraces = false) {Rel : gRel} (hG : MG Rel) (hM : M26 Rel) {a b : Nat} (hab : a + 1 ≤ 601024 ∧ b + 6 ≤ 7293034) {i : Int32} (hv1 : vp_in (i + (1 : Int32)) Ln) {xc : gXH} {fa tr : Nat} {pm : Nat → Nat} {hm : gIH} {lo : gLH} (hR : Rel xc fa tr pm hm)
    (kk : ∀ xc fa tr pm hm lo a' b', Rel xc fa tr pm hm → a' ≤ a + 1 → b' ≤ b + 6 → KW e C (100, a', b') 1888 (lvL i) [] (RR fa tr pm) (xc, hm, lo)) : KW e C (100, a, b) 1566 (lvL i) [] (RR fa tr pm) (xc, hm, lo) := by
  obtain ⟨hfa, htr⟩ := hG _ _ _ _ _ hR
  have h0 : a + 0 ≤ 601024 ∧ b + 0 ≤ 7293034 := ⟨by omega, by omega⟩
  have h1 : a + 1 + 0 ≤ 601024 ∧ b + 6 + 0 ≤ 7293034 := ⟨by omega, by omega⟩
  obtain ⟨a1, ha1⟩ : ∃ y, xs (i + (1 : Int32)).toNatClampNeg = y := ⟨_, rfl⟩
  unfold lvL
  obtain ⟨o, ho, z, hz, hR2, hag⟩ := hM _ _ _ _ _ hR a1
  refine k_aload_n (q := 1567) hC dL_law_1566 rfl rfl ?_
  refine k_aload_nS (q := 1568) hC dL_law_1567 rfl rfl ?_
  refine k_iload (q := 1570) hC dL_law_1568 rfl rfl ?_
  refine k_iconst (q := 1571) (v := (1 : Int32)) hC dL_law_1570 (by decide) rfl ?_
  refine k_iadd (q := 1572) hC dL_law_1571 rfl ?_
  refine k_sld (q := 1573) (y := a1) hC hX dL_law_1572 hv1 ha1 rfl ?_
  refine k_aload_n (q := 1574) hC dL_law_1573 rfl rfl ?_
  refine k_wS (q := 1577) (av := [.ref 0, .int a1, .ref 99]) hC oL_worst sL_worst rfl dL_law_1574 lk_L_194 (wL_worst e 100 (by decide) (RR fa tr pm) (RR fa tr pm) xc o.2 hm lo a1 o.1 (c_X9_worst e 100 (by decide) fa tr pm hfa htr hl xc (hm, lo) a1 o ho) hag.2.1) (by decide) rfl (Nat.le_of_ble_eq_true rfl) hab rfl ?_
  refine k_istore (q := 1579) (lv' := [some (.float 0), some (.ref 0), some (.ref 81), some (.ref 99), some (.int i), some (.int (wcode [3] o.1)), none]) hC dL_law_1577 (by decide) rfl rfl ?_
  refine k_aload_n (q := 1580) hC dL_law_1579 rfl rfl ?_
  refine k_aload_nS (q := 1581) hC dL_law_1580 rfl rfl ?_
  refine k_iload (q := 1583) hC dL_law_1581 rfl rfl ?_
  refine k_iconst (q := 1584) (v := (1 : Int32)) hC dL_law_1583 (by decide) rfl ?_
  refine k_iadd (q := 1585) hC dL_law_1584 rfl ?_
  refine k_sld (q := 1586) (y := a1) hC hX dL_law_1585 hv1 ha1 rfl ?_
  refine k_callV (q := 1589) (ex := false) (av := [.ref 81, .int a1]) (c0 := 81) (As := [.int a1]) (cm := 0) (sm := 0) hC oX10_worst vX10_worst rfl rfl (kd81 (n := 100) (by decide)) rfl rfl dL_law_1586 lk_L_196 (c_X10_worst e 100 (by decide) fa tr pm o.2 hm (wlo o.1 lo) a1 z hz) (by decide) rfl (Nat.le_of_ble_eq_true rfl) h1 (fun h => Bool.noConfusion h) rfl rfl ?_
  refine k_istore (q := 1591) (lv' := [some (.float 0), some (.ref 0), some (.ref 81), some (.ref 99), some (.int i), some (.int (wcode [3] o.1)), some (.int z.1)]) hC dL_law_1589 (by decide) rfl rfl ?_
  refine k_aload_n (q := 1592) hC dL_law_1591 rfl rfl ?_
  refine k_callV (q := 1595) (ex := false) (av := [.ref 81]) (c0 := 81) (As := []) (cm := 0) (sm := 0) hC oX10_thrown vX10_thrown rfl rfl (kd81 (n := 100) (by decide)) rfl rfl dL_law_1592 lk_L_113 (c_X10_thrown e 100 (by decide) _ o.2 z.2 (wlo o.1 lo)) (by decide) rfl (Nat.le_of_ble_eq_true rfl) h1 (fun h => Bool.noConfusion h) rfl rfl ?_
  refine k_iload (q := 1597) hC dL_law_1595 rfl rfl ?_
  refine k_icmp_eq (q := 1600) (tgt := 1602) hC dL_law_1597 (by decide) rfl (fun _ => ?_) (fun h => absurd hag.1 h)
  refine k_iload (q := 1604) hC dL_law_1602 rfl rfl ?_
  refine k_if_ne (q := 1607) (tgt := 1619) hC dL_law_1604 (by decide) rfl (fun _ => ?_) (fun hk0 => ?_)
  · skip
    refine k_goto (tgt := 1888) hC dL_law_1619 (by decide) ?_
    refine k_lv (lv' := lvL i) (LSub.ok (by unfold lvL; exact ⟨rfl, rfl, rfl, rfl, rfl, trivial⟩)) ?_
    exact kk _ _ _ _ _ _ _ _ hR2 (by dsimp only; omega) (by dsimp only; omega)
  · obtain ⟨iv, hiv⟩ := wcode_zero (Nat.le_of_ble_eq_true rfl) hk0 hag.2.1
    have hzi := hag.2.2 iv hiv
    refine k_aload_n (q := 1608) hC dL_law_1607 rfl rfl ?_
    refine k_iconst (q := 1609) (v := (0 : Int32)) hC dL_law_1608 (by decide) rfl ?_
    refine k_lald (q := 1610) (y := iv.toInt64) hC dL_law_1609 (kd99 (n := 100) (by decide)) (by unfold vp_in; decide) (by rw [hiv]; simp [xl, wlo, up2]) rfl ?_
    refine k_iload (q := 1612) hC dL_law_1610 rfl rfl ?_
    refine k_i2l (q := 1613) hC dL_law_1612 rfl ?_
    refine k_lcmp (q := 1614) hC dL_law_1613 rfl ?_
    refine k_if_eq (q := 1617) (tgt := 1619) hC dL_law_1614 (by decide) rfl (fun _ => ?_) (fun h => absurd (by rw [hzi]; simp [lg_cmp]) h)
    refine k_goto (tgt := 1888) hC dL_law_1619 (by decide) ?_
    refine k_lv (lv' := lvL i) (LSub.ok (by unfold lvL; exact ⟨rfl, rfl, rfl, rfl, rfl, trivial⟩)) ?_
    exact kk _ _ _ _ _ _ _ _ hR2 (by dsimp only; omega) (by dsimp only; omega)
set_option maxRecDepth 100000 in
set_option maxHeartbeats 8000000 in
theorem lc_27 {e : gEV} {C : gCx} (hC : COk e C cL_law 7 RL 2048 601024 7293034) {Ln : Nat} {xs : Nat → Int32} (hX : gScr e C Ln xs) (hl : (eL e).stackTraces = false) {Rel : gRel} (hG : MG Rel) (hM : M27 Rel) {a b : Nat} (hab : a + 1 ≤ 601024 ∧ b + 6 ≤ 7293034) {i : Int32} (hv1 : vp_in (i + (1 : Int32)) Ln) (hv2 : vp_in (i + (2 : Int32)) Ln) (hv3 : vp_in (i + (3 : Int32)) Ln) {xc : gXH} {fa tr : Nat} {pm : Nat → Nat} {hm : gIH} {lo : gLH} (hR : Rel xc fa tr pm hm)
    (kk : ∀ xc fa tr pm hm lo a' b', Rel xc fa tr pm hm → a' ≤ a + 1 → b' ≤ b + 6 → KW e C (100, a', b') 1888 (lvL i) [] (RR fa tr pm) (xc, hm, lo)) : KW e C (100, a, b) 1622 (lvL i) [] (RR fa tr pm) (xc, hm, lo) := by
  obtain ⟨hfa, htr⟩ := hG _ _ _ _ _ hR
  have h0 : a + 0 ≤ 601024 ∧ b + 0 ≤ 7293034 := ⟨by omega, by omega⟩
  have h1 : a + 1 + 0 ≤ 601024 ∧ b + 6 + 0 ≤ 7293034 := ⟨by omega, by omega⟩
  obtain ⟨a1, ha1⟩ : ∃ y, xs (i + (1 : Int32)).toNatClampNeg = y := ⟨_, rfl⟩
  obtain ⟨a2, ha2⟩ : ∃ y, xs (i + (2 : Int32)).toNatClampNeg = y := ⟨_, rfl⟩
  obtain ⟨a3, ha3⟩ : ∃ y, xs (i + (3 : Int32)).toNatClampNeg = y := ⟨_, rfl⟩
  unfold lvL
  obtain ⟨o, ho, z, hz, hR2, hag⟩ := hM _ _ _ _ _ hR a1 a2 a3
  refine k_aload_n (q := 1623) hC dL_law_1622 rfl rfl ?_
  refine k_aload_nS (q := 1624) hC dL_law_1623 rfl rfl ?_
  refine k_iload (q := 1626) hC dL_law_1624 rfl rfl ?_
  refine k_iconst (q := 1627) (v := (1 : Int32)) hC dL_law_1626 (by decide) rfl ?_
  refine k_iadd (q := 1628) hC dL_law_1627 rfl ?_
  refine k_sld (q := 1629) (y := a1) hC hX dL_law_1628 hv1 ha1 rfl ?_
  refine k_aload_nS (q := 1630) hC dL_law_1629 rfl rfl ?_
  refine k_iload (q := 1632) hC dL_law_1630 rfl rfl ?_
  refine k_iconst (q := 1633) (v := (2 : Int32)) hC dL_law_1632 (by decide) rfl ?_
  refine k_iadd (q := 1634) hC dL_law_1633 rfl ?_
  refine k_sld (q := 1635) (y := a2) hC hX dL_law_1634 hv2 ha2 rfl ?_
  refine k_aload_nS (q := 1636) hC dL_law_1635 rfl rfl ?_
  refine k_iload (q := 1638) hC dL_law_1636 rfl rfl ?_
  refine k_iconst (q := 1639) (v := (3 : Int32)) hC dL_law_1638 (by decide) rfl ?_
  refine k_iadd (q := 1640) hC dL_law_1639 rfl ?_
  refine k_sld (q := 1641) (y := a3) hC hX dL_law_1640 hv3 ha3 rfl ?_
  refine k_aload_n (q := 1642) hC dL_law_1641 rfl rfl ?_
  refine k_wS (q := 1645) (av := [.ref 0, .int a1, .int a2, .int a3, .ref 99]) hC oL_would sL_would rfl dL_law_1642 lk_L_197 (wL_would e 100 (by decide) (RR fa tr pm) (RR fa tr pm) xc o.2 hm lo a1 a2 a3 o.1 (c_X9_would e 100 (by decide) fa tr pm hfa htr hl xc (hm, lo) a1 a2 a3 o ho) hag.2.1) (by decide) rfl (Nat.le_of_ble_eq_true rfl) hab rfl ?_
  refine k_istore (q := 1647) (lv' := [some (.float 0), some (.ref 0), some (.ref 81), some (.ref 99), some (.int i), some (.int (wcode [2, 3] o.1)), none]) hC dL_law_1645 (by decide) rfl rfl ?_
  refine k_aload_n (q := 1648) hC dL_law_1647 rfl rfl ?_
  refine k_aload_nS (q := 1649) hC dL_law_1648 rfl rfl ?_
  refine k_iload (q := 1651) hC dL_law_1649 rfl rfl ?_
  refine k_iconst (q := 1652) (v := (1 : Int32)) hC dL_law_1651 (by decide) rfl ?_
  refine k_iadd (q := 1653) hC dL_law_1652 rfl ?_
  refine k_sld (q := 1654) (y := a1) hC hX dL_law_1653 hv1 ha1 rfl ?_
  refine k_aload_nS (q := 1655) hC dL_law_1654 rfl rfl ?_
  refine k_iload (q := 1657) hC dL_law_1655 rfl rfl ?_
  refine k_iconst (q := 1658) (v := (2 : Int32)) hC dL_law_1657 (by decide) rfl ?_
  refine k_iadd (q := 1659) hC dL_law_1658 rfl ?_
  refine k_sld (q := 1660) (y := a2) hC hX dL_law_1659 hv2 ha2 rfl ?_
  refine k_aload_nS (q := 1661) hC dL_law_1660 rfl rfl ?_
  refine k_iload (q := 1663) hC dL_law_1661 rfl rfl ?_
  refine k_iconst (q := 1664) (v := (3 : Int32)) hC dL_law_1663 (by decide) rfl ?_
  refine k_iadd (q := 1665) hC dL_law_1664 rfl ?_
  refine k_sld (q := 1666) (y := a3) hC hX dL_law_1665 hv3 ha3 rfl ?_
  refine k_callV (q := 1669) (ex := false) (av := [.ref 81, .int a1, .int a2, .int a3]) (c0 := 81) (As := [.int a1, .int a2, .int a3]) (cm := 0) (sm := 0) hC oX10_would vX10_would rfl rfl (kd81 (n := 100) (by decide)) rfl rfl dL_law_1666 lk_L_200 (c_X10_would e 100 (by decide) fa tr pm o.2 hm (wlo o.1 lo) a1 a2 a3 z hz) (by decide) rfl (Nat.le_of_ble_eq_true rfl) h1 (fun h => Bool.noConfusion h) rfl rfl ?_
  refine k_istore (q := 1671) (lv' := [some (.float 0), some (.ref 0), some (.ref 81), some (.ref 99), some (.int i), some (.int (wcode [2, 3] o.1)), some (.int z.1)]) hC dL_law_1669 (by decide) rfl rfl ?_
  refine k_aload_n (q := 1672) hC dL_law_1671 rfl rfl ?_
  refine k_callV (q := 1675) (ex := false) (av := [.ref 81]) (c0 := 81) (As := []) (cm := 0) (sm := 0) hC oX10_thrown vX10_thrown rfl rfl (kd81 (n := 100) (by decide)) rfl rfl dL_law_1672 lk_L_113 (c_X10_thrown e 100 (by decide) _ o.2 z.2 (wlo o.1 lo)) (by decide) rfl (Nat.le_of_ble_eq_true rfl) h1 (fun h => Bool.noConfusion h) rfl rfl ?_
  refine k_iload (q := 1677) hC dL_law_1675 rfl rfl ?_
  refine k_icmp_eq (q := 1680) (tgt := 1682) hC dL_law_1677 (by decide) rfl (fun _ => ?_) (fun h => absurd hag.1 h)
  refine k_iload (q := 1684) hC dL_law_1682 rfl rfl ?_
  refine k_if_ne (q := 1687) (tgt := 1699) hC dL_law_1684 (by decide) rfl (fun _ => ?_) (fun hk0 => ?_)
  · skip
    refine k_goto (tgt := 1888) hC dL_law_1699 (by decide) ?_
    refine k_lv (lv' := lvL i) (LSub.ok (by unfold lvL; exact ⟨rfl, rfl, rfl, rfl, rfl, trivial⟩)) ?_
    exact kk _ _ _ _ _ _ _ _ hR2 (by dsimp only; omega) (by dsimp only; omega)
  · obtain ⟨iv, hiv⟩ := wcode_zero (Nat.le_of_ble_eq_true rfl) hk0 hag.2.1
    have hzi := hag.2.2 iv hiv
    refine k_aload_n (q := 1688) hC dL_law_1687 rfl rfl ?_
    refine k_iconst (q := 1689) (v := (0 : Int32)) hC dL_law_1688 (by decide) rfl ?_
    refine k_lald (q := 1690) (y := iv.toInt64) hC dL_law_1689 (kd99 (n := 100) (by decide)) (by unfold vp_in; decide) (by rw [hiv]; simp [xl, wlo, up2]) rfl ?_
    refine k_iload (q := 1692) hC dL_law_1690 rfl rfl ?_
    refine k_i2l (q := 1693) hC dL_law_1692 rfl ?_
    refine k_lcmp (q := 1694) hC dL_law_1693 rfl ?_
    refine k_if_eq (q := 1697) (tgt := 1699) hC dL_law_1694 (by decide) rfl (fun _ => ?_) (fun h => absurd (by rw [hzi]; simp [lg_cmp]) h)
    refine k_goto (tgt := 1888) hC dL_law_1699 (by decide) ?_
    refine k_lv (lv' := lvL i) (LSub.ok (by unfold lvL; exact ⟨rfl, rfl, rfl, rfl, rfl, trivial⟩)) ?_
    exact kk _ _ _ _ _ _ _ _ hR2 (by dsimp only; omega) (by dsimp only; omega)
set_option maxRecDepth 100000 in
set_option maxHeartbeats 8000000 in
theorem lc_28 {e : gEV} {C : gCx} (hC : COk e C cL_law 7 RL 2048 601024 7293034) {Ln : Nat} {xs : Nat → Int32} (hX : gScr e C Ln xs) (hl : (eL e).stackTraces = false) {Rel : gRel} (hG : MG Rel) (hM : M28 Rel) {a b : Nat} (hab : a + 1 ≤ 601024 ∧ b + 6 ≤ 7293034) {i : Int32} (hv1 : vp_in (i + (1 : Int32)) Ln) {xc : gXH} {fa tr : Nat} {pm : Nat → Nat} {hm : gIH} {lo : gLH} (hR : Rel xc fa tr pm hm)
    (kk : ∀ xc fa tr pm hm lo a' b', Rel xc fa tr pm hm → a' ≤ a + 1 → b' ≤ b + 6 → KW e C (100, a', b') 1888 (lvL i) [] (RR fa tr pm) (xc, hm, lo)) : KW e C (100, a, b) 1702 (lvL i) [] (RR fa tr pm) (xc, hm, lo) := by
  obtain ⟨hfa, htr⟩ := hG _ _ _ _ _ hR
  have h0 : a + 0 ≤ 601024 ∧ b + 0 ≤ 7293034 := ⟨by omega, by omega⟩
  have h1 : a + 1 + 0 ≤ 601024 ∧ b + 6 + 0 ≤ 7293034 := ⟨by omega, by omega⟩
  obtain ⟨a1, ha1⟩ : ∃ y, xs (i + (1 : Int32)).toNatClampNeg = y := ⟨_, rfl⟩
  unfold lvL
  obtain ⟨o, ho, z, hz, hR2, hag⟩ := hM _ _ _ _ _ hR a1
  refine k_aload_n (q := 1703) hC dL_law_1702 rfl rfl ?_
  refine k_aload_nS (q := 1704) hC dL_law_1703 rfl rfl ?_
  refine k_iload (q := 1706) hC dL_law_1704 rfl rfl ?_
  refine k_iconst (q := 1707) (v := (1 : Int32)) hC dL_law_1706 (by decide) rfl ?_
  refine k_iadd (q := 1708) hC dL_law_1707 rfl ?_
  refine k_sld (q := 1709) (y := a1) hC hX dL_law_1708 hv1 ha1 rfl ?_
  refine k_aload_n (q := 1710) hC dL_law_1709 rfl rfl ?_
  refine k_wS (q := 1713) (av := [.ref 0, .int a1, .ref 99]) hC oL_best sL_best rfl dL_law_1710 lk_L_201 (wL_best e 100 (by decide) (RR fa tr pm) (RR fa tr pm) xc o.2 hm lo a1 o.1 (c_X9_best e 100 (by decide) fa tr pm hfa hl xc (hm, lo) a1 o ho) hag.2.1) (by decide) rfl (Nat.le_of_ble_eq_true rfl) hab rfl ?_
  refine k_istore (q := 1715) (lv' := [some (.float 0), some (.ref 0), some (.ref 81), some (.ref 99), some (.int i), some (.int (wcode [3] o.1)), none]) hC dL_law_1713 (by decide) rfl rfl ?_
  refine k_aload_n (q := 1716) hC dL_law_1715 rfl rfl ?_
  refine k_aload_nS (q := 1717) hC dL_law_1716 rfl rfl ?_
  refine k_iload (q := 1719) hC dL_law_1717 rfl rfl ?_
  refine k_iconst (q := 1720) (v := (1 : Int32)) hC dL_law_1719 (by decide) rfl ?_
  refine k_iadd (q := 1721) hC dL_law_1720 rfl ?_
  refine k_sld (q := 1722) (y := a1) hC hX dL_law_1721 hv1 ha1 rfl ?_
  refine k_callV (q := 1725) (ex := false) (av := [.ref 81, .int a1]) (c0 := 81) (As := [.int a1]) (cm := 0) (sm := 0) hC oX10_best vX10_best rfl rfl (kd81 (n := 100) (by decide)) rfl rfl dL_law_1722 lk_L_203 (c_X10_best e 100 (by decide) fa tr pm o.2 hm (wlo o.1 lo) a1 z hz) (by decide) rfl (Nat.le_of_ble_eq_true rfl) h1 (fun h => Bool.noConfusion h) rfl rfl ?_
  refine k_istore (q := 1727) (lv' := [some (.float 0), some (.ref 0), some (.ref 81), some (.ref 99), some (.int i), some (.int (wcode [3] o.1)), some (.int z.1)]) hC dL_law_1725 (by decide) rfl rfl ?_
  refine k_aload_n (q := 1728) hC dL_law_1727 rfl rfl ?_
  refine k_callV (q := 1731) (ex := false) (av := [.ref 81]) (c0 := 81) (As := []) (cm := 0) (sm := 0) hC oX10_thrown vX10_thrown rfl rfl (kd81 (n := 100) (by decide)) rfl rfl dL_law_1728 lk_L_113 (c_X10_thrown e 100 (by decide) _ o.2 z.2 (wlo o.1 lo)) (by decide) rfl (Nat.le_of_ble_eq_true rfl) h1 (fun h => Bool.noConfusion h) rfl rfl ?_
  refine k_iload (q := 1733) hC dL_law_1731 rfl rfl ?_
  refine k_icmp_eq (q := 1736) (tgt := 1738) hC dL_law_1733 (by decide) rfl (fun _ => ?_) (fun h => absurd hag.1 h)
  refine k_iload (q := 1740) hC dL_law_1738 rfl rfl ?_
  refine k_if_ne (q := 1743) (tgt := 1755) hC dL_law_1740 (by decide) rfl (fun _ => ?_) (fun hk0 => ?_)
  · skip
    refine k_goto (tgt := 1888) hC dL_law_1755 (by decide) ?_
    refine k_lv (lv' := lvL i) (LSub.ok (by unfold lvL; exact ⟨rfl, rfl, rfl, rfl, rfl, trivial⟩)) ?_
    exact kk _ _ _ _ _ _ _ _ hR2 (by dsimp only; omega) (by dsimp only; omega)
  · obtain ⟨iv, hiv⟩ := wcode_zero (Nat.le_of_ble_eq_true rfl) hk0 hag.2.1
    have hzi := hag.2.2 iv hiv
    refine k_aload_n (q := 1744) hC dL_law_1743 rfl rfl ?_
    refine k_iconst (q := 1745) (v := (0 : Int32)) hC dL_law_1744 (by decide) rfl ?_
    refine k_lald (q := 1746) (y := iv.toInt64) hC dL_law_1745 (kd99 (n := 100) (by decide)) (by unfold vp_in; decide) (by rw [hiv]; simp [xl, wlo, up2]) rfl ?_
    refine k_iload (q := 1748) hC dL_law_1746 rfl rfl ?_
    refine k_i2l (q := 1749) hC dL_law_1748 rfl ?_
    refine k_lcmp (q := 1750) hC dL_law_1749 rfl ?_
    refine k_if_eq (q := 1753) (tgt := 1755) hC dL_law_1750 (by decide) rfl (fun _ => ?_) (fun h => absurd (by rw [hzi]; simp [lg_cmp]) h)
    refine k_goto (tgt := 1888) hC dL_law_1755 (by decide) ?_
    refine k_lv (lv' := lvL i) (LSub.ok (by unfold lvL; exact ⟨rfl, rfl, rfl, rfl, rfl, trivial⟩)) ?_
    exact kk _ _ _ _ _ _ _ _ hR2 (by dsimp only; omega) (by dsimp only; omega)
set_option maxRecDepth 100000 in
set_option maxHeartbeats 8000000 in
theorem lc_29 {e : gEV} {C : gCx} (hC : COk e C cL_law 7 RL 2048 601024 7293034) {Ln : Nat} {xs : Nat → Int32} (hX : gScr e C Ln xs) (hl : (eL e).stackTraces = false) {Rel : gRel} (hG : MG Rel) (hM : M29 Rel) {a b : Nat} (hab : a + 1 ≤ 601024 ∧ b + 6 ≤ 7293034) {i : Int32} (hv1 : vp_in (i + (1 : Int32)) Ln) {xc : gXH} {fa tr : Nat} {pm : Nat → Nat} {hm : gIH} {lo : gLH} (hR : Rel xc fa tr pm hm)
    (kk : ∀ xc fa tr pm hm lo a' b', Rel xc fa tr pm hm → a' ≤ a + 1 → b' ≤ b + 6 → KW e C (100, a', b') 1888 (lvL i) [] (RR fa tr pm) (xc, hm, lo)) : KW e C (100, a, b) 1758 (lvL i) [] (RR fa tr pm) (xc, hm, lo) := by
  obtain ⟨hfa, htr⟩ := hG _ _ _ _ _ hR
  have h0 : a + 0 ≤ 601024 ∧ b + 0 ≤ 7293034 := ⟨by omega, by omega⟩
  have h1 : a + 1 + 0 ≤ 601024 ∧ b + 6 + 0 ≤ 7293034 := ⟨by omega, by omega⟩
  obtain ⟨a1, ha1⟩ : ∃ y, xs (i + (1 : Int32)).toNatClampNeg = y := ⟨_, rfl⟩
  unfold lvL
  obtain ⟨o, ho, z, hz, hR2, hag⟩ := hM _ _ _ _ _ hR a1
  refine k_aload_n (q := 1759) hC dL_law_1758 rfl rfl ?_
  refine k_aload_nS (q := 1760) hC dL_law_1759 rfl rfl ?_
  refine k_iload (q := 1762) hC dL_law_1760 rfl rfl ?_
  refine k_iconst (q := 1763) (v := (1 : Int32)) hC dL_law_1762 (by decide) rfl ?_
  refine k_iadd (q := 1764) hC dL_law_1763 rfl ?_
  refine k_sld (q := 1765) (y := a1) hC hX dL_law_1764 hv1 ha1 rfl ?_
  refine k_aload_n (q := 1766) hC dL_law_1765 rfl rfl ?_
  refine k_wS (q := 1769) (av := [.ref 0, .int a1, .ref 99]) hC oL_text sL_text rfl dL_law_1766 lk_L_204 (wL_text e 100 (by decide) (RR fa tr pm) (RR fa tr pm) xc o.2 hm lo a1 o.1 (c_X9_text e 100 (by decide) fa tr pm hfa hl xc (hm, lo) a1 o ho) hag.2.1) (by decide) rfl (Nat.le_of_ble_eq_true rfl) hab rfl ?_
  refine k_istore (q := 1771) (lv' := [some (.float 0), some (.ref 0), some (.ref 81), some (.ref 99), some (.int i), some (.int (wcode [2] o.1)), none]) hC dL_law_1769 (by decide) rfl rfl ?_
  refine k_aload_n (q := 1772) hC dL_law_1771 rfl rfl ?_
  refine k_aload_nS (q := 1773) hC dL_law_1772 rfl rfl ?_
  refine k_iload (q := 1775) hC dL_law_1773 rfl rfl ?_
  refine k_iconst (q := 1776) (v := (1 : Int32)) hC dL_law_1775 (by decide) rfl ?_
  refine k_iadd (q := 1777) hC dL_law_1776 rfl ?_
  refine k_sld (q := 1778) (y := a1) hC hX dL_law_1777 hv1 ha1 rfl ?_
  refine k_callV (q := 1781) (ex := false) (av := [.ref 81, .int a1]) (c0 := 81) (As := [.int a1]) (cm := 0) (sm := 0) hC oX10_text vX10_text rfl rfl (kd81 (n := 100) (by decide)) rfl rfl dL_law_1778 lk_L_206 (c_X10_text e 100 (by decide) fa tr pm o.2 hm (wlo o.1 lo) a1 z hz) (by decide) rfl (Nat.le_of_ble_eq_true rfl) h1 (fun h => Bool.noConfusion h) rfl rfl ?_
  refine k_istore (q := 1783) (lv' := [some (.float 0), some (.ref 0), some (.ref 81), some (.ref 99), some (.int i), some (.int (wcode [2] o.1)), some (.int z.1)]) hC dL_law_1781 (by decide) rfl rfl ?_
  refine k_aload_n (q := 1784) hC dL_law_1783 rfl rfl ?_
  refine k_callV (q := 1787) (ex := false) (av := [.ref 81]) (c0 := 81) (As := []) (cm := 0) (sm := 0) hC oX10_thrown vX10_thrown rfl rfl (kd81 (n := 100) (by decide)) rfl rfl dL_law_1784 lk_L_113 (c_X10_thrown e 100 (by decide) _ o.2 z.2 (wlo o.1 lo)) (by decide) rfl (Nat.le_of_ble_eq_true rfl) h1 (fun h => Bool.noConfusion h) rfl rfl ?_
  refine k_iload (q := 1789) hC dL_law_1787 rfl rfl ?_
  refine k_icmp_eq (q := 1792) (tgt := 1794) hC dL_law_1789 (by decide) rfl (fun _ => ?_) (fun h => absurd hag.1 h)
  refine k_iload (q := 1796) hC dL_law_1794 rfl rfl ?_
  refine k_if_ne (q := 1799) (tgt := 1811) hC dL_law_1796 (by decide) rfl (fun _ => ?_) (fun hk0 => ?_)
  · skip
    refine k_goto (tgt := 1888) hC dL_law_1811 (by decide) ?_
    refine k_lv (lv' := lvL i) (LSub.ok (by unfold lvL; exact ⟨rfl, rfl, rfl, rfl, rfl, trivial⟩)) ?_
    exact kk _ _ _ _ _ _ _ _ hR2 (by dsimp only; omega) (by dsimp only; omega)
  · obtain ⟨iv, hiv⟩ := wcode_zero (Nat.le_of_ble_eq_true rfl) hk0 hag.2.1
    have hzi := hag.2.2 iv hiv
    refine k_aload_n (q := 1800) hC dL_law_1799 rfl rfl ?_
    refine k_iconst (q := 1801) (v := (0 : Int32)) hC dL_law_1800 (by decide) rfl ?_
    refine k_lald (q := 1802) (y := iv.toInt64) hC dL_law_1801 (kd99 (n := 100) (by decide)) (by unfold vp_in; decide) (by rw [hiv]; simp [xl, wlo, up2]) rfl ?_
    refine k_iload (q := 1804) hC dL_law_1802 rfl rfl ?_
    refine k_i2l (q := 1805) hC dL_law_1804 rfl ?_
    refine k_lcmp (q := 1806) hC dL_law_1805 rfl ?_
    refine k_if_eq (q := 1809) (tgt := 1811) hC dL_law_1806 (by decide) rfl (fun _ => ?_) (fun h => absurd (by rw [hzi]; simp [lg_cmp]) h)
    refine k_goto (tgt := 1888) hC dL_law_1811 (by decide) ?_
    refine k_lv (lv' := lvL i) (LSub.ok (by unfold lvL; exact ⟨rfl, rfl, rfl, rfl, rfl, trivial⟩)) ?_
    exact kk _ _ _ _ _ _ _ _ hR2 (by dsimp only; omega) (by dsimp only; omega)
set_option maxRecDepth 100000 in
set_option maxHeartbeats 8000000 in
theorem lc_30 {e : gEV} {C : gCx} (hC : COk e C cL_law 7 RL 2048 601024 7293034) {Ln : Nat} {xs : Nat → Int32} (hX : gScr e C Ln xs) (hl : (eL e).stackTraces = false) {Rel : gRel} (hG : MG Rel) (hM : M30 Rel) {a b : Nat} (hab : a + 1 ≤ 601024 ∧ b + 6 ≤ 7293034) {i : Int32} (hv1 : vp_in (i + (1 : Int32)) Ln) {xc : gXH} {fa tr : Nat} {pm : Nat → Nat} {hm : gIH} {lo : gLH} (hR : Rel xc fa tr pm hm)
    (kk : ∀ xc fa tr pm hm lo a' b', Rel xc fa tr pm hm → a' ≤ a + 1 → b' ≤ b + 6 → KW e C (100, a', b') 1888 (lvL i) [] (RR fa tr pm) (xc, hm, lo)) : KW e C (100, a, b) 1814 (lvL i) [] (RR fa tr pm) (xc, hm, lo) := by
  obtain ⟨hfa, htr⟩ := hG _ _ _ _ _ hR
  have h0 : a + 0 ≤ 601024 ∧ b + 0 ≤ 7293034 := ⟨by omega, by omega⟩
  have h1 : a + 1 + 0 ≤ 601024 ∧ b + 6 + 0 ≤ 7293034 := ⟨by omega, by omega⟩
  obtain ⟨a1, ha1⟩ : ∃ y, xs (i + (1 : Int32)).toNatClampNeg = y := ⟨_, rfl⟩
  unfold lvL
  obtain ⟨o, ho, z, hz, hR2, hag⟩ := hM _ _ _ _ _ hR a1
  refine k_aload_n (q := 1815) hC dL_law_1814 rfl rfl ?_
  refine k_aload_nS (q := 1816) hC dL_law_1815 rfl rfl ?_
  refine k_iload (q := 1818) hC dL_law_1816 rfl rfl ?_
  refine k_iconst (q := 1819) (v := (1 : Int32)) hC dL_law_1818 (by decide) rfl ?_
  refine k_iadd (q := 1820) hC dL_law_1819 rfl ?_
  refine k_sld (q := 1821) (y := a1) hC hX dL_law_1820 hv1 ha1 rfl ?_
  refine k_callV (q := 1824) (ex := false) (av := [.ref 0, .int a1]) (c0 := 0) (As := [.int a1]) (cm := 0) (sm := 0) hC oX9_octet vX9_octet rfl rfl (kd0 (n := 100) (by decide)) rfl rfl dL_law_1821 lk_L_207 (c_X9_octet e 100 (by decide) fa tr pm xc (hm, lo) a1 o ho) (by decide) rfl (Nat.le_of_ble_eq_true rfl) h0 (fun h => Bool.noConfusion h) rfl rfl ?_
  refine k_aload_n (q := 1825) hC dL_law_1824 rfl rfl ?_
  refine k_aload_nS (q := 1826) hC dL_law_1825 rfl rfl ?_
  refine k_iload (q := 1828) hC dL_law_1826 rfl rfl ?_
  refine k_iconst (q := 1829) (v := (1 : Int32)) hC dL_law_1828 (by decide) rfl ?_
  refine k_iadd (q := 1830) hC dL_law_1829 rfl ?_
  refine k_sld (q := 1831) (y := a1) hC hX dL_law_1830 hv1 ha1 rfl ?_
  refine k_callV (q := 1834) (ex := false) (av := [.ref 81, .int a1]) (c0 := 81) (As := [.int a1]) (cm := 0) (sm := 0) hC oX10_octet vX10_octet rfl rfl (kd81 (n := 100) (by decide)) rfl rfl dL_law_1831 lk_L_210 (c_X10_octet e 100 (by decide) fa tr pm xc hm lo a1 z hz) (by decide) rfl (Nat.le_of_ble_eq_true rfl) h0 (fun h => Bool.noConfusion h) rfl rfl ?_
  refine k_icmp_eq (q := 1837) (tgt := 1888) hC dL_law_1834 (by decide) rfl (fun _ => ?_) (fun h => absurd hag h)
  refine k_lv (lv' := lvL i) (LSub.ok (by unfold lvL; exact ⟨rfl, rfl, rfl, rfl, rfl, trivial⟩)) ?_
  exact kk _ _ _ _ _ _ _ _ hR2 (by dsimp only; omega) (by dsimp only; omega)
set_option maxRecDepth 100000 in
set_option maxHeartbeats 8000000 in
theorem lc_31 {e : gEV} {C : gCx} (hC : COk e C cL_law 7 RL 2048 601024 7293034) {Ln : Nat} {xs : Nat → Int32} (hX : gScr e C Ln xs) (hl : (eL e).stackTraces = false) {Rel : gRel} (hG : MG Rel) (hM : M31 Rel) {a b : Nat} (hab : a + 1 ≤ 601024 ∧ b + 6 ≤ 7293034) {i : Int32} {xc : gXH} {fa tr : Nat} {pm : Nat → Nat} {hm : gIH} {lo : gLH} (hR : Rel xc fa tr pm hm)
    (kk : ∀ xc fa tr pm hm lo a' b', Rel xc fa tr pm hm → a' ≤ a + 1 → b' ≤ b + 6 → KW e C (100, a', b') 1888 (lvL i) [] (RR fa tr pm) (xc, hm, lo)) : KW e C (100, a, b) 1839 (lvL i) [] (RR fa tr pm) (xc, hm, lo) := by
  obtain ⟨hfa, htr⟩ := hG _ _ _ _ _ hR
  have h0 : a + 0 ≤ 601024 ∧ b + 0 ≤ 7293034 := ⟨by omega, by omega⟩
  have h1 : a + 1 + 0 ≤ 601024 ∧ b + 6 + 0 ≤ 7293034 := ⟨by omega, by omega⟩
  unfold lvL
  obtain ⟨o, ho, z, hz, hR2, hag⟩ := hM _ _ _ _ _ hR
  refine k_aload_n (q := 1840) hC dL_law_1839 rfl rfl ?_
  refine k_callV (q := 1843) (ex := false) (av := [.ref 0]) (c0 := 0) (As := []) (cm := 0) (sm := 0) hC oX9_image vX9_image rfl rfl (kd0 (n := 100) (by decide)) rfl rfl dL_law_1840 lk_L_211 (c_X9_image e 100 (by decide) fa tr pm xc (hm, lo) o ho) (by decide) rfl (Nat.le_of_ble_eq_true rfl) h0 (fun h => Bool.noConfusion h) rfl rfl ?_
  refine k_aload_n (q := 1844) hC dL_law_1843 rfl rfl ?_
  refine k_callV (q := 1847) (ex := false) (av := [.ref 81]) (c0 := 81) (As := []) (cm := 0) (sm := 0) hC oX10_image vX10_image rfl rfl (kd81 (n := 100) (by decide)) rfl rfl dL_law_1844 lk_L_214 (c_X10_image e 100 (by decide) fa tr pm o hm lo z hz) (by decide) rfl (Nat.le_of_ble_eq_true rfl) h0 (fun h => Bool.noConfusion h) rfl rfl ?_
  refine k_goto (tgt := 1888) hC dL_law_1847 (by decide) ?_
  refine k_lv (lv' := lvL i) (LSub.ok (by unfold lvL; exact ⟨rfl, rfl, rfl, rfl, rfl, trivial⟩)) ?_
  exact kk _ _ _ _ _ _ _ _ hR2 (by dsimp only; omega) (by dsimp only; omega)
set_option maxRecDepth 100000 in
set_option maxHeartbeats 8000000 in
theorem lc_32 {e : gEV} {C : gCx} (hC : COk e C cL_law 7 RL 2048 601024 7293034) {Ln : Nat} {xs : Nat → Int32} (hX : gScr e C Ln xs) (hl : (eL e).stackTraces = false) {Rel : gRel} (hG : MG Rel) (hM : M32 Rel) {a b : Nat} (hab : a + 1 ≤ 601024 ∧ b + 6 ≤ 7293034) {i : Int32} {xc : gXH} {fa tr : Nat} {pm : Nat → Nat} {hm : gIH} {lo : gLH} (hR : Rel xc fa tr pm hm)
    (kk : ∀ xc fa tr pm hm lo a' b', Rel xc fa tr pm hm → a' ≤ a + 1 → b' ≤ b + 6 → KW e C (100, a', b') 1888 (lvL i) [] (RR fa tr pm) (xc, hm, lo)) : KW e C (100, a, b) 1850 (lvL i) [] (RR fa tr pm) (xc, hm, lo) := by
  obtain ⟨hfa, htr⟩ := hG _ _ _ _ _ hR
  have h0 : a + 0 ≤ 601024 ∧ b + 0 ≤ 7293034 := ⟨by omega, by omega⟩
  have h1 : a + 1 + 0 ≤ 601024 ∧ b + 6 + 0 ≤ 7293034 := ⟨by omega, by omega⟩
  unfold lvL
  obtain ⟨o, ho, z, hz, hR2, hag⟩ := hM _ _ _ _ _ hR
  refine k_aload_n (q := 1851) hC dL_law_1850 rfl rfl ?_
  refine k_callV (q := 1854) (ex := false) (av := [.ref 0]) (c0 := 0) (As := []) (cm := 0) (sm := 0) hC oX9_back vX9_back rfl rfl (kd0 (n := 100) (by decide)) rfl rfl dL_law_1851 lk_L_215 (c_X9_back e 100 (by decide) fa tr pm hfa htr xc (hm, lo) o ho) (by decide) rfl (Nat.le_of_ble_eq_true rfl) h0 (fun h => Bool.noConfusion h) rfl rfl ?_
  refine k_aload_n (q := 1855) hC dL_law_1854 rfl rfl ?_
  refine k_callV (q := 1858) (ex := false) (av := [.ref 81]) (c0 := 81) (As := []) (cm := 0) (sm := 0) hC oX10_back vX10_back rfl rfl (kd81 (n := 100) (by decide)) rfl rfl dL_law_1855 lk_L_219 (c_X10_back e 100 (by decide) o.2.2.1 o.2.2.2.1 o.2.2.2.2 o.2.1 hm lo z hz) (by decide) rfl (Nat.le_of_ble_eq_true rfl) h0 (fun h => Bool.noConfusion h) rfl rfl ?_
  refine k_icmp_eq (q := 1861) (tgt := 1888) hC dL_law_1858 (by decide) rfl (fun _ => ?_) (fun h => absurd hag h)
  refine k_lv (lv' := lvL i) (LSub.ok (by unfold lvL; exact ⟨rfl, rfl, rfl, rfl, rfl, trivial⟩)) ?_
  exact kk _ _ _ _ _ _ _ _ hR2 (by dsimp only; omega) (by dsimp only; omega)
set_option maxRecDepth 100000 in
set_option maxHeartbeats 8000000 in
theorem lc_33 {e : gEV} {C : gCx} (hC : COk e C cL_law 7 RL 2048 601024 7293034) {Ln : Nat} {xs : Nat → Int32} (hX : gScr e C Ln xs) (hl : (eL e).stackTraces = false) {Rel : gRel} (hG : MG Rel) (hM : M33 Rel) {a b : Nat} (hab : a + 1 ≤ 601024 ∧ b + 6 ≤ 7293034) {i : Int32} (hv1 : vp_in (i + (1 : Int32)) Ln) {xc : gXH} {fa tr : Nat} {pm : Nat → Nat} {hm : gIH} {lo : gLH} (hR : Rel xc fa tr pm hm)
    (kk : ∀ xc fa tr pm hm lo a' b', Rel xc fa tr pm hm → a' ≤ a + 1 → b' ≤ b + 6 → KW e C (100, a', b') 1888 (lvL i) [] (RR fa tr pm) (xc, hm, lo)) : KW e C (100, a, b) 1863 (lvL i) [] (RR fa tr pm) (xc, hm, lo) := by
  obtain ⟨hfa, htr⟩ := hG _ _ _ _ _ hR
  have h0 : a + 0 ≤ 601024 ∧ b + 0 ≤ 7293034 := ⟨by omega, by omega⟩
  have h1 : a + 1 + 0 ≤ 601024 ∧ b + 6 + 0 ≤ 7293034 := ⟨by omega, by omega⟩
  obtain ⟨a1, ha1⟩ : ∃ y, xs (i + (1 : Int32)).toNatClampNeg = y := ⟨_, rfl⟩
  unfold lvL
  obtain ⟨o, ho, z, hz, hR2, hag⟩ := hM _ _ _ _ _ hR a1
  refine k_aload_n (q := 1864) hC dL_law_1863 rfl rfl ?_
  refine k_aload_nS (q := 1865) hC dL_law_1864 rfl rfl ?_
  refine k_iload (q := 1867) hC dL_law_1865 rfl rfl ?_
  refine k_iconst (q := 1868) (v := (1 : Int32)) hC dL_law_1867 (by decide) rfl ?_
  refine k_iadd (q := 1869) hC dL_law_1868 rfl ?_
  refine k_sld (q := 1870) (y := a1) hC hX dL_law_1869 hv1 ha1 rfl ?_
  refine k_callV (q := 1873) (ex := false) (av := [.ref 0, .int a1]) (c0 := 0) (As := [.int a1]) (cm := 0) (sm := 0) hC oX9_count vX9_count rfl rfl (kd0 (n := 100) (by decide)) rfl rfl dL_law_1870 lk_L_220 (c_X9_count e 100 (by decide) fa tr pm hfa htr xc (hm, lo) a1 o ho) (by decide) rfl (Nat.le_of_ble_eq_true rfl) h0 (fun h => Bool.noConfusion h) rfl rfl ?_
  refine k_aload_n (q := 1874) hC dL_law_1873 rfl rfl ?_
  refine k_aload_nS (q := 1875) hC dL_law_1874 rfl rfl ?_
  refine k_iload (q := 1877) hC dL_law_1875 rfl rfl ?_
  refine k_iconst (q := 1878) (v := (1 : Int32)) hC dL_law_1877 (by decide) rfl ?_
  refine k_iadd (q := 1879) hC dL_law_1878 rfl ?_
  refine k_sld (q := 1880) (y := a1) hC hX dL_law_1879 hv1 ha1 rfl ?_
  refine k_callV (q := 1883) (ex := false) (av := [.ref 81, .int a1]) (c0 := 81) (As := [.int a1]) (cm := 0) (sm := 0) hC oX10_count vX10_count rfl rfl (kd81 (n := 100) (by decide)) rfl rfl dL_law_1880 lk_L_223 (c_X10_count e 100 (by decide) fa tr pm o.2 hm lo a1 z hz) (by decide) rfl (Nat.le_of_ble_eq_true rfl) h0 (fun h => Bool.noConfusion h) rfl rfl ?_
  refine k_icmp_eq (q := 1886) (tgt := 1888) hC dL_law_1883 (by decide) rfl (fun _ => ?_) (fun h => absurd hag h)
  refine k_lv (lv' := lvL i) (LSub.ok (by unfold lvL; exact ⟨rfl, rfl, rfl, rfl, rfl, trivial⟩)) ?_
  exact kk _ _ _ _ _ _ _ _ hR2 (by dsimp only; omega) (by dsimp only; omega)
