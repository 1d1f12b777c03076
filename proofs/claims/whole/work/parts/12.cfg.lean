/-! WHO REFERS TO WHOM: all but the two weighings' roles (fa, tr) and the order of the remembered nets (pm) stands fast -/
def gRT : List (List (Option Nat)) := [[some 1, some 3, some 5, some 7, some 11, some 15, some 19, some 54, some 53], [some 2], [], [some 4], [], [some 1, some 6], [], [some 8, some 9, some 10], [], [], [], [some 12, some 13, some 14], [], [], [], [some 16, some 17, some 18], [], [], [], [some 20], [], [some 22, some 23, some 24], [], [], [], [some 26, some 27, some 28], [], [], [], [some 30, some 31, some 32], [], [], [], [some 34, some 35, some 36], [], [], [], [some 38, some 39, some 40], [], [], [], [some 42, some 43, some 44], [], [], [], [some 46, some 47, some 48], [], [], [], [some 50, some 51, some 52], [], [], [], [], [some 7, some 55, some 60, some 61, some 62, some 63, some 64, some 66, some 70], [some 56, some 57, some 58, some 59], [], [], [], [], [], [], [], [], [some 65], [], [some 67, some 68, some 69], [], [], [], [], [some 72, some 73, some 74, some 75], [], [], [], [], [some 77, some 78, some 79, some 80], [], [], [], [], [none, some 82, some 83, some 84, some 85, none, none, none, none, none, none, none, some 86, some 87, some 88, none, none, none, none, none, some 89, some 90, some 91, none, none, none, none, none, none, some 92, some 93, none, some 94, some 95, some 96, some 97, none, none, none, none, some 98], [], [], [], [], [], [], [], [], [], [], [], [], [], [], [], [], [], []]
def RR (fa tr : Nat) (pm : Nat → Nat) : gRH := fun c j => if c = 54 ∧ j = 9 then some fa else if c = 54 ∧ j = 10 then some tr else if c = 20 then (if j < 8 then some (pm j) else none) else ((gRT.getD c []).getD j none)
def pm0 : Nat → Nat := fun k => 21 + 4 * k
def IsG (g : Nat) : Prop := g = 55 ∨ g = 71 ∨ g = 76
def IsN (g : Nat) : Prop := g ∈ [7, 11, 15, 21, 25, 29, 33, 37, 41, 45, 49]
def IsH (g : Nat) : Prop := g = 53 ∨ g = 70
/-- the roles as they may be: two weighings apart, eight nets -/
def CfgOk (fa tr : Nat) (pm : Nat → Nat) : Prop := ((fa = 71 ∧ tr = 76) ∨ (fa = 76 ∧ tr = 71)) ∧ ∀ k, k < 8 → ∃ i, i < 8 ∧ pm k = 21 + 4 * i
theorem CfgOk.fa {fa tr : Nat} {pm : Nat → Nat} (h : CfgOk fa tr pm) : IsG fa := by
  rcases h.1 with h | h <;> simp [IsG, h]
theorem CfgOk.tr {fa tr : Nat} {pm : Nat → Nat} (h : CfgOk fa tr pm) : IsG tr := by
  rcases h.1 with h | h <;> simp [IsG, h]
theorem CfgOk.pm {fa tr : Nat} {pm : Nat → Nat} (h : CfgOk fa tr pm) {k : Nat} (hk : k < 8) : IsN (pm k) := by
  obtain ⟨i, hi, he⟩ := h.2 k hk
  rw [he]
  have : ∀ i, i < 8 → IsN (21 + 4 * i) := by unfold IsN; decide
  exact this i hi
theorem kdc {n c N : Nat} {k : gKN} (hn : N ≤ n) (h : c < N) (hk : gKD[c]? = some k) : kdn n c = some k := kdn_of (Nat.lt_of_lt_of_le h hn) hk
theorem kd0 {n : Nat} (hn : 81 ≤ n) : kdn n 0 = some (0, .inl 9) := kdc hn (by decide) rfl
theorem kd1 {n : Nat} (hn : 81 ≤ n) : kdn n 1 = some (0, .inl 0) := kdc hn (by decide) rfl
theorem kd2 {n : Nat} (hn : 81 ≤ n) : kdn n 2 = some (0, .inr (0, 400)) := kdc hn (by decide) rfl
theorem kd3 {n : Nat} (hn : 81 ≤ n) : kdn n 3 = some (0, .inl 0) := kdc hn (by decide) rfl
theorem kd4 {n : Nat} (hn : 81 ≤ n) : kdn n 4 = some (0, .inr (0, 64)) := kdc hn (by decide) rfl
theorem kd5 {n : Nat} (hn : 81 ≤ n) : kdn n 5 = some (0, .inl 7) := kdc hn (by decide) rfl
theorem kd6 {n : Nat} (hn : 81 ≤ n) : kdn n 6 = some (0, .inr (0, 400)) := kdc hn (by decide) rfl
theorem kd7 {n : Nat} (hn : 81 ≤ n) : kdn n 7 = some (0, .inl 6) := kdc hn (by decide) rfl
theorem kd8 {n : Nat} (hn : 81 ≤ n) : kdn n 8 = some (0, .inr (0, 60)) := kdc hn (by decide) rfl
theorem kd9 {n : Nat} (hn : 81 ≤ n) : kdn n 9 = some (0, .inr (0, 60)) := kdc hn (by decide) rfl
theorem kd10 {n : Nat} (hn : 81 ≤ n) : kdn n 10 = some (0, .inr (0, 16)) := kdc hn (by decide) rfl
theorem kd11 {n : Nat} (hn : 81 ≤ n) : kdn n 11 = some (0, .inl 6) := kdc hn (by decide) rfl
theorem kd12 {n : Nat} (hn : 81 ≤ n) : kdn n 12 = some (0, .inr (0, 60)) := kdc hn (by decide) rfl
theorem kd13 {n : Nat} (hn : 81 ≤ n) : kdn n 13 = some (0, .inr (0, 60)) := kdc hn (by decide) rfl
theorem kd14 {n : Nat} (hn : 81 ≤ n) : kdn n 14 = some (0, .inr (0, 16)) := kdc hn (by decide) rfl
theorem kd15 {n : Nat} (hn : 81 ≤ n) : kdn n 15 = some (0, .inl 6) := kdc hn (by decide) rfl
theorem kd16 {n : Nat} (hn : 81 ≤ n) : kdn n 16 = some (0, .inr (0, 60)) := kdc hn (by decide) rfl
theorem kd17 {n : Nat} (hn : 81 ≤ n) : kdn n 17 = some (0, .inr (0, 60)) := kdc hn (by decide) rfl
theorem kd18 {n : Nat} (hn : 81 ≤ n) : kdn n 18 = some (0, .inr (0, 16)) := kdc hn (by decide) rfl
theorem kd19 {n : Nat} (hn : 81 ≤ n) : kdn n 19 = some (0, .inl 5) := kdc hn (by decide) rfl
theorem kd20 {n : Nat} (hn : 81 ≤ n) : kdn n 20 = some (0, .inr (4, 8)) := kdc hn (by decide) rfl
theorem kd21 {n : Nat} (hn : 81 ≤ n) : kdn n 21 = some (0, .inl 6) := kdc hn (by decide) rfl
theorem kd22 {n : Nat} (hn : 81 ≤ n) : kdn n 22 = some (0, .inr (0, 60)) := kdc hn (by decide) rfl
theorem kd23 {n : Nat} (hn : 81 ≤ n) : kdn n 23 = some (0, .inr (0, 60)) := kdc hn (by decide) rfl
theorem kd24 {n : Nat} (hn : 81 ≤ n) : kdn n 24 = some (0, .inr (0, 16)) := kdc hn (by decide) rfl
theorem kd25 {n : Nat} (hn : 81 ≤ n) : kdn n 25 = some (0, .inl 6) := kdc hn (by decide) rfl
theorem kd26 {n : Nat} (hn : 81 ≤ n) : kdn n 26 = some (0, .inr (0, 60)) := kdc hn (by decide) rfl
theorem kd27 {n : Nat} (hn : 81 ≤ n) : kdn n 27 = some (0, .inr (0, 60)) := kdc hn (by decide) rfl
theorem kd28 {n : Nat} (hn : 81 ≤ n) : kdn n 28 = some (0, .inr (0, 16)) := kdc hn (by decide) rfl
theorem kd29 {n : Nat} (hn : 81 ≤ n) : kdn n 29 = some (0, .inl 6) := kdc hn (by decide) rfl
theorem kd30 {n : Nat} (hn : 81 ≤ n) : kdn n 30 = some (0, .inr (0, 60)) := kdc hn (by decide) rfl
theorem kd31 {n : Nat} (hn : 81 ≤ n) : kdn n 31 = some (0, .inr (0, 60)) := kdc hn (by decide) rfl
theorem kd32 {n : Nat} (hn : 81 ≤ n) : kdn n 32 = some (0, .inr (0, 16)) := kdc hn (by decide) rfl
theorem kd33 {n : Nat} (hn : 81 ≤ n) : kdn n 33 = some (0, .inl 6) := kdc hn (by decide) rfl
theorem kd34 {n : Nat} (hn : 81 ≤ n) : kdn n 34 = some (0, .inr (0, 60)) := kdc hn (by decide) rfl
theorem kd35 {n : Nat} (hn : 81 ≤ n) : kdn n 35 = some (0, .inr (0, 60)) := kdc hn (by decide) rfl
theorem kd36 {n : Nat} (hn : 81 ≤ n) : kdn n 36 = some (0, .inr (0, 16)) := kdc hn (by decide) rfl
theorem kd37 {n : Nat} (hn : 81 ≤ n) : kdn n 37 = some (0, .inl 6) := kdc hn (by decide) rfl
theorem kd38 {n : Nat} (hn : 81 ≤ n) : kdn n 38 = some (0, .inr (0, 60)) := kdc hn (by decide) rfl
theorem kd39 {n : Nat} (hn : 81 ≤ n) : kdn n 39 = some (0, .inr (0, 60)) := kdc hn (by decide) rfl
theorem kd40 {n : Nat} (hn : 81 ≤ n) : kdn n 40 = some (0, .inr (0, 16)) := kdc hn (by decide) rfl
theorem kd41 {n : Nat} (hn : 81 ≤ n) : kdn n 41 = some (0, .inl 6) := kdc hn (by decide) rfl
theorem kd42 {n : Nat} (hn : 81 ≤ n) : kdn n 42 = some (0, .inr (0, 60)) := kdc hn (by decide) rfl
theorem kd43 {n : Nat} (hn : 81 ≤ n) : kdn n 43 = some (0, .inr (0, 60)) := kdc hn (by decide) rfl
theorem kd44 {n : Nat} (hn : 81 ≤ n) : kdn n 44 = some (0, .inr (0, 16)) := kdc hn (by decide) rfl
theorem kd45 {n : Nat} (hn : 81 ≤ n) : kdn n 45 = some (0, .inl 6) := kdc hn (by decide) rfl
theorem kd46 {n : Nat} (hn : 81 ≤ n) : kdn n 46 = some (0, .inr (0, 60)) := kdc hn (by decide) rfl
theorem kd47 {n : Nat} (hn : 81 ≤ n) : kdn n 47 = some (0, .inr (0, 60)) := kdc hn (by decide) rfl
theorem kd48 {n : Nat} (hn : 81 ≤ n) : kdn n 48 = some (0, .inr (0, 16)) := kdc hn (by decide) rfl
theorem kd49 {n : Nat} (hn : 81 ≤ n) : kdn n 49 = some (0, .inl 6) := kdc hn (by decide) rfl
theorem kd50 {n : Nat} (hn : 81 ≤ n) : kdn n 50 = some (0, .inr (0, 60)) := kdc hn (by decide) rfl
theorem kd51 {n : Nat} (hn : 81 ≤ n) : kdn n 51 = some (0, .inr (0, 60)) := kdc hn (by decide) rfl
theorem kd52 {n : Nat} (hn : 81 ≤ n) : kdn n 52 = some (0, .inr (0, 16)) := kdc hn (by decide) rfl
theorem kd53 {n : Nat} (hn : 81 ≤ n) : kdn n 53 = some (0, .inl 1) := kdc hn (by decide) rfl
theorem kd54 {n : Nat} (hn : 81 ≤ n) : kdn n 54 = some (0, .inl 8) := kdc hn (by decide) rfl
theorem kd55 {n : Nat} (hn : 81 ≤ n) : kdn n 55 = some (0, .inl 3) := kdc hn (by decide) rfl
theorem kd56 {n : Nat} (hn : 81 ≤ n) : kdn n 56 = some (0, .inr (0, 16)) := kdc hn (by decide) rfl
theorem kd57 {n : Nat} (hn : 81 ≤ n) : kdn n 57 = some (0, .inr (0, 16)) := kdc hn (by decide) rfl
theorem kd58 {n : Nat} (hn : 81 ≤ n) : kdn n 58 = some (0, .inr (0, 16)) := kdc hn (by decide) rfl
theorem kd59 {n : Nat} (hn : 81 ≤ n) : kdn n 59 = some (0, .inr (0, 16)) := kdc hn (by decide) rfl
theorem kd60 {n : Nat} (hn : 81 ≤ n) : kdn n 60 = some (0, .inr (0, 16)) := kdc hn (by decide) rfl
theorem kd61 {n : Nat} (hn : 81 ≤ n) : kdn n 61 = some (0, .inr (0, 16)) := kdc hn (by decide) rfl
theorem kd62 {n : Nat} (hn : 81 ≤ n) : kdn n 62 = some (0, .inr (0, 16)) := kdc hn (by decide) rfl
theorem kd63 {n : Nat} (hn : 81 ≤ n) : kdn n 63 = some (0, .inr (0, 256)) := kdc hn (by decide) rfl
theorem kd64 {n : Nat} (hn : 81 ≤ n) : kdn n 64 = some (0, .inl 4) := kdc hn (by decide) rfl
theorem kd65 {n : Nat} (hn : 81 ≤ n) : kdn n 65 = some (0, .inr (0, 16)) := kdc hn (by decide) rfl
theorem kd66 {n : Nat} (hn : 81 ≤ n) : kdn n 66 = some (0, .inl 2) := kdc hn (by decide) rfl
theorem kd67 {n : Nat} (hn : 81 ≤ n) : kdn n 67 = some (0, .inr (0, 1024)) := kdc hn (by decide) rfl
theorem kd68 {n : Nat} (hn : 81 ≤ n) : kdn n 68 = some (0, .inr (0, 32)) := kdc hn (by decide) rfl
theorem kd69 {n : Nat} (hn : 81 ≤ n) : kdn n 69 = some (0, .inr (0, 32)) := kdc hn (by decide) rfl
theorem kd70 {n : Nat} (hn : 81 ≤ n) : kdn n 70 = some (0, .inl 1) := kdc hn (by decide) rfl
theorem kd71 {n : Nat} (hn : 81 ≤ n) : kdn n 71 = some (0, .inl 3) := kdc hn (by decide) rfl
theorem kd72 {n : Nat} (hn : 81 ≤ n) : kdn n 72 = some (0, .inr (0, 16)) := kdc hn (by decide) rfl
theorem kd73 {n : Nat} (hn : 81 ≤ n) : kdn n 73 = some (0, .inr (0, 16)) := kdc hn (by decide) rfl
theorem kd74 {n : Nat} (hn : 81 ≤ n) : kdn n 74 = some (0, .inr (0, 16)) := kdc hn (by decide) rfl
theorem kd75 {n : Nat} (hn : 81 ≤ n) : kdn n 75 = some (0, .inr (0, 16)) := kdc hn (by decide) rfl
theorem kd76 {n : Nat} (hn : 81 ≤ n) : kdn n 76 = some (0, .inl 3) := kdc hn (by decide) rfl
theorem kd77 {n : Nat} (hn : 81 ≤ n) : kdn n 77 = some (0, .inr (0, 16)) := kdc hn (by decide) rfl
theorem kd78 {n : Nat} (hn : 81 ≤ n) : kdn n 78 = some (0, .inr (0, 16)) := kdc hn (by decide) rfl
theorem kd79 {n : Nat} (hn : 81 ≤ n) : kdn n 79 = some (0, .inr (0, 16)) := kdc hn (by decide) rfl
theorem kd80 {n : Nat} (hn : 81 ≤ n) : kdn n 80 = some (0, .inr (0, 16)) := kdc hn (by decide) rfl
theorem kd81 {n : Nat} (hn : 99 ≤ n) : kdn n 81 = some (1, .inl 10) := kdc hn (by decide) rfl
theorem kd82 {n : Nat} (hn : 99 ≤ n) : kdn n 82 = some (1, .inr (0, 200)) := kdc hn (by decide) rfl
theorem kd83 {n : Nat} (hn : 99 ≤ n) : kdn n 83 = some (1, .inr (0, 200)) := kdc hn (by decide) rfl
theorem kd84 {n : Nat} (hn : 99 ≤ n) : kdn n 84 = some (1, .inr (0, 200)) := kdc hn (by decide) rfl
theorem kd85 {n : Nat} (hn : 99 ≤ n) : kdn n 85 = some (1, .inr (0, 1600)) := kdc hn (by decide) rfl
theorem kd86 {n : Nat} (hn : 99 ≤ n) : kdn n 86 = some (1, .inr (0, 16)) := kdc hn (by decide) rfl
theorem kd87 {n : Nat} (hn : 99 ≤ n) : kdn n 87 = some (1, .inr (0, 16)) := kdc hn (by decide) rfl
theorem kd88 {n : Nat} (hn : 99 ≤ n) : kdn n 88 = some (1, .inr (0, 16)) := kdc hn (by decide) rfl
theorem kd89 {n : Nat} (hn : 99 ≤ n) : kdn n 89 = some (1, .inr (0, 16)) := kdc hn (by decide) rfl
theorem kd90 {n : Nat} (hn : 99 ≤ n) : kdn n 90 = some (1, .inr (0, 16)) := kdc hn (by decide) rfl
theorem kd91 {n : Nat} (hn : 99 ≤ n) : kdn n 91 = some (1, .inr (1, 400)) := kdc hn (by decide) rfl
theorem kd92 {n : Nat} (hn : 99 ≤ n) : kdn n 92 = some (1, .inr (0, 5)) := kdc hn (by decide) rfl
theorem kd93 {n : Nat} (hn : 99 ≤ n) : kdn n 93 = some (1, .inr (0, 400)) := kdc hn (by decide) rfl
theorem kd94 {n : Nat} (hn : 99 ≤ n) : kdn n 94 = some (1, .inr (0, 60)) := kdc hn (by decide) rfl
theorem kd95 {n : Nat} (hn : 99 ≤ n) : kdn n 95 = some (1, .inr (0, 16)) := kdc hn (by decide) rfl
theorem kd96 {n : Nat} (hn : 99 ≤ n) : kdn n 96 = some (1, .inr (0, 16)) := kdc hn (by decide) rfl
theorem kd97 {n : Nat} (hn : 99 ≤ n) : kdn n 97 = some (1, .inr (2, 60)) := kdc hn (by decide) rfl
theorem kd98 {n : Nat} (hn : 99 ≤ n) : kdn n 98 = some (1, .inr (1, 100)) := kdc hn (by decide) rfl
theorem kd99 {n : Nat} (hn : 100 ≤ n) : kdn n 99 = some (2, .inr (3, 1)) := kdc hn (by decide) rfl
theorem rr0_0 (fa tr : Nat) (pm : Nat → Nat) : RR fa tr pm 0 0 = some 1 := rfl
theorem rr0_1 (fa tr : Nat) (pm : Nat → Nat) : RR fa tr pm 0 1 = some 3 := rfl
theorem rr0_2 (fa tr : Nat) (pm : Nat → Nat) : RR fa tr pm 0 2 = some 5 := rfl
theorem rr0_3 (fa tr : Nat) (pm : Nat → Nat) : RR fa tr pm 0 3 = some 7 := rfl
theorem rr0_4 (fa tr : Nat) (pm : Nat → Nat) : RR fa tr pm 0 4 = some 11 := rfl
theorem rr0_5 (fa tr : Nat) (pm : Nat → Nat) : RR fa tr pm 0 5 = some 15 := rfl
theorem rr0_6 (fa tr : Nat) (pm : Nat → Nat) : RR fa tr pm 0 6 = some 19 := rfl
theorem rr0_7 (fa tr : Nat) (pm : Nat → Nat) : RR fa tr pm 0 7 = some 54 := rfl
theorem rr0_8 (fa tr : Nat) (pm : Nat → Nat) : RR fa tr pm 0 8 = some 53 := rfl
theorem rr1_0 (fa tr : Nat) (pm : Nat → Nat) : RR fa tr pm 1 0 = some 2 := rfl
theorem rr3_0 (fa tr : Nat) (pm : Nat → Nat) : RR fa tr pm 3 0 = some 4 := rfl
theorem rr5_0 (fa tr : Nat) (pm : Nat → Nat) : RR fa tr pm 5 0 = some 1 := rfl
theorem rr5_1 (fa tr : Nat) (pm : Nat → Nat) : RR fa tr pm 5 1 = some 6 := rfl
theorem rr7_0 (fa tr : Nat) (pm : Nat → Nat) : RR fa tr pm 7 0 = some 8 := rfl
theorem rr7_1 (fa tr : Nat) (pm : Nat → Nat) : RR fa tr pm 7 1 = some 9 := rfl
theorem rr7_2 (fa tr : Nat) (pm : Nat → Nat) : RR fa tr pm 7 2 = some 10 := rfl
theorem rr11_0 (fa tr : Nat) (pm : Nat → Nat) : RR fa tr pm 11 0 = some 12 := rfl
theorem rr11_1 (fa tr : Nat) (pm : Nat → Nat) : RR fa tr pm 11 1 = some 13 := rfl
theorem rr11_2 (fa tr : Nat) (pm : Nat → Nat) : RR fa tr pm 11 2 = some 14 := rfl
theorem rr15_0 (fa tr : Nat) (pm : Nat → Nat) : RR fa tr pm 15 0 = some 16 := rfl
theorem rr15_1 (fa tr : Nat) (pm : Nat → Nat) : RR fa tr pm 15 1 = some 17 := rfl
theorem rr15_2 (fa tr : Nat) (pm : Nat → Nat) : RR fa tr pm 15 2 = some 18 := rfl
theorem rr19_0 (fa tr : Nat) (pm : Nat → Nat) : RR fa tr pm 19 0 = some 20 := rfl
theorem rr54_0 (fa tr : Nat) (pm : Nat → Nat) : RR fa tr pm 54 0 = some 7 := rfl
theorem rr54_1 (fa tr : Nat) (pm : Nat → Nat) : RR fa tr pm 54 1 = some 55 := rfl
theorem rr54_2 (fa tr : Nat) (pm : Nat → Nat) : RR fa tr pm 54 2 = some 60 := rfl
theorem rr54_3 (fa tr : Nat) (pm : Nat → Nat) : RR fa tr pm 54 3 = some 61 := rfl
theorem rr54_4 (fa tr : Nat) (pm : Nat → Nat) : RR fa tr pm 54 4 = some 62 := rfl
theorem rr54_5 (fa tr : Nat) (pm : Nat → Nat) : RR fa tr pm 54 5 = some 63 := rfl
theorem rr54_6 (fa tr : Nat) (pm : Nat → Nat) : RR fa tr pm 54 6 = some 64 := rfl
theorem rr54_7 (fa tr : Nat) (pm : Nat → Nat) : RR fa tr pm 54 7 = some 66 := rfl
theorem rr54_8 (fa tr : Nat) (pm : Nat → Nat) : RR fa tr pm 54 8 = some 70 := rfl
theorem rr55_0 (fa tr : Nat) (pm : Nat → Nat) : RR fa tr pm 55 0 = some 56 := rfl
theorem rr55_1 (fa tr : Nat) (pm : Nat → Nat) : RR fa tr pm 55 1 = some 57 := rfl
theorem rr55_2 (fa tr : Nat) (pm : Nat → Nat) : RR fa tr pm 55 2 = some 58 := rfl
theorem rr55_3 (fa tr : Nat) (pm : Nat → Nat) : RR fa tr pm 55 3 = some 59 := rfl
theorem rr64_0 (fa tr : Nat) (pm : Nat → Nat) : RR fa tr pm 64 0 = some 65 := rfl
theorem rr66_0 (fa tr : Nat) (pm : Nat → Nat) : RR fa tr pm 66 0 = some 67 := rfl
theorem rr66_1 (fa tr : Nat) (pm : Nat → Nat) : RR fa tr pm 66 1 = some 68 := rfl
theorem rr66_2 (fa tr : Nat) (pm : Nat → Nat) : RR fa tr pm 66 2 = some 69 := rfl
theorem rr71_0 (fa tr : Nat) (pm : Nat → Nat) : RR fa tr pm 71 0 = some 72 := rfl
theorem rr71_1 (fa tr : Nat) (pm : Nat → Nat) : RR fa tr pm 71 1 = some 73 := rfl
theorem rr71_2 (fa tr : Nat) (pm : Nat → Nat) : RR fa tr pm 71 2 = some 74 := rfl
theorem rr71_3 (fa tr : Nat) (pm : Nat → Nat) : RR fa tr pm 71 3 = some 75 := rfl
theorem rr76_0 (fa tr : Nat) (pm : Nat → Nat) : RR fa tr pm 76 0 = some 77 := rfl
theorem rr76_1 (fa tr : Nat) (pm : Nat → Nat) : RR fa tr pm 76 1 = some 78 := rfl
theorem rr76_2 (fa tr : Nat) (pm : Nat → Nat) : RR fa tr pm 76 2 = some 79 := rfl
theorem rr76_3 (fa tr : Nat) (pm : Nat → Nat) : RR fa tr pm 76 3 = some 80 := rfl
theorem rr81_1 (fa tr : Nat) (pm : Nat → Nat) : RR fa tr pm 81 1 = some 82 := rfl
theorem rr81_2 (fa tr : Nat) (pm : Nat → Nat) : RR fa tr pm 81 2 = some 83 := rfl
theorem rr81_3 (fa tr : Nat) (pm : Nat → Nat) : RR fa tr pm 81 3 = some 84 := rfl
theorem rr81_4 (fa tr : Nat) (pm : Nat → Nat) : RR fa tr pm 81 4 = some 85 := rfl
theorem rr81_12 (fa tr : Nat) (pm : Nat → Nat) : RR fa tr pm 81 12 = some 86 := rfl
theorem rr81_13 (fa tr : Nat) (pm : Nat → Nat) : RR fa tr pm 81 13 = some 87 := rfl
theorem rr81_14 (fa tr : Nat) (pm : Nat → Nat) : RR fa tr pm 81 14 = some 88 := rfl
theorem rr81_20 (fa tr : Nat) (pm : Nat → Nat) : RR fa tr pm 81 20 = some 89 := rfl
theorem rr81_21 (fa tr : Nat) (pm : Nat → Nat) : RR fa tr pm 81 21 = some 90 := rfl
theorem rr81_22 (fa tr : Nat) (pm : Nat → Nat) : RR fa tr pm 81 22 = some 91 := rfl
theorem rr81_29 (fa tr : Nat) (pm : Nat → Nat) : RR fa tr pm 81 29 = some 92 := rfl
theorem rr81_30 (fa tr : Nat) (pm : Nat → Nat) : RR fa tr pm 81 30 = some 93 := rfl
theorem rr81_32 (fa tr : Nat) (pm : Nat → Nat) : RR fa tr pm 81 32 = some 94 := rfl
theorem rr81_33 (fa tr : Nat) (pm : Nat → Nat) : RR fa tr pm 81 33 = some 95 := rfl
theorem rr81_34 (fa tr : Nat) (pm : Nat → Nat) : RR fa tr pm 81 34 = some 96 := rfl
theorem rr81_35 (fa tr : Nat) (pm : Nat → Nat) : RR fa tr pm 81 35 = some 97 := rfl
theorem rr81_40 (fa tr : Nat) (pm : Nat → Nat) : RR fa tr pm 81 40 = some 98 := rfl
theorem rr54_9 (fa tr : Nat) (pm : Nat → Nat) : RR fa tr pm 54 9 = some fa := rfl
theorem rr54_10 (fa tr : Nat) (pm : Nat → Nat) : RR fa tr pm 54 10 = some tr := rfl
theorem rr20 (fa tr : Nat) (pm : Nat → Nat) {k : Nat} (hk : k < 8) : RR fa tr pm 20 k = some (pm k) := by simp [RR, hk]
theorem rrG0 (fa tr : Nat) (pm : Nat → Nat) {g : Nat} (h : IsG g) : RR fa tr pm g 0 = some (g + 1) := by rcases h with rfl | rfl | rfl <;> rfl
theorem rrG1 (fa tr : Nat) (pm : Nat → Nat) {g : Nat} (h : IsG g) : RR fa tr pm g 1 = some (g + 2) := by rcases h with rfl | rfl | rfl <;> rfl
theorem rrG2 (fa tr : Nat) (pm : Nat → Nat) {g : Nat} (h : IsG g) : RR fa tr pm g 2 = some (g + 3) := by rcases h with rfl | rfl | rfl <;> rfl
theorem rrG3 (fa tr : Nat) (pm : Nat → Nat) {g : Nat} (h : IsG g) : RR fa tr pm g 3 = some (g + 4) := by rcases h with rfl | rfl | rfl <;> rfl
theorem kdG0 {n g : Nat} (hn : 81 ≤ n) (h : IsG g) : kdn n g = some (0, .inl 3) := by rcases h with rfl | rfl | rfl <;> exact kdc hn (by decide) rfl
theorem kdG1 {n g : Nat} (hn : 81 ≤ n) (h : IsG g) : kdn n (g + 1) = some (0, .inr (0, 16)) := by rcases h with rfl | rfl | rfl <;> exact kdc hn (by decide) rfl
theorem kdG2 {n g : Nat} (hn : 81 ≤ n) (h : IsG g) : kdn n (g + 2) = some (0, .inr (0, 16)) := by rcases h with rfl | rfl | rfl <;> exact kdc hn (by decide) rfl
theorem kdG3 {n g : Nat} (hn : 81 ≤ n) (h : IsG g) : kdn n (g + 3) = some (0, .inr (0, 16)) := by rcases h with rfl | rfl | rfl <;> exact kdc hn (by decide) rfl
theorem kdG4 {n g : Nat} (hn : 81 ≤ n) (h : IsG g) : kdn n (g + 4) = some (0, .inr (0, 16)) := by rcases h with rfl | rfl | rfl <;> exact kdc hn (by decide) rfl
theorem IsN.cases {g : Nat} (h : IsN g) : g = 7 ∨ g = 11 ∨ g = 15 ∨ g = 21 ∨ g = 25 ∨ g = 29 ∨ g = 33 ∨ g = 37 ∨ g = 41 ∨ g = 45 ∨ g = 49 := by simpa [IsN] using h
theorem rrN0 (fa tr : Nat) (pm : Nat → Nat) {g : Nat} (h : IsN g) : RR fa tr pm g 0 = some (g + 1) := by rcases h.cases with rfl | rfl | rfl | rfl | rfl | rfl | rfl | rfl | rfl | rfl | rfl <;> rfl
theorem rrN1 (fa tr : Nat) (pm : Nat → Nat) {g : Nat} (h : IsN g) : RR fa tr pm g 1 = some (g + 2) := by rcases h.cases with rfl | rfl | rfl | rfl | rfl | rfl | rfl | rfl | rfl | rfl | rfl <;> rfl
theorem rrN2 (fa tr : Nat) (pm : Nat → Nat) {g : Nat} (h : IsN g) : RR fa tr pm g 2 = some (g + 3) := by rcases h.cases with rfl | rfl | rfl | rfl | rfl | rfl | rfl | rfl | rfl | rfl | rfl <;> rfl
theorem kdN0 {n g : Nat} (hn : 81 ≤ n) (h : IsN g) : kdn n g = some (0, .inl 6) := by rcases h.cases with rfl | rfl | rfl | rfl | rfl | rfl | rfl | rfl | rfl | rfl | rfl <;> exact kdc hn (by decide) rfl
theorem kdN1 {n g : Nat} (hn : 81 ≤ n) (h : IsN g) : kdn n (g + 1) = some (0, .inr (0, 60)) := by rcases h.cases with rfl | rfl | rfl | rfl | rfl | rfl | rfl | rfl | rfl | rfl | rfl <;> exact kdc hn (by decide) rfl
theorem kdN2 {n g : Nat} (hn : 81 ≤ n) (h : IsN g) : kdn n (g + 2) = some (0, .inr (0, 60)) := by rcases h.cases with rfl | rfl | rfl | rfl | rfl | rfl | rfl | rfl | rfl | rfl | rfl <;> exact kdc hn (by decide) rfl
theorem kdN3 {n g : Nat} (hn : 81 ≤ n) (h : IsN g) : kdn n (g + 3) = some (0, .inr (0, 16)) := by rcases h.cases with rfl | rfl | rfl | rfl | rfl | rfl | rfl | rfl | rfl | rfl | rfl <;> exact kdc hn (by decide) rfl
theorem kdH {n g : Nat} (hn : 81 ≤ n) (h : IsH g) : kdn n g = some (0, .inl 1) := by rcases h with rfl | rfl <;> exact kdc hn (by decide) rfl
theorem up2_fa (fa tr t : Nat) (pm : Nat → Nat) : up2 (RR fa tr pm) 54 9 (some t) = RR t tr pm := by
  funext c j
  by_cases h : c = 54 ∧ j = 9 <;> simp [up2, RR, h]
theorem up2_tr (fa tr t : Nat) (pm : Nat → Nat) : up2 (RR fa tr pm) 54 10 (some t) = RR fa t pm := by
  funext c j
  by_cases h : c = 54 ∧ j = 10
  · obtain ⟨rfl, rfl⟩ := h
    simp [up2, RR]
  · simp [up2, RR, h]
def pmu (pm : Nat → Nat) (k t : Nat) : Nat → Nat := fun j => if j = k then t else pm j
theorem up2_pm (fa tr t k : Nat) (pm : Nat → Nat) (hk : k < 8) : up2 (RR fa tr pm) 20 k (some t) = RR fa tr (pmu pm k t) := by
  funext c j
  by_cases h : c = 20 ∧ j = k
  · obtain ⟨rfl, rfl⟩ := h
    simp [up2, RR, pmu, hk]
  · by_cases h2 : c = 20
    · subst h2
      have h3 : j ≠ k := fun q => h ⟨rfl, q⟩
      simp [up2, RR, pmu, h3]
    · simp [up2, RR, h2]
/-- names for what is computed once -/
def lt {α β : Type} (a : α) (k : α → β) : β := k a
theorem lt_i {α β : Type} {a : α} {k : α → β} {o : β} (h : lt a k = o) : ∃ y, a = y ∧ k y = o := ⟨a, rfl, h⟩
theorem itl {α : Type} {c : Prop} [Decidable c] {a b o : α} (h : c) (e : (if c then a else b) = o) : a = o := by rwa [if_pos h] at e
theorem itr {α : Type} {c : Prop} [Decidable c] {a b o : α} (h : ¬ c) (e : (if c then a else b) = o) : b = o := by rwa [if_neg h] at e
/-- a loop: its body goes on, or leaves; so many rounds at most -/
def lp {σ ρ : Type} (step : σ → Option (σ ⊕ ρ)) : Nat → σ → Option ρ
  | 0, _ => none
  | k + 1, s => (step s).bind (fun o => Sum.elim (fun s' => lp step k s') (fun y => some y) o)
theorem lp_ind {σ ρ : Type} {step : σ → Option (σ ⊕ ρ)} {KH : σ → Prop} {KX : ρ → Prop} (hb : ∀ s o, step s = some o → Sum.elim KH KX o → KH s) : ∀ k s y, lp step k s = some y → KX y → KH s
  | 0, s, y, h, _ => by cases h
  | k + 1, s, y, h, hx => by
    obtain ⟨o, ho, h2⟩ := bnd h
    refine hb s o ho ?_
    cases o with
    | inl s' => exact lp_ind hb k s' y h2 hx
    | inr y' =>
      have h3 : y' = y := Option.some.inj h2
      rw [← h3] at hx
      exact hx
def nb (x : Int32) : Int32 := vp_nar .boolean x
theorem selL {α β γ : Type} {f : α → γ} {g : β → γ} {a : α} {o : γ} (h : Sum.elim f g (Sum.inl a) = o) : f a = o := h
theorem selR {α β γ : Type} {f : α → γ} {g : β → γ} {a : β} {o : γ} (h : Sum.elim f g (Sum.inr a) = o) : g a = o := h
def LSub : List (Option Value) → List (Option Value) → Prop
  | [], _ => True
  | none :: l', _ :: l => LSub l' l
  | some v :: l', a :: l => a = some v ∧ LSub l' l
  | _, [] => False
theorem LSub.ok : ∀ {l' l : List (Option Value)}, LSub l' l → ∀ i v, lget l' i = some v → lget l i = some v
  | [], _, _, i, v, h => by simp [lget] at h
  | none :: l', _ :: l, hs, 0, v, h => by simp [lget] at h
  | none :: l', _ :: l, hs, i + 1, v, h => LSub.ok (l' := l') (l := l) hs i v h
  | some u :: l', a :: l, hs, 0, v, h => by
    rw [hs.1]
    exact h
  | some u :: l', a :: l, hs, i + 1, v, h => LSub.ok (l' := l') (l := l) hs.2 i v h
  | none :: _, [], hs, _, _, _ => by cases hs
  | some _ :: _, [], hs, _, _, _ => by cases hs
theorem ab0 : (0 : Nat) ≤ 0 ∧ (0 : Nat) ≤ 0 := ⟨Nat.le_refl _, Nat.le_refl _⟩
/-- an answer of a small type, cut to it -/
theorem W.nret {p : Program} {l : Launch} {e : Env} {R : Room} {s : State} {m : MethodId} {args : Array Value} {below : List Frame} {meth : Method} {c : Code} {H : Heap} {locs : List Loc} {cells slots : Nat} {cc : ByteArray} {Qc : Array Value → State → Outcome → State → Prop} {free : Addr → Prop} {v v' : Int32} {ty : FieldType} (hexec : p.tables.exec = Jvm.exec) (hb : c.code = cc) (hr : meth.sig.returnType = some ty) (hn : narrow ty (.int v) = .int v')
    (hq : ∀ t : State, t.heap = H → s.WarmedH t.vm → Qc args s (.returned (some (.int v'))) t) (hf : ∀ q ∈ locs, free q.base)
    {pc : Nat} {ls : Array Slot} (hdg : decode cc pc = .ok (.ireturn, 1)) (hlocks : meth.locks = false) : W p l e R s m args below meth c H locs cells slots (MQ below Qc args s cells slots free) (F0 m pc ls [.int v]) := by
  intro T hT X
  obtain ⟨fs, hret, hrun, hended, hW, hframe⟩ := X.leave (v := some (.int v')) (fun h => by rw [hr] at h; cases h)
  have hmeth' : T.vm.method? m = some meth := X.method'
  refine ⟨T.setFrames fs, ?_, .returned (some (.int v')), hrun, hended, hq _ hT hW, locs, ⟨⟨_, rfl⟩, hW, hframe⟩, hf⟩
  jvm_step X.here [X.here.top, hexec, hb, hdg, hmeth', hr, hn]
  (try refine ⟨rfl, ?_⟩); (try refine ⟨rfl, ?_⟩)
  first | (intro acts; rw [hret _ acts rfl rfl rfl]) | rw [hret _ _ rfl rfl rfl]
  exact Steps.refl _
section
variable {e : gEV} {C : gCx} {cc : ByteArray} {nL d mc ms pc q : Nat} {own : String} {n a b : Nat} {lv lv' : List (Option Value)} {st : List Value} {r r' : gRH} {x x' : gXW}
theorem k_nret (hC : COk e C cc nL own d mc ms) {ret : Option FieldType} {n' : Nat} {y : Int32} (hQ : QOk e C ret mc ms (some (.int (nb y))) n' r x) (hret : ret = some .boolean) (hd : decode cc pc = .ok (.ireturn, 1)) : KW e C (n', mc, ms) pc lv [.int y] r x := by
  obtain ⟨p, en, R, s, m, args, below, meth, cd, Q⟩ := C
  obtain ⟨hx, hb, hml, hown, hts, hK, hbs, hRf, hRl, hRc, hRs, hJ, hlk⟩ := hC
  obtain ⟨hr, hQ⟩ := hQ
  subst hQ
  subst hret
  intro H locs ls hP hS hl
  exact W.nret (v' := nb y) hx hb hr rfl (fun t ht hW => ⟨rfl, by rw [ht]; exact hP, hS.F ht⟩) hS.2.2 hd hlk
theorem k_cS0 (hC : COk e C cc nL own d mc ms) {mi : gMI} {idx d0 : Nat} {av : List Value} {rest : List Value} (hM : gMOk mi) (hsx : Cond.static mi.1 ∈ gW0) (hlen : av.length = mi.2.2.2.2) (hd : decode cc pc = .ok (.invokestatic idx, 3)) (hlnk : Cond.methodLink own idx mi.1 ∈ gW0) (hcal : Cal e mi d0 0 0 false n av r x none n r' x') (hd0 : d0 + 1 ≤ d) (hst : st = (av).reverse ++ rest) (hrest : gWt rest ≤ 8) (hab : a ≤ mc ∧ b ≤ ms) (hq : pc + 3 = q) (kk : KW e C (n, a, b) q lv rest r' x') : KW e C (n, a, b) pc lv st r x :=
  k_callS hC hM hsx hlen hd hlnk hcal hd0 hst hrest hab (fun h => Bool.noConfusion h) rfl hq kk
theorem k_cS1 (hC : COk e C cc nL own d mc ms) {mi : gMI} {idx d0 : Nat} {av : List Value} {rest : List Value} {u : Value} (hM : gMOk mi) (hsx : Cond.static mi.1 ∈ gW0) (hlen : av.length = mi.2.2.2.2) (hd : decode cc pc = .ok (.invokestatic idx, 3)) (hlnk : Cond.methodLink own idx mi.1 ∈ gW0) (hcal : Cal e mi d0 0 0 false n av r x (some u) n r' x') (hd0 : d0 + 1 ≤ d) (hst : st = (av).reverse ++ rest) (hrest : gWt rest ≤ 8) (hab : a ≤ mc ∧ b ≤ ms) (hq : pc + 3 = q) (kk : KW e C (n, a, b) q lv (u :: rest) r' x') : KW e C (n, a, b) pc lv st r x :=
  k_callS hC hM hsx hlen hd hlnk hcal hd0 hst hrest hab (fun h => Bool.noConfusion h) rfl hq kk
theorem k_cSN0 (hC : COk e C cc nL own d mc ms) {mi : gMI} {idx d0 : Nat} {av : List Value} {rest : List Value} {host : String} (hM : gMOk mi) (hsx : Cond.static mi.1 ∈ gW0) (hlen : av.length = mi.2.2.2.2) (hd : decode cc pc = .ok (.invokestatic idx, 3)) (hlnk : Cond.methodLinkNest own idx mi.1 host ∈ gWN) (hcal : Cal e mi d0 0 0 false n av r x none n r' x') (hd0 : d0 + 1 ≤ d) (hst : st = (av).reverse ++ rest) (hrest : gWt rest ≤ 8) (hab : a ≤ mc ∧ b ≤ ms) (hq : pc + 3 = q) (kk : KW e C (n, a, b) q lv rest r' x') : KW e C (n, a, b) pc lv st r x :=
  k_callSN hC hM hsx hlen hd hlnk hcal hd0 hst hrest hab (fun h => Bool.noConfusion h) rfl hq kk
theorem k_cSN1 (hC : COk e C cc nL own d mc ms) {mi : gMI} {idx d0 : Nat} {av : List Value} {rest : List Value} {u : Value} {host : String} (hM : gMOk mi) (hsx : Cond.static mi.1 ∈ gW0) (hlen : av.length = mi.2.2.2.2) (hd : decode cc pc = .ok (.invokestatic idx, 3)) (hlnk : Cond.methodLinkNest own idx mi.1 host ∈ gWN) (hcal : Cal e mi d0 0 0 false n av r x (some u) n r' x') (hd0 : d0 + 1 ≤ d) (hst : st = (av).reverse ++ rest) (hrest : gWt rest ≤ 8) (hab : a ≤ mc ∧ b ≤ ms) (hq : pc + 3 = q) (kk : KW e C (n, a, b) q lv (u :: rest) r' x') : KW e C (n, a, b) pc lv st r x :=
  k_callSN hC hM hsx hlen hd hlnk hcal hd0 hst hrest hab (fun h => Bool.noConfusion h) rfl hq kk
theorem k_cV0 (hC : COk e C cc nL own d mc ms) {mi : gMI} {idx d0 : Nat} {rest : List Value} {c0 ci sd : Nat} {As : List Value} {K : vw_C} (hM : gMOk mi) (hvx : gVOk mi) (hlen : As.length = mi.2.2.2.2) (hk : kdn n c0 = some (sd, .inl ci)) (hcl : vwCl[ci]? = some K) (hcn : K.1 = mi.1.cls) (hd : decode cc pc = .ok (.invokevirtual idx, 3)) (hlnk : Cond.methodLink own idx mi.1 ∈ gW0) (hcal : Cal e mi d0 0 0 false n (.ref c0 :: As) r x none n r' x') (hd0 : d0 + 1 ≤ d) (hst : st = ((.ref c0 :: As)).reverse ++ rest) (hrest : gWt rest ≤ 8) (hab : a ≤ mc ∧ b ≤ ms) (hq : pc + 3 = q) (kk : KW e C (n, a, b) q lv rest r' x') : KW e C (n, a, b) pc lv st r x :=
  k_callV hC hM hvx rfl hlen hk hcl hcn hd hlnk hcal hd0 hst hrest hab (fun h => Bool.noConfusion h) rfl hq kk
theorem k_cV1 (hC : COk e C cc nL own d mc ms) {mi : gMI} {idx d0 : Nat} {rest : List Value} {u : Value} {c0 ci sd : Nat} {As : List Value} {K : vw_C} (hM : gMOk mi) (hvx : gVOk mi) (hlen : As.length = mi.2.2.2.2) (hk : kdn n c0 = some (sd, .inl ci)) (hcl : vwCl[ci]? = some K) (hcn : K.1 = mi.1.cls) (hd : decode cc pc = .ok (.invokevirtual idx, 3)) (hlnk : Cond.methodLink own idx mi.1 ∈ gW0) (hcal : Cal e mi d0 0 0 false n (.ref c0 :: As) r x (some u) n r' x') (hd0 : d0 + 1 ≤ d) (hst : st = ((.ref c0 :: As)).reverse ++ rest) (hrest : gWt rest ≤ 8) (hab : a ≤ mc ∧ b ≤ ms) (hq : pc + 3 = q) (kk : KW e C (n, a, b) q lv (u :: rest) r' x') : KW e C (n, a, b) pc lv st r x :=
  k_callV hC hM hvx rfl hlen hk hcl hcn hd hlnk hcal hd0 hst hrest hab (fun h => Bool.noConfusion h) rfl hq kk
theorem k_cVS0 (hC : COk e C cc nL own d mc ms) {mi : gMI} {idx d0 : Nat} {rest : List Value} {k0 : Nat} {As : List Value} (hM : gMOk mi) (hvx : gVOk mi) (hlen : As.length = mi.2.2.2.2) (hk0 : k0 < 7) (hcn : mi.1.cls = "java/lang/String") (hd : decode cc pc = .ok (.invokevirtual idx, 3)) (hlnk : Cond.methodLink own idx mi.1 ∈ gW0) (hcal : Cal e mi d0 0 0 false n (.retAddr k0 :: As) r x none n r' x') (hd0 : d0 + 1 ≤ d) (hst : st = ((.retAddr k0 :: As)).reverse ++ rest) (hrest : gWt rest ≤ 8) (hab : a ≤ mc ∧ b ≤ ms) (hq : pc + 3 = q) (kk : KW e C (n, a, b) q lv rest r' x') : KW e C (n, a, b) pc lv st r x :=
  k_callVS hC hM hvx rfl hlen hk0 hcn hd hlnk hcal hd0 hst hrest hab (fun h => Bool.noConfusion h) rfl hq kk
theorem k_cVS1 (hC : COk e C cc nL own d mc ms) {mi : gMI} {idx d0 : Nat} {rest : List Value} {u : Value} {k0 : Nat} {As : List Value} (hM : gMOk mi) (hvx : gVOk mi) (hlen : As.length = mi.2.2.2.2) (hk0 : k0 < 7) (hcn : mi.1.cls = "java/lang/String") (hd : decode cc pc = .ok (.invokevirtual idx, 3)) (hlnk : Cond.methodLink own idx mi.1 ∈ gW0) (hcal : Cal e mi d0 0 0 false n (.retAddr k0 :: As) r x (some u) n r' x') (hd0 : d0 + 1 ≤ d) (hst : st = ((.retAddr k0 :: As)).reverse ++ rest) (hrest : gWt rest ≤ 8) (hab : a ≤ mc ∧ b ≤ ms) (hq : pc + 3 = q) (kk : KW e C (n, a, b) q lv (u :: rest) r' x') : KW e C (n, a, b) pc lv st r x :=
  k_callVS hC hM hvx rfl hlen hk0 hcn hd hlnk hcal hd0 hst hrest hab (fun h => Bool.noConfusion h) rfl hq kk
end
