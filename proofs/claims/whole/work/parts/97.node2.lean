/-! ONE NODE -/
theorem nodeC_0 {fa tr : Nat} {xc : gXH} {a1 : Int32} (h : ¬ f_X6_hasNode xc a1 = 0) : f_X9_node fa tr xc a1 (nI 0) = (if (f_X8_isReached fa xc a1) = (0 : Int32) then (some (.inl (0 : Int32), xc)) else (some (.inl (1 : Int32), xc))) := by
  unfold f_X9_node
  rw [if_neg h, if_pos (by decide)]
theorem nodeM_0 {y : gIH} {a1 : Int32} : f_X10_node_J24 y a1 (nI 0) 0 = (if (f_X10_holds (y 81 11) a1) = (0 : Int32) then (some ((0 : Int32), y)) else (some ((1 : Int32), y))) := by
  unfold f_X10_node_J24
  simp only [lt, throws0]
  rw [if_pos trivial, if_pos (by decide)]
theorem nodeC_1 {fa tr : Nat} {xc : gXH} {a1 : Int32} (h : ¬ f_X6_hasNode xc a1 = 0) : f_X9_node fa tr xc a1 (nI 1) = (some (.inl (atv xc (fa + 4) 16 a1), xc)) := by
  unfold f_X9_node
  rw [if_neg h, if_neg (by decide), if_pos (by decide)]
theorem nodeM_1 {y : gIH} {a1 : Int32} : f_X10_node_J24 y a1 (nI 1) 0 = (gck 16 a1 (some ((y 88 a1.toNatClampNeg), y))) := by
  unfold f_X10_node_J24
  simp only [lt, throws0]
  rw [if_pos trivial, if_neg (by decide), if_pos (by decide)]
theorem nodeC_2 {fa tr : Nat} {xc : gXH} {a1 : Int32} (h : ¬ f_X6_hasNode xc a1 = 0) : f_X9_node fa tr xc a1 (nI 2) = (some (.inl (f_X3_depth fa xc a1), xc)) := by
  unfold f_X9_node
  rw [if_neg h, if_neg (by decide), if_neg (by decide), if_pos (by decide)]
theorem nodeM_2 {y : gIH} {a1 : Int32} : f_X10_node_J24 y a1 (nI 2) 0 = (gck 16 a1 (some ((y 87 a1.toNatClampNeg), y))) := by
  unfold f_X10_node_J24
  simp only [lt, throws0]
  rw [if_pos trivial, if_neg (by decide), if_neg (by decide), if_pos (by decide)]
theorem nodeC_3 {fa tr : Nat} {xc : gXH} {a1 : Int32} (h : ¬ f_X6_hasNode xc a1 = 0) : f_X9_node fa tr xc a1 (nI 3) = (some (.inl (atv xc (fa + 2) 16 a1), xc)) := by
  unfold f_X9_node
  rw [if_neg h, if_neg (by decide), if_neg (by decide), if_neg (by decide), if_pos (by decide)]
theorem nodeM_3 {y : gIH} {a1 : Int32} : f_X10_node_J24 y a1 (nI 3) 0 = (gck 16 a1 (some ((y 86 a1.toNatClampNeg), y))) := by
  unfold f_X10_node_J24
  simp only [lt, throws0]
  rw [if_pos trivial, if_neg (by decide), if_neg (by decide), if_neg (by decide), if_pos (by decide)]
theorem nodeC_4 {fa tr : Nat} {xc : gXH} {a1 : Int32} (h : ¬ f_X6_hasNode xc a1 = 0) : f_X9_node fa tr xc a1 (nI 4) = (some (.inl (atv xc (fa + 3) 16 a1), xc)) := by
  unfold f_X9_node
  rw [if_neg h, if_neg (by decide), if_neg (by decide), if_neg (by decide), if_neg (by decide), if_pos (by decide)]
theorem nodeM_4 {y : gIH} {a1 : Int32} : f_X10_node_J24 y a1 (nI 4) 0 = ((f_X10_keptBy y a1).bind (fun y20 => some (y20, y))) := by
  unfold f_X10_node_J24
  simp only [lt, throws0]
  rw [if_pos trivial, if_neg (by decide), if_neg (by decide), if_neg (by decide), if_neg (by decide), if_pos (by decide)]
theorem nodeC_5 {fa tr : Nat} {xc : gXH} {a1 : Int32} (h : ¬ f_X6_hasNode xc a1 = 0) : f_X9_node fa tr xc a1 (nI 5) = ((f_X8_keptNearest fa xc a1).bind (fun y16 => some (.inl y16, xc))) := by
  unfold f_X9_node
  rw [if_neg h, if_neg (by decide), if_neg (by decide), if_neg (by decide), if_neg (by decide), if_neg (by decide), if_pos (by decide)]
theorem nodeM_5 {y : gIH} {a1 : Int32} : f_X10_node_J24 y a1 (nI 5) 0 = ((f_X10_ownOf y a1).bind (fun y19 => some (y19, y))) := by
  unfold f_X10_node_J24
  simp only [lt, throws0]
  rw [if_pos trivial, if_neg (by decide), if_neg (by decide), if_neg (by decide), if_neg (by decide), if_neg (by decide), if_pos (by decide)]
theorem nodeC_6 {fa tr : Nat} {xc : gXH} {a1 : Int32} (h : ¬ f_X6_hasNode xc a1 = 0) : f_X9_node fa tr xc a1 (nI 6) = ((f_X8_edge fa xc a1).bind (fun y15 => some (.inl y15, xc))) := by
  unfold f_X9_node
  rw [if_neg h, if_neg (by decide), if_neg (by decide), if_neg (by decide), if_neg (by decide), if_neg (by decide), if_neg (by decide), if_pos (by decide)]
theorem nodeM_6 {y : gIH} {a1 : Int32} : f_X10_node_J24 y a1 (nI 6) 0 = ((f_X10_edgeOf y a1).bind (fun y18 => some (y18, y))) := by
  unfold f_X10_node_J24
  simp only [lt, throws0]
  rw [if_pos trivial, if_neg (by decide), if_neg (by decide), if_neg (by decide), if_neg (by decide), if_neg (by decide), if_neg (by decide), if_pos (by decide)]
theorem nodeC_7 {fa tr : Nat} {xc : gXH} {a1 : Int32} (h : ¬ f_X6_hasNode xc a1 = 0) : f_X9_node fa tr xc a1 (nI 7) = ((f_X8_body fa xc a1).bind (fun y14 => some (.inl y14.1, y14.2))) := by
  unfold f_X9_node
  rw [if_neg h, if_neg (by decide), if_neg (by decide), if_neg (by decide), if_neg (by decide), if_neg (by decide), if_neg (by decide), if_neg (by decide), if_pos (by decide)]
theorem nodeM_7 {y : gIH} {a1 : Int32} : f_X10_node_J24 y a1 (nI 7) 0 = ((f_X10_bodyOf y a1).bind (fun y17 => some (y17, y))) := by
  unfold f_X10_node_J24
  simp only [lt, throws0]
  rw [if_pos trivial, if_neg (by decide), if_neg (by decide), if_neg (by decide), if_neg (by decide), if_neg (by decide), if_neg (by decide), if_neg (by decide), if_pos (by decide)]
theorem nodeC_8 {fa tr : Nat} {xc : gXH} {a1 : Int32} (h : ¬ f_X6_hasNode xc a1 = 0) : f_X9_node fa tr xc a1 (nI 8) = ((f_X8_nest fa xc a1).bind (fun y13 => some (.inl y13.1, y13.2))) := by
  unfold f_X9_node
  rw [if_neg h, if_neg (by decide), if_neg (by decide), if_neg (by decide), if_neg (by decide), if_neg (by decide), if_neg (by decide), if_neg (by decide), if_neg (by decide), if_pos (by decide)]
theorem nodeM_8 {y : gIH} {a1 : Int32} : f_X10_node_J24 y a1 (nI 8) 0 = ((f_X10_nestOf y a1).bind (fun y16 => some (y16, y))) := by
  unfold f_X10_node_J24
  simp only [lt, throws0]
  rw [if_pos trivial, if_neg (by decide), if_neg (by decide), if_neg (by decide), if_neg (by decide), if_neg (by decide), if_neg (by decide), if_neg (by decide), if_neg (by decide), if_pos (by decide)]
theorem nodeC_9 {fa tr : Nat} {xc : gXH} {a1 : Int32} (h : ¬ f_X6_hasNode xc a1 = 0) : f_X9_node fa tr xc a1 (nI 9) = ((f_X8_near fa xc a1).bind (fun y12 => some (.inl y12, xc))) := by
  unfold f_X9_node
  rw [if_neg h, if_neg (by decide), if_neg (by decide), if_neg (by decide), if_neg (by decide), if_neg (by decide), if_neg (by decide), if_neg (by decide), if_neg (by decide), if_neg (by decide), if_pos (by decide)]
theorem nodeM_9 {y : gIH} {a1 : Int32} : f_X10_node_J24 y a1 (nI 9) 0 = ((f_X10_nearOf y a1).bind (fun y15 => some (y15, y))) := by
  unfold f_X10_node_J24
  simp only [lt, throws0]
  rw [if_pos trivial, if_neg (by decide), if_neg (by decide), if_neg (by decide), if_neg (by decide), if_neg (by decide), if_neg (by decide), if_neg (by decide), if_neg (by decide), if_neg (by decide), if_pos (by decide)]
theorem nodeC_10 {fa tr : Nat} {xc : gXH} {a1 : Int32} (h : ¬ f_X6_hasNode xc a1 = 0) : f_X9_node fa tr xc a1 (nI 10) = ((f_X8_outKeeper fa xc a1).bind (fun y11 => some (.inl y11.1, y11.2))) := by
  unfold f_X9_node
  rw [if_neg h, if_neg (by decide), if_neg (by decide), if_neg (by decide), if_neg (by decide), if_neg (by decide), if_neg (by decide), if_neg (by decide), if_neg (by decide), if_neg (by decide), if_neg (by decide), if_pos (by decide)]
theorem nodeM_10 {y : gIH} {a1 : Int32} : f_X10_node_J24 y a1 (nI 10) 0 = ((f_X10_outKeeperOf y a1).bind (fun y14 => some (y14, y))) := by
  unfold f_X10_node_J24
  simp only [lt, throws0]
  rw [if_pos trivial, if_neg (by decide), if_neg (by decide), if_neg (by decide), if_neg (by decide), if_neg (by decide), if_neg (by decide), if_neg (by decide), if_neg (by decide), if_neg (by decide), if_neg (by decide), if_pos (by decide)]
theorem nodeC_11 {fa tr : Nat} {xc : gXH} {a1 : Int32} (h : ¬ f_X6_hasNode xc a1 = 0) : f_X9_node fa tr xc a1 (nI 11) = ((f_X8_outGates fa xc a1).bind (fun y10 => some (.inl y10.1, y10.2))) := by
  unfold f_X9_node
  rw [if_neg h, if_neg (by decide), if_neg (by decide), if_neg (by decide), if_neg (by decide), if_neg (by decide), if_neg (by decide), if_neg (by decide), if_neg (by decide), if_neg (by decide), if_neg (by decide), if_neg (by decide), if_pos (by decide)]
theorem nodeM_11 {y : gIH} {a1 : Int32} : f_X10_node_J24 y a1 (nI 11) 0 = ((f_X10_outGatesOf y a1).bind (fun y13 => some (y13, y))) := by
  unfold f_X10_node_J24
  simp only [lt, throws0]
  rw [if_pos trivial, if_neg (by decide), if_neg (by decide), if_neg (by decide), if_neg (by decide), if_neg (by decide), if_neg (by decide), if_neg (by decide), if_neg (by decide), if_neg (by decide), if_neg (by decide), if_neg (by decide), if_pos (by decide)]
theorem nodeC_12 {fa tr : Nat} {xc : gXH} {a1 : Int32} (h : ¬ f_X6_hasNode xc a1 = 0) : f_X9_node fa tr xc a1 (nI 12) = ((f_X8_hard xc a1).bind (fun y9 => some (.inl y9.1, y9.2))) := by
  unfold f_X9_node
  rw [if_neg h, if_neg (by decide), if_neg (by decide), if_neg (by decide), if_neg (by decide), if_neg (by decide), if_neg (by decide), if_neg (by decide), if_neg (by decide), if_neg (by decide), if_neg (by decide), if_neg (by decide), if_neg (by decide), if_pos (by decide)]
theorem nodeM_12 {y : gIH} {a1 : Int32} : f_X10_node_J24 y a1 (nI 12) 0 = ((f_X10_hardOf y a1).bind (fun y12 => some (y12.1, y12.2))) := by
  unfold f_X10_node_J24
  simp only [lt, throws0]
  rw [if_pos trivial, if_neg (by decide), if_neg (by decide), if_neg (by decide), if_neg (by decide), if_neg (by decide), if_neg (by decide), if_neg (by decide), if_neg (by decide), if_neg (by decide), if_neg (by decide), if_neg (by decide), if_neg (by decide), if_pos (by decide)]
theorem nodeC_13 {fa tr : Nat} {xc : gXH} {a1 : Int32} (h : ¬ f_X6_hasNode xc a1 = 0) : f_X9_node fa tr xc a1 (nI 13) = ((f_X8_wall fa xc a1).bind (fun y8 => some (.inl y8.1, y8.2))) := by
  unfold f_X9_node
  rw [if_neg h, if_neg (by decide), if_neg (by decide), if_neg (by decide), if_neg (by decide), if_neg (by decide), if_neg (by decide), if_neg (by decide), if_neg (by decide), if_neg (by decide), if_neg (by decide), if_neg (by decide), if_neg (by decide), if_neg (by decide), if_pos (by decide)]
theorem nodeM_13 {y : gIH} {a1 : Int32} : f_X10_node_J24 y a1 (nI 13) 0 = ((f_X10_wallOf y a1).bind (fun y11 => some (y11, y))) := by
  unfold f_X10_node_J24
  simp only [lt, throws0]
  rw [if_pos trivial, if_neg (by decide), if_neg (by decide), if_neg (by decide), if_neg (by decide), if_neg (by decide), if_neg (by decide), if_neg (by decide), if_neg (by decide), if_neg (by decide), if_neg (by decide), if_neg (by decide), if_neg (by decide), if_neg (by decide), if_pos (by decide)]
theorem nodeC_14 {fa tr : Nat} {xc : gXH} {a1 : Int32} (h : ¬ f_X6_hasNode xc a1 = 0) : f_X9_node fa tr xc a1 (nI 14) = (some (.inl (atv xc 10 16 a1), xc)) := by
  unfold f_X9_node
  rw [if_neg h, if_neg (by decide), if_neg (by decide), if_neg (by decide), if_neg (by decide), if_neg (by decide), if_neg (by decide), if_neg (by decide), if_neg (by decide), if_neg (by decide), if_neg (by decide), if_neg (by decide), if_neg (by decide), if_neg (by decide), if_neg (by decide), if_pos (by decide)]
theorem nodeM_14 {y : gIH} {a1 : Int32} : f_X10_node_J24 y a1 (nI 14) 0 = (gck 200 ((4 : Int32) + a1) (some ((y 82 ((4 : Int32) + a1).toNatClampNeg), y))) := by
  unfold f_X10_node_J24
  simp only [lt, throws0]
  rw [if_pos trivial, if_neg (by decide), if_neg (by decide), if_neg (by decide), if_neg (by decide), if_neg (by decide), if_neg (by decide), if_neg (by decide), if_neg (by decide), if_neg (by decide), if_neg (by decide), if_neg (by decide), if_neg (by decide), if_neg (by decide), if_neg (by decide), if_pos (by decide)]
theorem nodeC_15 {fa tr : Nat} {xc : gXH} {a1 : Int32} (h : ¬ f_X6_hasNode xc a1 = 0) : f_X9_node fa tr xc a1 (nI 15) = ((f_X8_fee fa xc a1).bind (fun y7 => some (.inl y7, xc))) := by
  unfold f_X9_node
  rw [if_neg h, if_neg (by decide), if_neg (by decide), if_neg (by decide), if_neg (by decide), if_neg (by decide), if_neg (by decide), if_neg (by decide), if_neg (by decide), if_neg (by decide), if_neg (by decide), if_neg (by decide), if_neg (by decide), if_neg (by decide), if_neg (by decide), if_neg (by decide), if_pos (by decide)]
theorem nodeM_15 {y : gIH} {a1 : Int32} : f_X10_node_J24 y a1 (nI 15) 0 = (if (f_X10_holds (y 81 11) a1) = (0 : Int32) then (some ((-1 : Int32), y)) else ((f_X10_feeOf y a1).bind (fun y10 => some (y10, y)))) := by
  unfold f_X10_node_J24
  simp only [lt, throws0]
  rw [if_pos trivial, if_neg (by decide), if_neg (by decide), if_neg (by decide), if_neg (by decide), if_neg (by decide), if_neg (by decide), if_neg (by decide), if_neg (by decide), if_neg (by decide), if_neg (by decide), if_neg (by decide), if_neg (by decide), if_neg (by decide), if_neg (by decide), if_neg (by decide), if_pos (by decide)]
theorem nodeC_16 {fa tr : Nat} {xc : gXH} {a1 : Int32} (h : ¬ f_X6_hasNode xc a1 = 0) : f_X9_node fa tr xc a1 (nI 16) = ((f_X8_fare fa xc a1).bind (fun y6 => some (.inl y6.1, y6.2))) := by
  unfold f_X9_node
  rw [if_neg h, if_neg (by decide), if_neg (by decide), if_neg (by decide), if_neg (by decide), if_neg (by decide), if_neg (by decide), if_neg (by decide), if_neg (by decide), if_neg (by decide), if_neg (by decide), if_neg (by decide), if_neg (by decide), if_neg (by decide), if_neg (by decide), if_neg (by decide), if_neg (by decide), if_pos (by decide)]
theorem nodeM_16 {y : gIH} {a1 : Int32} : f_X10_node_J24 y a1 (nI 16) 0 = ((f_X10_fareOf y a1).bind (fun y9 => some (y9.1, y9.2))) := by
  unfold f_X10_node_J24
  simp only [lt, throws0]
  rw [if_pos trivial, if_neg (by decide), if_neg (by decide), if_neg (by decide), if_neg (by decide), if_neg (by decide), if_neg (by decide), if_neg (by decide), if_neg (by decide), if_neg (by decide), if_neg (by decide), if_neg (by decide), if_neg (by decide), if_neg (by decide), if_neg (by decide), if_neg (by decide), if_neg (by decide), if_pos (by decide)]
theorem nodeC_17 {fa tr : Nat} {xc : gXH} {a1 : Int32} (h : ¬ f_X6_hasNode xc a1 = 0) : f_X9_node fa tr xc a1 (nI 17) = ((f_X8_controls fa xc a1).bind (fun y5 => some (.inl y5.1, y5.2))) := by
  unfold f_X9_node
  rw [if_neg h, if_neg (by decide), if_neg (by decide), if_neg (by decide), if_neg (by decide), if_neg (by decide), if_neg (by decide), if_neg (by decide), if_neg (by decide), if_neg (by decide), if_neg (by decide), if_neg (by decide), if_neg (by decide), if_neg (by decide), if_neg (by decide), if_neg (by decide), if_neg (by decide), if_neg (by decide), if_pos (by decide)]
theorem nodeM_17 {y : gIH} {a1 : Int32} : f_X10_node_J24 y a1 (nI 17) 0 = ((f_X10_controls y a1).bind (fun y8 => some (y8, y))) := by
  unfold f_X10_node_J24
  simp only [lt, throws0]
  rw [if_pos trivial, if_neg (by decide), if_neg (by decide), if_neg (by decide), if_neg (by decide), if_neg (by decide), if_neg (by decide), if_neg (by decide), if_neg (by decide), if_neg (by decide), if_neg (by decide), if_neg (by decide), if_neg (by decide), if_neg (by decide), if_neg (by decide), if_neg (by decide), if_neg (by decide), if_neg (by decide), if_pos (by decide)]
theorem nodeC_18 {fa tr : Nat} {xc : gXH} {a1 : Int32} (h : ¬ f_X6_hasNode xc a1 = 0) : f_X9_node fa tr xc a1 (nI 18) = ((f_X8_ring fa xc a1).bind (fun y4 => some (.inl y4, xc))) := by
  unfold f_X9_node
  rw [if_neg h, if_neg (by decide), if_neg (by decide), if_neg (by decide), if_neg (by decide), if_neg (by decide), if_neg (by decide), if_neg (by decide), if_neg (by decide), if_neg (by decide), if_neg (by decide), if_neg (by decide), if_neg (by decide), if_neg (by decide), if_neg (by decide), if_neg (by decide), if_neg (by decide), if_neg (by decide), if_neg (by decide), if_pos (by decide)]
theorem nodeM_18 {y : gIH} {a1 : Int32} : f_X10_node_J24 y a1 (nI 18) 0 = ((f_X10_ringOf y a1).bind (fun y7 => some (y7, y))) := by
  unfold f_X10_node_J24
  simp only [lt, throws0]
  rw [if_pos trivial, if_neg (by decide), if_neg (by decide), if_neg (by decide), if_neg (by decide), if_neg (by decide), if_neg (by decide), if_neg (by decide), if_neg (by decide), if_neg (by decide), if_neg (by decide), if_neg (by decide), if_neg (by decide), if_neg (by decide), if_neg (by decide), if_neg (by decide), if_neg (by decide), if_neg (by decide), if_neg (by decide), if_pos (by decide)]
theorem nodeC_19 {fa tr : Nat} {xc : gXH} {a1 : Int32} (h : ¬ f_X6_hasNode xc a1 = 0) : f_X9_node fa tr xc a1 (nI 19) = ((f_X8_inner fa xc a1).bind (fun y3 => some (.inl y3.1, y3.2))) := by
  unfold f_X9_node
  rw [if_neg h, if_neg (by decide), if_neg (by decide), if_neg (by decide), if_neg (by decide), if_neg (by decide), if_neg (by decide), if_neg (by decide), if_neg (by decide), if_neg (by decide), if_neg (by decide), if_neg (by decide), if_neg (by decide), if_neg (by decide), if_neg (by decide), if_neg (by decide), if_neg (by decide), if_neg (by decide), if_neg (by decide), if_neg (by decide), if_pos (by decide)]
theorem nodeM_19 {y : gIH} {a1 : Int32} : f_X10_node_J24 y a1 (nI 19) 0 = ((f_X10_innerOf_0 y a1).bind (fun y6 => some (y6, y))) := by
  unfold f_X10_node_J24
  simp only [lt, throws0]
  rw [if_pos trivial, if_neg (by decide), if_neg (by decide), if_neg (by decide), if_neg (by decide), if_neg (by decide), if_neg (by decide), if_neg (by decide), if_neg (by decide), if_neg (by decide), if_neg (by decide), if_neg (by decide), if_neg (by decide), if_neg (by decide), if_neg (by decide), if_neg (by decide), if_neg (by decide), if_neg (by decide), if_neg (by decide), if_neg (by decide), if_pos (by decide)]
theorem nodeC_20 {fa tr : Nat} {xc : gXH} {a1 : Int32} (h : ¬ f_X6_hasNode xc a1 = 0) : f_X9_node fa tr xc a1 (nI 20) = ((f_X8_outer fa xc a1).bind (fun y2 => some (.inl y2.1, y2.2))) := by
  unfold f_X9_node
  rw [if_neg h, if_neg (by decide), if_neg (by decide), if_neg (by decide), if_neg (by decide), if_neg (by decide), if_neg (by decide), if_neg (by decide), if_neg (by decide), if_neg (by decide), if_neg (by decide), if_neg (by decide), if_neg (by decide), if_neg (by decide), if_neg (by decide), if_neg (by decide), if_neg (by decide), if_neg (by decide), if_neg (by decide), if_neg (by decide), if_neg (by decide), if_pos (by decide)]
theorem nodeM_20 {y : gIH} {a1 : Int32} : f_X10_node_J24 y a1 (nI 20) 0 = ((f_X10_innerOf_1 y a1).bind (fun y5 => some (y5, y))) := by
  unfold f_X10_node_J24
  simp only [lt, throws0]
  rw [if_pos trivial, if_neg (by decide), if_neg (by decide), if_neg (by decide), if_neg (by decide), if_neg (by decide), if_neg (by decide), if_neg (by decide), if_neg (by decide), if_neg (by decide), if_neg (by decide), if_neg (by decide), if_neg (by decide), if_neg (by decide), if_neg (by decide), if_neg (by decide), if_neg (by decide), if_neg (by decide), if_neg (by decide), if_neg (by decide), if_neg (by decide), if_pos (by decide)]
theorem nodeC_21 {fa tr : Nat} {xc : gXH} {a1 : Int32} (h : ¬ f_X6_hasNode xc a1 = 0) : f_X9_node fa tr xc a1 (nI 21) = ((f_X8_tied fa tr xc a1).bind (fun y1 => some (.inl y1.1, y1.2))) := by
  unfold f_X9_node
  rw [if_neg h, if_neg (by decide), if_neg (by decide), if_neg (by decide), if_neg (by decide), if_neg (by decide), if_neg (by decide), if_neg (by decide), if_neg (by decide), if_neg (by decide), if_neg (by decide), if_neg (by decide), if_neg (by decide), if_neg (by decide), if_neg (by decide), if_neg (by decide), if_neg (by decide), if_neg (by decide), if_neg (by decide), if_neg (by decide), if_neg (by decide), if_neg (by decide), if_pos (by decide)]
theorem nodeM_21 {y : gIH} {a1 : Int32} : f_X10_node_J24 y a1 (nI 21) 0 = ((f_X10_tiedTo y a1).bind (fun y4 => some (y4, y))) := by
  unfold f_X10_node_J24
  simp only [lt, throws0]
  rw [if_pos trivial, if_neg (by decide), if_neg (by decide), if_neg (by decide), if_neg (by decide), if_neg (by decide), if_neg (by decide), if_neg (by decide), if_neg (by decide), if_neg (by decide), if_neg (by decide), if_neg (by decide), if_neg (by decide), if_neg (by decide), if_neg (by decide), if_neg (by decide), if_neg (by decide), if_neg (by decide), if_neg (by decide), if_neg (by decide), if_neg (by decide), if_neg (by decide)]
theorem nodeC_no {fa tr : Nat} {xc : gXH} {a1 a2 : Int32} (h : ¬ f_X6_hasNode xc a1 = 0) (n : ∀ k, k ≤ 21 → ¬ a2 = nI k) : f_X9_node fa tr xc a1 a2 = some (.inr 3, xc) := by
  unfold f_X9_node
  rw [if_neg h, if_neg (show ¬ a2 = (0 : Int32) from n 0 (by omega)), if_neg (show ¬ a2 = (1 : Int32) from n 1 (by omega)), if_neg (show ¬ a2 = (2 : Int32) from n 2 (by omega)), if_neg (show ¬ a2 = (3 : Int32) from n 3 (by omega)), if_neg (show ¬ a2 = (4 : Int32) from n 4 (by omega)), if_neg (show ¬ a2 = (5 : Int32) from n 5 (by omega)), if_neg (show ¬ a2 = (6 : Int32) from n 6 (by omega)), if_neg (show ¬ a2 = (7 : Int32) from n 7 (by omega)), if_neg (show ¬ a2 = (8 : Int32) from n 8 (by omega)), if_neg (show ¬ a2 = (9 : Int32) from n 9 (by omega)), if_neg (show ¬ a2 = (10 : Int32) from n 10 (by omega)), if_neg (show ¬ a2 = (11 : Int32) from n 11 (by omega)), if_neg (show ¬ a2 = (12 : Int32) from n 12 (by omega)), if_neg (show ¬ a2 = (13 : Int32) from n 13 (by omega)), if_neg (show ¬ a2 = (14 : Int32) from n 14 (by omega)), if_neg (show ¬ a2 = (15 : Int32) from n 15 (by omega)), if_neg (show ¬ a2 = (16 : Int32) from n 16 (by omega)), if_neg (show ¬ a2 = (17 : Int32) from n 17 (by omega)), if_neg (show ¬ a2 = (18 : Int32) from n 18 (by omega)), if_neg (show ¬ a2 = (19 : Int32) from n 19 (by omega)), if_neg (show ¬ a2 = (20 : Int32) from n 20 (by omega)), if_neg (show ¬ a2 = (21 : Int32) from n 21 (by omega))]
theorem nodeM_no {y : gIH} {a1 a2 : Int32} : f_X10_node_J24 y a1 a2 1 = some (0, up2 y 81 0 2) := by
  unfold f_X10_node_J24
  simp only [lt, throws1]
  rw [if_neg i1n0]
def Nd (N : aN) (fa tr : Nat) (xc : gXH) (hm : gIH) (C : Option ((Int32 ⊕ Nat) × gXH)) (G : Option (Int32 × gIH)) : Prop := ∃ z x w, C = some (.inl z, x) ∧ G = some (z, w) ∧ Fr (WS tr) xc x ∧ QN N hm w ∧ w 81 0 = 0
theorem i8_0 {α : Type} {i : Nat} (hi : i < 16) (t : Option α) : gck 16 (nI i) t = t := gck_ni hi (by omega)
section
variable {N : aN} {fa tr : Nat} {xc : gXH} {hm y : gIH}
theorem nd_all (h : CQ N fa tr xc) (q : QM N hm y) (t : y 81 0 = 0) {i k : Nat} (hn : ¬ f_X6_hasNode xc (nI i) = 0) (hi : i < nN N) (hk : k ≤ 21) : Nd N fa tr xc hm (f_X9_node fa tr xc (nI i) (nI k)) (f_X10_node_J24 y (nI i) (nI k) 0) := by
  have hN := h.2.1
  have hC := h.2.2.1
  have hX := h.2.2.2.1
  have hG := h.2.2.2.2.1
  have hR := h.2.2.2.2.2
  have hfa : 70 < fa := by have := h.1; omega
  have hn16 := hN.n16
  have hi16 : i < 16 := by omega
  have hE : E16 (Ed N 100) := hN.e16n (k1 := 100) (k2 := 100)
  have hS := hN.s16
  have hF := q.2.2.1
  have plain : ∀ {z : Int32} {C : Option ((Int32 ⊕ Nat) × gXH)} {G : Option (Int32 × gIH)}, C = some (.inl z, xc) → G = some (z, y) → Nd N fa tr xc hm C G := fun e1 e2 => ⟨_, xc, y, e1, e2, Fr.rf, q.n, t⟩
  have both : ∀ {z : Int32} {x : gXH} {C : Option ((Int32 ⊕ Nat) × gXH)} {G : Option (Int32 × gIH)}, Fr (WS tr) xc x → C = some (.inl z, x) → G = some (z, y) → Nd N fa tr xc hm C G := fun f e1 e2 => ⟨_, _, y, e1, e2, f, q.n, t⟩
  rcases (show k = 0 ∨ k = 1 ∨ k = 2 ∨ k = 3 ∨ k = 4 ∨ k = 5 ∨ k = 6 ∨ k = 7 ∨ k = 8 ∨ k = 9 ∨ k = 10 ∨ k = 11 ∨ k = 12 ∨ k = 13 ∨ k = 14 ∨ k = 15 ∨ k = 16 ∨ k = 17 ∨ k = 18 ∨ k = 19 ∨ k = 20 ∨ k = 21 by omega) with rfl | rfl | rfl | rfl | rfl | rfl | rfl | rfl | rfl | rfl | rfl | rfl | rfl | rfl | rfl | rfl | rfl | rfl | rfl | rfl | rfl | rfl
  · rw [nodeC_0 hn, nodeM_0]
    by_cases c : Rc (Ed N 100) (fun s => s = nRt N) nox i
    · rw [if_neg (fun z => (hG.r0 hi16).mp z c), if_neg (fun z => (hF.r0 hi16).mp z c)]
      exact plain rfl rfl
    · rw [if_pos ((hG.r0 hi16).mpr c), if_pos ((hF.r0 hi16).mpr c)]
      exact plain rfl rfl
  · rw [nodeC_1 hn, nodeM_1]
    rw [i8_0 hi16, nI_clamp (by omega), atv_n (L := 16) hi16 (by omega)]
    exact plain rfl (by rw [(hF.2.2.2 i hi16).uniq hE hS (hG.2.2.2 i hi16)])
  · rw [nodeC_2 hn, nodeM_2]
    rw [i8_0 hi16, nI_clamp (by omega)]
    by_cases c : Rc (Ed N 100) (fun s => s = nRt N) nox i
    · rw [hG.d1 hi16 c, (hF.2.2.1 i hi16).1 c]
      exact plain rfl rfl
    · rw [hG.d0 hi16 c, (hF.2.2.1 i hi16).2 c]
      exact plain rfl rfl
  · rw [nodeC_3 hn, nodeM_3]
    rw [i8_0 hi16, nI_clamp (by omega), atv_n (L := 16) hi16 (by omega)]
    have e : y 86 i = xc.1 (fa + 2) i := (hF.2.1 i hi16).1.ext (hG.2.1 i hi16).1 fun v hv => by
      apply Bool.eq_iff_iff.mpr
      rw [(hF.2.1 i hi16).2 v hv, (hG.2.1 i hi16).2 v hv]
    exact plain rfl (by rw [e])
  · rw [nodeC_4 hn, nodeM_4]
    rw [atv_n (L := 16) hi16 (by omega)]
    obtain ⟨z, ez, z1, z2⟩ := kept_m hN q hi16
    rw [ez]
    have e : z = xc.1 (fa + 3) i := z1.ext (hG.2.2.1 i hi16).1 fun v hv => by
      apply Bool.eq_iff_iff.mpr
      rw [z2 v hv, (hG.2.2.1 i hi16).2 v hv]
    rw [e]
    exact plain rfl rfl
  · rw [nodeC_5 hn, nodeM_5]
    obtain ⟨z, ez, z1, z2⟩ := own_m hN q hi16
    obtain ⟨w, ew, w1, w2⟩ := own_c hN hG hi16
    have e : z = w := z1.ext w1 fun v hv => by
      apply Bool.eq_iff_iff.mpr
      rw [z2 v hv, w2 v hv]
    rw [ez, ew, e]
    exact plain rfl rfl
  · rw [nodeC_6 hn, nodeM_6]
    obtain ⟨z, e1, e2⟩ := edge_q hN q hX hG hi16
    rw [e1, e2]
    exact plain rfl rfl
  · rw [nodeC_7 hn, nodeM_7]
    obtain ⟨x, ex, fx, hL⟩ := loops_c hE hG hR hfa
    have fW : Fr (WS tr) xc x := fx.mono fun c z => by unfold WS; omega
    obtain ⟨z, ez, z1, z2⟩ := body_m hN q hi16
    have e : x.1 65 i = z := (hL.2 i hi16).1.ext z1 fun v hv => by
      apply Bool.eq_iff_iff.mpr
      rw [(hL.2 i hi16).2 v hv, z2 v hv]
    unfold f_X8_body
    rw [ex, ez]
    simp only [Option.bind_some]
    rw [atv_n (L := 16) hi16 (by omega), e]
    exact both fW rfl rfl
  · rw [nodeC_8 hn, nodeM_8]
    obtain ⟨x, ex, fx, hL⟩ := loops_c hE hG hR hfa
    have fW : Fr (WS tr) xc x := fx.mono fun c z => by unfold WS; omega
    unfold f_X8_nest
    rw [ex, nest_m hN q hi16]
    simp only [Option.bind_some]
    rw [nest_c hL hi16]
    exact both fW rfl rfl
  · rw [nodeC_9 hn, nodeM_9]
    obtain ⟨z, e1, n1⟩ := near_c hE hN.r16 hX hC.2.1 hi16
    obtain ⟨w, e2, n2⟩ := near_m hN q hi16
    rw [e1, e2, n1.uniq n2]
    exact plain rfl rfl
  · rw [nodeC_10 hn, nodeM_10]
    obtain ⟨x, ex, fx, hO⟩ := out_c hN hfa hC hG hR
    have fW : Fr (WS tr) xc x := fx.mono fun c z => by
      unfold WO at z
      unfold WS
      omega
    obtain ⟨z, ez, z1⟩ := outKeeper_m hN q hi16
    unfold f_X8_outKeeper
    rw [ex, ez]
    simp only [Option.bind_some]
    rw [atv_n (L := 16) hi16 (by omega), z1.uniq (eR16 hN) (eX16 hN) (hO.2.2.2 i hi16)]
    exact both fW rfl rfl
  · rw [nodeC_11 hn, nodeM_11]
    obtain ⟨x, ex, fx, hO⟩ := out_c hN hfa hC hG hR
    have fW : Fr (WS tr) xc x := fx.mono fun c z => by
      unfold WO at z
      unfold WS
      omega
    obtain ⟨z, ez, z1, z2⟩ := outGates_m hN q hi16
    have e : x.1 57 i = z := (hO.2.1 i hi16).1.ext z1 fun v hv => by
      apply Bool.eq_iff_iff.mpr
      rw [(hO.2.1 i hi16).2 v hv, z2 v hv]
    unfold f_X8_outGates
    rw [ex, ez]
    simp only [Option.bind_some]
    rw [atv_n (L := 16) hi16 (by omega), e]
    exact both fW rfl rfl
  · rw [nodeC_12 hn, nodeM_12]
    obtain ⟨z, x, ex, fx, hz⟩ := hard_c h hi16
    obtain ⟨w, m, em, m1, m2, hw⟩ := hard_m hN q.n hi16
    have e : z = w := by
      rcases hz with ⟨c1, rfl⟩ | ⟨c1, f, rfl, c2⟩
      · rcases hw with ⟨d1, rfl⟩ | ⟨d1, g, rfl, d2⟩
        · rfl
        · exact absurd c1 d1
      · rcases hw with ⟨d1, rfl⟩ | ⟨d1, g, rfl, d2⟩
        · exact absurd d1 c1
        · rw [c2.uniq d2]
    rw [ex, em, e]
    exact ⟨w, x, m, rfl, rfl, fx, m1, m2.trans t⟩
  · rw [nodeC_13 hn, nodeM_13]
    obtain ⟨z, x, ex, fx, hz⟩ := wall_c h hi
    obtain ⟨w, em, hw⟩ := wall_m hN q hi
    have e : z = w := by
      rcases hz with ⟨c1, rfl⟩ | ⟨c1, c2, f, rfl, c3⟩
      · rcases hw with ⟨d1, rfl⟩ | ⟨d1, d2, g, rfl, d3⟩
        · rfl
        · exact absurd c1 (fun z => z.elim d1 d2)
      · rcases hw with ⟨d1, rfl⟩ | ⟨d1, d2, g, rfl, d3⟩
        · exact absurd d1 (fun z => z.elim c1 c2)
        · rw [(wl_of hN hi c1 c2 c3).uniq d3]
    rw [ex, em, e]
    exact both fx rfl rfl
  · rw [nodeC_14 hn, nodeM_14]
    rw [show (4 : Int32) = nI 4 from rfl, nI_add, gck_ni (show 4 + i < 200 by omega) (by omega), nI_clamp (show 4 + i < 2 ^ 31 by omega), m_toll q.2.1 hi16, atv_n (L := 16) hi16 (by omega), hC.2.2.2.2.2.2 i hi16]
    exact plain rfl rfl
  · rw [nodeC_15 hn, nodeM_15]
    by_cases c : Rc (Ed N 100) (fun s => s = nRt N) nox i
    · obtain ⟨z, e1, e2⟩ := fee_q hN q hC hG hi16 c
      rw [e1, if_neg (fun z => (hF.r0 hi16).mp z c), e2]
      exact plain rfl rfl
    · unfold f_X8_fee
      rw [if_pos ((hG.r0 hi16).mpr c), if_pos ((hF.r0 hi16).mpr c)]
      exact plain rfl rfl
  · rw [nodeC_16 hn, nodeM_16]
    obtain ⟨z, x, ex, fx, hz⟩ := fare_c h hi16
    obtain ⟨w, m, em, fm, hw⟩ := fare_m hN q hi
    rw [ex, em, hz.uniq hw]
    exact ⟨w, x, m, rfl, rfl, fx.mono fun c z => by unfold WS; omega, ⟨q.1.tr (fm.mono fun c j z => by unfold WQ; omega), q.2.1.fr fm (fun j => by omega), by rw [fm 81 8 (by omega)]; exact q.2.2.2.1, by rw [fm 81 10 (by omega)]; exact q.2.2.2.2⟩, by rw [fm 81 0 (by omega)]; exact t⟩
  · rw [nodeC_17 hn, nodeM_17]
    obtain ⟨z, x, e1, e2, fx⟩ := ctrl_q hN q hfa hC hX hG hR hi16
    rw [e1, e2]
    exact both (fx.mono fun c z => by
      unfold WO at z
      unfold WS
      omega) rfl rfl
  · rw [nodeC_18 hn, nodeM_18]
    obtain ⟨z, e1, e2, -⟩ := ring_q hN q hX hG hR hi16
    rw [e1, e2]
    exact plain rfl rfl
  · rw [nodeC_19 hn, nodeM_19]
    obtain ⟨x, ex, fx, hL⟩ := loops_c hE hG hR hfa
    have fW : Fr (WS tr) xc x := fx.mono fun c z => by unfold WS; omega
    obtain ⟨z, e1, e2, -⟩ := io_q hN q hL hi16
    unfold f_X8_inner
    rw [ex, e2]
    simp only [Option.bind_some]
    rw [e1]
    exact both fW rfl rfl
  · rw [nodeC_20 hn, nodeM_20]
    obtain ⟨x, ex, fx, hL⟩ := loops_c hE hG hR hfa
    have fW : Fr (WS tr) xc x := fx.mono fun c z => by unfold WS; omega
    obtain ⟨z, e1, -, w, e3, e4, e5⟩ := io_q hN q hL hi16
    unfold f_X8_outer f_X8_inner
    rw [ex, e3]
    simp only [Option.bind_some]
    rw [e1]
    simp only [Option.bind_some]
    by_cases c : z = -1
    · rw [if_pos c, e4 c]
      exact both fW rfl rfl
    · rw [if_neg c, e5 c]
      exact both fW rfl rfl
  · rw [nodeC_21 hn, nodeM_21]
    obtain ⟨z, x, e1, fx, e2⟩ := tied_q h q hi16
    rw [e1, e2]
    exact both fx rfl rfl
end
theorem M13_ok : M13 Rel := by
  rintro xc fa tr pm hm ⟨N, k, Ms, im, h⟩ a1 a2
  obtain ⟨hN, hC, hM, hz, hX, hG, hR⟩ := h.go
  obtain ⟨y, e, q, t⟩ := noNode_ok hN hM hz.1 hz.2 a1
  have hcl := c_hasNode hN hC a1
  unfold f_X10_node
  rw [e]
  simp only [Option.bind_some]
  by_cases c : ∃ k, k < nN N ∧ a1 = nI k
  · rw [if_pos c] at hcl t
    have hn : ¬ f_X6_hasNode xc a1 = 0 := by
      rw [hcl]
      exact i1n0
    rw [if_pos c, if_pos rfl]
    have ein := m_in0 (a := a2) (n := 21) (by omega)
    by_cases d : ∃ k, k ≤ 21 ∧ a2 = nI k
    · rw [if_pos d] at ein
      rw [if_neg (show ¬ f_X10_in a2 (0 : Int32) (21 : Int32) = 0 from fun z => i1n0 (ein.symm.trans z))]
      obtain ⟨i, hi, rfl⟩ := c
      obtain ⟨j, hj, rfl⟩ := d
      obtain ⟨z, x, w, e1, e2, e3, e4, e5⟩ := nd_all h.cq q t hn hi hj
      exact ⟨_, e1, _, e2, ((h.fr e3).qn e4).rel, agr_L e5 rfl⟩
    · rw [if_neg d] at ein
      rw [if_pos (show f_X10_in a2 (0 : Int32) (21 : Int32) = 0 from ein), nodeM_no]
      exact ⟨_, nodeC_no hn (fun k hk z => d ⟨k, hk, z⟩), _, rfl, (h.q (q.thr 2)).rel, agr_R2 (hm := up2 y 81 0 2) up2_at (by decide)⟩
  · rw [if_neg c] at hcl t
    rw [if_neg c, if_neg i1n0]
    have ec : f_X9_node fa tr xc a1 a2 = some (.inr 2, xc) := by
      unfold f_X9_node
      rw [if_pos hcl]
    exact ⟨_, ec, _, rfl, (h.q q).rel, agr_R1 (hm := y) t⟩
