/-! straight stretches of bytecode, printed by wip/whole/gen_blk.py -/
section BLK
variable {sc : ipSc} {call : ipCall} {MC MS : Nat} {Q : ipQ} {h : HP} {z c s : Nat}
theorem c91_72 {o_0 : Option Value} (q1 : Q none h z)  : ip sc call 91 MC MS Q 72 [o_0] [] h z c s := by
  exact ip_vret (st := []) rfl rfl q1
theorem c92_0 {r_0 : Nat} {a_1 : Nat} {o_2 : Option Value} {o_3 : Option Value} {fs1 : List Value} {q_fs1_0 : Nat} {n4 : Nat} {f5 : Nat → Int32} {g9 : Nat → Int32} {P : ipQ} (e2 : h r_0 = some (.inr (9, fs1))) (e3 : fs1[0]? = some (.ref q_fs1_0)) (e6 : h q_fs1_0 = some (.inl (0, n4, .inl f5))) (b7 : 0 < n4) (c8 : n4 < 2147483648) (d10 : upd f5 0 (nI 0) = g9) (m11 : c ≤ MC) (m12 : s ≤ MS) (hc : call 93 [(.int (nI 0))] (hup h q_fs1_0 (.inl (0, n4, .inl g9))) z 0 0 P) (K : ∀ (o : Option Value) (h2 : HP) (z2 : Nat), P o h2 z2 → ip sc call 92 MC MS Q 11 [some (.ref r_0), some (.int (nI a_1)), o_2, o_3] (o.toList ++ []) h2 z2 c s) : ip sc call 92 MC MS Q 0 [some (.ref r_0), some (.int (nI a_1)), o_2, o_3] [] h z c s := by
  refine jp_load (pc2 := 1) (n := 0) rfl rfl rfl rfl ?_
  refine jp_getf (pc2 := 4) rfl rfl e2 e3 ?_
  refine jp_con (pc2 := 5) (v := (.int (nI 0))) rfl rfl rfl ?_
  refine jp_con (pc2 := 6) (v := (.int (nI 0))) rfl rfl rfl ?_
  refine jp_iast (pc2 := 7) rfl rfl e6 (vp_in_nI b7 c8) ?_
  rw [(nI_clamp (Nat.lt_trans b7 c8))]
  rw [d10]
  refine jp_con (pc2 := 8) (v := (.int (nI 0))) rfl rfl rfl ?_
  exact jp_stat0 (pc2 := 11) (As := [(.int (nI 0))]) (rest := []) rfl rfl rfl (Nat.le_of_ble_eq_true rfl) m11 m12 (by decide) hc rfl K
theorem c92_11 {r_0 : Nat} {a_1 : Nat} {o_2 : Option Value} {o_3 : Option Value} {sa_0 : Nat}  (K : ip sc call 92 MC MS Q 14 [some (.ref r_0), some (.int (nI a_1)), some (.int (nI sa_0)), some (.int (nI 0))] [] h z c s) : ip sc call 92 MC MS Q 11 [some (.ref r_0), some (.int (nI a_1)), o_2, o_3] [(.int (nI sa_0))] h z c s := by
  refine jp_store (pc2 := 12) (n := 2) rfl rfl ⟨rfl, rfl⟩ rfl (Nat.le_of_ble_eq_true rfl) ?_
  refine jp_con (pc2 := 13) (v := (.int (nI 0))) rfl rfl rfl ?_
  refine jp_store (pc2 := 14) (n := 3) rfl rfl ⟨rfl, rfl⟩ rfl (Nat.le_of_ble_eq_true rfl) ?_
  exact K
theorem c92_14 {r_0 : Nat} {a_1 : Nat} {a_2 : Nat} {a_3 : Nat} (c1 : a_3 < 2147483648) (K1 : 332 ≤ a_3 → ip sc call 92 MC MS Q 36 [some (.ref r_0), some (.int (nI a_1)), some (.int (nI a_2)), some (.int (nI a_3))] [] h z c s) (K2 : ¬ (332 ≤ a_3) → ip sc call 92 MC MS Q 21 [some (.ref r_0), some (.int (nI a_1)), some (.int (nI a_2)), some (.int (nI a_3))] [] h z c s) : ip sc call 92 MC MS Q 14 [some (.ref r_0), some (.int (nI a_1)), some (.int (nI a_2)), some (.int (nI a_3))] [] h z c s := by
  refine jp_load (pc2 := 15) (n := 3) rfl rfl rfl rfl ?_
  refine jp_con (pc2 := 18) (v := (.int (nI 332))) rfl rfl rfl ?_
  exact jp_icmp (pc2 := 21) rfl rfl (fun q => K1 ((nI_leI (by decide) c1).mp q)) (fun q => K2 (fun r => q ((nI_leI (by decide) c1).mpr r)))
theorem c92_21 {r_0 : Nat} {a_1 : Nat} {a_2 : Nat} {a_3 : Nat} {fs1 : List Value} {q_fs1_0 : Nat} {n4 : Nat} {f5 : Nat → Int32} {g9 : Nat → Int32} (e2 : h r_0 = some (.inr (9, fs1))) (e3 : fs1[0]? = some (.ref q_fs1_0)) (e6 : h q_fs1_0 = some (.inl (0, n4, .inl f5))) (b7 : a_2 + a_3 < n4) (c8 : n4 < 2147483648) (d10 : upd f5 (a_2 + a_3) (nI 0) = g9) (K : ip sc call 92 MC MS Q 14 [some (.ref r_0), some (.int (nI a_1)), some (.int (nI a_2)), some (.int (nI (a_3 + 1)))] [] (hup h q_fs1_0 (.inl (0, n4, .inl g9))) z c s) : ip sc call 92 MC MS Q 21 [some (.ref r_0), some (.int (nI a_1)), some (.int (nI a_2)), some (.int (nI a_3))] [] h z c s := by
  refine jp_load (pc2 := 22) (n := 0) rfl rfl rfl rfl ?_
  refine jp_getf (pc2 := 25) rfl rfl e2 e3 ?_
  refine jp_load (pc2 := 26) (n := 2) rfl rfl rfl rfl ?_
  refine jp_load (pc2 := 27) (n := 3) rfl rfl rfl rfl ?_
  refine jp_bin (pc2 := 28) (v := nI (a_2 + a_3)) rfl rfl (congrArg some (nI_add _ _)) ?_
  refine jp_con (pc2 := 29) (v := (.int (nI 0))) rfl rfl rfl ?_
  refine jp_iast (pc2 := 30) rfl rfl e6 (vp_in_nI b7 c8) ?_
  rw [(nI_clamp (Nat.lt_trans b7 c8))]
  rw [d10]
  refine jp_iinc (pc2 := 33) (n := 3) (v := nI (a_3 + 1)) rfl rfl rfl (nI_add _ 1) rfl ?_
  refine ip_goto rfl ?_
  exact K
theorem c92_36 {r_0 : Nat} {a_1 : Nat} {a_2 : Nat} {o_3 : Option Value} {fs1 : List Value} {q_fs1_0 : Nat} {n4 : Nat} {f5 : Nat → Int32} {g9 : Nat → Int32} {g13 : Nat → Int32} {g16 : Nat → Int32} {g19 : Nat → Int32} {g22 : Nat → Int32} (e2 : h r_0 = some (.inr (9, fs1))) (e3 : fs1[0]? = some (.ref q_fs1_0)) (e6 : h q_fs1_0 = some (.inl (0, n4, .inl f5))) (b7 : a_2 + 0 < n4) (c8 : n4 < 2147483648) (d10 : upd f5 (a_2 + 0) (nI a_1) = g9) (n11 : r_0 ≠ q_fs1_0) (b12 : a_2 + 1 < n4) (d14 : upd g9 (a_2 + 1) (nI 1) = g13) (b15 : a_2 + 2 < n4) (d17 : upd g13 (a_2 + 2) (nI a_1) = g16) (b18 : a_2 + 3 < n4) (d20 : upd g16 (a_2 + 3) (nI a_1) = g19) (b21 : a_2 + 36 < n4) (d23 : upd g19 (a_2 + 36) (nI a_1) = g22) (K : ip sc call 92 MC MS Q 84 [some (.ref r_0), some (.int (nI a_1)), some (.int (nI a_2)), some (.int (nI 0))] [] (hup h q_fs1_0 (.inl (0, n4, .inl g22))) z c s) : ip sc call 92 MC MS Q 36 [some (.ref r_0), some (.int (nI a_1)), some (.int (nI a_2)), o_3] [] h z c s := by
  refine jp_load (pc2 := 37) (n := 0) rfl rfl rfl rfl ?_
  refine jp_getf (pc2 := 40) rfl rfl e2 e3 ?_
  refine jp_load (pc2 := 41) (n := 2) rfl rfl rfl rfl ?_
  refine jp_con (pc2 := 42) (v := (.int (nI 0))) rfl rfl rfl ?_
  refine jp_bin (pc2 := 43) (v := nI (a_2 + 0)) rfl rfl (congrArg some (nI_add _ _)) ?_
  refine jp_load (pc2 := 44) (n := 1) rfl rfl rfl rfl ?_
  refine jp_iast (pc2 := 45) rfl rfl e6 (vp_in_nI b7 c8) ?_
  rw [(nI_clamp (Nat.lt_trans b7 c8))]
  rw [d10]
  refine jp_load (pc2 := 46) (n := 0) rfl rfl rfl rfl ?_
  refine jp_getf (pc2 := 49) rfl rfl (hup_ne n11 e2) e3 ?_
  refine jp_load (pc2 := 50) (n := 2) rfl rfl rfl rfl ?_
  refine jp_con (pc2 := 51) (v := (.int (nI 1))) rfl rfl rfl ?_
  refine jp_bin (pc2 := 52) (v := nI (a_2 + 1)) rfl rfl (congrArg some (nI_add _ _)) ?_
  refine jp_con (pc2 := 53) (v := (.int (nI 1))) rfl rfl rfl ?_
  refine jp_iast (pc2 := 54) rfl rfl hup_eq (vp_in_nI b12 c8) ?_
  rw [(nI_clamp (Nat.lt_trans b12 c8))]
  rw [d14]
  rw [hup_hup]
  refine jp_load (pc2 := 55) (n := 0) rfl rfl rfl rfl ?_
  refine jp_getf (pc2 := 58) rfl rfl (hup_ne n11 e2) e3 ?_
  refine jp_load (pc2 := 59) (n := 2) rfl rfl rfl rfl ?_
  refine jp_con (pc2 := 60) (v := (.int (nI 2))) rfl rfl rfl ?_
  refine jp_bin (pc2 := 61) (v := nI (a_2 + 2)) rfl rfl (congrArg some (nI_add _ _)) ?_
  refine jp_load (pc2 := 62) (n := 1) rfl rfl rfl rfl ?_
  refine jp_iast (pc2 := 63) rfl rfl hup_eq (vp_in_nI b15 c8) ?_
  rw [(nI_clamp (Nat.lt_trans b15 c8))]
  rw [d17]
  rw [hup_hup]
  refine jp_load (pc2 := 64) (n := 0) rfl rfl rfl rfl ?_
  refine jp_getf (pc2 := 67) rfl rfl (hup_ne n11 e2) e3 ?_
  refine jp_load (pc2 := 68) (n := 2) rfl rfl rfl rfl ?_
  refine jp_con (pc2 := 69) (v := (.int (nI 3))) rfl rfl rfl ?_
  refine jp_bin (pc2 := 70) (v := nI (a_2 + 3)) rfl rfl (congrArg some (nI_add _ _)) ?_
  refine jp_load (pc2 := 71) (n := 1) rfl rfl rfl rfl ?_
  refine jp_iast (pc2 := 72) rfl rfl hup_eq (vp_in_nI b18 c8) ?_
  rw [(nI_clamp (Nat.lt_trans b18 c8))]
  rw [d20]
  rw [hup_hup]
  refine jp_load (pc2 := 73) (n := 0) rfl rfl rfl rfl ?_
  refine jp_getf (pc2 := 76) rfl rfl (hup_ne n11 e2) e3 ?_
  refine jp_load (pc2 := 77) (n := 2) rfl rfl rfl rfl ?_
  refine jp_con (pc2 := 79) (v := (.int (nI 36))) rfl rfl rfl ?_
  refine jp_bin (pc2 := 80) (v := nI (a_2 + 36)) rfl rfl (congrArg some (nI_add _ _)) ?_
  refine jp_load (pc2 := 81) (n := 1) rfl rfl rfl rfl ?_
  refine jp_iast (pc2 := 82) rfl rfl hup_eq (vp_in_nI b21 c8) ?_
  rw [(nI_clamp (Nat.lt_trans b21 c8))]
  rw [d23]
  rw [hup_hup]
  refine jp_con (pc2 := 83) (v := (.int (nI 0))) rfl rfl rfl ?_
  refine jp_store (pc2 := 84) (n := 3) rfl rfl ⟨rfl, rfl⟩ rfl (Nat.le_of_ble_eq_true rfl) ?_
  exact K
theorem c92_84 {r_0 : Nat} {a_1 : Nat} {a_2 : Nat} {a_3 : Nat} (c1 : a_3 < 2147483648) (c2 : a_1 < 2147483648) (K1 : a_1 ≤ a_3 → ip sc call 92 MC MS Q 131 [some (.ref r_0), some (.int (nI a_1)), some (.int (nI a_2)), some (.int (nI a_3))] [] h z c s) (K2 : ¬ (a_1 ≤ a_3) → ip sc call 92 MC MS Q 89 [some (.ref r_0), some (.int (nI a_1)), some (.int (nI a_2)), some (.int (nI a_3))] [] h z c s) : ip sc call 92 MC MS Q 84 [some (.ref r_0), some (.int (nI a_1)), some (.int (nI a_2)), some (.int (nI a_3))] [] h z c s := by
  refine jp_load (pc2 := 85) (n := 3) rfl rfl rfl rfl ?_
  refine jp_load (pc2 := 86) (n := 1) rfl rfl rfl rfl ?_
  exact jp_icmp (pc2 := 89) rfl rfl (fun q => K1 ((nI_leI c2 c1).mp q)) (fun q => K2 (fun r => q ((nI_leI c2 c1).mpr r)))
theorem c92_89 {r_0 : Nat} {a_1 : Nat} {a_2 : Nat} {a_3 : Nat} {fs1 : List Value} {q_fs1_0 : Nat} {n4 : Nat} {f5 : Nat → Int32} {g9 : Nat → Int32} {g13 : Nat → Int32} {g16 : Nat → Int32} (e2 : h r_0 = some (.inr (9, fs1))) (e3 : fs1[0]? = some (.ref q_fs1_0)) (e6 : h q_fs1_0 = some (.inl (0, n4, .inl f5))) (b7 : (a_2 + 4) + a_3 < n4) (c8 : n4 < 2147483648) (d10 : upd f5 ((a_2 + 4) + a_3) (nI 3) = g9) (n11 : r_0 ≠ q_fs1_0) (b12 : (a_2 + 68) + a_3 < n4) (d14 : upd g9 ((a_2 + 68) + a_3) (nI 1) = g13) (b15 : (a_2 + 132) + a_3 < n4) (d17 : upd g13 ((a_2 + 132) + a_3) (nI a_3) = g16) (K : ip sc call 92 MC MS Q 84 [some (.ref r_0), some (.int (nI a_1)), some (.int (nI a_2)), some (.int (nI (a_3 + 1)))] [] (hup h q_fs1_0 (.inl (0, n4, .inl g16))) z c s) : ip sc call 92 MC MS Q 89 [some (.ref r_0), some (.int (nI a_1)), some (.int (nI a_2)), some (.int (nI a_3))] [] h z c s := by
  refine jp_load (pc2 := 90) (n := 0) rfl rfl rfl rfl ?_
  refine jp_getf (pc2 := 93) rfl rfl e2 e3 ?_
  refine jp_load (pc2 := 94) (n := 2) rfl rfl rfl rfl ?_
  refine jp_con (pc2 := 95) (v := (.int (nI 4))) rfl rfl rfl ?_
  refine jp_bin (pc2 := 96) (v := nI (a_2 + 4)) rfl rfl (congrArg some (nI_add _ _)) ?_
  refine jp_load (pc2 := 97) (n := 3) rfl rfl rfl rfl ?_
  refine jp_bin (pc2 := 98) (v := nI ((a_2 + 4) + a_3)) rfl rfl (congrArg some (nI_add _ _)) ?_
  refine jp_con (pc2 := 99) (v := (.int (nI 3))) rfl rfl rfl ?_
  refine jp_iast (pc2 := 100) rfl rfl e6 (vp_in_nI b7 c8) ?_
  rw [(nI_clamp (Nat.lt_trans b7 c8))]
  rw [d10]
  refine jp_load (pc2 := 101) (n := 0) rfl rfl rfl rfl ?_
  refine jp_getf (pc2 := 104) rfl rfl (hup_ne n11 e2) e3 ?_
  refine jp_load (pc2 := 105) (n := 2) rfl rfl rfl rfl ?_
  refine jp_con (pc2 := 107) (v := (.int (nI 68))) rfl rfl rfl ?_
  refine jp_bin (pc2 := 108) (v := nI (a_2 + 68)) rfl rfl (congrArg some (nI_add _ _)) ?_
  refine jp_load (pc2 := 109) (n := 3) rfl rfl rfl rfl ?_
  refine jp_bin (pc2 := 110) (v := nI ((a_2 + 68) + a_3)) rfl rfl (congrArg some (nI_add _ _)) ?_
  refine jp_con (pc2 := 111) (v := (.int (nI 1))) rfl rfl rfl ?_
  refine jp_iast (pc2 := 112) rfl rfl hup_eq (vp_in_nI b12 c8) ?_
  rw [(nI_clamp (Nat.lt_trans b12 c8))]
  rw [d14]
  rw [hup_hup]
  refine jp_load (pc2 := 113) (n := 0) rfl rfl rfl rfl ?_
  refine jp_getf (pc2 := 116) rfl rfl (hup_ne n11 e2) e3 ?_
  refine jp_load (pc2 := 117) (n := 2) rfl rfl rfl rfl ?_
  refine jp_con (pc2 := 120) (v := (.int (nI 132))) rfl rfl rfl ?_
  refine jp_bin (pc2 := 121) (v := nI (a_2 + 132)) rfl rfl (congrArg some (nI_add _ _)) ?_
  refine jp_load (pc2 := 122) (n := 3) rfl rfl rfl rfl ?_
  refine jp_bin (pc2 := 123) (v := nI ((a_2 + 132) + a_3)) rfl rfl (congrArg some (nI_add _ _)) ?_
  refine jp_load (pc2 := 124) (n := 3) rfl rfl rfl rfl ?_
  refine jp_iast (pc2 := 125) rfl rfl hup_eq (vp_in_nI b15 c8) ?_
  rw [(nI_clamp (Nat.lt_trans b15 c8))]
  rw [d17]
  rw [hup_hup]
  refine jp_iinc (pc2 := 128) (n := 3) (v := nI (a_3 + 1)) rfl rfl rfl (nI_add _ 1) rfl ?_
  refine ip_goto rfl ?_
  exact K
theorem c92_131 {o_0 : Option Value} {o_1 : Option Value} {o_2 : Option Value} {o_3 : Option Value} (q1 : Q none h z)  : ip sc call 92 MC MS Q 131 [o_0, o_1, o_2, o_3] [] h z c s := by
  exact ip_vret (st := []) rfl rfl q1
theorem c93_0 {a_0 : Nat} (q1 : Q (some (.int (nI (4 + (332 * a_0))))) h z)  : ip sc call 93 MC MS Q 0 [some (.int (nI a_0))] [] h z c s := by
  refine jp_con (pc2 := 1) (v := (.int (nI 4))) rfl rfl rfl ?_
  refine jp_con (pc2 := 4) (v := (.int (nI 332))) rfl rfl rfl ?_
  refine jp_load (pc2 := 5) (n := 0) rfl rfl rfl rfl ?_
  refine jp_bin (pc2 := 6) (v := nI (332 * a_0)) rfl rfl (congrArg some (pk_mul _ _)) ?_
  refine jp_bin (pc2 := 7) (v := nI (4 + (332 * a_0))) rfl rfl (congrArg some (nI_add _ _)) ?_
  exact ip_iret (st := []) rfl rfl rfl q1
theorem c94_0 {r_0 : Nat} {fs1 : List Value} {q_fs1_0 : Nat} {n4 : Nat} {f5 : Nat → Int32} {v9 : Nat} {P : ipQ} (e2 : h r_0 = some (.inr (9, fs1))) (e3 : fs1[0]? = some (.ref q_fs1_0)) (e6 : h q_fs1_0 = some (.inl (0, n4, .inl f5))) (b7 : 0 < n4) (c8 : n4 < 2147483648) (e10 : f5 0 = nI v9) (m11 : c ≤ MC) (m12 : s ≤ MS) (hc : call 93 [(.int (nI v9))] h z 0 0 P) (K : ∀ (o : Option Value) (h2 : HP) (z2 : Nat), P o h2 z2 → ip sc call 94 MC MS Q 9 [some (.ref r_0)] (o.toList ++ []) h2 z2 c s) : ip sc call 94 MC MS Q 0 [some (.ref r_0)] [] h z c s := by
  refine jp_load (pc2 := 1) (n := 0) rfl rfl rfl rfl ?_
  refine jp_getf (pc2 := 4) rfl rfl e2 e3 ?_
  refine jp_con (pc2 := 5) (v := (.int (nI 0))) rfl rfl rfl ?_
  refine jp_iald (pc2 := 6) rfl rfl e6 (vp_in_nI b7 c8) ?_
  rw [(nI_clamp (Nat.lt_trans b7 c8))]
  rw [e10]
  exact jp_stat0 (pc2 := 9) (As := [(.int (nI v9))]) (rest := []) rfl rfl rfl (Nat.le_of_ble_eq_true rfl) m11 m12 (by decide) hc rfl K
theorem c94_9 {o_0 : Option Value} {sa_0 : Nat} (q1 : Q (some (.int (nI sa_0))) h z)  : ip sc call 94 MC MS Q 9 [o_0] [(.int (nI sa_0))] h z c s := by
  exact ip_iret (st := []) rfl rfl rfl q1
theorem c95_0 {a_0 : Nat} {a_1 : Nat} (c1 : a_0 < 2147483648) (K1 : a_0 < 0 → ip sc call 95 MC MS Q 13 [some (.int (nI a_0)), some (.int (nI a_1))] [] h z c s) (K2 : ¬ (a_0 < 0) → ip sc call 95 MC MS Q 4 [some (.int (nI a_0)), some (.int (nI a_1))] [] h z c s) : ip sc call 95 MC MS Q 0 [some (.int (nI a_0)), some (.int (nI a_1))] [] h z c s := by
  refine jp_load (pc2 := 1) (n := 0) rfl rfl rfl rfl ?_
  exact jp_if0 (pc2 := 4) rfl rfl (fun q => K1 ((nI_ltI c1 (by decide)).mp q)) (fun q => K2 (fun r => q ((nI_ltI c1 (by decide)).mpr r)))
theorem c95_4 {a_0 : Nat} {a_1 : Nat} (c1 : a_0 < 2147483648) (c2 : a_1 < 2147483648) (K1 : a_1 ≤ a_0 → ip sc call 95 MC MS Q 13 [some (.int (nI a_0)), some (.int (nI a_1))] [] h z c s) (K2 : ¬ (a_1 ≤ a_0) → ip sc call 95 MC MS Q 9 [some (.int (nI a_0)), some (.int (nI a_1))] [] h z c s) : ip sc call 95 MC MS Q 4 [some (.int (nI a_0)), some (.int (nI a_1))] [] h z c s := by
  refine jp_load (pc2 := 5) (n := 0) rfl rfl rfl rfl ?_
  refine jp_load (pc2 := 6) (n := 1) rfl rfl rfl rfl ?_
  exact jp_icmp (pc2 := 9) rfl rfl (fun q => K1 ((nI_leI c2 c1).mp q)) (fun q => K2 (fun r => q ((nI_leI c2 c1).mpr r)))
theorem c95_9 {o_0 : Option Value} {o_1 : Option Value}  (K : ip sc call 95 MC MS Q 14 [o_0, o_1] [(.int (nI 1))] h z c s) : ip sc call 95 MC MS Q 9 [o_0, o_1] [] h z c s := by
  refine jp_con (pc2 := 10) (v := (.int (nI 1))) rfl rfl rfl ?_
  refine ip_goto rfl ?_
  exact K
theorem c95_13 {o_0 : Option Value} {o_1 : Option Value}  (K : ip sc call 95 MC MS Q 14 [o_0, o_1] [(.int (nI 0))] h z c s) : ip sc call 95 MC MS Q 13 [o_0, o_1] [] h z c s := by
  refine jp_con (pc2 := 14) (v := (.int (nI 0))) rfl rfl rfl ?_
  exact K
theorem c95_14 {o_0 : Option Value} {o_1 : Option Value} {sa_0 : Nat} (t1 : narrow .boolean (.int (nI sa_0)) = .int (nI sa_0)) (q2 : Q (some (.int (nI sa_0))) h z)  : ip sc call 95 MC MS Q 14 [o_0, o_1] [(.int (nI sa_0))] h z c s := by
  exact ip_iret (st := []) rfl rfl t1 q2
theorem c96_0 {r_0 : Nat} {a_1 : Nat} (c1 : a_1 < 2147483648) (K1 : a_1 < 1 → ip sc call 96 MC MS Q 11 [some (.ref r_0), some (.int (nI a_1))] [] h z c s) (K2 : ¬ (a_1 < 1) → ip sc call 96 MC MS Q 5 [some (.ref r_0), some (.int (nI a_1))] [] h z c s) : ip sc call 96 MC MS Q 0 [some (.ref r_0), some (.int (nI a_1))] [] h z c s := by
  refine jp_load (pc2 := 1) (n := 1) rfl rfl rfl rfl ?_
  refine jp_con (pc2 := 2) (v := (.int (nI 1))) rfl rfl rfl ?_
  exact jp_icmp (pc2 := 5) rfl rfl (fun q => K1 ((nI_ltI c1 (by decide)).mp q)) (fun q => K2 (fun r => q ((nI_ltI c1 (by decide)).mpr r)))
theorem c96_5 {r_0 : Nat} {a_1 : Nat} (c1 : a_1 < 2147483648) (K1 : a_1 ≤ 8 → ip sc call 96 MC MS Q 13 [some (.ref r_0), some (.int (nI a_1))] [] h z c s) (K2 : ¬ (a_1 ≤ 8) → ip sc call 96 MC MS Q 11 [some (.ref r_0), some (.int (nI a_1))] [] h z c s) : ip sc call 96 MC MS Q 5 [some (.ref r_0), some (.int (nI a_1))] [] h z c s := by
  refine jp_load (pc2 := 6) (n := 1) rfl rfl rfl rfl ?_
  refine jp_con (pc2 := 8) (v := (.int (nI 8))) rfl rfl rfl ?_
  exact jp_icmp (pc2 := 11) rfl rfl (fun q => K1 ((nI_leI c1 (by decide)).mp q)) (fun q => K2 (fun r => q ((nI_leI c1 (by decide)).mpr r)))
theorem c96_11 {o_0 : Option Value} {o_1 : Option Value} (q1 : Q (some (.int (nI 0))) h z)  : ip sc call 96 MC MS Q 11 [o_0, o_1] [] h z c s := by
  refine jp_con (pc2 := 12) (v := (.int (nI 0))) rfl rfl rfl ?_
  exact ip_iret (st := []) rfl rfl rfl q1
theorem c96_13 {r_0 : Nat} {a_1 : Nat} {fs1 : List Value} {P : ipQ} (e2 : h r_0 = some (.inr (9, fs1))) (m3 : c ≤ MC) (m4 : s ≤ MS) (hc : call 92 [(.ref r_0), (.int (nI a_1))] h z 0 0 P) (K : ∀ (o : Option Value) (h2 : HP) (z2 : Nat), P o h2 z2 → ip sc call 96 MC MS Q 18 [some (.ref r_0), some (.int (nI a_1))] (o.toList ++ []) h2 z2 c s) : ip sc call 96 MC MS Q 13 [some (.ref r_0), some (.int (nI a_1))] [] h z c s := by
  refine jp_load (pc2 := 14) (n := 0) rfl rfl rfl rfl ?_
  refine jp_load (pc2 := 15) (n := 1) rfl rfl rfl rfl ?_
  exact jp_virt0 (pc2 := 18) (As := [(.int (nI a_1))]) (rest := []) rfl rfl rfl (Nat.le_of_ble_eq_true rfl) e2 m3 m4 hc rfl K
theorem c96_18 {o_0 : Option Value} {o_1 : Option Value} (q1 : Q (some (.int (nI 1))) h z)  : ip sc call 96 MC MS Q 18 [o_0, o_1] [] h z c s := by
  refine jp_con (pc2 := 19) (v := (.int (nI 1))) rfl rfl rfl ?_
  exact ip_iret (st := []) rfl rfl rfl q1
theorem c97_0 {r_0 : Nat} {a_1 : Nat} {a_2 : Nat} {o_3 : Option Value} {o_4 : Option Value}  (K : ip sc call 97 MC MS Q 5 [some (.ref r_0), some (.int (nI a_1)), some (.int (nI a_2)), some (.int (nI 0)), some (.int (nI 0))] [] h z c s) : ip sc call 97 MC MS Q 0 [some (.ref r_0), some (.int (nI a_1)), some (.int (nI a_2)), o_3, o_4] [] h z c s := by
  refine jp_con (pc2 := 1) (v := (.int (nI 0))) rfl rfl rfl ?_
  refine jp_store (pc2 := 2) (n := 3) rfl rfl ⟨rfl, rfl⟩ rfl (Nat.le_of_ble_eq_true rfl) ?_
  refine jp_con (pc2 := 3) (v := (.int (nI 0))) rfl rfl rfl ?_
  refine jp_store (pc2 := 5) (n := 4) rfl rfl ⟨rfl, rfl⟩ rfl (Nat.le_of_ble_eq_true rfl) ?_
  exact K
theorem c97_5 {r_0 : Nat} {a_1 : Nat} {a_2 : Nat} {a_3 : Nat} {a_4 : Nat} (c1 : a_4 < 2147483648) (c2 : a_2 < 2147483648) (K1 : a_2 ≤ a_4 → ip sc call 97 MC MS Q 32 [some (.ref r_0), some (.int (nI a_1)), some (.int (nI a_2)), some (.int (nI a_3)), some (.int (nI a_4))] [] h z c s) (K2 : ¬ (a_2 ≤ a_4) → ip sc call 97 MC MS Q 11 [some (.ref r_0), some (.int (nI a_1)), some (.int (nI a_2)), some (.int (nI a_3)), some (.int (nI a_4))] [] h z c s) : ip sc call 97 MC MS Q 5 [some (.ref r_0), some (.int (nI a_1)), some (.int (nI a_2)), some (.int (nI a_3)), some (.int (nI a_4))] [] h z c s := by
  refine jp_load (pc2 := 7) (n := 4) rfl rfl rfl rfl ?_
  refine jp_load (pc2 := 8) (n := 2) rfl rfl rfl rfl ?_
  exact jp_icmp (pc2 := 11) rfl rfl (fun q => K1 ((nI_leI c2 c1).mp q)) (fun q => K2 (fun r => q ((nI_leI c2 c1).mpr r)))
theorem c97_11 {r_0 : Nat} {a_1 : Nat} {a_2 : Nat} {a_3 : Nat} {a_4 : Nat} {fs1 : List Value} {q_fs1_0 : Nat} {n4 : Nat} {f5 : Nat → Int32} {v9 : Nat} (e2 : h r_0 = some (.inr (9, fs1))) (e3 : fs1[0]? = some (.ref q_fs1_0)) (e6 : h q_fs1_0 = some (.inl (0, n4, .inl f5))) (b7 : (a_1 + 36) + a_4 < n4) (c8 : n4 < 2147483648) (e10 : f5 ((a_1 + 36) + a_4) = nI v9) (K : ip sc call 97 MC MS Q 5 [some (.ref r_0), some (.int (nI a_1)), some (.int (nI a_2)), some (.int (nI (a_3 + v9))), some (.int (nI (a_4 + 1)))] [] h z c s) : ip sc call 97 MC MS Q 11 [some (.ref r_0), some (.int (nI a_1)), some (.int (nI a_2)), some (.int (nI a_3)), some (.int (nI a_4))] [] h z c s := by
  refine jp_load (pc2 := 12) (n := 3) rfl rfl rfl rfl ?_
  refine jp_load (pc2 := 13) (n := 0) rfl rfl rfl rfl ?_
  refine jp_getf (pc2 := 16) rfl rfl e2 e3 ?_
  refine jp_load (pc2 := 17) (n := 1) rfl rfl rfl rfl ?_
  refine jp_con (pc2 := 19) (v := (.int (nI 36))) rfl rfl rfl ?_
  refine jp_bin (pc2 := 20) (v := nI (a_1 + 36)) rfl rfl (congrArg some (nI_add _ _)) ?_
  refine jp_load (pc2 := 22) (n := 4) rfl rfl rfl rfl ?_
  refine jp_bin (pc2 := 23) (v := nI ((a_1 + 36) + a_4)) rfl rfl (congrArg some (nI_add _ _)) ?_
  refine jp_iald (pc2 := 24) rfl rfl e6 (vp_in_nI b7 c8) ?_
  rw [(nI_clamp (Nat.lt_trans b7 c8))]
  rw [e10]
  refine jp_bin (pc2 := 25) (v := nI (a_3 + v9)) rfl rfl (congrArg some (nI_add _ _)) ?_
  refine jp_store (pc2 := 26) (n := 3) rfl rfl ⟨rfl, rfl⟩ rfl (Nat.le_of_ble_eq_true rfl) ?_
  refine jp_iinc (pc2 := 29) (n := 4) (v := nI (a_4 + 1)) rfl rfl rfl (nI_add _ 1) rfl ?_
  refine ip_goto rfl ?_
  exact K
theorem c97_32 {o_0 : Option Value} {o_1 : Option Value} {o_2 : Option Value} {a_3 : Nat} {o_4 : Option Value} (q1 : Q (some (.int (nI a_3))) h z)  : ip sc call 97 MC MS Q 32 [o_0, o_1, o_2, some (.int (nI a_3)), o_4] [] h z c s := by
  refine jp_load (pc2 := 33) (n := 3) rfl rfl rfl rfl ?_
  exact ip_iret (st := []) rfl rfl rfl q1
theorem c98_0 {r_0 : Nat} {a_1 : Nat} {a_2 : Nat} {o_3 : Option Value} {o_4 : Option Value}  (K : ip sc call 98 MC MS Q 9 [some (.ref r_0), some (.int (nI a_1)), some (.int (nI a_2)), some (.int (nI (a_1 + 132))), some (.int (nI 0))] [] h z c s) : ip sc call 98 MC MS Q 0 [some (.ref r_0), some (.int (nI a_1)), some (.int (nI a_2)), o_3, o_4] [] h z c s := by
  refine jp_load (pc2 := 1) (n := 1) rfl rfl rfl rfl ?_
  refine jp_con (pc2 := 4) (v := (.int (nI 132))) rfl rfl rfl ?_
  refine jp_bin (pc2 := 5) (v := nI (a_1 + 132)) rfl rfl (congrArg some (nI_add _ _)) ?_
  refine jp_store (pc2 := 6) (n := 3) rfl rfl ⟨rfl, rfl⟩ rfl (Nat.le_of_ble_eq_true rfl) ?_
  refine jp_con (pc2 := 7) (v := (.int (nI 0))) rfl rfl rfl ?_
  refine jp_store (pc2 := 9) (n := 4) rfl rfl ⟨rfl, rfl⟩ rfl (Nat.le_of_ble_eq_true rfl) ?_
  exact K
theorem c98_9 {r_0 : Nat} {a_1 : Nat} {a_2 : Nat} {a_3 : Nat} {a_4 : Nat} (c1 : a_4 < 2147483648) (c2 : a_2 < 2147483648) (K1 : a_2 ≤ a_4 → ip sc call 98 MC MS Q 36 [some (.ref r_0), some (.int (nI a_1)), some (.int (nI a_2)), some (.int (nI a_3)), some (.int (nI a_4))] [] h z c s) (K2 : ¬ (a_2 ≤ a_4) → ip sc call 98 MC MS Q 15 [some (.ref r_0), some (.int (nI a_1)), some (.int (nI a_2)), some (.int (nI a_3)), some (.int (nI a_4))] [] h z c s) : ip sc call 98 MC MS Q 9 [some (.ref r_0), some (.int (nI a_1)), some (.int (nI a_2)), some (.int (nI a_3)), some (.int (nI a_4))] [] h z c s := by
  refine jp_load (pc2 := 11) (n := 4) rfl rfl rfl rfl ?_
  refine jp_load (pc2 := 12) (n := 2) rfl rfl rfl rfl ?_
  exact jp_icmp (pc2 := 15) rfl rfl (fun q => K1 ((nI_leI c2 c1).mp q)) (fun q => K2 (fun r => q ((nI_leI c2 c1).mpr r)))
theorem c98_15 {r_0 : Nat} {a_1 : Nat} {a_2 : Nat} {a_3 : Nat} {a_4 : Nat} {fs1 : List Value} {q_fs1_0 : Nat} {n4 : Nat} {f5 : Nat → Int32} {v9 : Nat} (e2 : h r_0 = some (.inr (9, fs1))) (e3 : fs1[0]? = some (.ref q_fs1_0)) (e6 : h q_fs1_0 = some (.inl (0, n4, .inl f5))) (b7 : (a_1 + 68) + a_4 < n4) (c8 : n4 < 2147483648) (e10 : f5 ((a_1 + 68) + a_4) = nI v9) (K : ip sc call 98 MC MS Q 9 [some (.ref r_0), some (.int (nI a_1)), some (.int (nI a_2)), some (.int (nI (a_3 + v9))), some (.int (nI (a_4 + 1)))] [] h z c s) : ip sc call 98 MC MS Q 15 [some (.ref r_0), some (.int (nI a_1)), some (.int (nI a_2)), some (.int (nI a_3)), some (.int (nI a_4))] [] h z c s := by
  refine jp_load (pc2 := 16) (n := 3) rfl rfl rfl rfl ?_
  refine jp_load (pc2 := 17) (n := 0) rfl rfl rfl rfl ?_
  refine jp_getf (pc2 := 20) rfl rfl e2 e3 ?_
  refine jp_load (pc2 := 21) (n := 1) rfl rfl rfl rfl ?_
  refine jp_con (pc2 := 23) (v := (.int (nI 68))) rfl rfl rfl ?_
  refine jp_bin (pc2 := 24) (v := nI (a_1 + 68)) rfl rfl (congrArg some (nI_add _ _)) ?_
  refine jp_load (pc2 := 26) (n := 4) rfl rfl rfl rfl ?_
  refine jp_bin (pc2 := 27) (v := nI ((a_1 + 68) + a_4)) rfl rfl (congrArg some (nI_add _ _)) ?_
  refine jp_iald (pc2 := 28) rfl rfl e6 (vp_in_nI b7 c8) ?_
  rw [(nI_clamp (Nat.lt_trans b7 c8))]
  rw [e10]
  refine jp_bin (pc2 := 29) (v := nI (a_3 + v9)) rfl rfl (congrArg some (nI_add _ _)) ?_
  refine jp_store (pc2 := 30) (n := 3) rfl rfl ⟨rfl, rfl⟩ rfl (Nat.le_of_ble_eq_true rfl) ?_
  refine jp_iinc (pc2 := 33) (n := 4) (v := nI (a_4 + 1)) rfl rfl rfl (nI_add _ 1) rfl ?_
  refine ip_goto rfl ?_
  exact K
theorem c98_36 {o_0 : Option Value} {o_1 : Option Value} {o_2 : Option Value} {a_3 : Nat} {o_4 : Option Value} (q1 : Q (some (.int (nI a_3))) h z)  : ip sc call 98 MC MS Q 36 [o_0, o_1, o_2, some (.int (nI a_3)), o_4] [] h z c s := by
  refine jp_load (pc2 := 37) (n := 3) rfl rfl rfl rfl ?_
  exact ip_iret (st := []) rfl rfl rfl q1
theorem c99_0 {r_0 : Nat} {a_1 : Nat} {fs1 : List Value} {q_fs1_0 : Nat} {n4 : Nat} {f5 : Nat → Int32} {v9 : Nat} {g12 : Nat → Int32} {v15 : Nat} {g17 : Nat → Int32} {v20 : Nat} {v24 : Nat} {g26 : Nat → Int32} (e2 : h r_0 = some (.inr (9, fs1))) (e3 : fs1[0]? = some (.ref q_fs1_0)) (e6 : h q_fs1_0 = some (.inl (0, n4, .inl f5))) (b7 : a_1 + 2 < n4) (c8 : n4 < 2147483648) (e10 : f5 (a_1 + 2) = nI v9) (b11 : (a_1 + 68) + v9 < n4) (d13 : upd f5 ((a_1 + 68) + v9) (nI 0) = g12) (n14 : r_0 ≠ q_fs1_0) (e16 : g12 (a_1 + 2) = nI v15) (d18 : upd g12 (a_1 + 2) (nI (v15 + 1)) = g17) (b19 : a_1 + 1 < n4) (e21 : g17 (a_1 + 1) = nI v20) (d22 : 1 ≤ ((a_1 + 36) + v20)) (b23 : ((a_1 + 36) + v20) - 1 < n4) (e25 : g17 (((a_1 + 36) + v20) - 1) = nI v24) (d27 : upd g17 (((a_1 + 36) + v20) - 1) (nI (v24 + 1)) = g26) (q28 : Q none (hup h q_fs1_0 (.inl (0, n4, .inl g26))) z)  : ip sc call 99 MC MS Q 0 [some (.ref r_0), some (.int (nI a_1))] [] h z c s := by
  refine jp_load (pc2 := 1) (n := 0) rfl rfl rfl rfl ?_
  refine jp_getf (pc2 := 4) rfl rfl e2 e3 ?_
  refine jp_load (pc2 := 5) (n := 1) rfl rfl rfl rfl ?_
  refine jp_con (pc2 := 7) (v := (.int (nI 68))) rfl rfl rfl ?_
  refine jp_bin (pc2 := 8) (v := nI (a_1 + 68)) rfl rfl (congrArg some (nI_add _ _)) ?_
  refine jp_load (pc2 := 9) (n := 0) rfl rfl rfl rfl ?_
  refine jp_getf (pc2 := 12) rfl rfl e2 e3 ?_
  refine jp_load (pc2 := 13) (n := 1) rfl rfl rfl rfl ?_
  refine jp_con (pc2 := 14) (v := (.int (nI 2))) rfl rfl rfl ?_
  refine jp_bin (pc2 := 15) (v := nI (a_1 + 2)) rfl rfl (congrArg some (nI_add _ _)) ?_
  refine jp_iald (pc2 := 16) rfl rfl e6 (vp_in_nI b7 c8) ?_
  rw [(nI_clamp (Nat.lt_trans b7 c8))]
  rw [e10]
  refine jp_bin (pc2 := 17) (v := nI ((a_1 + 68) + v9)) rfl rfl (congrArg some (nI_add _ _)) ?_
  refine jp_con (pc2 := 18) (v := (.int (nI 0))) rfl rfl rfl ?_
  refine jp_iast (pc2 := 19) rfl rfl e6 (vp_in_nI b11 c8) ?_
  rw [(nI_clamp (Nat.lt_trans b11 c8))]
  rw [d13]
  refine jp_load (pc2 := 20) (n := 0) rfl rfl rfl rfl ?_
  refine jp_getf (pc2 := 23) rfl rfl (hup_ne n14 e2) e3 ?_
  refine jp_load (pc2 := 24) (n := 1) rfl rfl rfl rfl ?_
  refine jp_con (pc2 := 25) (v := (.int (nI 2))) rfl rfl rfl ?_
  refine jp_bin (pc2 := 26) (v := nI (a_1 + 2)) rfl rfl (congrArg some (nI_add _ _)) ?_
  refine jp_dup2 (pc2 := 27) rfl rfl rfl rfl ?_
  refine jp_iald (pc2 := 28) rfl rfl hup_eq (vp_in_nI b7 c8) ?_
  rw [(nI_clamp (Nat.lt_trans b7 c8))]
  rw [e16]
  refine jp_con (pc2 := 29) (v := (.int (nI 1))) rfl rfl rfl ?_
  refine jp_bin (pc2 := 30) (v := nI (v15 + 1)) rfl rfl (congrArg some (nI_add _ _)) ?_
  refine jp_iast (pc2 := 31) rfl rfl hup_eq (vp_in_nI b7 c8) ?_
  rw [(nI_clamp (Nat.lt_trans b7 c8))]
  rw [d18]
  rw [hup_hup]
  refine jp_load (pc2 := 32) (n := 0) rfl rfl rfl rfl ?_
  refine jp_getf (pc2 := 35) rfl rfl (hup_ne n14 e2) e3 ?_
  refine jp_load (pc2 := 36) (n := 1) rfl rfl rfl rfl ?_
  refine jp_con (pc2 := 38) (v := (.int (nI 36))) rfl rfl rfl ?_
  refine jp_bin (pc2 := 39) (v := nI (a_1 + 36)) rfl rfl (congrArg some (nI_add _ _)) ?_
  refine jp_load (pc2 := 40) (n := 0) rfl rfl rfl rfl ?_
  refine jp_getf (pc2 := 43) rfl rfl (hup_ne n14 e2) e3 ?_
  refine jp_load (pc2 := 44) (n := 1) rfl rfl rfl rfl ?_
  refine jp_con (pc2 := 45) (v := (.int (nI 1))) rfl rfl rfl ?_
  refine jp_bin (pc2 := 46) (v := nI (a_1 + 1)) rfl rfl (congrArg some (nI_add _ _)) ?_
  refine jp_iald (pc2 := 47) rfl rfl hup_eq (vp_in_nI b19 c8) ?_
  rw [(nI_clamp (Nat.lt_trans b19 c8))]
  rw [e21]
  refine jp_bin (pc2 := 48) (v := nI ((a_1 + 36) + v20)) rfl rfl (congrArg some (nI_add _ _)) ?_
  refine jp_con (pc2 := 49) (v := (.int (nI 1))) rfl rfl rfl ?_
  refine jp_bin (pc2 := 50) (v := nI (((a_1 + 36) + v20) - 1)) rfl rfl (congrArg some (pk_sub d22)) ?_
  refine jp_dup2 (pc2 := 51) rfl rfl rfl rfl ?_
  refine jp_iald (pc2 := 52) rfl rfl hup_eq (vp_in_nI b23 c8) ?_
  rw [(nI_clamp (Nat.lt_trans b23 c8))]
  rw [e25]
  refine jp_con (pc2 := 53) (v := (.int (nI 1))) rfl rfl rfl ?_
  refine jp_bin (pc2 := 54) (v := nI (v24 + 1)) rfl rfl (congrArg some (nI_add _ _)) ?_
  refine jp_iast (pc2 := 55) rfl rfl hup_eq (vp_in_nI b23 c8) ?_
  rw [(nI_clamp (Nat.lt_trans b23 c8))]
  rw [d27]
  rw [hup_hup]
  exact ip_vret (st := []) rfl rfl q28
theorem c100_0 {r_0 : Nat} {a_1 : Nat} {fs1 : List Value} {q_fs1_0 : Nat} {n4 : Nat} {f5 : Nat → Int32} {v9 : Nat} {g12 : Nat → Int32} {v15 : Nat} {g17 : Nat → Int32} (e2 : h r_0 = some (.inr (9, fs1))) (e3 : fs1[0]? = some (.ref q_fs1_0)) (e6 : h q_fs1_0 = some (.inl (0, n4, .inl f5))) (b7 : a_1 + 1 < n4) (c8 : n4 < 2147483648) (e10 : f5 (a_1 + 1) = nI v9) (b11 : (a_1 + 36) + v9 < n4) (d13 : upd f5 ((a_1 + 36) + v9) (nI 0) = g12) (n14 : r_0 ≠ q_fs1_0) (e16 : g12 (a_1 + 1) = nI v15) (d18 : upd g12 (a_1 + 1) (nI (v15 + 1)) = g17) (q19 : Q none (hup h q_fs1_0 (.inl (0, n4, .inl g17))) z)  : ip sc call 100 MC MS Q 0 [some (.ref r_0), some (.int (nI a_1))] [] h z c s := by
  refine jp_load (pc2 := 1) (n := 0) rfl rfl rfl rfl ?_
  refine jp_getf (pc2 := 4) rfl rfl e2 e3 ?_
  refine jp_load (pc2 := 5) (n := 1) rfl rfl rfl rfl ?_
  refine jp_con (pc2 := 7) (v := (.int (nI 36))) rfl rfl rfl ?_
  refine jp_bin (pc2 := 8) (v := nI (a_1 + 36)) rfl rfl (congrArg some (nI_add _ _)) ?_
  refine jp_load (pc2 := 9) (n := 0) rfl rfl rfl rfl ?_
  refine jp_getf (pc2 := 12) rfl rfl e2 e3 ?_
  refine jp_load (pc2 := 13) (n := 1) rfl rfl rfl rfl ?_
  refine jp_con (pc2 := 14) (v := (.int (nI 1))) rfl rfl rfl ?_
  refine jp_bin (pc2 := 15) (v := nI (a_1 + 1)) rfl rfl (congrArg some (nI_add _ _)) ?_
  refine jp_iald (pc2 := 16) rfl rfl e6 (vp_in_nI b7 c8) ?_
  rw [(nI_clamp (Nat.lt_trans b7 c8))]
  rw [e10]
  refine jp_bin (pc2 := 17) (v := nI ((a_1 + 36) + v9)) rfl rfl (congrArg some (nI_add _ _)) ?_
  refine jp_con (pc2 := 18) (v := (.int (nI 0))) rfl rfl rfl ?_
  refine jp_iast (pc2 := 19) rfl rfl e6 (vp_in_nI b11 c8) ?_
  rw [(nI_clamp (Nat.lt_trans b11 c8))]
  rw [d13]
  refine jp_load (pc2 := 20) (n := 0) rfl rfl rfl rfl ?_
  refine jp_getf (pc2 := 23) rfl rfl (hup_ne n14 e2) e3 ?_
  refine jp_load (pc2 := 24) (n := 1) rfl rfl rfl rfl ?_
  refine jp_con (pc2 := 25) (v := (.int (nI 1))) rfl rfl rfl ?_
  refine jp_bin (pc2 := 26) (v := nI (a_1 + 1)) rfl rfl (congrArg some (nI_add _ _)) ?_
  refine jp_dup2 (pc2 := 27) rfl rfl rfl rfl ?_
  refine jp_iald (pc2 := 28) rfl rfl hup_eq (vp_in_nI b7 c8) ?_
  rw [(nI_clamp (Nat.lt_trans b7 c8))]
  rw [e16]
  refine jp_con (pc2 := 29) (v := (.int (nI 1))) rfl rfl rfl ?_
  refine jp_bin (pc2 := 30) (v := nI (v15 + 1)) rfl rfl (congrArg some (nI_add _ _)) ?_
  refine jp_iast (pc2 := 31) rfl rfl hup_eq (vp_in_nI b7 c8) ?_
  rw [(nI_clamp (Nat.lt_trans b7 c8))]
  rw [d18]
  rw [hup_hup]
  exact ip_vret (st := []) rfl rfl q19
theorem c101_0 {r_0 : Nat} {a_1 : Nat} {a_2 : Nat} {fs1 : List Value} {q_fs1_0 : Nat} {n4 : Nat} {f5 : Nat → Int32} {v9 : Nat} {g12 : Nat → Int32} {v15 : Nat} {g17 : Nat → Int32} {v20 : Nat} {v24 : Nat} {g26 : Nat → Int32} (e2 : h r_0 = some (.inr (9, fs1))) (e3 : fs1[0]? = some (.ref q_fs1_0)) (e6 : h q_fs1_0 = some (.inl (0, n4, .inl f5))) (b7 : a_1 + 3 < n4) (c8 : n4 < 2147483648) (e10 : f5 (a_1 + 3) = nI v9) (b11 : (a_1 + 132) + v9 < n4) (d13 : upd f5 ((a_1 + 132) + v9) (nI a_2) = g12) (n14 : r_0 ≠ q_fs1_0) (e16 : g12 (a_1 + 3) = nI v15) (d18 : upd g12 (a_1 + 3) (nI (v15 + 1)) = g17) (b19 : a_1 + 2 < n4) (e21 : g17 (a_1 + 2) = nI v20) (d22 : 1 ≤ ((a_1 + 68) + v20)) (b23 : ((a_1 + 68) + v20) - 1 < n4) (e25 : g17 (((a_1 + 68) + v20) - 1) = nI v24) (d27 : upd g17 (((a_1 + 68) + v20) - 1) (nI (v24 + 1)) = g26) (q28 : Q none (hup h q_fs1_0 (.inl (0, n4, .inl g26))) z)  : ip sc call 101 MC MS Q 0 [some (.ref r_0), some (.int (nI a_1)), some (.int (nI a_2))] [] h z c s := by
  refine jp_load (pc2 := 1) (n := 0) rfl rfl rfl rfl ?_
  refine jp_getf (pc2 := 4) rfl rfl e2 e3 ?_
  refine jp_load (pc2 := 5) (n := 1) rfl rfl rfl rfl ?_
  refine jp_con (pc2 := 8) (v := (.int (nI 132))) rfl rfl rfl ?_
  refine jp_bin (pc2 := 9) (v := nI (a_1 + 132)) rfl rfl (congrArg some (nI_add _ _)) ?_
  refine jp_load (pc2 := 10) (n := 0) rfl rfl rfl rfl ?_
  refine jp_getf (pc2 := 13) rfl rfl e2 e3 ?_
  refine jp_load (pc2 := 14) (n := 1) rfl rfl rfl rfl ?_
  refine jp_con (pc2 := 15) (v := (.int (nI 3))) rfl rfl rfl ?_
  refine jp_bin (pc2 := 16) (v := nI (a_1 + 3)) rfl rfl (congrArg some (nI_add _ _)) ?_
  refine jp_iald (pc2 := 17) rfl rfl e6 (vp_in_nI b7 c8) ?_
  rw [(nI_clamp (Nat.lt_trans b7 c8))]
  rw [e10]
  refine jp_bin (pc2 := 18) (v := nI ((a_1 + 132) + v9)) rfl rfl (congrArg some (nI_add _ _)) ?_
  refine jp_load (pc2 := 19) (n := 2) rfl rfl rfl rfl ?_
  refine jp_iast (pc2 := 20) rfl rfl e6 (vp_in_nI b11 c8) ?_
  rw [(nI_clamp (Nat.lt_trans b11 c8))]
  rw [d13]
  refine jp_load (pc2 := 21) (n := 0) rfl rfl rfl rfl ?_
  refine jp_getf (pc2 := 24) rfl rfl (hup_ne n14 e2) e3 ?_
  refine jp_load (pc2 := 25) (n := 1) rfl rfl rfl rfl ?_
  refine jp_con (pc2 := 26) (v := (.int (nI 3))) rfl rfl rfl ?_
  refine jp_bin (pc2 := 27) (v := nI (a_1 + 3)) rfl rfl (congrArg some (nI_add _ _)) ?_
  refine jp_dup2 (pc2 := 28) rfl rfl rfl rfl ?_
  refine jp_iald (pc2 := 29) rfl rfl hup_eq (vp_in_nI b7 c8) ?_
  rw [(nI_clamp (Nat.lt_trans b7 c8))]
  rw [e16]
  refine jp_con (pc2 := 30) (v := (.int (nI 1))) rfl rfl rfl ?_
  refine jp_bin (pc2 := 31) (v := nI (v15 + 1)) rfl rfl (congrArg some (nI_add _ _)) ?_
  refine jp_iast (pc2 := 32) rfl rfl hup_eq (vp_in_nI b7 c8) ?_
  rw [(nI_clamp (Nat.lt_trans b7 c8))]
  rw [d18]
  rw [hup_hup]
  refine jp_load (pc2 := 33) (n := 0) rfl rfl rfl rfl ?_
  refine jp_getf (pc2 := 36) rfl rfl (hup_ne n14 e2) e3 ?_
  refine jp_load (pc2 := 37) (n := 1) rfl rfl rfl rfl ?_
  refine jp_con (pc2 := 39) (v := (.int (nI 68))) rfl rfl rfl ?_
  refine jp_bin (pc2 := 40) (v := nI (a_1 + 68)) rfl rfl (congrArg some (nI_add _ _)) ?_
  refine jp_load (pc2 := 41) (n := 0) rfl rfl rfl rfl ?_
  refine jp_getf (pc2 := 44) rfl rfl (hup_ne n14 e2) e3 ?_
  refine jp_load (pc2 := 45) (n := 1) rfl rfl rfl rfl ?_
  refine jp_con (pc2 := 46) (v := (.int (nI 2))) rfl rfl rfl ?_
  refine jp_bin (pc2 := 47) (v := nI (a_1 + 2)) rfl rfl (congrArg some (nI_add _ _)) ?_
  refine jp_iald (pc2 := 48) rfl rfl hup_eq (vp_in_nI b19 c8) ?_
  rw [(nI_clamp (Nat.lt_trans b19 c8))]
  rw [e21]
  refine jp_bin (pc2 := 49) (v := nI ((a_1 + 68) + v20)) rfl rfl (congrArg some (nI_add _ _)) ?_
  refine jp_con (pc2 := 50) (v := (.int (nI 1))) rfl rfl rfl ?_
  refine jp_bin (pc2 := 51) (v := nI (((a_1 + 68) + v20) - 1)) rfl rfl (congrArg some (pk_sub d22)) ?_
  refine jp_dup2 (pc2 := 52) rfl rfl rfl rfl ?_
  refine jp_iald (pc2 := 53) rfl rfl hup_eq (vp_in_nI b23 c8) ?_
  rw [(nI_clamp (Nat.lt_trans b23 c8))]
  rw [e25]
  refine jp_con (pc2 := 54) (v := (.int (nI 1))) rfl rfl rfl ?_
  refine jp_bin (pc2 := 55) (v := nI (v24 + 1)) rfl rfl (congrArg some (nI_add _ _)) ?_
  refine jp_iast (pc2 := 56) rfl rfl hup_eq (vp_in_nI b23 c8) ?_
  rw [(nI_clamp (Nat.lt_trans b23 c8))]
  rw [d27]
  rw [hup_hup]
  exact ip_vret (st := []) rfl rfl q28
theorem c102_0 {r_0 : Nat} {a_1 : Nat} {a_2 : Nat} {a_3 : Nat} {o_4 : Option Value} {o_5 : Option Value} {fs1 : List Value} {P : ipQ} (e2 : h r_0 = some (.inr (9, fs1))) (m3 : c ≤ MC) (m4 : s ≤ MS) (hc : call 99 [(.ref r_0), (.int (nI a_3))] h z 0 0 P) (K : ∀ (o : Option Value) (h2 : HP) (z2 : Nat), P o h2 z2 → ip sc call 102 MC MS Q 5 [some (.ref r_0), some (.int (nI a_1)), some (.int (nI a_2)), some (.int (nI a_3)), o_4, o_5] (o.toList ++ []) h2 z2 c s) : ip sc call 102 MC MS Q 0 [some (.ref r_0), some (.int (nI a_1)), some (.int (nI a_2)), some (.int (nI a_3)), o_4, o_5] [] h z c s := by
  refine jp_load (pc2 := 1) (n := 0) rfl rfl rfl rfl ?_
  refine jp_load (pc2 := 2) (n := 3) rfl rfl rfl rfl ?_
  exact jp_virt0 (pc2 := 5) (As := [(.int (nI a_3))]) (rest := []) rfl rfl rfl (Nat.le_of_ble_eq_true rfl) e2 m3 m4 hc rfl K
theorem c102_5 {r_0 : Nat} {a_1 : Nat} {a_2 : Nat} {a_3 : Nat} {o_4 : Option Value} {o_5 : Option Value} {fs1 : List Value} {P : ipQ} (e2 : h r_0 = some (.inr (9, fs1))) (m3 : c ≤ MC) (m4 : s ≤ MS) (hc : call 98 [(.ref r_0), (.int (nI a_1)), (.int (nI a_2))] h z 0 0 P) (K : ∀ (o : Option Value) (h2 : HP) (z2 : Nat), P o h2 z2 → ip sc call 102 MC MS Q 11 [some (.ref r_0), some (.int (nI a_1)), some (.int (nI a_2)), some (.int (nI a_3)), o_4, o_5] (o.toList ++ []) h2 z2 c s) : ip sc call 102 MC MS Q 5 [some (.ref r_0), some (.int (nI a_1)), some (.int (nI a_2)), some (.int (nI a_3)), o_4, o_5] [] h z c s := by
  refine jp_load (pc2 := 6) (n := 0) rfl rfl rfl rfl ?_
  refine jp_load (pc2 := 7) (n := 1) rfl rfl rfl rfl ?_
  refine jp_load (pc2 := 8) (n := 2) rfl rfl rfl rfl ?_
  exact jp_virt0 (pc2 := 11) (As := [(.int (nI a_1)), (.int (nI a_2))]) (rest := []) rfl rfl rfl (Nat.le_of_ble_eq_true rfl) e2 m3 m4 hc rfl K
theorem c102_11 {r_0 : Nat} {a_1 : Nat} {a_2 : Nat} {a_3 : Nat} {o_4 : Option Value} {o_5 : Option Value} {sa_0 : Nat}  (K : ip sc call 102 MC MS Q 16 [some (.ref r_0), some (.int (nI a_1)), some (.int (nI a_2)), some (.int (nI a_3)), some (.int (nI sa_0)), some (.int (nI 0))] [] h z c s) : ip sc call 102 MC MS Q 11 [some (.ref r_0), some (.int (nI a_1)), some (.int (nI a_2)), some (.int (nI a_3)), o_4, o_5] [(.int (nI sa_0))] h z c s := by
  refine jp_store (pc2 := 13) (n := 4) rfl rfl ⟨rfl, rfl⟩ rfl (Nat.le_of_ble_eq_true rfl) ?_
  refine jp_con (pc2 := 14) (v := (.int (nI 0))) rfl rfl rfl ?_
  refine jp_store (pc2 := 16) (n := 5) rfl rfl ⟨rfl, rfl⟩ rfl (Nat.le_of_ble_eq_true rfl) ?_
  exact K
theorem c102_16 {r_0 : Nat} {a_1 : Nat} {a_2 : Nat} {a_3 : Nat} {a_4 : Nat} {a_5 : Nat} {fs1 : List Value} {q_fs1_0 : Nat} {n4 : Nat} {f5 : Nat → Int32} {v9 : Nat} (e2 : h r_0 = some (.inr (9, fs1))) (e3 : fs1[0]? = some (.ref q_fs1_0)) (e6 : h q_fs1_0 = some (.inl (0, n4, .inl f5))) (b7 : (a_1 + 68) + a_2 < n4) (c8 : n4 < 2147483648) (e10 : f5 ((a_1 + 68) + a_2) = nI v9) (c11 : a_5 < 2147483648) (c12 : v9 < 2147483648) (K1 : v9 ≤ a_5 → ip sc call 102 MC MS Q 53 [some (.ref r_0), some (.int (nI a_1)), some (.int (nI a_2)), some (.int (nI a_3)), some (.int (nI a_4)), some (.int (nI a_5))] [] h z c s) (K2 : ¬ (v9 ≤ a_5) → ip sc call 102 MC MS Q 32 [some (.ref r_0), some (.int (nI a_1)), some (.int (nI a_2)), some (.int (nI a_3)), some (.int (nI a_4)), some (.int (nI a_5))] [] h z c s) : ip sc call 102 MC MS Q 16 [some (.ref r_0), some (.int (nI a_1)), some (.int (nI a_2)), some (.int (nI a_3)), some (.int (nI a_4)), some (.int (nI a_5))] [] h z c s := by
  refine jp_load (pc2 := 18) (n := 5) rfl rfl rfl rfl ?_
  refine jp_load (pc2 := 19) (n := 0) rfl rfl rfl rfl ?_
  refine jp_getf (pc2 := 22) rfl rfl e2 e3 ?_
  refine jp_load (pc2 := 23) (n := 1) rfl rfl rfl rfl ?_
  refine jp_con (pc2 := 25) (v := (.int (nI 68))) rfl rfl rfl ?_
  refine jp_bin (pc2 := 26) (v := nI (a_1 + 68)) rfl rfl (congrArg some (nI_add _ _)) ?_
  refine jp_load (pc2 := 27) (n := 2) rfl rfl rfl rfl ?_
  refine jp_bin (pc2 := 28) (v := nI ((a_1 + 68) + a_2)) rfl rfl (congrArg some (nI_add _ _)) ?_
  refine jp_iald (pc2 := 29) rfl rfl e6 (vp_in_nI b7 c8) ?_
  rw [(nI_clamp (Nat.lt_trans b7 c8))]
  rw [e10]
  exact jp_icmp (pc2 := 32) rfl rfl (fun q => K1 ((nI_leI c12 c11).mp q)) (fun q => K2 (fun r => q ((nI_leI c12 c11).mpr r)))
theorem c102_32 {r_0 : Nat} {a_1 : Nat} {a_2 : Nat} {a_3 : Nat} {a_4 : Nat} {a_5 : Nat} {fs1 : List Value} {q_fs1_0 : Nat} {n4 : Nat} {f5 : Nat → Int32} {v9 : Nat} {P : ipQ} (e2 : h r_0 = some (.inr (9, fs1))) (e3 : fs1[0]? = some (.ref q_fs1_0)) (e6 : h q_fs1_0 = some (.inl (0, n4, .inl f5))) (b7 : a_4 + a_5 < n4) (c8 : n4 < 2147483648) (e10 : f5 (a_4 + a_5) = nI v9) (m11 : c ≤ MC) (m12 : s ≤ MS) (hc : call 101 [(.ref r_0), (.int (nI a_3)), (.int (nI v9))] h z 0 0 P) (K : ∀ (o : Option Value) (h2 : HP) (z2 : Nat), P o h2 z2 → ip sc call 102 MC MS Q 47 [some (.ref r_0), some (.int (nI a_1)), some (.int (nI a_2)), some (.int (nI a_3)), some (.int (nI a_4)), some (.int (nI a_5))] (o.toList ++ []) h2 z2 c s) : ip sc call 102 MC MS Q 32 [some (.ref r_0), some (.int (nI a_1)), some (.int (nI a_2)), some (.int (nI a_3)), some (.int (nI a_4)), some (.int (nI a_5))] [] h z c s := by
  refine jp_load (pc2 := 33) (n := 0) rfl rfl rfl rfl ?_
  refine jp_load (pc2 := 34) (n := 3) rfl rfl rfl rfl ?_
  refine jp_load (pc2 := 35) (n := 0) rfl rfl rfl rfl ?_
  refine jp_getf (pc2 := 38) rfl rfl e2 e3 ?_
  refine jp_load (pc2 := 40) (n := 4) rfl rfl rfl rfl ?_
  refine jp_load (pc2 := 42) (n := 5) rfl rfl rfl rfl ?_
  refine jp_bin (pc2 := 43) (v := nI (a_4 + a_5)) rfl rfl (congrArg some (nI_add _ _)) ?_
  refine jp_iald (pc2 := 44) rfl rfl e6 (vp_in_nI b7 c8) ?_
  rw [(nI_clamp (Nat.lt_trans b7 c8))]
  rw [e10]
  exact jp_virt0 (pc2 := 47) (As := [(.int (nI a_3)), (.int (nI v9))]) (rest := []) rfl rfl rfl (Nat.le_of_ble_eq_true rfl) e2 m11 m12 hc rfl K
theorem c102_47 {r_0 : Nat} {a_1 : Nat} {a_2 : Nat} {a_3 : Nat} {a_4 : Nat} {a_5 : Nat}  (K : ip sc call 102 MC MS Q 16 [some (.ref r_0), some (.int (nI a_1)), some (.int (nI a_2)), some (.int (nI a_3)), some (.int (nI a_4)), some (.int (nI (a_5 + 1)))] [] h z c s) : ip sc call 102 MC MS Q 47 [some (.ref r_0), some (.int (nI a_1)), some (.int (nI a_2)), some (.int (nI a_3)), some (.int (nI a_4)), some (.int (nI a_5))] [] h z c s := by
  refine jp_iinc (pc2 := 50) (n := 5) (v := nI (a_5 + 1)) rfl rfl rfl (nI_add _ 1) rfl ?_
  refine ip_goto rfl ?_
  exact K
theorem c102_53 {o_0 : Option Value} {o_1 : Option Value} {o_2 : Option Value} {o_3 : Option Value} {o_4 : Option Value} {o_5 : Option Value} (q1 : Q none h z)  : ip sc call 102 MC MS Q 53 [o_0, o_1, o_2, o_3, o_4, o_5] [] h z c s := by
  exact ip_vret (st := []) rfl rfl q1
theorem c103_0 {r_0 : Nat} {a_1 : Nat} {a_2 : Nat} {a_3 : Nat} {a_4 : Nat} {a_5 : Nat} {o_6 : Option Value} {o_7 : Option Value} {fs1 : List Value} {P : ipQ} (e2 : h r_0 = some (.inr (9, fs1))) (m3 : c ≤ MC) (m4 : s ≤ MS) (hc : call 98 [(.ref r_0), (.int (nI a_1)), (.int (nI a_2))] h z 0 0 P) (K : ∀ (o : Option Value) (h2 : HP) (z2 : Nat), P o h2 z2 → ip sc call 103 MC MS Q 6 [some (.ref r_0), some (.int (nI a_1)), some (.int (nI a_2)), some (.int (nI a_3)), some (.int (nI a_4)), some (.int (nI a_5)), o_6, o_7] (o.toList ++ []) h2 z2 c s) : ip sc call 103 MC MS Q 0 [some (.ref r_0), some (.int (nI a_1)), some (.int (nI a_2)), some (.int (nI a_3)), some (.int (nI a_4)), some (.int (nI a_5)), o_6, o_7] [] h z c s := by
  refine jp_load (pc2 := 1) (n := 0) rfl rfl rfl rfl ?_
  refine jp_load (pc2 := 2) (n := 1) rfl rfl rfl rfl ?_
  refine jp_load (pc2 := 3) (n := 2) rfl rfl rfl rfl ?_
  exact jp_virt0 (pc2 := 6) (As := [(.int (nI a_1)), (.int (nI a_2))]) (rest := []) rfl rfl rfl (Nat.le_of_ble_eq_true rfl) e2 m3 m4 hc rfl K
theorem c103_6 {r_0 : Nat} {o_1 : Option Value} {o_2 : Option Value} {a_3 : Nat} {a_4 : Nat} {a_5 : Nat} {o_6 : Option Value} {o_7 : Option Value} {sa_0 : Nat}  (K : ip sc call 103 MC MS Q 11 [some (.ref r_0), o_1, o_2, some (.int (nI a_3)), some (.int (nI a_4)), some (.int (nI a_5)), some (.int (nI sa_0)), some (.int (nI a_3))] [] h z c s) : ip sc call 103 MC MS Q 6 [some (.ref r_0), o_1, o_2, some (.int (nI a_3)), some (.int (nI a_4)), some (.int (nI a_5)), o_6, o_7] [(.int (nI sa_0))] h z c s := by
  refine jp_store (pc2 := 8) (n := 6) rfl rfl ⟨rfl, rfl⟩ rfl (Nat.le_of_ble_eq_true rfl) ?_
  refine jp_load (pc2 := 9) (n := 3) rfl rfl rfl rfl ?_
  refine jp_store (pc2 := 11) (n := 7) rfl rfl ⟨rfl, rfl⟩ rfl (Nat.le_of_ble_eq_true rfl) ?_
  exact K
theorem c103_11 {r_0 : Nat} {o_1 : Option Value} {o_2 : Option Value} {o_3 : Option Value} {a_4 : Nat} {a_5 : Nat} {a_6 : Nat} {a_7 : Nat} (c1 : a_7 < 2147483648) (c2 : a_4 < 2147483648) (K1 : a_4 < a_7 → ip sc call 103 MC MS Q 40 [some (.ref r_0), o_1, o_2, o_3, some (.int (nI a_4)), some (.int (nI a_5)), some (.int (nI a_6)), some (.int (nI a_7))] [] h z c s) (K2 : ¬ (a_4 < a_7) → ip sc call 103 MC MS Q 18 [some (.ref r_0), o_1, o_2, o_3, some (.int (nI a_4)), some (.int (nI a_5)), some (.int (nI a_6)), some (.int (nI a_7))] [] h z c s) : ip sc call 103 MC MS Q 11 [some (.ref r_0), o_1, o_2, o_3, some (.int (nI a_4)), some (.int (nI a_5)), some (.int (nI a_6)), some (.int (nI a_7))] [] h z c s := by
  refine jp_load (pc2 := 13) (n := 7) rfl rfl rfl rfl ?_
  refine jp_load (pc2 := 15) (n := 4) rfl rfl rfl rfl ?_
  exact jp_icmp (pc2 := 18) rfl rfl (fun q => K1 ((nI_ltI c2 c1).mp q)) (fun q => K2 (fun r => q ((nI_ltI c2 c1).mpr r)))
theorem c103_18 {r_0 : Nat} {o_1 : Option Value} {o_2 : Option Value} {o_3 : Option Value} {a_4 : Nat} {a_5 : Nat} {a_6 : Nat} {a_7 : Nat} {fs1 : List Value} {q_fs1_0 : Nat} {n4 : Nat} {f5 : Nat → Int32} {v9 : Nat} {P : ipQ} (e2 : h r_0 = some (.inr (9, fs1))) (e3 : fs1[0]? = some (.ref q_fs1_0)) (e6 : h q_fs1_0 = some (.inl (0, n4, .inl f5))) (b7 : a_6 + a_7 < n4) (c8 : n4 < 2147483648) (e10 : f5 (a_6 + a_7) = nI v9) (m11 : c ≤ MC) (m12 : s ≤ MS) (hc : call 101 [(.ref r_0), (.int (nI a_5)), (.int (nI v9))] h z 0 0 P) (K : ∀ (o : Option Value) (h2 : HP) (z2 : Nat), P o h2 z2 → ip sc call 103 MC MS Q 34 [some (.ref r_0), o_1, o_2, o_3, some (.int (nI a_4)), some (.int (nI a_5)), some (.int (nI a_6)), some (.int (nI a_7))] (o.toList ++ []) h2 z2 c s) : ip sc call 103 MC MS Q 18 [some (.ref r_0), o_1, o_2, o_3, some (.int (nI a_4)), some (.int (nI a_5)), some (.int (nI a_6)), some (.int (nI a_7))] [] h z c s := by
  refine jp_load (pc2 := 19) (n := 0) rfl rfl rfl rfl ?_
  refine jp_load (pc2 := 21) (n := 5) rfl rfl rfl rfl ?_
  refine jp_load (pc2 := 22) (n := 0) rfl rfl rfl rfl ?_
  refine jp_getf (pc2 := 25) rfl rfl e2 e3 ?_
  refine jp_load (pc2 := 27) (n := 6) rfl rfl rfl rfl ?_
  refine jp_load (pc2 := 29) (n := 7) rfl rfl rfl rfl ?_
  refine jp_bin (pc2 := 30) (v := nI (a_6 + a_7)) rfl rfl (congrArg some (nI_add _ _)) ?_
  refine jp_iald (pc2 := 31) rfl rfl e6 (vp_in_nI b7 c8) ?_
  rw [(nI_clamp (Nat.lt_trans b7 c8))]
  rw [e10]
  exact jp_virt0 (pc2 := 34) (As := [(.int (nI a_5)), (.int (nI v9))]) (rest := []) rfl rfl rfl (Nat.le_of_ble_eq_true rfl) e2 m11 m12 hc rfl K
theorem c103_34 {r_0 : Nat} {o_1 : Option Value} {o_2 : Option Value} {o_3 : Option Value} {a_4 : Nat} {a_5 : Nat} {a_6 : Nat} {a_7 : Nat}  (K : ip sc call 103 MC MS Q 11 [some (.ref r_0), o_1, o_2, o_3, some (.int (nI a_4)), some (.int (nI a_5)), some (.int (nI a_6)), some (.int (nI (a_7 + 1)))] [] h z c s) : ip sc call 103 MC MS Q 34 [some (.ref r_0), o_1, o_2, o_3, some (.int (nI a_4)), some (.int (nI a_5)), some (.int (nI a_6)), some (.int (nI a_7))] [] h z c s := by
  refine jp_iinc (pc2 := 37) (n := 7) (v := nI (a_7 + 1)) rfl rfl rfl (nI_add _ 1) rfl ?_
  refine ip_goto rfl ?_
  exact K
theorem c103_40 {o_0 : Option Value} {o_1 : Option Value} {o_2 : Option Value} {o_3 : Option Value} {o_4 : Option Value} {o_5 : Option Value} {o_6 : Option Value} {o_7 : Option Value} (q1 : Q none h z)  : ip sc call 103 MC MS Q 40 [o_0, o_1, o_2, o_3, o_4, o_5, o_6, o_7] [] h z c s := by
  exact ip_vret (st := []) rfl rfl q1
theorem c104_0 {r_0 : Nat} {a_1 : Nat} {a_2 : Nat} {a_3 : Nat} {a_4 : Nat} {o_5 : Option Value} {o_6 : Option Value} {fs1 : List Value} {q_fs1_0 : Nat} {n4 : Nat} {f5 : Nat → Int32} {v9 : Nat} {P : ipQ} (e2 : h r_0 = some (.inr (9, fs1))) (e3 : fs1[0]? = some (.ref q_fs1_0)) (e6 : h q_fs1_0 = some (.inl (0, n4, .inl f5))) (b7 : (a_1 + 68) + a_2 < n4) (c8 : n4 < 2147483648) (e10 : f5 ((a_1 + 68) + a_2) = nI v9) (m11 : c ≤ MC) (m12 : s ≤ MS) (hc : call 98 [(.ref r_0), (.int (nI a_1)), (.int (nI a_2))] h z 0 0 P) (K : ∀ (o : Option Value) (h2 : HP) (z2 : Nat), P o h2 z2 → ip sc call 104 MC MS Q 23 [some (.ref r_0), some (.int (nI a_1)), some (.int (nI a_2)), some (.int (nI a_3)), some (.int (nI a_4)), some (.int (nI v9)), o_6] (o.toList ++ [(.ref q_fs1_0)]) h2 z2 c s) : ip sc call 104 MC MS Q 0 [some (.ref r_0), some (.int (nI a_1)), some (.int (nI a_2)), some (.int (nI a_3)), some (.int (nI a_4)), o_5, o_6] [] h z c s := by
  refine jp_load (pc2 := 1) (n := 0) rfl rfl rfl rfl ?_
  refine jp_getf (pc2 := 4) rfl rfl e2 e3 ?_
  refine jp_load (pc2 := 5) (n := 1) rfl rfl rfl rfl ?_
  refine jp_con (pc2 := 7) (v := (.int (nI 68))) rfl rfl rfl ?_
  refine jp_bin (pc2 := 8) (v := nI (a_1 + 68)) rfl rfl (congrArg some (nI_add _ _)) ?_
  refine jp_load (pc2 := 9) (n := 2) rfl rfl rfl rfl ?_
  refine jp_bin (pc2 := 10) (v := nI ((a_1 + 68) + a_2)) rfl rfl (congrArg some (nI_add _ _)) ?_
  refine jp_iald (pc2 := 11) rfl rfl e6 (vp_in_nI b7 c8) ?_
  rw [(nI_clamp (Nat.lt_trans b7 c8))]
  rw [e10]
  refine jp_store (pc2 := 13) (n := 5) rfl rfl ⟨rfl, rfl⟩ rfl (Nat.le_of_ble_eq_true rfl) ?_
  refine jp_load (pc2 := 14) (n := 0) rfl rfl rfl rfl ?_
  refine jp_getf (pc2 := 17) rfl rfl e2 e3 ?_
  refine jp_load (pc2 := 18) (n := 0) rfl rfl rfl rfl ?_
  refine jp_load (pc2 := 19) (n := 1) rfl rfl rfl rfl ?_
  refine jp_load (pc2 := 20) (n := 2) rfl rfl rfl rfl ?_
  exact jp_virt0 (pc2 := 23) (As := [(.int (nI a_1)), (.int (nI a_2))]) (rest := [(.ref q_fs1_0)]) rfl rfl rfl (Nat.le_of_ble_eq_true rfl) e2 m11 m12 hc rfl K
theorem c104_23 {r_0 : Nat} {a_1 : Nat} {a_2 : Nat} {a_3 : Nat} {a_4 : Nat} {a_5 : Nat} {o_6 : Option Value} {sr_0 : Nat} {sa_1 : Nat} {n1 : Nat} {f2 : Nat → Int32} {v6 : Nat} {fs9 : List Value} {P : ipQ} (e3 : h sr_0 = some (.inl (0, n1, .inl f2))) (b4 : sa_1 + a_3 < n1) (c5 : n1 < 2147483648) (e7 : f2 (sa_1 + a_3) = nI v6) (d8 : 1 ≤ a_5) (e10 : h r_0 = some (.inr (9, fs9))) (m11 : c ≤ MC) (m12 : s ≤ MS) (hc : call 103 [(.ref r_0), (.int (nI a_1)), (.int (nI a_2)), (.int (nI a_3)), (.int (nI (a_5 - 1))), (.int (nI a_4))] h z 0 0 P) (K : ∀ (o : Option Value) (h2 : HP) (z2 : Nat), P o h2 z2 → ip sc call 104 MC MS Q 41 [some (.ref r_0), some (.int (nI a_1)), some (.int (nI a_2)), some (.int (nI a_3)), some (.int (nI a_4)), some (.int (nI a_5)), some (.int (nI v6))] (o.toList ++ []) h2 z2 c s) : ip sc call 104 MC MS Q 23 [some (.ref r_0), some (.int (nI a_1)), some (.int (nI a_2)), some (.int (nI a_3)), some (.int (nI a_4)), some (.int (nI a_5)), o_6] [(.int (nI sa_1)), (.ref sr_0)] h z c s := by
  refine jp_load (pc2 := 24) (n := 3) rfl rfl rfl rfl ?_
  refine jp_bin (pc2 := 25) (v := nI (sa_1 + a_3)) rfl rfl (congrArg some (nI_add _ _)) ?_
  refine jp_iald (pc2 := 26) rfl rfl e3 (vp_in_nI b4 c5) ?_
  rw [(nI_clamp (Nat.lt_trans b4 c5))]
  rw [e7]
  refine jp_store (pc2 := 28) (n := 6) rfl rfl ⟨rfl, rfl⟩ rfl (Nat.le_of_ble_eq_true rfl) ?_
  refine jp_load (pc2 := 29) (n := 0) rfl rfl rfl rfl ?_
  refine jp_load (pc2 := 30) (n := 1) rfl rfl rfl rfl ?_
  refine jp_load (pc2 := 31) (n := 2) rfl rfl rfl rfl ?_
  refine jp_load (pc2 := 32) (n := 3) rfl rfl rfl rfl ?_
  refine jp_load (pc2 := 34) (n := 5) rfl rfl rfl rfl ?_
  refine jp_con (pc2 := 35) (v := (.int (nI 1))) rfl rfl rfl ?_
  refine jp_bin (pc2 := 36) (v := nI (a_5 - 1)) rfl rfl (congrArg some (pk_sub d8)) ?_
  refine jp_load (pc2 := 38) (n := 4) rfl rfl rfl rfl ?_
  exact jp_virt0 (pc2 := 41) (As := [(.int (nI a_1)), (.int (nI a_2)), (.int (nI a_3)), (.int (nI (a_5 - 1))), (.int (nI a_4))]) (rest := []) rfl rfl rfl (Nat.le_of_ble_eq_true rfl) e10 m11 m12 hc rfl K
theorem c104_41 {r_0 : Nat} {a_1 : Nat} {a_2 : Nat} {a_3 : Nat} {a_4 : Nat} {o_5 : Option Value} {a_6 : Nat} {fs1 : List Value} {q_fs1_0 : Nat} {n4 : Nat} {f5 : Nat → Int32} {v9 : Nat} (e2 : h r_0 = some (.inr (9, fs1))) (e3 : fs1[0]? = some (.ref q_fs1_0)) (e6 : h q_fs1_0 = some (.inl (0, n4, .inl f5))) (b7 : (a_1 + 4) + a_6 < n4) (c8 : n4 < 2147483648) (e10 : f5 ((a_1 + 4) + a_6) = nI v9) (c11 : v9 < 2147483648) (K1 : ¬ v9 = 3 → ip sc call 104 MC MS Q 57 [some (.ref r_0), some (.int (nI a_1)), some (.int (nI a_2)), some (.int (nI a_3)), some (.int (nI a_4)), o_5, some (.int (nI a_6))] [] h z c s) (K2 : ¬ (¬ v9 = 3) → ip sc call 104 MC MS Q 56 [some (.ref r_0), some (.int (nI a_1)), some (.int (nI a_2)), some (.int (nI a_3)), some (.int (nI a_4)), o_5, some (.int (nI a_6))] [] h z c s) : ip sc call 104 MC MS Q 41 [some (.ref r_0), some (.int (nI a_1)), some (.int (nI a_2)), some (.int (nI a_3)), some (.int (nI a_4)), o_5, some (.int (nI a_6))] [] h z c s := by
  refine jp_load (pc2 := 42) (n := 0) rfl rfl rfl rfl ?_
  refine jp_getf (pc2 := 45) rfl rfl e2 e3 ?_
  refine jp_load (pc2 := 46) (n := 1) rfl rfl rfl rfl ?_
  refine jp_con (pc2 := 47) (v := (.int (nI 4))) rfl rfl rfl ?_
  refine jp_bin (pc2 := 48) (v := nI (a_1 + 4)) rfl rfl (congrArg some (nI_add _ _)) ?_
  refine jp_load (pc2 := 50) (n := 6) rfl rfl rfl rfl ?_
  refine jp_bin (pc2 := 51) (v := nI ((a_1 + 4) + a_6)) rfl rfl (congrArg some (nI_add _ _)) ?_
  refine jp_iald (pc2 := 52) rfl rfl e6 (vp_in_nI b7 c8) ?_
  rw [(nI_clamp (Nat.lt_trans b7 c8))]
  rw [e10]
  refine jp_con (pc2 := 53) (v := (.int (nI 3))) rfl rfl rfl ?_
  exact jp_icmp (pc2 := 56) rfl rfl (fun q => K1 ((not_congr (nI_eq c11 (by decide))).mp q)) (fun q => K2 (fun r => q ((not_congr (nI_eq c11 (by decide))).mpr r)))
theorem c104_56 {o_0 : Option Value} {o_1 : Option Value} {o_2 : Option Value} {o_3 : Option Value} {o_4 : Option Value} {o_5 : Option Value} {o_6 : Option Value} (q1 : Q none h z)  : ip sc call 104 MC MS Q 56 [o_0, o_1, o_2, o_3, o_4, o_5, o_6] [] h z c s := by
  exact ip_vret (st := []) rfl rfl q1
theorem c104_57 {r_0 : Nat} {a_1 : Nat} {a_2 : Nat} {a_3 : Nat} {a_4 : Nat} {o_5 : Option Value} {o_6 : Option Value} {fs1 : List Value} {P : ipQ} (e2 : h r_0 = some (.inr (9, fs1))) (m3 : c ≤ MC) (m4 : s ≤ MS) (hc : call 103 [(.ref r_0), (.int (nI a_1)), (.int (nI a_2)), (.int (nI 0)), (.int (nI a_3)), (.int (nI a_4))] h z 0 0 P) (K : ∀ (o : Option Value) (h2 : HP) (z2 : Nat), P o h2 z2 → ip sc call 104 MC MS Q 67 [some (.ref r_0), some (.int (nI a_1)), some (.int (nI a_2)), some (.int (nI a_3)), some (.int (nI a_4)), o_5, o_6] (o.toList ++ []) h2 z2 c s) : ip sc call 104 MC MS Q 57 [some (.ref r_0), some (.int (nI a_1)), some (.int (nI a_2)), some (.int (nI a_3)), some (.int (nI a_4)), o_5, o_6] [] h z c s := by
  refine jp_load (pc2 := 58) (n := 0) rfl rfl rfl rfl ?_
  refine jp_load (pc2 := 59) (n := 1) rfl rfl rfl rfl ?_
  refine jp_load (pc2 := 60) (n := 2) rfl rfl rfl rfl ?_
  refine jp_con (pc2 := 61) (v := (.int (nI 0))) rfl rfl rfl ?_
  refine jp_load (pc2 := 62) (n := 3) rfl rfl rfl rfl ?_
  refine jp_load (pc2 := 64) (n := 4) rfl rfl rfl rfl ?_
  exact jp_virt0 (pc2 := 67) (As := [(.int (nI a_1)), (.int (nI a_2)), (.int (nI 0)), (.int (nI a_3)), (.int (nI a_4))]) (rest := []) rfl rfl rfl (Nat.le_of_ble_eq_true rfl) e2 m3 m4 hc rfl K
theorem c104_67 {o_0 : Option Value} {o_1 : Option Value} {o_2 : Option Value} {o_3 : Option Value} {o_4 : Option Value} {o_5 : Option Value} {o_6 : Option Value} (q1 : Q none h z)  : ip sc call 104 MC MS Q 67 [o_0, o_1, o_2, o_3, o_4, o_5, o_6] [] h z c s := by
  exact ip_vret (st := []) rfl rfl q1
theorem c105_0 {r_0 : Nat} {a_1 : Nat} {a_2 : Nat} {a_3 : Nat} {a_4 : Nat} {fs1 : List Value} {q_fs1_0 : Nat} {P : ipQ} (e2 : h r_0 = some (.inr (9, fs1))) (e3 : fs1[0]? = some (.ref q_fs1_0)) (m4 : c ≤ MC) (m5 : s ≤ MS) (hc : call 97 [(.ref r_0), (.int (nI a_1)), (.int (nI a_2))] h z 0 0 P) (K : ∀ (o : Option Value) (h2 : HP) (z2 : Nat), P o h2 z2 → ip sc call 105 MC MS Q 12 [some (.ref r_0), some (.int (nI a_1)), some (.int (nI a_2)), some (.int (nI a_3)), some (.int (nI a_4))] (o.toList ++ [(.int (nI a_1)), (.ref r_0), (.ref q_fs1_0)]) h2 z2 c s) : ip sc call 105 MC MS Q 0 [some (.ref r_0), some (.int (nI a_1)), some (.int (nI a_2)), some (.int (nI a_3)), some (.int (nI a_4))] [] h z c s := by
  refine jp_load (pc2 := 1) (n := 0) rfl rfl rfl rfl ?_
  refine jp_getf (pc2 := 4) rfl rfl e2 e3 ?_
  refine jp_load (pc2 := 5) (n := 0) rfl rfl rfl rfl ?_
  refine jp_load (pc2 := 6) (n := 1) rfl rfl rfl rfl ?_
  refine jp_load (pc2 := 7) (n := 0) rfl rfl rfl rfl ?_
  refine jp_load (pc2 := 8) (n := 1) rfl rfl rfl rfl ?_
  refine jp_load (pc2 := 9) (n := 2) rfl rfl rfl rfl ?_
  exact jp_virt0 (pc2 := 12) (As := [(.int (nI a_1)), (.int (nI a_2))]) (rest := [(.int (nI a_1)), (.ref r_0), (.ref q_fs1_0)]) rfl rfl rfl (Nat.le_of_ble_eq_true rfl) e2 m4 m5 hc rfl K
theorem c105_12 {o_0 : Option Value} {o_1 : Option Value} {o_2 : Option Value} {a_3 : Nat} {a_4 : Nat} {sr_0 : Nat} {sr_1 : Nat} {sa_2 : Nat} {sa_3 : Nat} {fs1 : List Value} {P : ipQ} (e2 : h sr_1 = some (.inr (9, fs1))) (m3 : c ≤ MC) (m4 : s ≤ MS) (hc : call 98 [(.ref sr_1), (.int (nI sa_2)), (.int (nI (sa_3 + a_3)))] h z 0 0 P) (K : ∀ (o : Option Value) (h2 : HP) (z2 : Nat), P o h2 z2 → ip sc call 105 MC MS Q 17 [o_0, o_1, o_2, some (.int (nI a_3)), some (.int (nI a_4))] (o.toList ++ [(.ref sr_0)]) h2 z2 c s) : ip sc call 105 MC MS Q 12 [o_0, o_1, o_2, some (.int (nI a_3)), some (.int (nI a_4))] [(.int (nI sa_3)), (.int (nI sa_2)), (.ref sr_1), (.ref sr_0)] h z c s := by
  refine jp_load (pc2 := 13) (n := 3) rfl rfl rfl rfl ?_
  refine jp_bin (pc2 := 14) (v := nI (sa_3 + a_3)) rfl rfl (congrArg some (nI_add _ _)) ?_
  exact jp_virt0 (pc2 := 17) (As := [(.int (nI sa_2)), (.int (nI (sa_3 + a_3)))]) (rest := [(.ref sr_0)]) rfl rfl rfl (Nat.le_of_ble_eq_true rfl) e2 m3 m4 hc rfl K
theorem c105_17 {o_0 : Option Value} {o_1 : Option Value} {o_2 : Option Value} {o_3 : Option Value} {a_4 : Nat} {sr_0 : Nat} {sa_1 : Nat} {n1 : Nat} {f2 : Nat → Int32} {v6 : Nat} (e3 : h sr_0 = some (.inl (0, n1, .inl f2))) (b4 : sa_1 + a_4 < n1) (c5 : n1 < 2147483648) (e7 : f2 (sa_1 + a_4) = nI v6) (q8 : Q (some (.int (nI v6))) h z)  : ip sc call 105 MC MS Q 17 [o_0, o_1, o_2, o_3, some (.int (nI a_4))] [(.int (nI sa_1)), (.ref sr_0)] h z c s := by
  refine jp_load (pc2 := 19) (n := 4) rfl rfl rfl rfl ?_
  refine jp_bin (pc2 := 20) (v := nI (sa_1 + a_4)) rfl rfl (congrArg some (nI_add _ _)) ?_
  refine jp_iald (pc2 := 21) rfl rfl e3 (vp_in_nI b4 c5) ?_
  rw [(nI_clamp (Nat.lt_trans b4 c5))]
  rw [e7]
  exact ip_iret (st := []) rfl rfl rfl q8
theorem c106_0 {r_0 : Nat} {a_1 : Nat} {a_2 : Nat} {a_3 : Nat} {a_4 : Nat} {a_5 : Nat} {a_6 : Nat} {o_7 : Option Value} {o_8 : Option Value} {fs1 : List Value} {P : ipQ} (e2 : h r_0 = some (.inr (9, fs1))) (m3 : c ≤ MC) (m4 : s ≤ MS) (hc : call 105 [(.ref r_0), (.int (nI a_1)), (.int (nI a_2)), (.int (nI a_3)), (.int (nI a_4))] h z 0 0 P) (K : ∀ (o : Option Value) (h2 : HP) (z2 : Nat), P o h2 z2 → ip sc call 106 MC MS Q 9 [some (.ref r_0), some (.int (nI a_1)), some (.int (nI a_2)), some (.int (nI a_3)), some (.int (nI a_4)), some (.int (nI a_5)), some (.int (nI a_6)), o_7, o_8] (o.toList ++ []) h2 z2 c s) : ip sc call 106 MC MS Q 0 [some (.ref r_0), some (.int (nI a_1)), some (.int (nI a_2)), some (.int (nI a_3)), some (.int (nI a_4)), some (.int (nI a_5)), some (.int (nI a_6)), o_7, o_8] [] h z c s := by
  refine jp_load (pc2 := 1) (n := 0) rfl rfl rfl rfl ?_
  refine jp_load (pc2 := 2) (n := 1) rfl rfl rfl rfl ?_
  refine jp_load (pc2 := 3) (n := 2) rfl rfl rfl rfl ?_
  refine jp_load (pc2 := 4) (n := 3) rfl rfl rfl rfl ?_
  refine jp_load (pc2 := 6) (n := 4) rfl rfl rfl rfl ?_
  exact jp_virt0 (pc2 := 9) (As := [(.int (nI a_1)), (.int (nI a_2)), (.int (nI a_3)), (.int (nI a_4))]) (rest := []) rfl rfl rfl (Nat.le_of_ble_eq_true rfl) e2 m3 m4 hc rfl K
theorem c106_9 {r_0 : Nat} {a_1 : Nat} {a_2 : Nat} {o_3 : Option Value} {o_4 : Option Value} {a_5 : Nat} {a_6 : Nat} {o_7 : Option Value} {o_8 : Option Value} {sa_0 : Nat} {fs1 : List Value} {P : ipQ} (e2 : h r_0 = some (.inr (9, fs1))) (m3 : c ≤ MC) (m4 : s ≤ MS) (hc : call 105 [(.ref r_0), (.int (nI a_1)), (.int (nI a_2)), (.int (nI a_5)), (.int (nI a_6))] h z 0 0 P) (K : ∀ (o : Option Value) (h2 : HP) (z2 : Nat), P o h2 z2 → ip sc call 106 MC MS Q 21 [some (.ref r_0), some (.int (nI a_1)), some (.int (nI a_2)), o_3, o_4, some (.int (nI a_5)), some (.int (nI a_6)), some (.int (nI sa_0)), o_8] (o.toList ++ []) h2 z2 c s) : ip sc call 106 MC MS Q 9 [some (.ref r_0), some (.int (nI a_1)), some (.int (nI a_2)), o_3, o_4, some (.int (nI a_5)), some (.int (nI a_6)), o_7, o_8] [(.int (nI sa_0))] h z c s := by
  refine jp_store (pc2 := 11) (n := 7) rfl rfl ⟨rfl, rfl⟩ rfl (Nat.le_of_ble_eq_true rfl) ?_
  refine jp_load (pc2 := 12) (n := 0) rfl rfl rfl rfl ?_
  refine jp_load (pc2 := 13) (n := 1) rfl rfl rfl rfl ?_
  refine jp_load (pc2 := 14) (n := 2) rfl rfl rfl rfl ?_
  refine jp_load (pc2 := 16) (n := 5) rfl rfl rfl rfl ?_
  refine jp_load (pc2 := 18) (n := 6) rfl rfl rfl rfl ?_
  exact jp_virt0 (pc2 := 21) (As := [(.int (nI a_1)), (.int (nI a_2)), (.int (nI a_5)), (.int (nI a_6))]) (rest := []) rfl rfl rfl (Nat.le_of_ble_eq_true rfl) e2 m3 m4 hc rfl K
theorem c106_21 {r_0 : Nat} {a_1 : Nat} {o_2 : Option Value} {o_3 : Option Value} {o_4 : Option Value} {o_5 : Option Value} {o_6 : Option Value} {a_7 : Nat} {o_8 : Option Value} {sa_0 : Nat} {fs1 : List Value} {q_fs1_0 : Nat} {n4 : Nat} {f5 : Nat → Int32} {v9 : Nat} (e2 : h r_0 = some (.inr (9, fs1))) (e3 : fs1[0]? = some (.ref q_fs1_0)) (e6 : h q_fs1_0 = some (.inl (0, n4, .inl f5))) (b7 : (a_1 + 4) + a_7 < n4) (c8 : n4 < 2147483648) (e10 : f5 ((a_1 + 4) + a_7) = nI v9) (c11 : a_7 < 2147483648) (c12 : sa_0 < 2147483648) (K1 : ¬ a_7 = sa_0 → ip sc call 106 MC MS Q 45 [some (.ref r_0), some (.int (nI a_1)), o_2, o_3, o_4, o_5, o_6, some (.int (nI a_7)), some (.int (nI sa_0))] [(.int (nI v9))] h z c s) (K2 : ¬ (¬ a_7 = sa_0) → ip sc call 106 MC MS Q 41 [some (.ref r_0), some (.int (nI a_1)), o_2, o_3, o_4, o_5, o_6, some (.int (nI a_7)), some (.int (nI sa_0))] [(.int (nI v9))] h z c s) : ip sc call 106 MC MS Q 21 [some (.ref r_0), some (.int (nI a_1)), o_2, o_3, o_4, o_5, o_6, some (.int (nI a_7)), o_8] [(.int (nI sa_0))] h z c s := by
  refine jp_store (pc2 := 23) (n := 8) rfl rfl ⟨rfl, rfl⟩ rfl (Nat.le_of_ble_eq_true rfl) ?_
  refine jp_load (pc2 := 24) (n := 0) rfl rfl rfl rfl ?_
  refine jp_getf (pc2 := 27) rfl rfl e2 e3 ?_
  refine jp_load (pc2 := 28) (n := 1) rfl rfl rfl rfl ?_
  refine jp_con (pc2 := 29) (v := (.int (nI 4))) rfl rfl rfl ?_
  refine jp_bin (pc2 := 30) (v := nI (a_1 + 4)) rfl rfl (congrArg some (nI_add _ _)) ?_
  refine jp_load (pc2 := 32) (n := 7) rfl rfl rfl rfl ?_
  refine jp_bin (pc2 := 33) (v := nI ((a_1 + 4) + a_7)) rfl rfl (congrArg some (nI_add _ _)) ?_
  refine jp_iald (pc2 := 34) rfl rfl e6 (vp_in_nI b7 c8) ?_
  rw [(nI_clamp (Nat.lt_trans b7 c8))]
  rw [e10]
  refine jp_load (pc2 := 36) (n := 7) rfl rfl rfl rfl ?_
  refine jp_load (pc2 := 38) (n := 8) rfl rfl rfl rfl ?_
  exact jp_icmp (pc2 := 41) rfl rfl (fun q => K1 ((not_congr (nI_eq c11 c12)).mp q)) (fun q => K2 (fun r => q ((not_congr (nI_eq c11 c12)).mpr r)))
theorem c106_41 {r_0 : Nat} {a_1 : Nat} {o_2 : Option Value} {o_3 : Option Value} {o_4 : Option Value} {o_5 : Option Value} {o_6 : Option Value} {o_7 : Option Value} {a_8 : Nat} {sa_0 : Nat}  (K : ip sc call 106 MC MS Q 46 [some (.ref r_0), some (.int (nI a_1)), o_2, o_3, o_4, o_5, o_6, o_7, some (.int (nI a_8))] [(.int (nI 1)), (.int (nI sa_0))] h z c s) : ip sc call 106 MC MS Q 41 [some (.ref r_0), some (.int (nI a_1)), o_2, o_3, o_4, o_5, o_6, o_7, some (.int (nI a_8))] [(.int (nI sa_0))] h z c s := by
  refine jp_con (pc2 := 42) (v := (.int (nI 1))) rfl rfl rfl ?_
  refine ip_goto rfl ?_
  exact K
theorem c106_45 {r_0 : Nat} {a_1 : Nat} {o_2 : Option Value} {o_3 : Option Value} {o_4 : Option Value} {o_5 : Option Value} {o_6 : Option Value} {o_7 : Option Value} {a_8 : Nat} {sa_0 : Nat}  (K : ip sc call 106 MC MS Q 46 [some (.ref r_0), some (.int (nI a_1)), o_2, o_3, o_4, o_5, o_6, o_7, some (.int (nI a_8))] [(.int (nI 0)), (.int (nI sa_0))] h z c s) : ip sc call 106 MC MS Q 45 [some (.ref r_0), some (.int (nI a_1)), o_2, o_3, o_4, o_5, o_6, o_7, some (.int (nI a_8))] [(.int (nI sa_0))] h z c s := by
  refine jp_con (pc2 := 46) (v := (.int (nI 0))) rfl rfl rfl ?_
  exact K
theorem c106_46 {r_0 : Nat} {a_1 : Nat} {o_2 : Option Value} {o_3 : Option Value} {o_4 : Option Value} {o_5 : Option Value} {o_6 : Option Value} {o_7 : Option Value} {a_8 : Nat} {sa_0 : Nat} {sa_1 : Nat} (c1 : sa_0 < 2147483648) (c2 : sa_1 < 2147483648) (K1 : sa_0 ≤ sa_1 → ip sc call 106 MC MS Q 67 [some (.ref r_0), some (.int (nI a_1)), o_2, o_3, o_4, o_5, o_6, o_7, some (.int (nI a_8))] [] h z c s) (K2 : ¬ (sa_0 ≤ sa_1) → ip sc call 106 MC MS Q 49 [some (.ref r_0), some (.int (nI a_1)), o_2, o_3, o_4, o_5, o_6, o_7, some (.int (nI a_8))] [] h z c s) : ip sc call 106 MC MS Q 46 [some (.ref r_0), some (.int (nI a_1)), o_2, o_3, o_4, o_5, o_6, o_7, some (.int (nI a_8))] [(.int (nI sa_1)), (.int (nI sa_0))] h z c s := by
  exact jp_icmp (pc2 := 49) rfl rfl (fun q => K1 ((nI_leI c1 c2).mp q)) (fun q => K2 (fun r => q ((nI_leI c1 c2).mpr r)))
theorem c106_49 {r_0 : Nat} {a_1 : Nat} {o_2 : Option Value} {o_3 : Option Value} {o_4 : Option Value} {o_5 : Option Value} {o_6 : Option Value} {o_7 : Option Value} {a_8 : Nat} {fs1 : List Value} {q_fs1_0 : Nat} {n4 : Nat} {f5 : Nat → Int32} {v9 : Nat} (e2 : h r_0 = some (.inr (9, fs1))) (e3 : fs1[0]? = some (.ref q_fs1_0)) (e6 : h q_fs1_0 = some (.inl (0, n4, .inl f5))) (b7 : (a_1 + 4) + a_8 < n4) (c8 : n4 < 2147483648) (e10 : f5 ((a_1 + 4) + a_8) = nI v9) (c11 : v9 < 2147483648) (K1 : v9 ≤ 0 → ip sc call 106 MC MS Q 67 [some (.ref r_0), some (.int (nI a_1)), o_2, o_3, o_4, o_5, o_6, o_7, some (.int (nI a_8))] [] h z c s) (K2 : ¬ (v9 ≤ 0) → ip sc call 106 MC MS Q 63 [some (.ref r_0), some (.int (nI a_1)), o_2, o_3, o_4, o_5, o_6, o_7, some (.int (nI a_8))] [] h z c s) : ip sc call 106 MC MS Q 49 [some (.ref r_0), some (.int (nI a_1)), o_2, o_3, o_4, o_5, o_6, o_7, some (.int (nI a_8))] [] h z c s := by
  refine jp_load (pc2 := 50) (n := 0) rfl rfl rfl rfl ?_
  refine jp_getf (pc2 := 53) rfl rfl e2 e3 ?_
  refine jp_load (pc2 := 54) (n := 1) rfl rfl rfl rfl ?_
  refine jp_con (pc2 := 55) (v := (.int (nI 4))) rfl rfl rfl ?_
  refine jp_bin (pc2 := 56) (v := nI (a_1 + 4)) rfl rfl (congrArg some (nI_add _ _)) ?_
  refine jp_load (pc2 := 58) (n := 8) rfl rfl rfl rfl ?_
  refine jp_bin (pc2 := 59) (v := nI ((a_1 + 4) + a_8)) rfl rfl (congrArg some (nI_add _ _)) ?_
  refine jp_iald (pc2 := 60) rfl rfl e6 (vp_in_nI b7 c8) ?_
  rw [(nI_clamp (Nat.lt_trans b7 c8))]
  rw [e10]
  exact jp_if0 (pc2 := 63) rfl rfl (fun q => K1 ((nI_leI c11 (by decide)).mp q)) (fun q => K2 (fun r => q ((nI_leI c11 (by decide)).mpr r)))
theorem c106_63 {o_0 : Option Value} {o_1 : Option Value} {o_2 : Option Value} {o_3 : Option Value} {o_4 : Option Value} {o_5 : Option Value} {o_6 : Option Value} {o_7 : Option Value} {o_8 : Option Value}  (K : ip sc call 106 MC MS Q 68 [o_0, o_1, o_2, o_3, o_4, o_5, o_6, o_7, o_8] [(.int (nI 1))] h z c s) : ip sc call 106 MC MS Q 63 [o_0, o_1, o_2, o_3, o_4, o_5, o_6, o_7, o_8] [] h z c s := by
  refine jp_con (pc2 := 64) (v := (.int (nI 1))) rfl rfl rfl ?_
  refine ip_goto rfl ?_
  exact K
theorem c106_67 {o_0 : Option Value} {o_1 : Option Value} {o_2 : Option Value} {o_3 : Option Value} {o_4 : Option Value} {o_5 : Option Value} {o_6 : Option Value} {o_7 : Option Value} {o_8 : Option Value}  (K : ip sc call 106 MC MS Q 68 [o_0, o_1, o_2, o_3, o_4, o_5, o_6, o_7, o_8] [(.int (nI 0))] h z c s) : ip sc call 106 MC MS Q 67 [o_0, o_1, o_2, o_3, o_4, o_5, o_6, o_7, o_8] [] h z c s := by
  refine jp_con (pc2 := 68) (v := (.int (nI 0))) rfl rfl rfl ?_
  exact K
theorem c106_68 {o_0 : Option Value} {o_1 : Option Value} {o_2 : Option Value} {o_3 : Option Value} {o_4 : Option Value} {o_5 : Option Value} {o_6 : Option Value} {o_7 : Option Value} {o_8 : Option Value} {sa_0 : Nat} (t1 : narrow .boolean (.int (nI sa_0)) = .int (nI sa_0)) (q2 : Q (some (.int (nI sa_0))) h z)  : ip sc call 106 MC MS Q 68 [o_0, o_1, o_2, o_3, o_4, o_5, o_6, o_7, o_8] [(.int (nI sa_0))] h z c s := by
  exact ip_iret (st := []) rfl rfl t1 q2
theorem c107_0 {r_0 : Nat} {a_1 : Nat} {fs1 : List Value} {q_fs1_0 : Nat} {n4 : Nat} {f5 : Nat → Int32} {g9 : Nat → Int32} {g13 : Nat → Int32} {g16 : Nat → Int32} {g19 : Nat → Int32} (e2 : h r_0 = some (.inr (9, fs1))) (e3 : fs1[0]? = some (.ref q_fs1_0)) (e6 : h q_fs1_0 = some (.inl (0, n4, .inl f5))) (b7 : a_1 + 0 < n4) (c8 : n4 < 2147483648) (d10 : upd f5 (a_1 + 0) (nI 0) = g9) (n11 : r_0 ≠ q_fs1_0) (b12 : a_1 + 1 < n4) (d14 : upd g9 (a_1 + 1) (nI 0) = g13) (b15 : a_1 + 2 < n4) (d17 : upd g13 (a_1 + 2) (nI 0) = g16) (b18 : a_1 + 3 < n4) (d20 : upd g16 (a_1 + 3) (nI 0) = g19) (q21 : Q none (hup h q_fs1_0 (.inl (0, n4, .inl g19))) z)  : ip sc call 107 MC MS Q 0 [some (.ref r_0), some (.int (nI a_1))] [] h z c s := by
  refine jp_load (pc2 := 1) (n := 0) rfl rfl rfl rfl ?_
  refine jp_getf (pc2 := 4) rfl rfl e2 e3 ?_
  refine jp_load (pc2 := 5) (n := 1) rfl rfl rfl rfl ?_
  refine jp_con (pc2 := 6) (v := (.int (nI 0))) rfl rfl rfl ?_
  refine jp_bin (pc2 := 7) (v := nI (a_1 + 0)) rfl rfl (congrArg some (nI_add _ _)) ?_
  refine jp_con (pc2 := 8) (v := (.int (nI 0))) rfl rfl rfl ?_
  refine jp_iast (pc2 := 9) rfl rfl e6 (vp_in_nI b7 c8) ?_
  rw [(nI_clamp (Nat.lt_trans b7 c8))]
  rw [d10]
  refine jp_load (pc2 := 10) (n := 0) rfl rfl rfl rfl ?_
  refine jp_getf (pc2 := 13) rfl rfl (hup_ne n11 e2) e3 ?_
  refine jp_load (pc2 := 14) (n := 1) rfl rfl rfl rfl ?_
  refine jp_con (pc2 := 15) (v := (.int (nI 1))) rfl rfl rfl ?_
  refine jp_bin (pc2 := 16) (v := nI (a_1 + 1)) rfl rfl (congrArg some (nI_add _ _)) ?_
  refine jp_con (pc2 := 17) (v := (.int (nI 0))) rfl rfl rfl ?_
  refine jp_iast (pc2 := 18) rfl rfl hup_eq (vp_in_nI b12 c8) ?_
  rw [(nI_clamp (Nat.lt_trans b12 c8))]
  rw [d14]
  rw [hup_hup]
  refine jp_load (pc2 := 19) (n := 0) rfl rfl rfl rfl ?_
  refine jp_getf (pc2 := 22) rfl rfl (hup_ne n11 e2) e3 ?_
  refine jp_load (pc2 := 23) (n := 1) rfl rfl rfl rfl ?_
  refine jp_con (pc2 := 24) (v := (.int (nI 2))) rfl rfl rfl ?_
  refine jp_bin (pc2 := 25) (v := nI (a_1 + 2)) rfl rfl (congrArg some (nI_add _ _)) ?_
  refine jp_con (pc2 := 26) (v := (.int (nI 0))) rfl rfl rfl ?_
  refine jp_iast (pc2 := 27) rfl rfl hup_eq (vp_in_nI b15 c8) ?_
  rw [(nI_clamp (Nat.lt_trans b15 c8))]
  rw [d17]
  rw [hup_hup]
  refine jp_load (pc2 := 28) (n := 0) rfl rfl rfl rfl ?_
  refine jp_getf (pc2 := 31) rfl rfl (hup_ne n11 e2) e3 ?_
  refine jp_load (pc2 := 32) (n := 1) rfl rfl rfl rfl ?_
  refine jp_con (pc2 := 33) (v := (.int (nI 3))) rfl rfl rfl ?_
  refine jp_bin (pc2 := 34) (v := nI (a_1 + 3)) rfl rfl (congrArg some (nI_add _ _)) ?_
  refine jp_con (pc2 := 35) (v := (.int (nI 0))) rfl rfl rfl ?_
  refine jp_iast (pc2 := 36) rfl rfl hup_eq (vp_in_nI b18 c8) ?_
  rw [(nI_clamp (Nat.lt_trans b18 c8))]
  rw [d20]
  rw [hup_hup]
  exact ip_vret (st := []) rfl rfl q21
set_option maxRecDepth 100000 in
theorem c108_0 {r_0 : Nat} {a_1 : Nat} {a_2 : Nat} {a_3 : Nat} {a_4 : Nat} {a_5 : Nat} {a_6 : Nat} {a_7 : Nat} {a_8 : Nat} {o_9 : Option Value} {o_10 : Option Value} {o_11 : Option Value} {o_12 : Option Value} {o_13 : Option Value} {o_14 : Option Value} {o_15 : Option Value} {fs1 : List Value} {P : ipQ} (e2 : h r_0 = some (.inr (9, fs1))) (m3 : c ≤ MC) (m4 : s ≤ MS) (hc : call 105 [(.ref r_0), (.int (nI a_1)), (.int (nI a_3)), (.int (nI a_4)), (.int (nI a_5))] h z 0 0 P) (K : ∀ (o : Option Value) (h2 : HP) (z2 : Nat), P o h2 z2 → ip sc call 108 MC MS Q 10 [some (.ref r_0), some (.int (nI a_1)), some (.int (nI a_2)), some (.int (nI a_3)), some (.int (nI a_4)), some (.int (nI a_5)), some (.int (nI a_6)), some (.int (nI a_7)), some (.int (nI a_8)), o_9, o_10, o_11, o_12, o_13, o_14, o_15] (o.toList ++ []) h2 z2 c s) : ip sc call 108 MC MS Q 0 [some (.ref r_0), some (.int (nI a_1)), some (.int (nI a_2)), some (.int (nI a_3)), some (.int (nI a_4)), some (.int (nI a_5)), some (.int (nI a_6)), some (.int (nI a_7)), some (.int (nI a_8)), o_9, o_10, o_11, o_12, o_13, o_14, o_15] [] h z c s := by
  refine jp_load (pc2 := 1) (n := 0) rfl rfl rfl rfl ?_
  refine jp_load (pc2 := 2) (n := 1) rfl rfl rfl rfl ?_
  refine jp_load (pc2 := 3) (n := 3) rfl rfl rfl rfl ?_
  refine jp_load (pc2 := 5) (n := 4) rfl rfl rfl rfl ?_
  refine jp_load (pc2 := 7) (n := 5) rfl rfl rfl rfl ?_
  exact jp_virt0 (pc2 := 10) (As := [(.int (nI a_1)), (.int (nI a_3)), (.int (nI a_4)), (.int (nI a_5))]) (rest := []) rfl rfl rfl (Nat.le_of_ble_eq_true rfl) e2 m3 m4 hc rfl K
set_option maxRecDepth 100000 in
theorem c108_10 {r_0 : Nat} {a_1 : Nat} {a_2 : Nat} {a_3 : Nat} {a_4 : Nat} {a_5 : Nat} {a_6 : Nat} {a_7 : Nat} {a_8 : Nat} {o_9 : Option Value} {o_10 : Option Value} {o_11 : Option Value} {o_12 : Option Value} {o_13 : Option Value} {o_14 : Option Value} {o_15 : Option Value} {sa_0 : Nat} {fs1 : List Value} {P : ipQ} (e2 : h r_0 = some (.inr (9, fs1))) (m3 : c ≤ MC) (m4 : s ≤ MS) (hc : call 105 [(.ref r_0), (.int (nI a_1)), (.int (nI a_3)), (.int (nI a_6)), (.int (nI a_7))] h z 0 0 P) (K : ∀ (o : Option Value) (h2 : HP) (z2 : Nat), P o h2 z2 → ip sc call 108 MC MS Q 22 [some (.ref r_0), some (.int (nI a_1)), some (.int (nI a_2)), some (.int (nI a_3)), some (.int (nI a_4)), some (.int (nI a_5)), some (.int (nI a_6)), some (.int (nI a_7)), some (.int (nI a_8)), some (.int (nI sa_0)), o_10, o_11, o_12, o_13, o_14, o_15] (o.toList ++ []) h2 z2 c s) : ip sc call 108 MC MS Q 10 [some (.ref r_0), some (.int (nI a_1)), some (.int (nI a_2)), some (.int (nI a_3)), some (.int (nI a_4)), some (.int (nI a_5)), some (.int (nI a_6)), some (.int (nI a_7)), some (.int (nI a_8)), o_9, o_10, o_11, o_12, o_13, o_14, o_15] [(.int (nI sa_0))] h z c s := by
  refine jp_store (pc2 := 12) (n := 9) rfl rfl ⟨rfl, rfl⟩ rfl (Nat.le_of_ble_eq_true rfl) ?_
  refine jp_load (pc2 := 13) (n := 0) rfl rfl rfl rfl ?_
  refine jp_load (pc2 := 14) (n := 1) rfl rfl rfl rfl ?_
  refine jp_load (pc2 := 15) (n := 3) rfl rfl rfl rfl ?_
  refine jp_load (pc2 := 17) (n := 6) rfl rfl rfl rfl ?_
  refine jp_load (pc2 := 19) (n := 7) rfl rfl rfl rfl ?_
  exact jp_virt0 (pc2 := 22) (As := [(.int (nI a_1)), (.int (nI a_3)), (.int (nI a_6)), (.int (nI a_7))]) (rest := []) rfl rfl rfl (Nat.le_of_ble_eq_true rfl) e2 m3 m4 hc rfl K
set_option maxRecDepth 100000 in
theorem c108_22 {r_0 : Nat} {a_1 : Nat} {a_2 : Nat} {a_3 : Nat} {a_4 : Nat} {a_5 : Nat} {a_6 : Nat} {a_7 : Nat} {a_8 : Nat} {a_9 : Nat} {o_10 : Option Value} {o_11 : Option Value} {o_12 : Option Value} {o_13 : Option Value} {o_14 : Option Value} {o_15 : Option Value} {sa_0 : Nat} {fs1 : List Value} {q_fs1_0 : Nat} {n4 : Nat} {f5 : Nat → Int32} {v9 : Nat} {P : ipQ} (e2 : h r_0 = some (.inr (9, fs1))) (e3 : fs1[0]? = some (.ref q_fs1_0)) (e6 : h q_fs1_0 = some (.inl (0, n4, .inl f5))) (b7 : a_1 + 0 < n4) (c8 : n4 < 2147483648) (e10 : f5 (a_1 + 0) = nI v9) (m11 : c ≤ MC) (m12 : s ≤ MS) (hc : call 107 [(.ref r_0), (.int (nI a_2))] h z 0 0 P) (K : ∀ (o : Option Value) (h2 : HP) (z2 : Nat), P o h2 z2 → ip sc call 108 MC MS Q 39 [some (.ref r_0), some (.int (nI a_1)), some (.int (nI a_2)), some (.int (nI a_3)), some (.int (nI a_4)), some (.int (nI a_5)), some (.int (nI a_6)), some (.int (nI a_7)), some (.int (nI a_8)), some (.int (nI a_9)), some (.int (nI sa_0)), some (.int (nI v9)), o_12, o_13, o_14, o_15] (o.toList ++ []) h2 z2 c s) : ip sc call 108 MC MS Q 22 [some (.ref r_0), some (.int (nI a_1)), some (.int (nI a_2)), some (.int (nI a_3)), some (.int (nI a_4)), some (.int (nI a_5)), some (.int (nI a_6)), some (.int (nI a_7)), some (.int (nI a_8)), some (.int (nI a_9)), o_10, o_11, o_12, o_13, o_14, o_15] [(.int (nI sa_0))] h z c s := by
  refine jp_store (pc2 := 24) (n := 10) rfl rfl ⟨rfl, rfl⟩ rfl (Nat.le_of_ble_eq_true rfl) ?_
  refine jp_load (pc2 := 25) (n := 0) rfl rfl rfl rfl ?_
  refine jp_getf (pc2 := 28) rfl rfl e2 e3 ?_
  refine jp_load (pc2 := 29) (n := 1) rfl rfl rfl rfl ?_
  refine jp_con (pc2 := 30) (v := (.int (nI 0))) rfl rfl rfl ?_
  refine jp_bin (pc2 := 31) (v := nI (a_1 + 0)) rfl rfl (congrArg some (nI_add _ _)) ?_
  refine jp_iald (pc2 := 32) rfl rfl e6 (vp_in_nI b7 c8) ?_
  rw [(nI_clamp (Nat.lt_trans b7 c8))]
  rw [e10]
  refine jp_store (pc2 := 34) (n := 11) rfl rfl ⟨rfl, rfl⟩ rfl (Nat.le_of_ble_eq_true rfl) ?_
  refine jp_load (pc2 := 35) (n := 0) rfl rfl rfl rfl ?_
  refine jp_load (pc2 := 36) (n := 2) rfl rfl rfl rfl ?_
  exact jp_virt0 (pc2 := 39) (As := [(.int (nI a_2))]) (rest := []) rfl rfl rfl (Nat.le_of_ble_eq_true rfl) e2 m11 m12 hc rfl K
set_option maxRecDepth 100000 in
theorem c108_39 {r_0 : Nat} {a_1 : Nat} {a_2 : Nat} {a_3 : Nat} {a_4 : Nat} {a_5 : Nat} {a_6 : Nat} {a_7 : Nat} {a_8 : Nat} {a_9 : Nat} {a_10 : Nat} {a_11 : Nat} {o_12 : Option Value} {o_13 : Option Value} {o_14 : Option Value} {o_15 : Option Value} {fs1 : List Value} {q_fs1_0 : Nat} {n4 : Nat} {f5 : Nat → Int32} {g9 : Nat → Int32} (e2 : h r_0 = some (.inr (9, fs1))) (e3 : fs1[0]? = some (.ref q_fs1_0)) (e6 : h q_fs1_0 = some (.inl (0, n4, .inl f5))) (b7 : a_2 + 0 < n4) (c8 : n4 < 2147483648) (d10 : upd f5 (a_2 + 0) (nI (a_11 + 1)) = g9) (K : ip sc call 108 MC MS Q 54 [some (.ref r_0), some (.int (nI a_1)), some (.int (nI a_2)), some (.int (nI a_3)), some (.int (nI a_4)), some (.int (nI a_5)), some (.int (nI a_6)), some (.int (nI a_7)), some (.int (nI a_8)), some (.int (nI a_9)), some (.int (nI a_10)), some (.int (nI a_11)), some (.int (nI 0)), o_13, o_14, o_15] [] (hup h q_fs1_0 (.inl (0, n4, .inl g9))) z c s) : ip sc call 108 MC MS Q 39 [some (.ref r_0), some (.int (nI a_1)), some (.int (nI a_2)), some (.int (nI a_3)), some (.int (nI a_4)), some (.int (nI a_5)), some (.int (nI a_6)), some (.int (nI a_7)), some (.int (nI a_8)), some (.int (nI a_9)), some (.int (nI a_10)), some (.int (nI a_11)), o_12, o_13, o_14, o_15] [] h z c s := by
  refine jp_load (pc2 := 40) (n := 0) rfl rfl rfl rfl ?_
  refine jp_getf (pc2 := 43) rfl rfl e2 e3 ?_
  refine jp_load (pc2 := 44) (n := 2) rfl rfl rfl rfl ?_
  refine jp_con (pc2 := 45) (v := (.int (nI 0))) rfl rfl rfl ?_
  refine jp_bin (pc2 := 46) (v := nI (a_2 + 0)) rfl rfl (congrArg some (nI_add _ _)) ?_
  refine jp_load (pc2 := 48) (n := 11) rfl rfl rfl rfl ?_
  refine jp_con (pc2 := 49) (v := (.int (nI 1))) rfl rfl rfl ?_
  refine jp_bin (pc2 := 50) (v := nI (a_11 + 1)) rfl rfl (congrArg some (nI_add _ _)) ?_
  refine jp_iast (pc2 := 51) rfl rfl e6 (vp_in_nI b7 c8) ?_
  rw [(nI_clamp (Nat.lt_trans b7 c8))]
  rw [d10]
  refine jp_con (pc2 := 52) (v := (.int (nI 0))) rfl rfl rfl ?_
  refine jp_store (pc2 := 54) (n := 12) rfl rfl ⟨rfl, rfl⟩ rfl (Nat.le_of_ble_eq_true rfl) ?_
  exact K
set_option maxRecDepth 100000 in
theorem c108_54 {r_0 : Nat} {a_1 : Nat} {a_2 : Nat} {a_3 : Nat} {a_4 : Nat} {a_5 : Nat} {a_6 : Nat} {a_7 : Nat} {a_8 : Nat} {a_9 : Nat} {a_10 : Nat} {a_11 : Nat} {a_12 : Nat} {o_13 : Option Value} {o_14 : Option Value} {o_15 : Option Value} (c1 : a_12 < 2147483648) (c2 : a_11 < 2147483648) (K1 : a_11 ≤ a_12 → ip sc call 108 MC MS Q 115 [some (.ref r_0), some (.int (nI a_1)), some (.int (nI a_2)), some (.int (nI a_3)), some (.int (nI a_4)), some (.int (nI a_5)), some (.int (nI a_6)), some (.int (nI a_7)), some (.int (nI a_8)), some (.int (nI a_9)), some (.int (nI a_10)), some (.int (nI a_11)), some (.int (nI a_12)), o_13, o_14, o_15] [] h z c s) (K2 : ¬ (a_11 ≤ a_12) → ip sc call 108 MC MS Q 61 [some (.ref r_0), some (.int (nI a_1)), some (.int (nI a_2)), some (.int (nI a_3)), some (.int (nI a_4)), some (.int (nI a_5)), some (.int (nI a_6)), some (.int (nI a_7)), some (.int (nI a_8)), some (.int (nI a_9)), some (.int (nI a_10)), some (.int (nI a_11)), some (.int (nI a_12)), o_13, o_14, o_15] [] h z c s) : ip sc call 108 MC MS Q 54 [some (.ref r_0), some (.int (nI a_1)), some (.int (nI a_2)), some (.int (nI a_3)), some (.int (nI a_4)), some (.int (nI a_5)), some (.int (nI a_6)), some (.int (nI a_7)), some (.int (nI a_8)), some (.int (nI a_9)), some (.int (nI a_10)), some (.int (nI a_11)), some (.int (nI a_12)), o_13, o_14, o_15] [] h z c s := by
  refine jp_load (pc2 := 56) (n := 12) rfl rfl rfl rfl ?_
  refine jp_load (pc2 := 58) (n := 11) rfl rfl rfl rfl ?_
  exact jp_icmp (pc2 := 61) rfl rfl (fun q => K1 ((nI_leI c2 c1).mp q)) (fun q => K2 (fun r => q ((nI_leI c2 c1).mpr r)))
set_option maxRecDepth 100000 in
theorem c108_61 {r_0 : Nat} {a_1 : Nat} {a_2 : Nat} {a_3 : Nat} {a_4 : Nat} {a_5 : Nat} {a_6 : Nat} {a_7 : Nat} {a_8 : Nat} {a_9 : Nat} {a_10 : Nat} {a_11 : Nat} {a_12 : Nat} {o_13 : Option Value} {o_14 : Option Value} {o_15 : Option Value} {fs1 : List Value} {q_fs1_0 : Nat} {n4 : Nat} {f5 : Nat → Int32} {v9 : Nat} (e2 : h r_0 = some (.inr (9, fs1))) (e3 : fs1[0]? = some (.ref q_fs1_0)) (e6 : h q_fs1_0 = some (.inl (0, n4, .inl f5))) (b7 : (a_1 + 4) + a_12 < n4) (c8 : n4 < 2147483648) (e10 : f5 ((a_1 + 4) + a_12) = nI v9) (c11 : a_12 < 2147483648) (c12 : a_9 < 2147483648) (K1 : ¬ a_12 = a_9 → ip sc call 108 MC MS Q 93 [some (.ref r_0), some (.int (nI a_1)), some (.int (nI a_2)), some (.int (nI a_3)), some (.int (nI a_4)), some (.int (nI a_5)), some (.int (nI a_6)), some (.int (nI a_7)), some (.int (nI a_8)), some (.int (nI a_9)), some (.int (nI a_10)), some (.int (nI a_11)), some (.int (nI a_12)), o_13, o_14, o_15] [(.int (nI v9)), (.int (nI ((a_2 + 4) + a_12))), (.ref q_fs1_0)] h z c s) (K2 : ¬ (¬ a_12 = a_9) → ip sc call 108 MC MS Q 89 [some (.ref r_0), some (.int (nI a_1)), some (.int (nI a_2)), some (.int (nI a_3)), some (.int (nI a_4)), some (.int (nI a_5)), some (.int (nI a_6)), some (.int (nI a_7)), some (.int (nI a_8)), some (.int (nI a_9)), some (.int (nI a_10)), some (.int (nI a_11)), some (.int (nI a_12)), o_13, o_14, o_15] [(.int (nI v9)), (.int (nI ((a_2 + 4) + a_12))), (.ref q_fs1_0)] h z c s) : ip sc call 108 MC MS Q 61 [some (.ref r_0), some (.int (nI a_1)), some (.int (nI a_2)), some (.int (nI a_3)), some (.int (nI a_4)), some (.int (nI a_5)), some (.int (nI a_6)), some (.int (nI a_7)), some (.int (nI a_8)), some (.int (nI a_9)), some (.int (nI a_10)), some (.int (nI a_11)), some (.int (nI a_12)), o_13, o_14, o_15] [] h z c s := by
  refine jp_load (pc2 := 62) (n := 0) rfl rfl rfl rfl ?_
  refine jp_getf (pc2 := 65) rfl rfl e2 e3 ?_
  refine jp_load (pc2 := 66) (n := 2) rfl rfl rfl rfl ?_
  refine jp_con (pc2 := 67) (v := (.int (nI 4))) rfl rfl rfl ?_
  refine jp_bin (pc2 := 68) (v := nI (a_2 + 4)) rfl rfl (congrArg some (nI_add _ _)) ?_
  refine jp_load (pc2 := 70) (n := 12) rfl rfl rfl rfl ?_
  refine jp_bin (pc2 := 71) (v := nI ((a_2 + 4) + a_12)) rfl rfl (congrArg some (nI_add _ _)) ?_
  refine jp_load (pc2 := 72) (n := 0) rfl rfl rfl rfl ?_
  refine jp_getf (pc2 := 75) rfl rfl e2 e3 ?_
  refine jp_load (pc2 := 76) (n := 1) rfl rfl rfl rfl ?_
  refine jp_con (pc2 := 77) (v := (.int (nI 4))) rfl rfl rfl ?_
  refine jp_bin (pc2 := 78) (v := nI (a_1 + 4)) rfl rfl (congrArg some (nI_add _ _)) ?_
  refine jp_load (pc2 := 80) (n := 12) rfl rfl rfl rfl ?_
  refine jp_bin (pc2 := 81) (v := nI ((a_1 + 4) + a_12)) rfl rfl (congrArg some (nI_add _ _)) ?_
  refine jp_iald (pc2 := 82) rfl rfl e6 (vp_in_nI b7 c8) ?_
  rw [(nI_clamp (Nat.lt_trans b7 c8))]
  rw [e10]
  refine jp_load (pc2 := 84) (n := 12) rfl rfl rfl rfl ?_
  refine jp_load (pc2 := 86) (n := 9) rfl rfl rfl rfl ?_
  exact jp_icmp (pc2 := 89) rfl rfl (fun q => K1 ((not_congr (nI_eq c11 c12)).mp q)) (fun q => K2 (fun r => q ((not_congr (nI_eq c11 c12)).mpr r)))
set_option maxRecDepth 100000 in
theorem c108_89 {r_0 : Nat} {a_1 : Nat} {a_2 : Nat} {a_3 : Nat} {a_4 : Nat} {a_5 : Nat} {a_6 : Nat} {a_7 : Nat} {a_8 : Nat} {a_9 : Nat} {a_10 : Nat} {a_11 : Nat} {a_12 : Nat} {o_13 : Option Value} {o_14 : Option Value} {o_15 : Option Value} {sr_0 : Nat} {sa_1 : Nat} {sa_2 : Nat}  (K : ip sc call 108 MC MS Q 94 [some (.ref r_0), some (.int (nI a_1)), some (.int (nI a_2)), some (.int (nI a_3)), some (.int (nI a_4)), some (.int (nI a_5)), some (.int (nI a_6)), some (.int (nI a_7)), some (.int (nI a_8)), some (.int (nI a_9)), some (.int (nI a_10)), some (.int (nI a_11)), some (.int (nI a_12)), o_13, o_14, o_15] [(.int (nI 1)), (.int (nI sa_2)), (.int (nI sa_1)), (.ref sr_0)] h z c s) : ip sc call 108 MC MS Q 89 [some (.ref r_0), some (.int (nI a_1)), some (.int (nI a_2)), some (.int (nI a_3)), some (.int (nI a_4)), some (.int (nI a_5)), some (.int (nI a_6)), some (.int (nI a_7)), some (.int (nI a_8)), some (.int (nI a_9)), some (.int (nI a_10)), some (.int (nI a_11)), some (.int (nI a_12)), o_13, o_14, o_15] [(.int (nI sa_2)), (.int (nI sa_1)), (.ref sr_0)] h z c s := by
  refine jp_con (pc2 := 90) (v := (.int (nI 1))) rfl rfl rfl ?_
  refine ip_goto rfl ?_
  exact K
set_option maxRecDepth 100000 in
theorem c108_93 {r_0 : Nat} {a_1 : Nat} {a_2 : Nat} {a_3 : Nat} {a_4 : Nat} {a_5 : Nat} {a_6 : Nat} {a_7 : Nat} {a_8 : Nat} {a_9 : Nat} {a_10 : Nat} {a_11 : Nat} {a_12 : Nat} {o_13 : Option Value} {o_14 : Option Value} {o_15 : Option Value} {sr_0 : Nat} {sa_1 : Nat} {sa_2 : Nat}  (K : ip sc call 108 MC MS Q 94 [some (.ref r_0), some (.int (nI a_1)), some (.int (nI a_2)), some (.int (nI a_3)), some (.int (nI a_4)), some (.int (nI a_5)), some (.int (nI a_6)), some (.int (nI a_7)), some (.int (nI a_8)), some (.int (nI a_9)), some (.int (nI a_10)), some (.int (nI a_11)), some (.int (nI a_12)), o_13, o_14, o_15] [(.int (nI 0)), (.int (nI sa_2)), (.int (nI sa_1)), (.ref sr_0)] h z c s) : ip sc call 108 MC MS Q 93 [some (.ref r_0), some (.int (nI a_1)), some (.int (nI a_2)), some (.int (nI a_3)), some (.int (nI a_4)), some (.int (nI a_5)), some (.int (nI a_6)), some (.int (nI a_7)), some (.int (nI a_8)), some (.int (nI a_9)), some (.int (nI a_10)), some (.int (nI a_11)), some (.int (nI a_12)), o_13, o_14, o_15] [(.int (nI sa_2)), (.int (nI sa_1)), (.ref sr_0)] h z c s := by
  refine jp_con (pc2 := 94) (v := (.int (nI 0))) rfl rfl rfl ?_
  exact K
set_option maxRecDepth 100000 in
theorem c108_94 {r_0 : Nat} {a_1 : Nat} {a_2 : Nat} {a_3 : Nat} {a_4 : Nat} {a_5 : Nat} {a_6 : Nat} {a_7 : Nat} {a_8 : Nat} {a_9 : Nat} {a_10 : Nat} {a_11 : Nat} {a_12 : Nat} {o_13 : Option Value} {o_14 : Option Value} {o_15 : Option Value} {sr_0 : Nat} {sa_1 : Nat} {sa_2 : Nat} {sa_3 : Nat} (d1 : sa_3 ≤ sa_2) (c2 : a_12 < 2147483648) (c3 : a_10 < 2147483648) (K1 : ¬ a_12 = a_10 → ip sc call 108 MC MS Q 106 [some (.ref r_0), some (.int (nI a_1)), some (.int (nI a_2)), some (.int (nI a_3)), some (.int (nI a_4)), some (.int (nI a_5)), some (.int (nI a_6)), some (.int (nI a_7)), some (.int (nI a_8)), some (.int (nI a_9)), some (.int (nI a_10)), some (.int (nI a_11)), some (.int (nI a_12)), o_13, o_14, o_15] [(.int (nI (sa_2 - sa_3))), (.int (nI sa_1)), (.ref sr_0)] h z c s) (K2 : ¬ (¬ a_12 = a_10) → ip sc call 108 MC MS Q 102 [some (.ref r_0), some (.int (nI a_1)), some (.int (nI a_2)), some (.int (nI a_3)), some (.int (nI a_4)), some (.int (nI a_5)), some (.int (nI a_6)), some (.int (nI a_7)), some (.int (nI a_8)), some (.int (nI a_9)), some (.int (nI a_10)), some (.int (nI a_11)), some (.int (nI a_12)), o_13, o_14, o_15] [(.int (nI (sa_2 - sa_3))), (.int (nI sa_1)), (.ref sr_0)] h z c s) : ip sc call 108 MC MS Q 94 [some (.ref r_0), some (.int (nI a_1)), some (.int (nI a_2)), some (.int (nI a_3)), some (.int (nI a_4)), some (.int (nI a_5)), some (.int (nI a_6)), some (.int (nI a_7)), some (.int (nI a_8)), some (.int (nI a_9)), some (.int (nI a_10)), some (.int (nI a_11)), some (.int (nI a_12)), o_13, o_14, o_15] [(.int (nI sa_3)), (.int (nI sa_2)), (.int (nI sa_1)), (.ref sr_0)] h z c s := by
  refine jp_bin (pc2 := 95) (v := nI (sa_2 - sa_3)) rfl rfl (congrArg some (pk_sub d1)) ?_
  refine jp_load (pc2 := 97) (n := 12) rfl rfl rfl rfl ?_
  refine jp_load (pc2 := 99) (n := 10) rfl rfl rfl rfl ?_
  exact jp_icmp (pc2 := 102) rfl rfl (fun q => K1 ((not_congr (nI_eq c2 c3)).mp q)) (fun q => K2 (fun r => q ((not_congr (nI_eq c2 c3)).mpr r)))
set_option maxRecDepth 100000 in
theorem c108_102 {r_0 : Nat} {a_1 : Nat} {a_2 : Nat} {a_3 : Nat} {a_4 : Nat} {a_5 : Nat} {a_6 : Nat} {a_7 : Nat} {a_8 : Nat} {a_9 : Nat} {a_10 : Nat} {a_11 : Nat} {a_12 : Nat} {o_13 : Option Value} {o_14 : Option Value} {o_15 : Option Value} {sr_0 : Nat} {sa_1 : Nat} {sa_2 : Nat}  (K : ip sc call 108 MC MS Q 107 [some (.ref r_0), some (.int (nI a_1)), some (.int (nI a_2)), some (.int (nI a_3)), some (.int (nI a_4)), some (.int (nI a_5)), some (.int (nI a_6)), some (.int (nI a_7)), some (.int (nI a_8)), some (.int (nI a_9)), some (.int (nI a_10)), some (.int (nI a_11)), some (.int (nI a_12)), o_13, o_14, o_15] [(.int (nI 1)), (.int (nI sa_2)), (.int (nI sa_1)), (.ref sr_0)] h z c s) : ip sc call 108 MC MS Q 102 [some (.ref r_0), some (.int (nI a_1)), some (.int (nI a_2)), some (.int (nI a_3)), some (.int (nI a_4)), some (.int (nI a_5)), some (.int (nI a_6)), some (.int (nI a_7)), some (.int (nI a_8)), some (.int (nI a_9)), some (.int (nI a_10)), some (.int (nI a_11)), some (.int (nI a_12)), o_13, o_14, o_15] [(.int (nI sa_2)), (.int (nI sa_1)), (.ref sr_0)] h z c s := by
  refine jp_con (pc2 := 103) (v := (.int (nI 1))) rfl rfl rfl ?_
  refine ip_goto rfl ?_
  exact K
set_option maxRecDepth 100000 in
theorem c108_106 {r_0 : Nat} {a_1 : Nat} {a_2 : Nat} {a_3 : Nat} {a_4 : Nat} {a_5 : Nat} {a_6 : Nat} {a_7 : Nat} {a_8 : Nat} {a_9 : Nat} {a_10 : Nat} {a_11 : Nat} {a_12 : Nat} {o_13 : Option Value} {o_14 : Option Value} {o_15 : Option Value} {sr_0 : Nat} {sa_1 : Nat} {sa_2 : Nat}  (K : ip sc call 108 MC MS Q 107 [some (.ref r_0), some (.int (nI a_1)), some (.int (nI a_2)), some (.int (nI a_3)), some (.int (nI a_4)), some (.int (nI a_5)), some (.int (nI a_6)), some (.int (nI a_7)), some (.int (nI a_8)), some (.int (nI a_9)), some (.int (nI a_10)), some (.int (nI a_11)), some (.int (nI a_12)), o_13, o_14, o_15] [(.int (nI 0)), (.int (nI sa_2)), (.int (nI sa_1)), (.ref sr_0)] h z c s) : ip sc call 108 MC MS Q 106 [some (.ref r_0), some (.int (nI a_1)), some (.int (nI a_2)), some (.int (nI a_3)), some (.int (nI a_4)), some (.int (nI a_5)), some (.int (nI a_6)), some (.int (nI a_7)), some (.int (nI a_8)), some (.int (nI a_9)), some (.int (nI a_10)), some (.int (nI a_11)), some (.int (nI a_12)), o_13, o_14, o_15] [(.int (nI sa_2)), (.int (nI sa_1)), (.ref sr_0)] h z c s := by
  refine jp_con (pc2 := 107) (v := (.int (nI 0))) rfl rfl rfl ?_
  exact K
set_option maxRecDepth 100000 in
theorem c108_107 {r_0 : Nat} {a_1 : Nat} {a_2 : Nat} {a_3 : Nat} {a_4 : Nat} {a_5 : Nat} {a_6 : Nat} {a_7 : Nat} {a_8 : Nat} {a_9 : Nat} {a_10 : Nat} {a_11 : Nat} {a_12 : Nat} {o_13 : Option Value} {o_14 : Option Value} {o_15 : Option Value} {sr_0 : Nat} {sa_1 : Nat} {sa_2 : Nat} {sa_3 : Nat} {n2 : Nat} {f3 : Nat → Int32} {g7 : Nat → Int32} (d1 : sa_3 ≤ sa_2) (e4 : h sr_0 = some (.inl (0, n2, .inl f3))) (b5 : sa_1 < n2) (c6 : n2 < 2147483648) (d8 : upd f3 sa_1 (nI (sa_2 - sa_3)) = g7) (K : ip sc call 108 MC MS Q 54 [some (.ref r_0), some (.int (nI a_1)), some (.int (nI a_2)), some (.int (nI a_3)), some (.int (nI a_4)), some (.int (nI a_5)), some (.int (nI a_6)), some (.int (nI a_7)), some (.int (nI a_8)), some (.int (nI a_9)), some (.int (nI a_10)), some (.int (nI a_11)), some (.int (nI (a_12 + 1))), o_13, o_14, o_15] [] (hup h sr_0 (.inl (0, n2, .inl g7))) z c s) : ip sc call 108 MC MS Q 107 [some (.ref r_0), some (.int (nI a_1)), some (.int (nI a_2)), some (.int (nI a_3)), some (.int (nI a_4)), some (.int (nI a_5)), some (.int (nI a_6)), some (.int (nI a_7)), some (.int (nI a_8)), some (.int (nI a_9)), some (.int (nI a_10)), some (.int (nI a_11)), some (.int (nI a_12)), o_13, o_14, o_15] [(.int (nI sa_3)), (.int (nI sa_2)), (.int (nI sa_1)), (.ref sr_0)] h z c s := by
  refine jp_bin (pc2 := 108) (v := nI (sa_2 - sa_3)) rfl rfl (congrArg some (pk_sub d1)) ?_
  refine jp_iast (pc2 := 109) rfl rfl e4 (vp_in_nI b5 c6) ?_
  rw [(nI_clamp (Nat.lt_trans b5 c6))]
  rw [d8]
  refine jp_iinc (pc2 := 112) (n := 12) (v := nI (a_12 + 1)) rfl rfl rfl (nI_add _ 1) rfl ?_
  refine ip_goto rfl ?_
  exact K
set_option maxRecDepth 100000 in
theorem c108_115 {r_0 : Nat} {a_1 : Nat} {a_2 : Nat} {a_3 : Nat} {a_4 : Nat} {a_5 : Nat} {a_6 : Nat} {a_7 : Nat} {a_8 : Nat} {o_9 : Option Value} {o_10 : Option Value} {a_11 : Nat} {o_12 : Option Value} {o_13 : Option Value} {o_14 : Option Value} {o_15 : Option Value} {fs1 : List Value} {q_fs1_0 : Nat} {n4 : Nat} {f5 : Nat → Int32} {g9 : Nat → Int32} (e2 : h r_0 = some (.inr (9, fs1))) (e3 : fs1[0]? = some (.ref q_fs1_0)) (e6 : h q_fs1_0 = some (.inl (0, n4, .inl f5))) (b7 : (a_2 + 4) + a_11 < n4) (c8 : n4 < 2147483648) (d10 : upd f5 ((a_2 + 4) + a_11) (nI 1) = g9) (K : ip sc call 108 MC MS Q 133 [some (.ref r_0), some (.int (nI a_1)), some (.int (nI a_2)), some (.int (nI a_3)), some (.int (nI a_4)), some (.int (nI a_5)), some (.int (nI a_6)), some (.int (nI a_7)), some (.int (nI a_8)), o_9, o_10, some (.int (nI a_11)), some (.int (nI 0)), some (.int (nI 0)), o_14, o_15] [] (hup h q_fs1_0 (.inl (0, n4, .inl g9))) z c s) : ip sc call 108 MC MS Q 115 [some (.ref r_0), some (.int (nI a_1)), some (.int (nI a_2)), some (.int (nI a_3)), some (.int (nI a_4)), some (.int (nI a_5)), some (.int (nI a_6)), some (.int (nI a_7)), some (.int (nI a_8)), o_9, o_10, some (.int (nI a_11)), o_12, o_13, o_14, o_15] [] h z c s := by
  refine jp_load (pc2 := 116) (n := 0) rfl rfl rfl rfl ?_
  refine jp_getf (pc2 := 119) rfl rfl e2 e3 ?_
  refine jp_load (pc2 := 120) (n := 2) rfl rfl rfl rfl ?_
  refine jp_con (pc2 := 121) (v := (.int (nI 4))) rfl rfl rfl ?_
  refine jp_bin (pc2 := 122) (v := nI (a_2 + 4)) rfl rfl (congrArg some (nI_add _ _)) ?_
  refine jp_load (pc2 := 124) (n := 11) rfl rfl rfl rfl ?_
  refine jp_bin (pc2 := 125) (v := nI ((a_2 + 4) + a_11)) rfl rfl (congrArg some (nI_add _ _)) ?_
  refine jp_con (pc2 := 126) (v := (.int (nI 1))) rfl rfl rfl ?_
  refine jp_iast (pc2 := 127) rfl rfl e6 (vp_in_nI b7 c8) ?_
  rw [(nI_clamp (Nat.lt_trans b7 c8))]
  rw [d10]
  refine jp_con (pc2 := 128) (v := (.int (nI 0))) rfl rfl rfl ?_
  refine jp_store (pc2 := 130) (n := 12) rfl rfl ⟨rfl, rfl⟩ rfl (Nat.le_of_ble_eq_true rfl) ?_
  refine jp_con (pc2 := 131) (v := (.int (nI 0))) rfl rfl rfl ?_
  refine jp_store (pc2 := 133) (n := 13) rfl rfl ⟨rfl, rfl⟩ rfl (Nat.le_of_ble_eq_true rfl) ?_
  exact K
set_option maxRecDepth 100000 in
theorem c108_133 {r_0 : Nat} {a_1 : Nat} {a_2 : Nat} {a_3 : Nat} {a_4 : Nat} {a_5 : Nat} {a_6 : Nat} {a_7 : Nat} {a_8 : Nat} {o_9 : Option Value} {o_10 : Option Value} {a_11 : Nat} {a_12 : Nat} {a_13 : Nat} {o_14 : Option Value} {o_15 : Option Value} {fs1 : List Value} {q_fs1_0 : Nat} {n4 : Nat} {f5 : Nat → Int32} {v9 : Nat} (e2 : h r_0 = some (.inr (9, fs1))) (e3 : fs1[0]? = some (.ref q_fs1_0)) (e6 : h q_fs1_0 = some (.inl (0, n4, .inl f5))) (b7 : a_1 + 1 < n4) (c8 : n4 < 2147483648) (e10 : f5 (a_1 + 1) = nI v9) (c11 : a_13 < 2147483648) (c12 : v9 < 2147483648) (K1 : v9 ≤ a_13 → ip sc call 108 MC MS Q 264 [some (.ref r_0), some (.int (nI a_1)), some (.int (nI a_2)), some (.int (nI a_3)), some (.int (nI a_4)), some (.int (nI a_5)), some (.int (nI a_6)), some (.int (nI a_7)), some (.int (nI a_8)), o_9, o_10, some (.int (nI a_11)), some (.int (nI a_12)), some (.int (nI a_13)), o_14, o_15] [] h z c s) (K2 : ¬ (v9 ≤ a_13) → ip sc call 108 MC MS Q 146 [some (.ref r_0), some (.int (nI a_1)), some (.int (nI a_2)), some (.int (nI a_3)), some (.int (nI a_4)), some (.int (nI a_5)), some (.int (nI a_6)), some (.int (nI a_7)), some (.int (nI a_8)), o_9, o_10, some (.int (nI a_11)), some (.int (nI a_12)), some (.int (nI a_13)), o_14, o_15] [] h z c s) : ip sc call 108 MC MS Q 133 [some (.ref r_0), some (.int (nI a_1)), some (.int (nI a_2)), some (.int (nI a_3)), some (.int (nI a_4)), some (.int (nI a_5)), some (.int (nI a_6)), some (.int (nI a_7)), some (.int (nI a_8)), o_9, o_10, some (.int (nI a_11)), some (.int (nI a_12)), some (.int (nI a_13)), o_14, o_15] [] h z c s := by
  refine jp_load (pc2 := 135) (n := 13) rfl rfl rfl rfl ?_
  refine jp_load (pc2 := 136) (n := 0) rfl rfl rfl rfl ?_
  refine jp_getf (pc2 := 139) rfl rfl e2 e3 ?_
  refine jp_load (pc2 := 140) (n := 1) rfl rfl rfl rfl ?_
  refine jp_con (pc2 := 141) (v := (.int (nI 1))) rfl rfl rfl ?_
  refine jp_bin (pc2 := 142) (v := nI (a_1 + 1)) rfl rfl (congrArg some (nI_add _ _)) ?_
  refine jp_iald (pc2 := 143) rfl rfl e6 (vp_in_nI b7 c8) ?_
  rw [(nI_clamp (Nat.lt_trans b7 c8))]
  rw [e10]
  exact jp_icmp (pc2 := 146) rfl rfl (fun q => K1 ((nI_leI c12 c11).mp q)) (fun q => K2 (fun r => q ((nI_leI c12 c11).mpr r)))
set_option maxRecDepth 100000 in
theorem c108_146 {r_0 : Nat} {a_1 : Nat} {a_2 : Nat} {a_3 : Nat} {a_4 : Nat} {a_5 : Nat} {a_6 : Nat} {a_7 : Nat} {a_8 : Nat} {o_9 : Option Value} {o_10 : Option Value} {a_11 : Nat} {a_12 : Nat} {a_13 : Nat} {o_14 : Option Value} {o_15 : Option Value} {fs1 : List Value} {P : ipQ} (e2 : h r_0 = some (.inr (9, fs1))) (m3 : c ≤ MC) (m4 : s ≤ MS) (hc : call 100 [(.ref r_0), (.int (nI a_2))] h z 0 0 P) (K : ∀ (o : Option Value) (h2 : HP) (z2 : Nat), P o h2 z2 → ip sc call 108 MC MS Q 151 [some (.ref r_0), some (.int (nI a_1)), some (.int (nI a_2)), some (.int (nI a_3)), some (.int (nI a_4)), some (.int (nI a_5)), some (.int (nI a_6)), some (.int (nI a_7)), some (.int (nI a_8)), o_9, o_10, some (.int (nI a_11)), some (.int (nI a_12)), some (.int (nI a_13)), o_14, o_15] (o.toList ++ []) h2 z2 c s) : ip sc call 108 MC MS Q 146 [some (.ref r_0), some (.int (nI a_1)), some (.int (nI a_2)), some (.int (nI a_3)), some (.int (nI a_4)), some (.int (nI a_5)), some (.int (nI a_6)), some (.int (nI a_7)), some (.int (nI a_8)), o_9, o_10, some (.int (nI a_11)), some (.int (nI a_12)), some (.int (nI a_13)), o_14, o_15] [] h z c s := by
  refine jp_load (pc2 := 147) (n := 0) rfl rfl rfl rfl ?_
  refine jp_load (pc2 := 148) (n := 2) rfl rfl rfl rfl ?_
  exact jp_virt0 (pc2 := 151) (As := [(.int (nI a_2))]) (rest := []) rfl rfl rfl (Nat.le_of_ble_eq_true rfl) e2 m3 m4 hc rfl K
set_option maxRecDepth 100000 in
theorem c108_151 {r_0 : Nat} {a_1 : Nat} {a_2 : Nat} {a_3 : Nat} {a_4 : Nat} {a_5 : Nat} {a_6 : Nat} {a_7 : Nat} {a_8 : Nat} {o_9 : Option Value} {o_10 : Option Value} {a_11 : Nat} {a_12 : Nat} {a_13 : Nat} {o_14 : Option Value} {o_15 : Option Value} {fs1 : List Value} {q_fs1_0 : Nat} {n4 : Nat} {f5 : Nat → Int32} {v9 : Nat} (e2 : h r_0 = some (.inr (9, fs1))) (e3 : fs1[0]? = some (.ref q_fs1_0)) (e6 : h q_fs1_0 = some (.inl (0, n4, .inl f5))) (b7 : (a_1 + 36) + a_13 < n4) (c8 : n4 < 2147483648) (e10 : f5 ((a_1 + 36) + a_13) = nI v9) (c11 : a_13 < 2147483648) (c12 : a_3 < 2147483648) (K1 : a_13 = a_3 → ip sc call 108 MC MS Q 201 [some (.ref r_0), some (.int (nI a_1)), some (.int (nI a_2)), some (.int (nI a_3)), some (.int (nI a_4)), some (.int (nI a_5)), some (.int (nI a_6)), some (.int (nI a_7)), some (.int (nI a_8)), o_9, o_10, some (.int (nI a_11)), some (.int (nI a_12)), some (.int (nI a_13)), some (.int (nI v9)), o_15] [] h z c s) (K2 : ¬ (a_13 = a_3) → ip sc call 108 MC MS Q 171 [some (.ref r_0), some (.int (nI a_1)), some (.int (nI a_2)), some (.int (nI a_3)), some (.int (nI a_4)), some (.int (nI a_5)), some (.int (nI a_6)), some (.int (nI a_7)), some (.int (nI a_8)), o_9, o_10, some (.int (nI a_11)), some (.int (nI a_12)), some (.int (nI a_13)), some (.int (nI v9)), o_15] [] h z c s) : ip sc call 108 MC MS Q 151 [some (.ref r_0), some (.int (nI a_1)), some (.int (nI a_2)), some (.int (nI a_3)), some (.int (nI a_4)), some (.int (nI a_5)), some (.int (nI a_6)), some (.int (nI a_7)), some (.int (nI a_8)), o_9, o_10, some (.int (nI a_11)), some (.int (nI a_12)), some (.int (nI a_13)), o_14, o_15] [] h z c s := by
  refine jp_load (pc2 := 152) (n := 0) rfl rfl rfl rfl ?_
  refine jp_getf (pc2 := 155) rfl rfl e2 e3 ?_
  refine jp_load (pc2 := 156) (n := 1) rfl rfl rfl rfl ?_
  refine jp_con (pc2 := 158) (v := (.int (nI 36))) rfl rfl rfl ?_
  refine jp_bin (pc2 := 159) (v := nI (a_1 + 36)) rfl rfl (congrArg some (nI_add _ _)) ?_
  refine jp_load (pc2 := 161) (n := 13) rfl rfl rfl rfl ?_
  refine jp_bin (pc2 := 162) (v := nI ((a_1 + 36) + a_13)) rfl rfl (congrArg some (nI_add _ _)) ?_
  refine jp_iald (pc2 := 163) rfl rfl e6 (vp_in_nI b7 c8) ?_
  rw [(nI_clamp (Nat.lt_trans b7 c8))]
  rw [e10]
  refine jp_store (pc2 := 165) (n := 14) rfl rfl ⟨rfl, rfl⟩ rfl (Nat.le_of_ble_eq_true rfl) ?_
  refine jp_load (pc2 := 167) (n := 13) rfl rfl rfl rfl ?_
  refine jp_load (pc2 := 168) (n := 3) rfl rfl rfl rfl ?_
  exact jp_icmp (pc2 := 171) rfl rfl (fun q => K1 ((nI_eq c11 c12).mp q)) (fun q => K2 (fun r => q ((nI_eq c11 c12).mpr r)))
set_option maxRecDepth 100000 in
theorem c108_171 {r_0 : Nat} {a_1 : Nat} {a_2 : Nat} {a_3 : Nat} {a_4 : Nat} {a_5 : Nat} {a_6 : Nat} {a_7 : Nat} {a_8 : Nat} {o_9 : Option Value} {o_10 : Option Value} {a_11 : Nat} {a_12 : Nat} {a_13 : Nat} {a_14 : Nat} {o_15 : Option Value}  (K : ip sc call 108 MC MS Q 174 [some (.ref r_0), some (.int (nI a_1)), some (.int (nI a_2)), some (.int (nI a_3)), some (.int (nI a_4)), some (.int (nI a_5)), some (.int (nI a_6)), some (.int (nI a_7)), some (.int (nI a_8)), o_9, o_10, some (.int (nI a_11)), some (.int (nI a_12)), some (.int (nI a_13)), some (.int (nI a_14)), some (.int (nI 0))] [] h z c s) : ip sc call 108 MC MS Q 171 [some (.ref r_0), some (.int (nI a_1)), some (.int (nI a_2)), some (.int (nI a_3)), some (.int (nI a_4)), some (.int (nI a_5)), some (.int (nI a_6)), some (.int (nI a_7)), some (.int (nI a_8)), o_9, o_10, some (.int (nI a_11)), some (.int (nI a_12)), some (.int (nI a_13)), some (.int (nI a_14)), o_15] [] h z c s := by
  refine jp_con (pc2 := 172) (v := (.int (nI 0))) rfl rfl rfl ?_
  refine jp_store (pc2 := 174) (n := 15) rfl rfl ⟨rfl, rfl⟩ rfl (Nat.le_of_ble_eq_true rfl) ?_
  exact K
set_option maxRecDepth 100000 in
theorem c108_174 {r_0 : Nat} {a_1 : Nat} {a_2 : Nat} {a_3 : Nat} {a_4 : Nat} {a_5 : Nat} {a_6 : Nat} {a_7 : Nat} {a_8 : Nat} {o_9 : Option Value} {o_10 : Option Value} {a_11 : Nat} {a_12 : Nat} {a_13 : Nat} {a_14 : Nat} {a_15 : Nat} (c1 : a_15 < 2147483648) (c2 : a_14 < 2147483648) (K1 : a_14 ≤ a_15 → ip sc call 108 MC MS Q 198 [some (.ref r_0), some (.int (nI a_1)), some (.int (nI a_2)), some (.int (nI a_3)), some (.int (nI a_4)), some (.int (nI a_5)), some (.int (nI a_6)), some (.int (nI a_7)), some (.int (nI a_8)), o_9, o_10, some (.int (nI a_11)), some (.int (nI a_12)), some (.int (nI a_13)), some (.int (nI a_14)), some (.int (nI a_15))] [] h z c s) (K2 : ¬ (a_14 ≤ a_15) → ip sc call 108 MC MS Q 181 [some (.ref r_0), some (.int (nI a_1)), some (.int (nI a_2)), some (.int (nI a_3)), some (.int (nI a_4)), some (.int (nI a_5)), some (.int (nI a_6)), some (.int (nI a_7)), some (.int (nI a_8)), o_9, o_10, some (.int (nI a_11)), some (.int (nI a_12)), some (.int (nI a_13)), some (.int (nI a_14)), some (.int (nI a_15))] [] h z c s) : ip sc call 108 MC MS Q 174 [some (.ref r_0), some (.int (nI a_1)), some (.int (nI a_2)), some (.int (nI a_3)), some (.int (nI a_4)), some (.int (nI a_5)), some (.int (nI a_6)), some (.int (nI a_7)), some (.int (nI a_8)), o_9, o_10, some (.int (nI a_11)), some (.int (nI a_12)), some (.int (nI a_13)), some (.int (nI a_14)), some (.int (nI a_15))] [] h z c s := by
  refine jp_load (pc2 := 176) (n := 15) rfl rfl rfl rfl ?_
  refine jp_load (pc2 := 178) (n := 14) rfl rfl rfl rfl ?_
  exact jp_icmp (pc2 := 181) rfl rfl (fun q => K1 ((nI_leI c2 c1).mp q)) (fun q => K2 (fun r => q ((nI_leI c2 c1).mpr r)))
set_option maxRecDepth 100000 in
theorem c108_181 {r_0 : Nat} {a_1 : Nat} {a_2 : Nat} {a_3 : Nat} {a_4 : Nat} {a_5 : Nat} {a_6 : Nat} {a_7 : Nat} {a_8 : Nat} {o_9 : Option Value} {o_10 : Option Value} {a_11 : Nat} {a_12 : Nat} {a_13 : Nat} {a_14 : Nat} {a_15 : Nat} {fs1 : List Value} {P : ipQ} (e2 : h r_0 = some (.inr (9, fs1))) (m3 : c ≤ MC) (m4 : s ≤ MS) (hc : call 102 [(.ref r_0), (.int (nI a_1)), (.int (nI (a_12 + a_15))), (.int (nI a_2))] h z 0 0 P) (K : ∀ (o : Option Value) (h2 : HP) (z2 : Nat), P o h2 z2 → ip sc call 108 MC MS Q 192 [some (.ref r_0), some (.int (nI a_1)), some (.int (nI a_2)), some (.int (nI a_3)), some (.int (nI a_4)), some (.int (nI a_5)), some (.int (nI a_6)), some (.int (nI a_7)), some (.int (nI a_8)), o_9, o_10, some (.int (nI a_11)), some (.int (nI a_12)), some (.int (nI a_13)), some (.int (nI a_14)), some (.int (nI a_15))] (o.toList ++ []) h2 z2 c s) : ip sc call 108 MC MS Q 181 [some (.ref r_0), some (.int (nI a_1)), some (.int (nI a_2)), some (.int (nI a_3)), some (.int (nI a_4)), some (.int (nI a_5)), some (.int (nI a_6)), some (.int (nI a_7)), some (.int (nI a_8)), o_9, o_10, some (.int (nI a_11)), some (.int (nI a_12)), some (.int (nI a_13)), some (.int (nI a_14)), some (.int (nI a_15))] [] h z c s := by
  refine jp_load (pc2 := 182) (n := 0) rfl rfl rfl rfl ?_
  refine jp_load (pc2 := 183) (n := 1) rfl rfl rfl rfl ?_
  refine jp_load (pc2 := 185) (n := 12) rfl rfl rfl rfl ?_
  refine jp_load (pc2 := 187) (n := 15) rfl rfl rfl rfl ?_
  refine jp_bin (pc2 := 188) (v := nI (a_12 + a_15)) rfl rfl (congrArg some (nI_add _ _)) ?_
  refine jp_load (pc2 := 189) (n := 2) rfl rfl rfl rfl ?_
  exact jp_virt0 (pc2 := 192) (As := [(.int (nI a_1)), (.int (nI (a_12 + a_15))), (.int (nI a_2))]) (rest := []) rfl rfl rfl (Nat.le_of_ble_eq_true rfl) e2 m3 m4 hc rfl K
set_option maxRecDepth 100000 in
theorem c108_192 {r_0 : Nat} {a_1 : Nat} {a_2 : Nat} {a_3 : Nat} {a_4 : Nat} {a_5 : Nat} {a_6 : Nat} {a_7 : Nat} {a_8 : Nat} {o_9 : Option Value} {o_10 : Option Value} {a_11 : Nat} {a_12 : Nat} {a_13 : Nat} {a_14 : Nat} {a_15 : Nat}  (K : ip sc call 108 MC MS Q 174 [some (.ref r_0), some (.int (nI a_1)), some (.int (nI a_2)), some (.int (nI a_3)), some (.int (nI a_4)), some (.int (nI a_5)), some (.int (nI a_6)), some (.int (nI a_7)), some (.int (nI a_8)), o_9, o_10, some (.int (nI a_11)), some (.int (nI a_12)), some (.int (nI a_13)), some (.int (nI a_14)), some (.int (nI (a_15 + 1)))] [] h z c s) : ip sc call 108 MC MS Q 192 [some (.ref r_0), some (.int (nI a_1)), some (.int (nI a_2)), some (.int (nI a_3)), some (.int (nI a_4)), some (.int (nI a_5)), some (.int (nI a_6)), some (.int (nI a_7)), some (.int (nI a_8)), o_9, o_10, some (.int (nI a_11)), some (.int (nI a_12)), some (.int (nI a_13)), some (.int (nI a_14)), some (.int (nI a_15))] [] h z c s := by
  refine jp_iinc (pc2 := 195) (n := 15) (v := nI (a_15 + 1)) rfl rfl rfl (nI_add _ 1) rfl ?_
  refine ip_goto rfl ?_
  exact K
set_option maxRecDepth 100000 in
theorem c108_198 {r_0 : Nat} {a_1 : Nat} {a_2 : Nat} {a_3 : Nat} {a_4 : Nat} {a_5 : Nat} {a_6 : Nat} {a_7 : Nat} {a_8 : Nat} {o_9 : Option Value} {o_10 : Option Value} {a_11 : Nat} {a_12 : Nat} {a_13 : Nat} {a_14 : Nat} {o_15 : Option Value}  (K : ip sc call 108 MC MS Q 251 [some (.ref r_0), some (.int (nI a_1)), some (.int (nI a_2)), some (.int (nI a_3)), some (.int (nI a_4)), some (.int (nI a_5)), some (.int (nI a_6)), some (.int (nI a_7)), some (.int (nI a_8)), o_9, o_10, some (.int (nI a_11)), some (.int (nI a_12)), some (.int (nI a_13)), some (.int (nI a_14)), o_15] [] h z c s) : ip sc call 108 MC MS Q 198 [some (.ref r_0), some (.int (nI a_1)), some (.int (nI a_2)), some (.int (nI a_3)), some (.int (nI a_4)), some (.int (nI a_5)), some (.int (nI a_6)), some (.int (nI a_7)), some (.int (nI a_8)), o_9, o_10, some (.int (nI a_11)), some (.int (nI a_12)), some (.int (nI a_13)), some (.int (nI a_14)), o_15] [] h z c s := by
  refine ip_goto rfl ?_
  exact K
set_option maxRecDepth 100000 in
theorem c108_201 {r_0 : Nat} {a_1 : Nat} {a_2 : Nat} {a_3 : Nat} {a_4 : Nat} {a_5 : Nat} {a_6 : Nat} {a_7 : Nat} {a_8 : Nat} {o_9 : Option Value} {o_10 : Option Value} {a_11 : Nat} {a_12 : Nat} {a_13 : Nat} {a_14 : Nat} {o_15 : Option Value} (c1 : a_4 < 2147483648) (c2 : a_6 < 2147483648) (K1 : a_4 = a_6 → ip sc call 108 MC MS Q 231 [some (.ref r_0), some (.int (nI a_1)), some (.int (nI a_2)), some (.int (nI a_3)), some (.int (nI a_4)), some (.int (nI a_5)), some (.int (nI a_6)), some (.int (nI a_7)), some (.int (nI a_8)), o_9, o_10, some (.int (nI a_11)), some (.int (nI a_12)), some (.int (nI a_13)), some (.int (nI a_14)), o_15] [] h z c s) (K2 : ¬ (a_4 = a_6) → ip sc call 108 MC MS Q 208 [some (.ref r_0), some (.int (nI a_1)), some (.int (nI a_2)), some (.int (nI a_3)), some (.int (nI a_4)), some (.int (nI a_5)), some (.int (nI a_6)), some (.int (nI a_7)), some (.int (nI a_8)), o_9, o_10, some (.int (nI a_11)), some (.int (nI a_12)), some (.int (nI a_13)), some (.int (nI a_14)), o_15] [] h z c s) : ip sc call 108 MC MS Q 201 [some (.ref r_0), some (.int (nI a_1)), some (.int (nI a_2)), some (.int (nI a_3)), some (.int (nI a_4)), some (.int (nI a_5)), some (.int (nI a_6)), some (.int (nI a_7)), some (.int (nI a_8)), o_9, o_10, some (.int (nI a_11)), some (.int (nI a_12)), some (.int (nI a_13)), some (.int (nI a_14)), o_15] [] h z c s := by
  refine jp_load (pc2 := 203) (n := 4) rfl rfl rfl rfl ?_
  refine jp_load (pc2 := 205) (n := 6) rfl rfl rfl rfl ?_
  exact jp_icmp (pc2 := 208) rfl rfl (fun q => K1 ((nI_eq c1 c2).mp q)) (fun q => K2 (fun r => q ((nI_eq c1 c2).mpr r)))
set_option maxRecDepth 100000 in
theorem c108_208 {r_0 : Nat} {a_1 : Nat} {a_2 : Nat} {a_3 : Nat} {a_4 : Nat} {a_5 : Nat} {a_6 : Nat} {a_7 : Nat} {a_8 : Nat} {o_9 : Option Value} {o_10 : Option Value} {a_11 : Nat} {a_12 : Nat} {a_13 : Nat} {a_14 : Nat} {o_15 : Option Value} {fs1 : List Value} {P : ipQ} (e2 : h r_0 = some (.inr (9, fs1))) (m3 : c ≤ MC) (m4 : s ≤ MS) (hc : call 109 [(.ref r_0), (.int (nI a_1)), (.int (nI a_2)), (.int (nI a_12)), (.int (nI a_14)), (.int (nI a_4)), (.int (nI a_5)), (.int (nI a_6)), (.int (nI a_7)), (.int (nI a_11))] h z 0 0 P) (K : ∀ (o : Option Value) (h2 : HP) (z2 : Nat), P o h2 z2 → ip sc call 108 MC MS Q 228 [some (.ref r_0), some (.int (nI a_1)), some (.int (nI a_2)), some (.int (nI a_3)), some (.int (nI a_4)), some (.int (nI a_5)), some (.int (nI a_6)), some (.int (nI a_7)), some (.int (nI a_8)), o_9, o_10, some (.int (nI a_11)), some (.int (nI a_12)), some (.int (nI a_13)), some (.int (nI a_14)), o_15] (o.toList ++ []) h2 z2 c s) : ip sc call 108 MC MS Q 208 [some (.ref r_0), some (.int (nI a_1)), some (.int (nI a_2)), some (.int (nI a_3)), some (.int (nI a_4)), some (.int (nI a_5)), some (.int (nI a_6)), some (.int (nI a_7)), some (.int (nI a_8)), o_9, o_10, some (.int (nI a_11)), some (.int (nI a_12)), some (.int (nI a_13)), some (.int (nI a_14)), o_15] [] h z c s := by
  refine jp_load (pc2 := 209) (n := 0) rfl rfl rfl rfl ?_
  refine jp_load (pc2 := 210) (n := 1) rfl rfl rfl rfl ?_
  refine jp_load (pc2 := 211) (n := 2) rfl rfl rfl rfl ?_
  refine jp_load (pc2 := 213) (n := 12) rfl rfl rfl rfl ?_
  refine jp_load (pc2 := 215) (n := 14) rfl rfl rfl rfl ?_
  refine jp_load (pc2 := 217) (n := 4) rfl rfl rfl rfl ?_
  refine jp_load (pc2 := 219) (n := 5) rfl rfl rfl rfl ?_
  refine jp_load (pc2 := 221) (n := 6) rfl rfl rfl rfl ?_
  refine jp_load (pc2 := 223) (n := 7) rfl rfl rfl rfl ?_
  refine jp_load (pc2 := 225) (n := 11) rfl rfl rfl rfl ?_
  exact jp_virt0 (pc2 := 228) (As := [(.int (nI a_1)), (.int (nI a_2)), (.int (nI a_12)), (.int (nI a_14)), (.int (nI a_4)), (.int (nI a_5)), (.int (nI a_6)), (.int (nI a_7)), (.int (nI a_11))]) (rest := []) rfl rfl rfl (Nat.le_of_ble_eq_true rfl) e2 m3 m4 hc rfl K
set_option maxRecDepth 100000 in
theorem c108_228 {r_0 : Nat} {a_1 : Nat} {a_2 : Nat} {a_3 : Nat} {a_4 : Nat} {a_5 : Nat} {a_6 : Nat} {a_7 : Nat} {a_8 : Nat} {o_9 : Option Value} {o_10 : Option Value} {a_11 : Nat} {a_12 : Nat} {a_13 : Nat} {a_14 : Nat} {o_15 : Option Value}  (K : ip sc call 108 MC MS Q 251 [some (.ref r_0), some (.int (nI a_1)), some (.int (nI a_2)), some (.int (nI a_3)), some (.int (nI a_4)), some (.int (nI a_5)), some (.int (nI a_6)), some (.int (nI a_7)), some (.int (nI a_8)), o_9, o_10, some (.int (nI a_11)), some (.int (nI a_12)), some (.int (nI a_13)), some (.int (nI a_14)), o_15] [] h z c s) : ip sc call 108 MC MS Q 228 [some (.ref r_0), some (.int (nI a_1)), some (.int (nI a_2)), some (.int (nI a_3)), some (.int (nI a_4)), some (.int (nI a_5)), some (.int (nI a_6)), some (.int (nI a_7)), some (.int (nI a_8)), o_9, o_10, some (.int (nI a_11)), some (.int (nI a_12)), some (.int (nI a_13)), some (.int (nI a_14)), o_15] [] h z c s := by
  refine ip_goto rfl ?_
  exact K
set_option maxRecDepth 100000 in
theorem c108_231 {r_0 : Nat} {a_1 : Nat} {a_2 : Nat} {a_3 : Nat} {a_4 : Nat} {a_5 : Nat} {a_6 : Nat} {a_7 : Nat} {a_8 : Nat} {o_9 : Option Value} {o_10 : Option Value} {a_11 : Nat} {a_12 : Nat} {a_13 : Nat} {a_14 : Nat} {o_15 : Option Value} {fs1 : List Value} {P : ipQ} (e2 : h r_0 = some (.inr (9, fs1))) (m3 : c ≤ MC) (m4 : s ≤ MS) (hc : call 110 [(.ref r_0), (.int (nI a_1)), (.int (nI a_2)), (.int (nI a_12)), (.int (nI a_14)), (.int (nI a_4)), (.int (nI a_5)), (.int (nI a_7)), (.int (nI a_11)), (.int (nI a_8))] h z 0 0 P) (K : ∀ (o : Option Value) (h2 : HP) (z2 : Nat), P o h2 z2 → ip sc call 108 MC MS Q 251 [some (.ref r_0), some (.int (nI a_1)), some (.int (nI a_2)), some (.int (nI a_3)), some (.int (nI a_4)), some (.int (nI a_5)), some (.int (nI a_6)), some (.int (nI a_7)), some (.int (nI a_8)), o_9, o_10, some (.int (nI a_11)), some (.int (nI a_12)), some (.int (nI a_13)), some (.int (nI a_14)), o_15] (o.toList ++ []) h2 z2 c s) : ip sc call 108 MC MS Q 231 [some (.ref r_0), some (.int (nI a_1)), some (.int (nI a_2)), some (.int (nI a_3)), some (.int (nI a_4)), some (.int (nI a_5)), some (.int (nI a_6)), some (.int (nI a_7)), some (.int (nI a_8)), o_9, o_10, some (.int (nI a_11)), some (.int (nI a_12)), some (.int (nI a_13)), some (.int (nI a_14)), o_15] [] h z c s := by
  refine jp_load (pc2 := 232) (n := 0) rfl rfl rfl rfl ?_
  refine jp_load (pc2 := 233) (n := 1) rfl rfl rfl rfl ?_
  refine jp_load (pc2 := 234) (n := 2) rfl rfl rfl rfl ?_
  refine jp_load (pc2 := 236) (n := 12) rfl rfl rfl rfl ?_
  refine jp_load (pc2 := 238) (n := 14) rfl rfl rfl rfl ?_
  refine jp_load (pc2 := 240) (n := 4) rfl rfl rfl rfl ?_
  refine jp_load (pc2 := 242) (n := 5) rfl rfl rfl rfl ?_
  refine jp_load (pc2 := 244) (n := 7) rfl rfl rfl rfl ?_
  refine jp_load (pc2 := 246) (n := 11) rfl rfl rfl rfl ?_
  refine jp_load (pc2 := 248) (n := 8) rfl rfl rfl rfl ?_
  exact jp_virt0 (pc2 := 251) (As := [(.int (nI a_1)), (.int (nI a_2)), (.int (nI a_12)), (.int (nI a_14)), (.int (nI a_4)), (.int (nI a_5)), (.int (nI a_7)), (.int (nI a_11)), (.int (nI a_8))]) (rest := []) rfl rfl rfl (Nat.le_of_ble_eq_true rfl) e2 m3 m4 hc rfl K
set_option maxRecDepth 100000 in
theorem c108_251 {r_0 : Nat} {a_1 : Nat} {a_2 : Nat} {a_3 : Nat} {a_4 : Nat} {a_5 : Nat} {a_6 : Nat} {a_7 : Nat} {a_8 : Nat} {o_9 : Option Value} {o_10 : Option Value} {a_11 : Nat} {a_12 : Nat} {a_13 : Nat} {a_14 : Nat} {o_15 : Option Value}  (K : ip sc call 108 MC MS Q 133 [some (.ref r_0), some (.int (nI a_1)), some (.int (nI a_2)), some (.int (nI a_3)), some (.int (nI a_4)), some (.int (nI a_5)), some (.int (nI a_6)), some (.int (nI a_7)), some (.int (nI a_8)), o_9, o_10, some (.int (nI a_11)), some (.int (nI (a_12 + a_14))), some (.int (nI (a_13 + 1))), some (.int (nI a_14)), o_15] [] h z c s) : ip sc call 108 MC MS Q 251 [some (.ref r_0), some (.int (nI a_1)), some (.int (nI a_2)), some (.int (nI a_3)), some (.int (nI a_4)), some (.int (nI a_5)), some (.int (nI a_6)), some (.int (nI a_7)), some (.int (nI a_8)), o_9, o_10, some (.int (nI a_11)), some (.int (nI a_12)), some (.int (nI a_13)), some (.int (nI a_14)), o_15] [] h z c s := by
  refine jp_load (pc2 := 253) (n := 12) rfl rfl rfl rfl ?_
  refine jp_load (pc2 := 255) (n := 14) rfl rfl rfl rfl ?_
  refine jp_bin (pc2 := 256) (v := nI (a_12 + a_14)) rfl rfl (congrArg some (nI_add _ _)) ?_
  refine jp_store (pc2 := 258) (n := 12) rfl rfl ⟨rfl, rfl⟩ rfl (Nat.le_of_ble_eq_true rfl) ?_
  refine jp_iinc (pc2 := 261) (n := 13) (v := nI (a_13 + 1)) rfl rfl rfl (nI_add _ 1) rfl ?_
  refine ip_goto rfl ?_
  exact K
set_option maxRecDepth 100000 in
theorem c108_264 {r_0 : Nat} {a_1 : Nat} {a_2 : Nat} {a_3 : Nat} {a_4 : Nat} {a_5 : Nat} {a_6 : Nat} {a_7 : Nat} {a_8 : Nat} {o_9 : Option Value} {o_10 : Option Value} {a_11 : Nat} {o_12 : Option Value} {o_13 : Option Value} {o_14 : Option Value} {o_15 : Option Value} (c1 : a_4 < 2147483648) (c2 : a_6 < 2147483648) (K1 : a_4 = a_6 → ip sc call 108 MC MS Q 274 [some (.ref r_0), some (.int (nI a_1)), some (.int (nI a_2)), some (.int (nI a_3)), some (.int (nI a_4)), some (.int (nI a_5)), some (.int (nI a_6)), some (.int (nI a_7)), some (.int (nI a_8)), o_9, o_10, some (.int (nI a_11)), o_12, o_13, o_14, o_15] [] h z c s) (K2 : ¬ (a_4 = a_6) → ip sc call 108 MC MS Q 271 [some (.ref r_0), some (.int (nI a_1)), some (.int (nI a_2)), some (.int (nI a_3)), some (.int (nI a_4)), some (.int (nI a_5)), some (.int (nI a_6)), some (.int (nI a_7)), some (.int (nI a_8)), o_9, o_10, some (.int (nI a_11)), o_12, o_13, o_14, o_15] [] h z c s) : ip sc call 108 MC MS Q 264 [some (.ref r_0), some (.int (nI a_1)), some (.int (nI a_2)), some (.int (nI a_3)), some (.int (nI a_4)), some (.int (nI a_5)), some (.int (nI a_6)), some (.int (nI a_7)), some (.int (nI a_8)), o_9, o_10, some (.int (nI a_11)), o_12, o_13, o_14, o_15] [] h z c s := by
  refine jp_load (pc2 := 266) (n := 4) rfl rfl rfl rfl ?_
  refine jp_load (pc2 := 268) (n := 6) rfl rfl rfl rfl ?_
  exact jp_icmp (pc2 := 271) rfl rfl (fun q => K1 ((nI_eq c1 c2).mp q)) (fun q => K2 (fun r => q ((nI_eq c1 c2).mpr r)))
set_option maxRecDepth 100000 in
theorem c108_271 {o_0 : Option Value} {o_1 : Option Value} {o_2 : Option Value} {o_3 : Option Value} {o_4 : Option Value} {o_5 : Option Value} {o_6 : Option Value} {o_7 : Option Value} {o_8 : Option Value} {o_9 : Option Value} {o_10 : Option Value} {a_11 : Nat} {o_12 : Option Value} {o_13 : Option Value} {o_14 : Option Value} {o_15 : Option Value} (q1 : Q (some (.int (nI a_11))) h z)  : ip sc call 108 MC MS Q 271 [o_0, o_1, o_2, o_3, o_4, o_5, o_6, o_7, o_8, o_9, o_10, some (.int (nI a_11)), o_12, o_13, o_14, o_15] [] h z c s := by
  refine jp_load (pc2 := 273) (n := 11) rfl rfl rfl rfl ?_
  exact ip_iret (st := []) rfl rfl rfl q1
set_option maxRecDepth 100000 in
theorem c108_274 {r_0 : Nat} {a_1 : Nat} {a_2 : Nat} {a_3 : Nat} {a_4 : Nat} {a_5 : Nat} {o_6 : Option Value} {a_7 : Nat} {a_8 : Nat} {o_9 : Option Value} {o_10 : Option Value} {a_11 : Nat} {o_12 : Option Value} {o_13 : Option Value} {o_14 : Option Value} {o_15 : Option Value} {fs1 : List Value} {P : ipQ} (e2 : h r_0 = some (.inr (9, fs1))) (m3 : c ≤ MC) (m4 : s ≤ MS) (hc : call 100 [(.ref r_0), (.int (nI a_2))] h z 0 0 P) (K : ∀ (o : Option Value) (h2 : HP) (z2 : Nat), P o h2 z2 → ip sc call 108 MC MS Q 279 [some (.ref r_0), some (.int (nI a_1)), some (.int (nI a_2)), some (.int (nI a_3)), some (.int (nI a_4)), some (.int (nI a_5)), o_6, some (.int (nI a_7)), some (.int (nI a_8)), o_9, o_10, some (.int (nI a_11)), o_12, o_13, o_14, o_15] (o.toList ++ []) h2 z2 c s) : ip sc call 108 MC MS Q 274 [some (.ref r_0), some (.int (nI a_1)), some (.int (nI a_2)), some (.int (nI a_3)), some (.int (nI a_4)), some (.int (nI a_5)), o_6, some (.int (nI a_7)), some (.int (nI a_8)), o_9, o_10, some (.int (nI a_11)), o_12, o_13, o_14, o_15] [] h z c s := by
  refine jp_load (pc2 := 275) (n := 0) rfl rfl rfl rfl ?_
  refine jp_load (pc2 := 276) (n := 2) rfl rfl rfl rfl ?_
  exact jp_virt0 (pc2 := 279) (As := [(.int (nI a_2))]) (rest := []) rfl rfl rfl (Nat.le_of_ble_eq_true rfl) e2 m3 m4 hc rfl K
set_option maxRecDepth 100000 in
theorem c108_279 {r_0 : Nat} {a_1 : Nat} {a_2 : Nat} {a_3 : Nat} {a_4 : Nat} {a_5 : Nat} {o_6 : Option Value} {a_7 : Nat} {a_8 : Nat} {o_9 : Option Value} {o_10 : Option Value} {a_11 : Nat} {o_12 : Option Value} {o_13 : Option Value} {o_14 : Option Value} {o_15 : Option Value} {fs1 : List Value} {P : ipQ} (e2 : h r_0 = some (.inr (9, fs1))) (m3 : c ≤ MC) (m4 : s ≤ MS) (hc : call 97 [(.ref r_0), (.int (nI a_1)), (.int (nI a_3))] h z 0 0 P) (K : ∀ (o : Option Value) (h2 : HP) (z2 : Nat), P o h2 z2 → ip sc call 108 MC MS Q 285 [some (.ref r_0), some (.int (nI a_1)), some (.int (nI a_2)), some (.int (nI a_3)), some (.int (nI a_4)), some (.int (nI a_5)), o_6, some (.int (nI a_7)), some (.int (nI a_8)), o_9, o_10, some (.int (nI a_11)), o_12, o_13, o_14, o_15] (o.toList ++ []) h2 z2 c s) : ip sc call 108 MC MS Q 279 [some (.ref r_0), some (.int (nI a_1)), some (.int (nI a_2)), some (.int (nI a_3)), some (.int (nI a_4)), some (.int (nI a_5)), o_6, some (.int (nI a_7)), some (.int (nI a_8)), o_9, o_10, some (.int (nI a_11)), o_12, o_13, o_14, o_15] [] h z c s := by
  refine jp_load (pc2 := 280) (n := 0) rfl rfl rfl rfl ?_
  refine jp_load (pc2 := 281) (n := 1) rfl rfl rfl rfl ?_
  refine jp_load (pc2 := 282) (n := 3) rfl rfl rfl rfl ?_
  exact jp_virt0 (pc2 := 285) (As := [(.int (nI a_1)), (.int (nI a_3))]) (rest := []) rfl rfl rfl (Nat.le_of_ble_eq_true rfl) e2 m3 m4 hc rfl K
set_option maxRecDepth 100000 in
theorem c108_285 {r_0 : Nat} {a_1 : Nat} {a_2 : Nat} {a_3 : Nat} {a_4 : Nat} {a_5 : Nat} {o_6 : Option Value} {a_7 : Nat} {a_8 : Nat} {o_9 : Option Value} {o_10 : Option Value} {a_11 : Nat} {o_12 : Option Value} {o_13 : Option Value} {o_14 : Option Value} {o_15 : Option Value} {sa_0 : Nat} {fs2 : List Value} {P : ipQ} (k1 : ip2 o_12 = false) (e3 : h r_0 = some (.inr (9, fs2))) (m4 : c ≤ MC) (m5 : s ≤ MS) (hc : call 99 [(.ref r_0), (.int (nI a_2))] h z 0 0 P) (K : ∀ (o : Option Value) (h2 : HP) (z2 : Nat), P o h2 z2 → ip sc call 108 MC MS Q 292 [some (.ref r_0), some (.int (nI a_1)), some (.int (nI a_2)), some (.int (nI a_3)), some (.int (nI a_4)), some (.int (nI a_5)), o_6, some (.int (nI a_7)), some (.int (nI a_8)), o_9, o_10, some (.int (nI a_11)), o_12, some (.int (nI sa_0)), o_14, o_15] (o.toList ++ []) h2 z2 c s) : ip sc call 108 MC MS Q 285 [some (.ref r_0), some (.int (nI a_1)), some (.int (nI a_2)), some (.int (nI a_3)), some (.int (nI a_4)), some (.int (nI a_5)), o_6, some (.int (nI a_7)), some (.int (nI a_8)), o_9, o_10, some (.int (nI a_11)), o_12, o_13, o_14, o_15] [(.int (nI sa_0))] h z c s := by
  refine jp_store (pc2 := 287) (n := 13) rfl rfl ⟨rfl, rfl⟩ k1 (Nat.le_of_ble_eq_true rfl) ?_
  refine jp_load (pc2 := 288) (n := 0) rfl rfl rfl rfl ?_
  refine jp_load (pc2 := 289) (n := 2) rfl rfl rfl rfl ?_
  exact jp_virt0 (pc2 := 292) (As := [(.int (nI a_2))]) (rest := []) rfl rfl rfl (Nat.le_of_ble_eq_true rfl) e3 m4 m5 hc rfl K
set_option maxRecDepth 100000 in
theorem c108_292 {r_0 : Nat} {a_1 : Nat} {a_2 : Nat} {a_3 : Nat} {a_4 : Nat} {a_5 : Nat} {o_6 : Option Value} {a_7 : Nat} {a_8 : Nat} {o_9 : Option Value} {o_10 : Option Value} {a_11 : Nat} {o_12 : Option Value} {a_13 : Nat} {o_14 : Option Value} {o_15 : Option Value} (c1 : a_5 < 2147483648) (c2 : a_7 < 2147483648) (K1 : ¬ a_5 = a_7 → ip sc call 108 MC MS Q 315 [some (.ref r_0), some (.int (nI a_1)), some (.int (nI a_2)), some (.int (nI a_3)), some (.int (nI a_4)), some (.int (nI a_5)), o_6, some (.int (nI a_7)), some (.int (nI a_8)), o_9, o_10, some (.int (nI a_11)), o_12, some (.int (nI a_13)), o_14, o_15] [] h z c s) (K2 : ¬ (¬ a_5 = a_7) → ip sc call 108 MC MS Q 299 [some (.ref r_0), some (.int (nI a_1)), some (.int (nI a_2)), some (.int (nI a_3)), some (.int (nI a_4)), some (.int (nI a_5)), o_6, some (.int (nI a_7)), some (.int (nI a_8)), o_9, o_10, some (.int (nI a_11)), o_12, some (.int (nI a_13)), o_14, o_15] [] h z c s) : ip sc call 108 MC MS Q 292 [some (.ref r_0), some (.int (nI a_1)), some (.int (nI a_2)), some (.int (nI a_3)), some (.int (nI a_4)), some (.int (nI a_5)), o_6, some (.int (nI a_7)), some (.int (nI a_8)), o_9, o_10, some (.int (nI a_11)), o_12, some (.int (nI a_13)), o_14, o_15] [] h z c s := by
  refine jp_load (pc2 := 294) (n := 5) rfl rfl rfl rfl ?_
  refine jp_load (pc2 := 296) (n := 7) rfl rfl rfl rfl ?_
  exact jp_icmp (pc2 := 299) rfl rfl (fun q => K1 ((not_congr (nI_eq c1 c2)).mp q)) (fun q => K2 (fun r => q ((not_congr (nI_eq c1 c2)).mpr r)))
set_option maxRecDepth 100000 in
theorem c108_299 {r_0 : Nat} {a_1 : Nat} {a_2 : Nat} {a_3 : Nat} {a_4 : Nat} {a_5 : Nat} {o_6 : Option Value} {o_7 : Option Value} {a_8 : Nat} {o_9 : Option Value} {o_10 : Option Value} {a_11 : Nat} {o_12 : Option Value} {a_13 : Nat} {o_14 : Option Value} {o_15 : Option Value} {fs1 : List Value} {P : ipQ} (e2 : h r_0 = some (.inr (9, fs1))) (m3 : c ≤ MC) (m4 : s ≤ MS) (hc : call 104 [(.ref r_0), (.int (nI a_1)), (.int (nI (a_13 + a_4))), (.int (nI a_5)), (.int (nI a_2))] h z 0 0 P) (K : ∀ (o : Option Value) (h2 : HP) (z2 : Nat), P o h2 z2 → ip sc call 108 MC MS Q 312 [some (.ref r_0), some (.int (nI a_1)), some (.int (nI a_2)), some (.int (nI a_3)), some (.int (nI a_4)), some (.int (nI a_5)), o_6, o_7, some (.int (nI a_8)), o_9, o_10, some (.int (nI a_11)), o_12, some (.int (nI a_13)), o_14, o_15] (o.toList ++ []) h2 z2 c s) : ip sc call 108 MC MS Q 299 [some (.ref r_0), some (.int (nI a_1)), some (.int (nI a_2)), some (.int (nI a_3)), some (.int (nI a_4)), some (.int (nI a_5)), o_6, o_7, some (.int (nI a_8)), o_9, o_10, some (.int (nI a_11)), o_12, some (.int (nI a_13)), o_14, o_15] [] h z c s := by
  refine jp_load (pc2 := 300) (n := 0) rfl rfl rfl rfl ?_
  refine jp_load (pc2 := 301) (n := 1) rfl rfl rfl rfl ?_
  refine jp_load (pc2 := 303) (n := 13) rfl rfl rfl rfl ?_
  refine jp_load (pc2 := 305) (n := 4) rfl rfl rfl rfl ?_
  refine jp_bin (pc2 := 306) (v := nI (a_13 + a_4)) rfl rfl (congrArg some (nI_add _ _)) ?_
  refine jp_load (pc2 := 308) (n := 5) rfl rfl rfl rfl ?_
  refine jp_load (pc2 := 309) (n := 2) rfl rfl rfl rfl ?_
  exact jp_virt0 (pc2 := 312) (As := [(.int (nI a_1)), (.int (nI (a_13 + a_4))), (.int (nI a_5)), (.int (nI a_2))]) (rest := []) rfl rfl rfl (Nat.le_of_ble_eq_true rfl) e2 m3 m4 hc rfl K
set_option maxRecDepth 100000 in
theorem c108_312 {r_0 : Nat} {a_1 : Nat} {a_2 : Nat} {a_3 : Nat} {a_4 : Nat} {o_5 : Option Value} {o_6 : Option Value} {o_7 : Option Value} {a_8 : Nat} {o_9 : Option Value} {o_10 : Option Value} {a_11 : Nat} {o_12 : Option Value} {a_13 : Nat} {o_14 : Option Value} {o_15 : Option Value}  (K : ip sc call 108 MC MS Q 359 [some (.ref r_0), some (.int (nI a_1)), some (.int (nI a_2)), some (.int (nI a_3)), some (.int (nI a_4)), o_5, o_6, o_7, some (.int (nI a_8)), o_9, o_10, some (.int (nI a_11)), o_12, some (.int (nI a_13)), o_14, o_15] [] h z c s) : ip sc call 108 MC MS Q 312 [some (.ref r_0), some (.int (nI a_1)), some (.int (nI a_2)), some (.int (nI a_3)), some (.int (nI a_4)), o_5, o_6, o_7, some (.int (nI a_8)), o_9, o_10, some (.int (nI a_11)), o_12, some (.int (nI a_13)), o_14, o_15] [] h z c s := by
  refine ip_goto rfl ?_
  exact K
set_option maxRecDepth 100000 in
theorem c108_315 {r_0 : Nat} {a_1 : Nat} {a_2 : Nat} {a_3 : Nat} {a_4 : Nat} {a_5 : Nat} {o_6 : Option Value} {a_7 : Nat} {a_8 : Nat} {o_9 : Option Value} {o_10 : Option Value} {a_11 : Nat} {o_12 : Option Value} {a_13 : Nat} {o_14 : Option Value} {o_15 : Option Value} {fs1 : List Value} {q_fs1_0 : Nat} {n4 : Nat} {f5 : Nat → Int32} {v9 : Nat} {P : ipQ} (e2 : h r_0 = some (.inr (9, fs1))) (e3 : fs1[0]? = some (.ref q_fs1_0)) (e6 : h q_fs1_0 = some (.inl (0, n4, .inl f5))) (b7 : ((a_1 + 68) + a_13) + a_4 < n4) (c8 : n4 < 2147483648) (e10 : f5 (((a_1 + 68) + a_13) + a_4) = nI v9) (d11 : 1 ≤ v9) (m12 : c ≤ MC) (m13 : s ≤ MS) (hc : call 103 [(.ref r_0), (.int (nI a_1)), (.int (nI (a_13 + a_4))), (.int (nI a_7)), (.int (nI (v9 - 1))), (.int (nI a_2))] h z 0 0 P) (K : ∀ (o : Option Value) (h2 : HP) (z2 : Nat), P o h2 z2 → ip sc call 108 MC MS Q 345 [some (.ref r_0), some (.int (nI a_1)), some (.int (nI a_2)), some (.int (nI a_3)), some (.int (nI a_4)), some (.int (nI a_5)), o_6, some (.int (nI a_7)), some (.int (nI a_8)), o_9, o_10, some (.int (nI a_11)), o_12, some (.int (nI a_13)), o_14, o_15] (o.toList ++ []) h2 z2 c s) : ip sc call 108 MC MS Q 315 [some (.ref r_0), some (.int (nI a_1)), some (.int (nI a_2)), some (.int (nI a_3)), some (.int (nI a_4)), some (.int (nI a_5)), o_6, some (.int (nI a_7)), some (.int (nI a_8)), o_9, o_10, some (.int (nI a_11)), o_12, some (.int (nI a_13)), o_14, o_15] [] h z c s := by
  refine jp_load (pc2 := 316) (n := 0) rfl rfl rfl rfl ?_
  refine jp_load (pc2 := 317) (n := 1) rfl rfl rfl rfl ?_
  refine jp_load (pc2 := 319) (n := 13) rfl rfl rfl rfl ?_
  refine jp_load (pc2 := 321) (n := 4) rfl rfl rfl rfl ?_
  refine jp_bin (pc2 := 322) (v := nI (a_13 + a_4)) rfl rfl (congrArg some (nI_add _ _)) ?_
  refine jp_load (pc2 := 324) (n := 7) rfl rfl rfl rfl ?_
  refine jp_load (pc2 := 325) (n := 0) rfl rfl rfl rfl ?_
  refine jp_getf (pc2 := 328) rfl rfl e2 e3 ?_
  refine jp_load (pc2 := 329) (n := 1) rfl rfl rfl rfl ?_
  refine jp_con (pc2 := 331) (v := (.int (nI 68))) rfl rfl rfl ?_
  refine jp_bin (pc2 := 332) (v := nI (a_1 + 68)) rfl rfl (congrArg some (nI_add _ _)) ?_
  refine jp_load (pc2 := 334) (n := 13) rfl rfl rfl rfl ?_
  refine jp_bin (pc2 := 335) (v := nI ((a_1 + 68) + a_13)) rfl rfl (congrArg some (nI_add _ _)) ?_
  refine jp_load (pc2 := 337) (n := 4) rfl rfl rfl rfl ?_
  refine jp_bin (pc2 := 338) (v := nI (((a_1 + 68) + a_13) + a_4)) rfl rfl (congrArg some (nI_add _ _)) ?_
  refine jp_iald (pc2 := 339) rfl rfl e6 (vp_in_nI b7 c8) ?_
  rw [(nI_clamp (Nat.lt_trans b7 c8))]
  rw [e10]
  refine jp_con (pc2 := 340) (v := (.int (nI 1))) rfl rfl rfl ?_
  refine jp_bin (pc2 := 341) (v := nI (v9 - 1)) rfl rfl (congrArg some (pk_sub d11)) ?_
  refine jp_load (pc2 := 342) (n := 2) rfl rfl rfl rfl ?_
  exact jp_virt0 (pc2 := 345) (As := [(.int (nI a_1)), (.int (nI (a_13 + a_4))), (.int (nI a_7)), (.int (nI (v9 - 1))), (.int (nI a_2))]) (rest := []) rfl rfl rfl (Nat.le_of_ble_eq_true rfl) e2 m12 m13 hc rfl K
set_option maxRecDepth 100000 in
theorem c108_345 {r_0 : Nat} {a_1 : Nat} {a_2 : Nat} {a_3 : Nat} {a_4 : Nat} {a_5 : Nat} {o_6 : Option Value} {o_7 : Option Value} {a_8 : Nat} {o_9 : Option Value} {o_10 : Option Value} {a_11 : Nat} {o_12 : Option Value} {a_13 : Nat} {o_14 : Option Value} {o_15 : Option Value} {fs1 : List Value} {P : ipQ} (e2 : h r_0 = some (.inr (9, fs1))) (m3 : c ≤ MC) (m4 : s ≤ MS) (hc : call 103 [(.ref r_0), (.int (nI a_1)), (.int (nI (a_13 + a_4))), (.int (nI 0)), (.int (nI a_5)), (.int (nI a_2))] h z 0 0 P) (K : ∀ (o : Option Value) (h2 : HP) (z2 : Nat), P o h2 z2 → ip sc call 108 MC MS Q 359 [some (.ref r_0), some (.int (nI a_1)), some (.int (nI a_2)), some (.int (nI a_3)), some (.int (nI a_4)), some (.int (nI a_5)), o_6, o_7, some (.int (nI a_8)), o_9, o_10, some (.int (nI a_11)), o_12, some (.int (nI a_13)), o_14, o_15] (o.toList ++ []) h2 z2 c s) : ip sc call 108 MC MS Q 345 [some (.ref r_0), some (.int (nI a_1)), some (.int (nI a_2)), some (.int (nI a_3)), some (.int (nI a_4)), some (.int (nI a_5)), o_6, o_7, some (.int (nI a_8)), o_9, o_10, some (.int (nI a_11)), o_12, some (.int (nI a_13)), o_14, o_15] [] h z c s := by
  refine jp_load (pc2 := 346) (n := 0) rfl rfl rfl rfl ?_
  refine jp_load (pc2 := 347) (n := 1) rfl rfl rfl rfl ?_
  refine jp_load (pc2 := 349) (n := 13) rfl rfl rfl rfl ?_
  refine jp_load (pc2 := 351) (n := 4) rfl rfl rfl rfl ?_
  refine jp_bin (pc2 := 352) (v := nI (a_13 + a_4)) rfl rfl (congrArg some (nI_add _ _)) ?_
  refine jp_con (pc2 := 353) (v := (.int (nI 0))) rfl rfl rfl ?_
  refine jp_load (pc2 := 355) (n := 5) rfl rfl rfl rfl ?_
  refine jp_load (pc2 := 356) (n := 2) rfl rfl rfl rfl ?_
  exact jp_virt0 (pc2 := 359) (As := [(.int (nI a_1)), (.int (nI (a_13 + a_4))), (.int (nI 0)), (.int (nI a_5)), (.int (nI a_2))]) (rest := []) rfl rfl rfl (Nat.le_of_ble_eq_true rfl) e2 m3 m4 hc rfl K
set_option maxRecDepth 100000 in
theorem c108_359 {r_0 : Nat} {a_1 : Nat} {a_2 : Nat} {a_3 : Nat} {a_4 : Nat} {o_5 : Option Value} {o_6 : Option Value} {o_7 : Option Value} {a_8 : Nat} {o_9 : Option Value} {o_10 : Option Value} {a_11 : Nat} {o_12 : Option Value} {a_13 : Nat} {o_14 : Option Value} {o_15 : Option Value} {fs1 : List Value} {P : ipQ} (e2 : h r_0 = some (.inr (9, fs1))) (m3 : c ≤ MC) (m4 : s ≤ MS) (hc : call 101 [(.ref r_0), (.int (nI a_2)), (.int (nI a_11))] h z 0 0 P) (K : ∀ (o : Option Value) (h2 : HP) (z2 : Nat), P o h2 z2 → ip sc call 108 MC MS Q 366 [some (.ref r_0), some (.int (nI a_1)), some (.int (nI a_2)), some (.int (nI a_3)), some (.int (nI a_4)), o_5, o_6, o_7, some (.int (nI a_8)), o_9, o_10, some (.int (nI a_11)), o_12, some (.int (nI a_13)), o_14, o_15] (o.toList ++ []) h2 z2 c s) : ip sc call 108 MC MS Q 359 [some (.ref r_0), some (.int (nI a_1)), some (.int (nI a_2)), some (.int (nI a_3)), some (.int (nI a_4)), o_5, o_6, o_7, some (.int (nI a_8)), o_9, o_10, some (.int (nI a_11)), o_12, some (.int (nI a_13)), o_14, o_15] [] h z c s := by
  refine jp_load (pc2 := 360) (n := 0) rfl rfl rfl rfl ?_
  refine jp_load (pc2 := 361) (n := 2) rfl rfl rfl rfl ?_
  refine jp_load (pc2 := 363) (n := 11) rfl rfl rfl rfl ?_
  exact jp_virt0 (pc2 := 366) (As := [(.int (nI a_2)), (.int (nI a_11))]) (rest := []) rfl rfl rfl (Nat.le_of_ble_eq_true rfl) e2 m3 m4 hc rfl K
set_option maxRecDepth 100000 in
theorem c108_366 {r_0 : Nat} {a_1 : Nat} {a_2 : Nat} {a_3 : Nat} {a_4 : Nat} {o_5 : Option Value} {o_6 : Option Value} {o_7 : Option Value} {a_8 : Nat} {o_9 : Option Value} {o_10 : Option Value} {a_11 : Nat} {o_12 : Option Value} {a_13 : Nat} {o_14 : Option Value} {o_15 : Option Value} {fs1 : List Value} {q_fs1_0 : Nat} {n4 : Nat} {f5 : Nat → Int32} {v9 : Nat} {P : ipQ} (e2 : h r_0 = some (.inr (9, fs1))) (e3 : fs1[0]? = some (.ref q_fs1_0)) (e6 : h q_fs1_0 = some (.inl (0, n4, .inl f5))) (b7 : (a_1 + 36) + a_3 < n4) (c8 : n4 < 2147483648) (e10 : f5 ((a_1 + 36) + a_3) = nI v9) (m11 : c ≤ MC) (m12 : s ≤ MS) (hc : call 111 [(.ref r_0), (.int (nI a_1)), (.int (nI a_2)), (.int (nI a_13)), (.int (nI v9)), (.int (nI a_4)), (.int (nI a_8)), (.int (nI 1))] h z 0 0 P) (K : ∀ (o : Option Value) (h2 : HP) (z2 : Nat), P o h2 z2 → ip sc call 108 MC MS Q 390 [some (.ref r_0), some (.int (nI a_1)), some (.int (nI a_2)), some (.int (nI a_3)), some (.int (nI a_4)), o_5, o_6, o_7, some (.int (nI a_8)), o_9, o_10, some (.int (nI a_11)), o_12, some (.int (nI a_13)), o_14, o_15] (o.toList ++ []) h2 z2 c s) : ip sc call 108 MC MS Q 366 [some (.ref r_0), some (.int (nI a_1)), some (.int (nI a_2)), some (.int (nI a_3)), some (.int (nI a_4)), o_5, o_6, o_7, some (.int (nI a_8)), o_9, o_10, some (.int (nI a_11)), o_12, some (.int (nI a_13)), o_14, o_15] [] h z c s := by
  refine jp_load (pc2 := 367) (n := 0) rfl rfl rfl rfl ?_
  refine jp_load (pc2 := 368) (n := 1) rfl rfl rfl rfl ?_
  refine jp_load (pc2 := 369) (n := 2) rfl rfl rfl rfl ?_
  refine jp_load (pc2 := 371) (n := 13) rfl rfl rfl rfl ?_
  refine jp_load (pc2 := 372) (n := 0) rfl rfl rfl rfl ?_
  refine jp_getf (pc2 := 375) rfl rfl e2 e3 ?_
  refine jp_load (pc2 := 376) (n := 1) rfl rfl rfl rfl ?_
  refine jp_con (pc2 := 378) (v := (.int (nI 36))) rfl rfl rfl ?_
  refine jp_bin (pc2 := 379) (v := nI (a_1 + 36)) rfl rfl (congrArg some (nI_add _ _)) ?_
  refine jp_load (pc2 := 380) (n := 3) rfl rfl rfl rfl ?_
  refine jp_bin (pc2 := 381) (v := nI ((a_1 + 36) + a_3)) rfl rfl (congrArg some (nI_add _ _)) ?_
  refine jp_iald (pc2 := 382) rfl rfl e6 (vp_in_nI b7 c8) ?_
  rw [(nI_clamp (Nat.lt_trans b7 c8))]
  rw [e10]
  refine jp_load (pc2 := 384) (n := 4) rfl rfl rfl rfl ?_
  refine jp_load (pc2 := 386) (n := 8) rfl rfl rfl rfl ?_
  refine jp_con (pc2 := 387) (v := (.int (nI 1))) rfl rfl rfl ?_
  exact jp_virt0 (pc2 := 390) (As := [(.int (nI a_1)), (.int (nI a_2)), (.int (nI a_13)), (.int (nI v9)), (.int (nI a_4)), (.int (nI a_8)), (.int (nI 1))]) (rest := []) rfl rfl rfl (Nat.le_of_ble_eq_true rfl) e2 m11 m12 hc rfl K
set_option maxRecDepth 100000 in
theorem c108_390 {o_0 : Option Value} {o_1 : Option Value} {o_2 : Option Value} {o_3 : Option Value} {o_4 : Option Value} {o_5 : Option Value} {o_6 : Option Value} {o_7 : Option Value} {o_8 : Option Value} {o_9 : Option Value} {o_10 : Option Value} {a_11 : Nat} {o_12 : Option Value} {o_13 : Option Value} {o_14 : Option Value} {o_15 : Option Value} (q1 : Q (some (.int (nI a_11))) h z)  : ip sc call 108 MC MS Q 390 [o_0, o_1, o_2, o_3, o_4, o_5, o_6, o_7, o_8, o_9, o_10, some (.int (nI a_11)), o_12, o_13, o_14, o_15] [] h z c s := by
  refine jp_load (pc2 := 392) (n := 11) rfl rfl rfl rfl ?_
  exact ip_iret (st := []) rfl rfl rfl q1
theorem c109_0 {r_0 : Nat} {a_1 : Nat} {a_2 : Nat} {a_3 : Nat} {a_4 : Nat} {a_5 : Nat} {a_6 : Nat} {a_7 : Nat} {a_8 : Nat} {a_9 : Nat} {o_10 : Option Value}  (K : ip sc call 109 MC MS Q 3 [some (.ref r_0), some (.int (nI a_1)), some (.int (nI a_2)), some (.int (nI a_3)), some (.int (nI a_4)), some (.int (nI a_5)), some (.int (nI a_6)), some (.int (nI a_7)), some (.int (nI a_8)), some (.int (nI a_9)), some (.int (nI 0))] [] h z c s) : ip sc call 109 MC MS Q 0 [some (.ref r_0), some (.int (nI a_1)), some (.int (nI a_2)), some (.int (nI a_3)), some (.int (nI a_4)), some (.int (nI a_5)), some (.int (nI a_6)), some (.int (nI a_7)), some (.int (nI a_8)), some (.int (nI a_9)), o_10] [] h z c s := by
  refine jp_con (pc2 := 1) (v := (.int (nI 0))) rfl rfl rfl ?_
  refine jp_store (pc2 := 3) (n := 10) rfl rfl ⟨rfl, rfl⟩ rfl (Nat.le_of_ble_eq_true rfl) ?_
  exact K
theorem c109_3 {r_0 : Nat} {a_1 : Nat} {a_2 : Nat} {a_3 : Nat} {a_4 : Nat} {a_5 : Nat} {a_6 : Nat} {a_7 : Nat} {a_8 : Nat} {a_9 : Nat} {a_10 : Nat} (c1 : a_10 < 2147483648) (c2 : a_4 < 2147483648) (K1 : a_4 ≤ a_10 → ip sc call 109 MC MS Q 86 [some (.ref r_0), some (.int (nI a_1)), some (.int (nI a_2)), some (.int (nI a_3)), some (.int (nI a_4)), some (.int (nI a_5)), some (.int (nI a_6)), some (.int (nI a_7)), some (.int (nI a_8)), some (.int (nI a_9)), some (.int (nI a_10))] [] h z c s) (K2 : ¬ (a_4 ≤ a_10) → ip sc call 109 MC MS Q 10 [some (.ref r_0), some (.int (nI a_1)), some (.int (nI a_2)), some (.int (nI a_3)), some (.int (nI a_4)), some (.int (nI a_5)), some (.int (nI a_6)), some (.int (nI a_7)), some (.int (nI a_8)), some (.int (nI a_9)), some (.int (nI a_10))] [] h z c s) : ip sc call 109 MC MS Q 3 [some (.ref r_0), some (.int (nI a_1)), some (.int (nI a_2)), some (.int (nI a_3)), some (.int (nI a_4)), some (.int (nI a_5)), some (.int (nI a_6)), some (.int (nI a_7)), some (.int (nI a_8)), some (.int (nI a_9)), some (.int (nI a_10))] [] h z c s := by
  refine jp_load (pc2 := 5) (n := 10) rfl rfl rfl rfl ?_
  refine jp_load (pc2 := 7) (n := 4) rfl rfl rfl rfl ?_
  exact jp_icmp (pc2 := 10) rfl rfl (fun q => K1 ((nI_leI c2 c1).mp q)) (fun q => K2 (fun r => q ((nI_leI c2 c1).mpr r)))
theorem c109_10 {r_0 : Nat} {a_1 : Nat} {a_2 : Nat} {a_3 : Nat} {a_4 : Nat} {a_5 : Nat} {a_6 : Nat} {a_7 : Nat} {a_8 : Nat} {a_9 : Nat} {a_10 : Nat} (c1 : a_10 < 2147483648) (c2 : a_5 < 2147483648) (K1 : ¬ a_10 = a_5 → ip sc call 109 MC MS Q 63 [some (.ref r_0), some (.int (nI a_1)), some (.int (nI a_2)), some (.int (nI a_3)), some (.int (nI a_4)), some (.int (nI a_5)), some (.int (nI a_6)), some (.int (nI a_7)), some (.int (nI a_8)), some (.int (nI a_9)), some (.int (nI a_10))] [] h z c s) (K2 : ¬ (¬ a_10 = a_5) → ip sc call 109 MC MS Q 17 [some (.ref r_0), some (.int (nI a_1)), some (.int (nI a_2)), some (.int (nI a_3)), some (.int (nI a_4)), some (.int (nI a_5)), some (.int (nI a_6)), some (.int (nI a_7)), some (.int (nI a_8)), some (.int (nI a_9)), some (.int (nI a_10))] [] h z c s) : ip sc call 109 MC MS Q 10 [some (.ref r_0), some (.int (nI a_1)), some (.int (nI a_2)), some (.int (nI a_3)), some (.int (nI a_4)), some (.int (nI a_5)), some (.int (nI a_6)), some (.int (nI a_7)), some (.int (nI a_8)), some (.int (nI a_9)), some (.int (nI a_10))] [] h z c s := by
  refine jp_load (pc2 := 12) (n := 10) rfl rfl rfl rfl ?_
  refine jp_load (pc2 := 14) (n := 5) rfl rfl rfl rfl ?_
  exact jp_icmp (pc2 := 17) rfl rfl (fun q => K1 ((not_congr (nI_eq c1 c2)).mp q)) (fun q => K2 (fun r => q ((not_congr (nI_eq c1 c2)).mpr r)))
theorem c109_17 {r_0 : Nat} {a_1 : Nat} {a_2 : Nat} {a_3 : Nat} {a_4 : Nat} {a_5 : Nat} {a_6 : Nat} {a_7 : Nat} {a_8 : Nat} {a_9 : Nat} {a_10 : Nat} {fs1 : List Value} {P : ipQ} (e2 : h r_0 = some (.inr (9, fs1))) (m3 : c ≤ MC) (m4 : s ≤ MS) (hc : call 99 [(.ref r_0), (.int (nI a_2))] h z 0 0 P) (K : ∀ (o : Option Value) (h2 : HP) (z2 : Nat), P o h2 z2 → ip sc call 109 MC MS Q 22 [some (.ref r_0), some (.int (nI a_1)), some (.int (nI a_2)), some (.int (nI a_3)), some (.int (nI a_4)), some (.int (nI a_5)), some (.int (nI a_6)), some (.int (nI a_7)), some (.int (nI a_8)), some (.int (nI a_9)), some (.int (nI a_10))] (o.toList ++ []) h2 z2 c s) : ip sc call 109 MC MS Q 17 [some (.ref r_0), some (.int (nI a_1)), some (.int (nI a_2)), some (.int (nI a_3)), some (.int (nI a_4)), some (.int (nI a_5)), some (.int (nI a_6)), some (.int (nI a_7)), some (.int (nI a_8)), some (.int (nI a_9)), some (.int (nI a_10))] [] h z c s := by
  refine jp_load (pc2 := 18) (n := 0) rfl rfl rfl rfl ?_
  refine jp_load (pc2 := 19) (n := 2) rfl rfl rfl rfl ?_
  exact jp_virt0 (pc2 := 22) (As := [(.int (nI a_2))]) (rest := []) rfl rfl rfl (Nat.le_of_ble_eq_true rfl) e2 m3 m4 hc rfl K
theorem c109_22 {r_0 : Nat} {a_1 : Nat} {a_2 : Nat} {a_3 : Nat} {a_4 : Nat} {a_5 : Nat} {a_6 : Nat} {a_7 : Nat} {a_8 : Nat} {a_9 : Nat} {a_10 : Nat} {fs1 : List Value} {P : ipQ} (e2 : h r_0 = some (.inr (9, fs1))) (m3 : c ≤ MC) (m4 : s ≤ MS) (hc : call 104 [(.ref r_0), (.int (nI a_1)), (.int (nI (a_3 + a_5))), (.int (nI a_6)), (.int (nI a_2))] h z 0 0 P) (K : ∀ (o : Option Value) (h2 : HP) (z2 : Nat), P o h2 z2 → ip sc call 109 MC MS Q 34 [some (.ref r_0), some (.int (nI a_1)), some (.int (nI a_2)), some (.int (nI a_3)), some (.int (nI a_4)), some (.int (nI a_5)), some (.int (nI a_6)), some (.int (nI a_7)), some (.int (nI a_8)), some (.int (nI a_9)), some (.int (nI a_10))] (o.toList ++ []) h2 z2 c s) : ip sc call 109 MC MS Q 22 [some (.ref r_0), some (.int (nI a_1)), some (.int (nI a_2)), some (.int (nI a_3)), some (.int (nI a_4)), some (.int (nI a_5)), some (.int (nI a_6)), some (.int (nI a_7)), some (.int (nI a_8)), some (.int (nI a_9)), some (.int (nI a_10))] [] h z c s := by
  refine jp_load (pc2 := 23) (n := 0) rfl rfl rfl rfl ?_
  refine jp_load (pc2 := 24) (n := 1) rfl rfl rfl rfl ?_
  refine jp_load (pc2 := 25) (n := 3) rfl rfl rfl rfl ?_
  refine jp_load (pc2 := 27) (n := 5) rfl rfl rfl rfl ?_
  refine jp_bin (pc2 := 28) (v := nI (a_3 + a_5)) rfl rfl (congrArg some (nI_add _ _)) ?_
  refine jp_load (pc2 := 30) (n := 6) rfl rfl rfl rfl ?_
  refine jp_load (pc2 := 31) (n := 2) rfl rfl rfl rfl ?_
  exact jp_virt0 (pc2 := 34) (As := [(.int (nI a_1)), (.int (nI (a_3 + a_5))), (.int (nI a_6)), (.int (nI a_2))]) (rest := []) rfl rfl rfl (Nat.le_of_ble_eq_true rfl) e2 m3 m4 hc rfl K
theorem c109_34 {r_0 : Nat} {a_1 : Nat} {a_2 : Nat} {a_3 : Nat} {a_4 : Nat} {a_5 : Nat} {a_6 : Nat} {a_7 : Nat} {a_8 : Nat} {a_9 : Nat} {a_10 : Nat} {fs1 : List Value} {P : ipQ} (e2 : h r_0 = some (.inr (9, fs1))) (m3 : c ≤ MC) (m4 : s ≤ MS) (hc : call 101 [(.ref r_0), (.int (nI a_2)), (.int (nI a_9))] h z 0 0 P) (K : ∀ (o : Option Value) (h2 : HP) (z2 : Nat), P o h2 z2 → ip sc call 109 MC MS Q 41 [some (.ref r_0), some (.int (nI a_1)), some (.int (nI a_2)), some (.int (nI a_3)), some (.int (nI a_4)), some (.int (nI a_5)), some (.int (nI a_6)), some (.int (nI a_7)), some (.int (nI a_8)), some (.int (nI a_9)), some (.int (nI a_10))] (o.toList ++ []) h2 z2 c s) : ip sc call 109 MC MS Q 34 [some (.ref r_0), some (.int (nI a_1)), some (.int (nI a_2)), some (.int (nI a_3)), some (.int (nI a_4)), some (.int (nI a_5)), some (.int (nI a_6)), some (.int (nI a_7)), some (.int (nI a_8)), some (.int (nI a_9)), some (.int (nI a_10))] [] h z c s := by
  refine jp_load (pc2 := 35) (n := 0) rfl rfl rfl rfl ?_
  refine jp_load (pc2 := 36) (n := 2) rfl rfl rfl rfl ?_
  refine jp_load (pc2 := 38) (n := 9) rfl rfl rfl rfl ?_
  exact jp_virt0 (pc2 := 41) (As := [(.int (nI a_2)), (.int (nI a_9))]) (rest := []) rfl rfl rfl (Nat.le_of_ble_eq_true rfl) e2 m3 m4 hc rfl K
theorem c109_41 {r_0 : Nat} {a_1 : Nat} {a_2 : Nat} {a_3 : Nat} {a_4 : Nat} {a_5 : Nat} {a_6 : Nat} {a_7 : Nat} {a_8 : Nat} {a_9 : Nat} {a_10 : Nat} {fs1 : List Value} {P : ipQ} (e2 : h r_0 = some (.inr (9, fs1))) (m3 : c ≤ MC) (m4 : s ≤ MS) (hc : call 104 [(.ref r_0), (.int (nI a_1)), (.int (nI (a_3 + a_7))), (.int (nI a_8)), (.int (nI a_2))] h z 0 0 P) (K : ∀ (o : Option Value) (h2 : HP) (z2 : Nat), P o h2 z2 → ip sc call 109 MC MS Q 53 [some (.ref r_0), some (.int (nI a_1)), some (.int (nI a_2)), some (.int (nI a_3)), some (.int (nI a_4)), some (.int (nI a_5)), some (.int (nI a_6)), some (.int (nI a_7)), some (.int (nI a_8)), some (.int (nI a_9)), some (.int (nI a_10))] (o.toList ++ []) h2 z2 c s) : ip sc call 109 MC MS Q 41 [some (.ref r_0), some (.int (nI a_1)), some (.int (nI a_2)), some (.int (nI a_3)), some (.int (nI a_4)), some (.int (nI a_5)), some (.int (nI a_6)), some (.int (nI a_7)), some (.int (nI a_8)), some (.int (nI a_9)), some (.int (nI a_10))] [] h z c s := by
  refine jp_load (pc2 := 42) (n := 0) rfl rfl rfl rfl ?_
  refine jp_load (pc2 := 43) (n := 1) rfl rfl rfl rfl ?_
  refine jp_load (pc2 := 44) (n := 3) rfl rfl rfl rfl ?_
  refine jp_load (pc2 := 46) (n := 7) rfl rfl rfl rfl ?_
  refine jp_bin (pc2 := 47) (v := nI (a_3 + a_7)) rfl rfl (congrArg some (nI_add _ _)) ?_
  refine jp_load (pc2 := 49) (n := 8) rfl rfl rfl rfl ?_
  refine jp_load (pc2 := 50) (n := 2) rfl rfl rfl rfl ?_
  exact jp_virt0 (pc2 := 53) (As := [(.int (nI a_1)), (.int (nI (a_3 + a_7))), (.int (nI a_8)), (.int (nI a_2))]) (rest := []) rfl rfl rfl (Nat.le_of_ble_eq_true rfl) e2 m3 m4 hc rfl K
theorem c109_53 {r_0 : Nat} {a_1 : Nat} {a_2 : Nat} {a_3 : Nat} {a_4 : Nat} {a_5 : Nat} {a_6 : Nat} {a_7 : Nat} {a_8 : Nat} {a_9 : Nat} {a_10 : Nat} {fs1 : List Value} {P : ipQ} (e2 : h r_0 = some (.inr (9, fs1))) (m3 : c ≤ MC) (m4 : s ≤ MS) (hc : call 101 [(.ref r_0), (.int (nI a_2)), (.int (nI a_9))] h z 0 0 P) (K : ∀ (o : Option Value) (h2 : HP) (z2 : Nat), P o h2 z2 → ip sc call 109 MC MS Q 60 [some (.ref r_0), some (.int (nI a_1)), some (.int (nI a_2)), some (.int (nI a_3)), some (.int (nI a_4)), some (.int (nI a_5)), some (.int (nI a_6)), some (.int (nI a_7)), some (.int (nI a_8)), some (.int (nI a_9)), some (.int (nI a_10))] (o.toList ++ []) h2 z2 c s) : ip sc call 109 MC MS Q 53 [some (.ref r_0), some (.int (nI a_1)), some (.int (nI a_2)), some (.int (nI a_3)), some (.int (nI a_4)), some (.int (nI a_5)), some (.int (nI a_6)), some (.int (nI a_7)), some (.int (nI a_8)), some (.int (nI a_9)), some (.int (nI a_10))] [] h z c s := by
  refine jp_load (pc2 := 54) (n := 0) rfl rfl rfl rfl ?_
  refine jp_load (pc2 := 55) (n := 2) rfl rfl rfl rfl ?_
  refine jp_load (pc2 := 57) (n := 9) rfl rfl rfl rfl ?_
  exact jp_virt0 (pc2 := 60) (As := [(.int (nI a_2)), (.int (nI a_9))]) (rest := []) rfl rfl rfl (Nat.le_of_ble_eq_true rfl) e2 m3 m4 hc rfl K
theorem c109_60 {r_0 : Nat} {a_1 : Nat} {a_2 : Nat} {a_3 : Nat} {a_4 : Nat} {a_5 : Nat} {a_6 : Nat} {a_7 : Nat} {a_8 : Nat} {a_9 : Nat} {a_10 : Nat}  (K : ip sc call 109 MC MS Q 80 [some (.ref r_0), some (.int (nI a_1)), some (.int (nI a_2)), some (.int (nI a_3)), some (.int (nI a_4)), some (.int (nI a_5)), some (.int (nI a_6)), some (.int (nI a_7)), some (.int (nI a_8)), some (.int (nI a_9)), some (.int (nI a_10))] [] h z c s) : ip sc call 109 MC MS Q 60 [some (.ref r_0), some (.int (nI a_1)), some (.int (nI a_2)), some (.int (nI a_3)), some (.int (nI a_4)), some (.int (nI a_5)), some (.int (nI a_6)), some (.int (nI a_7)), some (.int (nI a_8)), some (.int (nI a_9)), some (.int (nI a_10))] [] h z c s := by
  refine ip_goto rfl ?_
  exact K
theorem c109_63 {r_0 : Nat} {a_1 : Nat} {a_2 : Nat} {a_3 : Nat} {a_4 : Nat} {a_5 : Nat} {a_6 : Nat} {a_7 : Nat} {a_8 : Nat} {a_9 : Nat} {a_10 : Nat} (c1 : a_10 < 2147483648) (c2 : a_7 < 2147483648) (K1 : a_10 = a_7 → ip sc call 109 MC MS Q 80 [some (.ref r_0), some (.int (nI a_1)), some (.int (nI a_2)), some (.int (nI a_3)), some (.int (nI a_4)), some (.int (nI a_5)), some (.int (nI a_6)), some (.int (nI a_7)), some (.int (nI a_8)), some (.int (nI a_9)), some (.int (nI a_10))] [] h z c s) (K2 : ¬ (a_10 = a_7) → ip sc call 109 MC MS Q 70 [some (.ref r_0), some (.int (nI a_1)), some (.int (nI a_2)), some (.int (nI a_3)), some (.int (nI a_4)), some (.int (nI a_5)), some (.int (nI a_6)), some (.int (nI a_7)), some (.int (nI a_8)), some (.int (nI a_9)), some (.int (nI a_10))] [] h z c s) : ip sc call 109 MC MS Q 63 [some (.ref r_0), some (.int (nI a_1)), some (.int (nI a_2)), some (.int (nI a_3)), some (.int (nI a_4)), some (.int (nI a_5)), some (.int (nI a_6)), some (.int (nI a_7)), some (.int (nI a_8)), some (.int (nI a_9)), some (.int (nI a_10))] [] h z c s := by
  refine jp_load (pc2 := 65) (n := 10) rfl rfl rfl rfl ?_
  refine jp_load (pc2 := 67) (n := 7) rfl rfl rfl rfl ?_
  exact jp_icmp (pc2 := 70) rfl rfl (fun q => K1 ((nI_eq c1 c2).mp q)) (fun q => K2 (fun r => q ((nI_eq c1 c2).mpr r)))
theorem c109_70 {r_0 : Nat} {a_1 : Nat} {a_2 : Nat} {a_3 : Nat} {a_4 : Nat} {a_5 : Nat} {a_6 : Nat} {a_7 : Nat} {a_8 : Nat} {a_9 : Nat} {a_10 : Nat} {fs1 : List Value} {P : ipQ} (e2 : h r_0 = some (.inr (9, fs1))) (m3 : c ≤ MC) (m4 : s ≤ MS) (hc : call 102 [(.ref r_0), (.int (nI a_1)), (.int (nI (a_3 + a_10))), (.int (nI a_2))] h z 0 0 P) (K : ∀ (o : Option Value) (h2 : HP) (z2 : Nat), P o h2 z2 → ip sc call 109 MC MS Q 80 [some (.ref r_0), some (.int (nI a_1)), some (.int (nI a_2)), some (.int (nI a_3)), some (.int (nI a_4)), some (.int (nI a_5)), some (.int (nI a_6)), some (.int (nI a_7)), some (.int (nI a_8)), some (.int (nI a_9)), some (.int (nI a_10))] (o.toList ++ []) h2 z2 c s) : ip sc call 109 MC MS Q 70 [some (.ref r_0), some (.int (nI a_1)), some (.int (nI a_2)), some (.int (nI a_3)), some (.int (nI a_4)), some (.int (nI a_5)), some (.int (nI a_6)), some (.int (nI a_7)), some (.int (nI a_8)), some (.int (nI a_9)), some (.int (nI a_10))] [] h z c s := by
  refine jp_load (pc2 := 71) (n := 0) rfl rfl rfl rfl ?_
  refine jp_load (pc2 := 72) (n := 1) rfl rfl rfl rfl ?_
  refine jp_load (pc2 := 73) (n := 3) rfl rfl rfl rfl ?_
  refine jp_load (pc2 := 75) (n := 10) rfl rfl rfl rfl ?_
  refine jp_bin (pc2 := 76) (v := nI (a_3 + a_10)) rfl rfl (congrArg some (nI_add _ _)) ?_
  refine jp_load (pc2 := 77) (n := 2) rfl rfl rfl rfl ?_
  exact jp_virt0 (pc2 := 80) (As := [(.int (nI a_1)), (.int (nI (a_3 + a_10))), (.int (nI a_2))]) (rest := []) rfl rfl rfl (Nat.le_of_ble_eq_true rfl) e2 m3 m4 hc rfl K
theorem c109_80 {r_0 : Nat} {a_1 : Nat} {a_2 : Nat} {a_3 : Nat} {a_4 : Nat} {a_5 : Nat} {a_6 : Nat} {a_7 : Nat} {a_8 : Nat} {a_9 : Nat} {a_10 : Nat}  (K : ip sc call 109 MC MS Q 3 [some (.ref r_0), some (.int (nI a_1)), some (.int (nI a_2)), some (.int (nI a_3)), some (.int (nI a_4)), some (.int (nI a_5)), some (.int (nI a_6)), some (.int (nI a_7)), some (.int (nI a_8)), some (.int (nI a_9)), some (.int (nI (a_10 + 1)))] [] h z c s) : ip sc call 109 MC MS Q 80 [some (.ref r_0), some (.int (nI a_1)), some (.int (nI a_2)), some (.int (nI a_3)), some (.int (nI a_4)), some (.int (nI a_5)), some (.int (nI a_6)), some (.int (nI a_7)), some (.int (nI a_8)), some (.int (nI a_9)), some (.int (nI a_10))] [] h z c s := by
  refine jp_iinc (pc2 := 83) (n := 10) (v := nI (a_10 + 1)) rfl rfl rfl (nI_add _ 1) rfl ?_
  refine ip_goto rfl ?_
  exact K
theorem c109_86 {o_0 : Option Value} {o_1 : Option Value} {o_2 : Option Value} {o_3 : Option Value} {o_4 : Option Value} {o_5 : Option Value} {o_6 : Option Value} {o_7 : Option Value} {o_8 : Option Value} {o_9 : Option Value} {o_10 : Option Value} (q1 : Q none h z)  : ip sc call 109 MC MS Q 86 [o_0, o_1, o_2, o_3, o_4, o_5, o_6, o_7, o_8, o_9, o_10] [] h z c s := by
  exact ip_vret (st := []) rfl rfl q1
theorem c110_0 {r_0 : Nat} {a_1 : Nat} {a_2 : Nat} {a_3 : Nat} {a_4 : Nat} {a_5 : Nat} {a_6 : Nat} {a_7 : Nat} {a_8 : Nat} {a_9 : Nat} {fs1 : List Value} {P : ipQ} (e2 : h r_0 = some (.inr (9, fs1))) (m3 : c ≤ MC) (m4 : s ≤ MS) (hc : call 99 [(.ref r_0), (.int (nI a_2))] h z 0 0 P) (K : ∀ (o : Option Value) (h2 : HP) (z2 : Nat), P o h2 z2 → ip sc call 110 MC MS Q 5 [some (.ref r_0), some (.int (nI a_1)), some (.int (nI a_2)), some (.int (nI a_3)), some (.int (nI a_4)), some (.int (nI a_5)), some (.int (nI a_6)), some (.int (nI a_7)), some (.int (nI a_8)), some (.int (nI a_9))] (o.toList ++ []) h2 z2 c s) : ip sc call 110 MC MS Q 0 [some (.ref r_0), some (.int (nI a_1)), some (.int (nI a_2)), some (.int (nI a_3)), some (.int (nI a_4)), some (.int (nI a_5)), some (.int (nI a_6)), some (.int (nI a_7)), some (.int (nI a_8)), some (.int (nI a_9))] [] h z c s := by
  refine jp_load (pc2 := 1) (n := 0) rfl rfl rfl rfl ?_
  refine jp_load (pc2 := 2) (n := 2) rfl rfl rfl rfl ?_
  exact jp_virt0 (pc2 := 5) (As := [(.int (nI a_2))]) (rest := []) rfl rfl rfl (Nat.le_of_ble_eq_true rfl) e2 m3 m4 hc rfl K
theorem c110_5 {r_0 : Nat} {a_1 : Nat} {a_2 : Nat} {a_3 : Nat} {a_4 : Nat} {a_5 : Nat} {a_6 : Nat} {a_7 : Nat} {a_8 : Nat} {a_9 : Nat} {fs1 : List Value} {P : ipQ} (e2 : h r_0 = some (.inr (9, fs1))) (m3 : c ≤ MC) (m4 : s ≤ MS) (hc : call 103 [(.ref r_0), (.int (nI a_1)), (.int (nI (a_3 + a_5))), (.int (nI a_6)), (.int (nI a_7)), (.int (nI a_2))] h z 0 0 P) (K : ∀ (o : Option Value) (h2 : HP) (z2 : Nat), P o h2 z2 → ip sc call 110 MC MS Q 19 [some (.ref r_0), some (.int (nI a_1)), some (.int (nI a_2)), some (.int (nI a_3)), some (.int (nI a_4)), some (.int (nI a_5)), some (.int (nI a_6)), some (.int (nI a_7)), some (.int (nI a_8)), some (.int (nI a_9))] (o.toList ++ []) h2 z2 c s) : ip sc call 110 MC MS Q 5 [some (.ref r_0), some (.int (nI a_1)), some (.int (nI a_2)), some (.int (nI a_3)), some (.int (nI a_4)), some (.int (nI a_5)), some (.int (nI a_6)), some (.int (nI a_7)), some (.int (nI a_8)), some (.int (nI a_9))] [] h z c s := by
  refine jp_load (pc2 := 6) (n := 0) rfl rfl rfl rfl ?_
  refine jp_load (pc2 := 7) (n := 1) rfl rfl rfl rfl ?_
  refine jp_load (pc2 := 8) (n := 3) rfl rfl rfl rfl ?_
  refine jp_load (pc2 := 10) (n := 5) rfl rfl rfl rfl ?_
  refine jp_bin (pc2 := 11) (v := nI (a_3 + a_5)) rfl rfl (congrArg some (nI_add _ _)) ?_
  refine jp_load (pc2 := 13) (n := 6) rfl rfl rfl rfl ?_
  refine jp_load (pc2 := 15) (n := 7) rfl rfl rfl rfl ?_
  refine jp_load (pc2 := 16) (n := 2) rfl rfl rfl rfl ?_
  exact jp_virt0 (pc2 := 19) (As := [(.int (nI a_1)), (.int (nI (a_3 + a_5))), (.int (nI a_6)), (.int (nI a_7)), (.int (nI a_2))]) (rest := []) rfl rfl rfl (Nat.le_of_ble_eq_true rfl) e2 m3 m4 hc rfl K
theorem c110_19 {r_0 : Nat} {a_1 : Nat} {a_2 : Nat} {a_3 : Nat} {a_4 : Nat} {a_5 : Nat} {o_6 : Option Value} {o_7 : Option Value} {a_8 : Nat} {a_9 : Nat} {fs1 : List Value} {P : ipQ} (e2 : h r_0 = some (.inr (9, fs1))) (m3 : c ≤ MC) (m4 : s ≤ MS) (hc : call 101 [(.ref r_0), (.int (nI a_2)), (.int (nI a_8))] h z 0 0 P) (K : ∀ (o : Option Value) (h2 : HP) (z2 : Nat), P o h2 z2 → ip sc call 110 MC MS Q 26 [some (.ref r_0), some (.int (nI a_1)), some (.int (nI a_2)), some (.int (nI a_3)), some (.int (nI a_4)), some (.int (nI a_5)), o_6, o_7, some (.int (nI a_8)), some (.int (nI a_9))] (o.toList ++ []) h2 z2 c s) : ip sc call 110 MC MS Q 19 [some (.ref r_0), some (.int (nI a_1)), some (.int (nI a_2)), some (.int (nI a_3)), some (.int (nI a_4)), some (.int (nI a_5)), o_6, o_7, some (.int (nI a_8)), some (.int (nI a_9))] [] h z c s := by
  refine jp_load (pc2 := 20) (n := 0) rfl rfl rfl rfl ?_
  refine jp_load (pc2 := 21) (n := 2) rfl rfl rfl rfl ?_
  refine jp_load (pc2 := 23) (n := 8) rfl rfl rfl rfl ?_
  exact jp_virt0 (pc2 := 26) (As := [(.int (nI a_2)), (.int (nI a_8))]) (rest := []) rfl rfl rfl (Nat.le_of_ble_eq_true rfl) e2 m3 m4 hc rfl K
theorem c110_26 {r_0 : Nat} {a_1 : Nat} {a_2 : Nat} {a_3 : Nat} {a_4 : Nat} {a_5 : Nat} {o_6 : Option Value} {o_7 : Option Value} {o_8 : Option Value} {a_9 : Nat} {fs1 : List Value} {P : ipQ} (e2 : h r_0 = some (.inr (9, fs1))) (m3 : c ≤ MC) (m4 : s ≤ MS) (hc : call 111 [(.ref r_0), (.int (nI a_1)), (.int (nI a_2)), (.int (nI a_3)), (.int (nI a_4)), (.int (nI a_5)), (.int (nI a_9)), (.int (nI 0))] h z 0 0 P) (K : ∀ (o : Option Value) (h2 : HP) (z2 : Nat), P o h2 z2 → ip sc call 110 MC MS Q 40 [some (.ref r_0), some (.int (nI a_1)), some (.int (nI a_2)), some (.int (nI a_3)), some (.int (nI a_4)), some (.int (nI a_5)), o_6, o_7, o_8, some (.int (nI a_9))] (o.toList ++ []) h2 z2 c s) : ip sc call 110 MC MS Q 26 [some (.ref r_0), some (.int (nI a_1)), some (.int (nI a_2)), some (.int (nI a_3)), some (.int (nI a_4)), some (.int (nI a_5)), o_6, o_7, o_8, some (.int (nI a_9))] [] h z c s := by
  refine jp_load (pc2 := 27) (n := 0) rfl rfl rfl rfl ?_
  refine jp_load (pc2 := 28) (n := 1) rfl rfl rfl rfl ?_
  refine jp_load (pc2 := 29) (n := 2) rfl rfl rfl rfl ?_
  refine jp_load (pc2 := 30) (n := 3) rfl rfl rfl rfl ?_
  refine jp_load (pc2 := 32) (n := 4) rfl rfl rfl rfl ?_
  refine jp_load (pc2 := 34) (n := 5) rfl rfl rfl rfl ?_
  refine jp_load (pc2 := 36) (n := 9) rfl rfl rfl rfl ?_
  refine jp_con (pc2 := 37) (v := (.int (nI 0))) rfl rfl rfl ?_
  exact jp_virt0 (pc2 := 40) (As := [(.int (nI a_1)), (.int (nI a_2)), (.int (nI a_3)), (.int (nI a_4)), (.int (nI a_5)), (.int (nI a_9)), (.int (nI 0))]) (rest := []) rfl rfl rfl (Nat.le_of_ble_eq_true rfl) e2 m3 m4 hc rfl K
theorem c110_40 {o_0 : Option Value} {o_1 : Option Value} {o_2 : Option Value} {o_3 : Option Value} {o_4 : Option Value} {o_5 : Option Value} {o_6 : Option Value} {o_7 : Option Value} {o_8 : Option Value} {o_9 : Option Value} (q1 : Q none h z)  : ip sc call 110 MC MS Q 40 [o_0, o_1, o_2, o_3, o_4, o_5, o_6, o_7, o_8, o_9] [] h z c s := by
  exact ip_vret (st := []) rfl rfl q1
theorem c111_0 {r_0 : Nat} {a_1 : Nat} {a_2 : Nat} {a_3 : Nat} {a_4 : Nat} {a_5 : Nat} {a_6 : Nat} {a_7 : Nat} {o_8 : Option Value} {o_9 : Option Value}  (K : ip sc call 111 MC MS Q 6 [some (.ref r_0), some (.int (nI a_1)), some (.int (nI a_2)), some (.int (nI a_3)), some (.int (nI a_4)), some (.int (nI a_5)), some (.int (nI a_6)), some (.int (nI a_7)), some (.int (nI 0)), some (.int (nI 0))] [] h z c s) : ip sc call 111 MC MS Q 0 [some (.ref r_0), some (.int (nI a_1)), some (.int (nI a_2)), some (.int (nI a_3)), some (.int (nI a_4)), some (.int (nI a_5)), some (.int (nI a_6)), some (.int (nI a_7)), o_8, o_9] [] h z c s := by
  refine jp_con (pc2 := 1) (v := (.int (nI 0))) rfl rfl rfl ?_
  refine jp_store (pc2 := 3) (n := 8) rfl rfl ⟨rfl, rfl⟩ rfl (Nat.le_of_ble_eq_true rfl) ?_
  refine jp_con (pc2 := 4) (v := (.int (nI 0))) rfl rfl rfl ?_
  refine jp_store (pc2 := 6) (n := 9) rfl rfl ⟨rfl, rfl⟩ rfl (Nat.le_of_ble_eq_true rfl) ?_
  exact K
theorem c111_6 {r_0 : Nat} {a_1 : Nat} {a_2 : Nat} {a_3 : Nat} {a_4 : Nat} {a_5 : Nat} {a_6 : Nat} {a_7 : Nat} {a_8 : Nat} {a_9 : Nat} (c1 : a_9 < 2147483648) (c2 : a_4 < 2147483648) (K1 : a_4 ≤ a_9 → ip sc call 111 MC MS Q 54 [some (.ref r_0), some (.int (nI a_1)), some (.int (nI a_2)), some (.int (nI a_3)), some (.int (nI a_4)), some (.int (nI a_5)), some (.int (nI a_6)), some (.int (nI a_7)), some (.int (nI a_8)), some (.int (nI a_9))] [] h z c s) (K2 : ¬ (a_4 ≤ a_9) → ip sc call 111 MC MS Q 13 [some (.ref r_0), some (.int (nI a_1)), some (.int (nI a_2)), some (.int (nI a_3)), some (.int (nI a_4)), some (.int (nI a_5)), some (.int (nI a_6)), some (.int (nI a_7)), some (.int (nI a_8)), some (.int (nI a_9))] [] h z c s) : ip sc call 111 MC MS Q 6 [some (.ref r_0), some (.int (nI a_1)), some (.int (nI a_2)), some (.int (nI a_3)), some (.int (nI a_4)), some (.int (nI a_5)), some (.int (nI a_6)), some (.int (nI a_7)), some (.int (nI a_8)), some (.int (nI a_9))] [] h z c s := by
  refine jp_load (pc2 := 8) (n := 9) rfl rfl rfl rfl ?_
  refine jp_load (pc2 := 10) (n := 4) rfl rfl rfl rfl ?_
  exact jp_icmp (pc2 := 13) rfl rfl (fun q => K1 ((nI_leI c2 c1).mp q)) (fun q => K2 (fun r => q ((nI_leI c2 c1).mpr r)))
theorem c111_13 {r_0 : Nat} {a_1 : Nat} {a_2 : Nat} {a_3 : Nat} {a_4 : Nat} {a_5 : Nat} {a_6 : Nat} {a_7 : Nat} {a_8 : Nat} {a_9 : Nat} (c1 : a_9 < 2147483648) (c2 : a_5 < 2147483648) (K1 : ¬ a_9 = a_5 → ip sc call 111 MC MS Q 23 [some (.ref r_0), some (.int (nI a_1)), some (.int (nI a_2)), some (.int (nI a_3)), some (.int (nI a_4)), some (.int (nI a_5)), some (.int (nI a_6)), some (.int (nI a_7)), some (.int (nI a_8)), some (.int (nI a_9))] [] h z c s) (K2 : ¬ (¬ a_9 = a_5) → ip sc call 111 MC MS Q 20 [some (.ref r_0), some (.int (nI a_1)), some (.int (nI a_2)), some (.int (nI a_3)), some (.int (nI a_4)), some (.int (nI a_5)), some (.int (nI a_6)), some (.int (nI a_7)), some (.int (nI a_8)), some (.int (nI a_9))] [] h z c s) : ip sc call 111 MC MS Q 13 [some (.ref r_0), some (.int (nI a_1)), some (.int (nI a_2)), some (.int (nI a_3)), some (.int (nI a_4)), some (.int (nI a_5)), some (.int (nI a_6)), some (.int (nI a_7)), some (.int (nI a_8)), some (.int (nI a_9))] [] h z c s := by
  refine jp_load (pc2 := 15) (n := 9) rfl rfl rfl rfl ?_
  refine jp_load (pc2 := 17) (n := 5) rfl rfl rfl rfl ?_
  exact jp_icmp (pc2 := 20) rfl rfl (fun q => K1 ((not_congr (nI_eq c1 c2)).mp q)) (fun q => K2 (fun r => q ((not_congr (nI_eq c1 c2)).mpr r)))
theorem c111_20 {r_0 : Nat} {a_1 : Nat} {a_2 : Nat} {a_3 : Nat} {a_4 : Nat} {a_5 : Nat} {a_6 : Nat} {a_7 : Nat} {a_8 : Nat} {a_9 : Nat}  (K : ip sc call 111 MC MS Q 48 [some (.ref r_0), some (.int (nI a_1)), some (.int (nI a_2)), some (.int (nI a_3)), some (.int (nI a_4)), some (.int (nI a_5)), some (.int (nI a_6)), some (.int (nI a_7)), some (.int (nI a_8)), some (.int (nI a_9))] [] h z c s) : ip sc call 111 MC MS Q 20 [some (.ref r_0), some (.int (nI a_1)), some (.int (nI a_2)), some (.int (nI a_3)), some (.int (nI a_4)), some (.int (nI a_5)), some (.int (nI a_6)), some (.int (nI a_7)), some (.int (nI a_8)), some (.int (nI a_9))] [] h z c s := by
  refine ip_goto rfl ?_
  exact K
theorem c111_23 {r_0 : Nat} {a_1 : Nat} {a_2 : Nat} {a_3 : Nat} {a_4 : Nat} {a_5 : Nat} {a_6 : Nat} {a_7 : Nat} {a_8 : Nat} {a_9 : Nat}  (K1 : ¬ (((nI a_6) >>> ((nI a_8) &&& 31)) &&& (nI 1)) = (nI a_7) → ip sc call 111 MC MS Q 45 [some (.ref r_0), some (.int (nI a_1)), some (.int (nI a_2)), some (.int (nI a_3)), some (.int (nI a_4)), some (.int (nI a_5)), some (.int (nI a_6)), some (.int (nI a_7)), some (.int (nI a_8)), some (.int (nI a_9))] [] h z c s) (K2 : ¬ (¬ (((nI a_6) >>> ((nI a_8) &&& 31)) &&& (nI 1)) = (nI a_7)) → ip sc call 111 MC MS Q 35 [some (.ref r_0), some (.int (nI a_1)), some (.int (nI a_2)), some (.int (nI a_3)), some (.int (nI a_4)), some (.int (nI a_5)), some (.int (nI a_6)), some (.int (nI a_7)), some (.int (nI a_8)), some (.int (nI a_9))] [] h z c s) : ip sc call 111 MC MS Q 23 [some (.ref r_0), some (.int (nI a_1)), some (.int (nI a_2)), some (.int (nI a_3)), some (.int (nI a_4)), some (.int (nI a_5)), some (.int (nI a_6)), some (.int (nI a_7)), some (.int (nI a_8)), some (.int (nI a_9))] [] h z c s := by
  refine jp_load (pc2 := 25) (n := 6) rfl rfl rfl rfl ?_
  refine jp_load (pc2 := 27) (n := 8) rfl rfl rfl rfl ?_
  refine jp_bin (pc2 := 28) (v := (nI a_6) >>> ((nI a_8) &&& 31)) rfl rfl rfl ?_
  refine jp_con (pc2 := 29) (v := (.int (nI 1))) rfl rfl rfl ?_
  refine jp_bin (pc2 := 30) (v := ((nI a_6) >>> ((nI a_8) &&& 31)) &&& (nI 1)) rfl rfl rfl ?_
  refine jp_load (pc2 := 32) (n := 7) rfl rfl rfl rfl ?_
  exact jp_icmp (pc2 := 35) rfl rfl K1 K2
theorem c111_35 {r_0 : Nat} {a_1 : Nat} {a_2 : Nat} {a_3 : Nat} {a_4 : Nat} {a_5 : Nat} {a_6 : Nat} {a_7 : Nat} {a_8 : Nat} {a_9 : Nat} {fs1 : List Value} {P : ipQ} (e2 : h r_0 = some (.inr (9, fs1))) (m3 : c ≤ MC) (m4 : s ≤ MS) (hc : call 102 [(.ref r_0), (.int (nI a_1)), (.int (nI (a_3 + a_9))), (.int (nI a_2))] h z 0 0 P) (K : ∀ (o : Option Value) (h2 : HP) (z2 : Nat), P o h2 z2 → ip sc call 111 MC MS Q 45 [some (.ref r_0), some (.int (nI a_1)), some (.int (nI a_2)), some (.int (nI a_3)), some (.int (nI a_4)), some (.int (nI a_5)), some (.int (nI a_6)), some (.int (nI a_7)), some (.int (nI a_8)), some (.int (nI a_9))] (o.toList ++ []) h2 z2 c s) : ip sc call 111 MC MS Q 35 [some (.ref r_0), some (.int (nI a_1)), some (.int (nI a_2)), some (.int (nI a_3)), some (.int (nI a_4)), some (.int (nI a_5)), some (.int (nI a_6)), some (.int (nI a_7)), some (.int (nI a_8)), some (.int (nI a_9))] [] h z c s := by
  refine jp_load (pc2 := 36) (n := 0) rfl rfl rfl rfl ?_
  refine jp_load (pc2 := 37) (n := 1) rfl rfl rfl rfl ?_
  refine jp_load (pc2 := 38) (n := 3) rfl rfl rfl rfl ?_
  refine jp_load (pc2 := 40) (n := 9) rfl rfl rfl rfl ?_
  refine jp_bin (pc2 := 41) (v := nI (a_3 + a_9)) rfl rfl (congrArg some (nI_add _ _)) ?_
  refine jp_load (pc2 := 42) (n := 2) rfl rfl rfl rfl ?_
  exact jp_virt0 (pc2 := 45) (As := [(.int (nI a_1)), (.int (nI (a_3 + a_9))), (.int (nI a_2))]) (rest := []) rfl rfl rfl (Nat.le_of_ble_eq_true rfl) e2 m3 m4 hc rfl K
theorem c111_45 {r_0 : Nat} {a_1 : Nat} {a_2 : Nat} {a_3 : Nat} {a_4 : Nat} {a_5 : Nat} {a_6 : Nat} {a_7 : Nat} {a_8 : Nat} {a_9 : Nat}  (K : ip sc call 111 MC MS Q 48 [some (.ref r_0), some (.int (nI a_1)), some (.int (nI a_2)), some (.int (nI a_3)), some (.int (nI a_4)), some (.int (nI a_5)), some (.int (nI a_6)), some (.int (nI a_7)), some (.int (nI (a_8 + 1))), some (.int (nI a_9))] [] h z c s) : ip sc call 111 MC MS Q 45 [some (.ref r_0), some (.int (nI a_1)), some (.int (nI a_2)), some (.int (nI a_3)), some (.int (nI a_4)), some (.int (nI a_5)), some (.int (nI a_6)), some (.int (nI a_7)), some (.int (nI a_8)), some (.int (nI a_9))] [] h z c s := by
  refine jp_iinc (pc2 := 48) (n := 8) (v := nI (a_8 + 1)) rfl rfl rfl (nI_add _ 1) rfl ?_
  exact K
theorem c111_48 {r_0 : Nat} {a_1 : Nat} {a_2 : Nat} {a_3 : Nat} {a_4 : Nat} {a_5 : Nat} {a_6 : Nat} {a_7 : Nat} {a_8 : Nat} {a_9 : Nat}  (K : ip sc call 111 MC MS Q 6 [some (.ref r_0), some (.int (nI a_1)), some (.int (nI a_2)), some (.int (nI a_3)), some (.int (nI a_4)), some (.int (nI a_5)), some (.int (nI a_6)), some (.int (nI a_7)), some (.int (nI a_8)), some (.int (nI (a_9 + 1)))] [] h z c s) : ip sc call 111 MC MS Q 48 [some (.ref r_0), some (.int (nI a_1)), some (.int (nI a_2)), some (.int (nI a_3)), some (.int (nI a_4)), some (.int (nI a_5)), some (.int (nI a_6)), some (.int (nI a_7)), some (.int (nI a_8)), some (.int (nI a_9))] [] h z c s := by
  refine jp_iinc (pc2 := 51) (n := 9) (v := nI (a_9 + 1)) rfl rfl rfl (nI_add _ 1) rfl ?_
  refine ip_goto rfl ?_
  exact K
theorem c111_54 {o_0 : Option Value} {o_1 : Option Value} {o_2 : Option Value} {o_3 : Option Value} {o_4 : Option Value} {o_5 : Option Value} {o_6 : Option Value} {o_7 : Option Value} {o_8 : Option Value} {o_9 : Option Value} (q1 : Q none h z)  : ip sc call 111 MC MS Q 54 [o_0, o_1, o_2, o_3, o_4, o_5, o_6, o_7, o_8, o_9] [] h z c s := by
  exact ip_vret (st := []) rfl rfl q1
theorem c112_0 {r_0 : Nat} {fs1 : List Value} (e2 : h r_0 = some (.inr (9, fs1))) (l3 : fs1.length = 16) (q4 : Q none (hup h r_0 (.inr (9, ((((((fs1.set 6 (.int (nI 0))).set 7 (.int (nI 0))).set 8 (.int (nI 0))).set 9 (.int (nI 0))).set 10 (.int (nI 0))).set 11 (.int ((-1))))))) z)  : ip sc call 112 MC MS Q 0 [some (.ref r_0)] [] h z c s := by
  refine jp_load (pc2 := 1) (n := 0) rfl rfl rfl rfl ?_
  refine jp_con (pc2 := 2) (v := (.int (nI 0))) rfl rfl rfl ?_
  refine jp_putf (pc2 := 5) rfl rfl e2 (ln_lt l3 (by decide)) ⟨rfl, rfl⟩ ?_
  refine jp_load (pc2 := 6) (n := 0) rfl rfl rfl rfl ?_
  refine jp_con (pc2 := 7) (v := (.int (nI 0))) rfl rfl rfl ?_
  refine jp_putf (pc2 := 10) rfl rfl hup_eq (ls_lt (ln_lt l3 (by decide))) ⟨rfl, rfl⟩ ?_
  rw [hup_hup]
  refine jp_load (pc2 := 11) (n := 0) rfl rfl rfl rfl ?_
  refine jp_con (pc2 := 12) (v := (.int (nI 0))) rfl rfl rfl ?_
  refine jp_putf (pc2 := 15) rfl rfl hup_eq (ls_lt (ls_lt (ln_lt l3 (by decide)))) ⟨rfl, rfl⟩ ?_
  rw [hup_hup]
  refine jp_load (pc2 := 16) (n := 0) rfl rfl rfl rfl ?_
  refine jp_con (pc2 := 17) (v := (.int (nI 0))) rfl rfl rfl ?_
  refine jp_putf (pc2 := 20) rfl rfl hup_eq (ls_lt (ls_lt (ls_lt (ln_lt l3 (by decide))))) ⟨rfl, rfl⟩ ?_
  rw [hup_hup]
  refine jp_load (pc2 := 21) (n := 0) rfl rfl rfl rfl ?_
  refine jp_con (pc2 := 22) (v := (.int (nI 0))) rfl rfl rfl ?_
  refine jp_putf (pc2 := 25) rfl rfl hup_eq (ls_lt (ls_lt (ls_lt (ls_lt (ln_lt l3 (by decide)))))) ⟨rfl, rfl⟩ ?_
  rw [hup_hup]
  refine jp_load (pc2 := 26) (n := 0) rfl rfl rfl rfl ?_
  refine jp_con (pc2 := 27) (v := (.int ((-1)))) rfl rfl rfl ?_
  refine jp_putf (pc2 := 30) rfl rfl hup_eq (ls_lt (ls_lt (ls_lt (ls_lt (ls_lt (ln_lt l3 (by decide))))))) ⟨rfl, rfl⟩ ?_
  rw [hup_hup]
  exact ip_vret (st := []) rfl rfl q4
theorem c113_0 {r_0 : Nat} {a_1 : Nat} {a_2 : Nat} {a_3 : Nat} {fs1 : List Value} {q_fs1_0 : Nat} {P : ipQ} (e2 : h r_0 = some (.inr (9, fs1))) (e3 : fs1[0]? = some (.ref q_fs1_0)) (m4 : c ≤ MC) (m5 : s ≤ MS) (hc : call 97 [(.ref r_0), (.int (nI a_1)), (.int (nI a_2))] h z 0 0 P) (K : ∀ (o : Option Value) (h2 : HP) (z2 : Nat), P o h2 z2 → ip sc call 113 MC MS Q 14 [some (.ref r_0), some (.int (nI a_1)), some (.int (nI a_2)), some (.int (nI a_3))] (o.toList ++ [(.int (nI (a_1 + 68))), (.ref q_fs1_0)]) h2 z2 c s) : ip sc call 113 MC MS Q 0 [some (.ref r_0), some (.int (nI a_1)), some (.int (nI a_2)), some (.int (nI a_3))] [] h z c s := by
  refine jp_load (pc2 := 1) (n := 0) rfl rfl rfl rfl ?_
  refine jp_getf (pc2 := 4) rfl rfl e2 e3 ?_
  refine jp_load (pc2 := 5) (n := 1) rfl rfl rfl rfl ?_
  refine jp_con (pc2 := 7) (v := (.int (nI 68))) rfl rfl rfl ?_
  refine jp_bin (pc2 := 8) (v := nI (a_1 + 68)) rfl rfl (congrArg some (nI_add _ _)) ?_
  refine jp_load (pc2 := 9) (n := 0) rfl rfl rfl rfl ?_
  refine jp_load (pc2 := 10) (n := 1) rfl rfl rfl rfl ?_
  refine jp_load (pc2 := 11) (n := 2) rfl rfl rfl rfl ?_
  exact jp_virt0 (pc2 := 14) (As := [(.int (nI a_1)), (.int (nI a_2))]) (rest := [(.int (nI (a_1 + 68))), (.ref q_fs1_0)]) rfl rfl rfl (Nat.le_of_ble_eq_true rfl) e2 m4 m5 hc rfl K
theorem c113_14 {o_0 : Option Value} {o_1 : Option Value} {o_2 : Option Value} {a_3 : Nat} {sr_0 : Nat} {sa_1 : Nat} {sa_2 : Nat} {n1 : Nat} {f2 : Nat → Int32} {v6 : Nat} (e3 : h sr_0 = some (.inl (0, n1, .inl f2))) (b4 : (sa_1 + sa_2) + a_3 < n1) (c5 : n1 < 2147483648) (e7 : f2 ((sa_1 + sa_2) + a_3) = nI v6) (q8 : Q (some (.int (nI v6))) h z)  : ip sc call 113 MC MS Q 14 [o_0, o_1, o_2, some (.int (nI a_3))] [(.int (nI sa_2)), (.int (nI sa_1)), (.ref sr_0)] h z c s := by
  refine jp_bin (pc2 := 15) (v := nI (sa_1 + sa_2)) rfl rfl (congrArg some (nI_add _ _)) ?_
  refine jp_load (pc2 := 16) (n := 3) rfl rfl rfl rfl ?_
  refine jp_bin (pc2 := 17) (v := nI ((sa_1 + sa_2) + a_3)) rfl rfl (congrArg some (nI_add _ _)) ?_
  refine jp_iald (pc2 := 18) rfl rfl e3 (vp_in_nI b4 c5) ?_
  rw [(nI_clamp (Nat.lt_trans b4 c5))]
  rw [e7]
  exact ip_iret (st := []) rfl rfl rfl q8
theorem c114_0 {r_0 : Nat} {a_1 : Nat} {fs1 : List Value} {P : ipQ} (e2 : h r_0 = some (.inr (9, fs1))) (m3 : c ≤ MC) (m4 : s ≤ MS) (hc : call 116 [(.ref r_0), (.int (nI a_1))] h z 0 0 P) (K : ∀ (o : Option Value) (h2 : HP) (z2 : Nat), P o h2 z2 → ip sc call 114 MC MS Q 5 [some (.ref r_0), some (.int (nI a_1))] (o.toList ++ []) h2 z2 c s) : ip sc call 114 MC MS Q 0 [some (.ref r_0), some (.int (nI a_1))] [] h z c s := by
  refine jp_load (pc2 := 1) (n := 0) rfl rfl rfl rfl ?_
  refine jp_load (pc2 := 2) (n := 1) rfl rfl rfl rfl ?_
  exact jp_virt0 (pc2 := 5) (As := [(.int (nI a_1))]) (rest := []) rfl rfl rfl (Nat.le_of_ble_eq_true rfl) e2 m3 m4 hc rfl K
theorem c114_5 {r_0 : Nat} {a_1 : Nat} {sa_0 : Nat} (c1 : sa_0 < 2147483648) (K1 : sa_0 = 0 → ip sc call 114 MC MS Q 38 [some (.ref r_0), some (.int (nI a_1))] [] h z c s) (K2 : ¬ (sa_0 = 0) → ip sc call 114 MC MS Q 8 [some (.ref r_0), some (.int (nI a_1))] [] h z c s) : ip sc call 114 MC MS Q 5 [some (.ref r_0), some (.int (nI a_1))] [(.int (nI sa_0))] h z c s := by
  exact jp_if0 (pc2 := 8) rfl rfl (fun q => K1 ((nI_eq c1 (by decide)).mp q)) (fun q => K2 (fun r => q ((nI_eq c1 (by decide)).mpr r)))
theorem c114_8 {r_0 : Nat} {a_1 : Nat} {fs1 : List Value} {v_fs1_6 : Nat} {v_fs1_7 : Nat} {v_fs1_8 : Nat} {v_fs1_9 : Nat} {v_fs1_10 : Nat} {P : ipQ} (e2 : h r_0 = some (.inr (9, fs1))) (e3 : fs1[6]? = some (.int (nI v_fs1_6))) (e4 : fs1[7]? = some (.int (nI v_fs1_7))) (e5 : fs1[8]? = some (.int (nI v_fs1_8))) (e6 : fs1[9]? = some (.int (nI v_fs1_9))) (e7 : fs1[10]? = some (.int (nI v_fs1_10))) (m8 : c ≤ MC) (m9 : s ≤ MS) (hc : call 106 [(.ref r_0), (.int (nI a_1)), (.int (nI v_fs1_6)), (.int (nI v_fs1_7)), (.int (nI v_fs1_8)), (.int (nI v_fs1_9)), (.int (nI v_fs1_10))] h z 0 0 P) (K : ∀ (o : Option Value) (h2 : HP) (z2 : Nat), P o h2 z2 → ip sc call 114 MC MS Q 33 [some (.ref r_0), some (.int (nI a_1))] (o.toList ++ []) h2 z2 c s) : ip sc call 114 MC MS Q 8 [some (.ref r_0), some (.int (nI a_1))] [] h z c s := by
  refine jp_load (pc2 := 9) (n := 0) rfl rfl rfl rfl ?_
  refine jp_load (pc2 := 10) (n := 1) rfl rfl rfl rfl ?_
  refine jp_load (pc2 := 11) (n := 0) rfl rfl rfl rfl ?_
  refine jp_getf (pc2 := 14) rfl rfl e2 e3 ?_
  refine jp_load (pc2 := 15) (n := 0) rfl rfl rfl rfl ?_
  refine jp_getf (pc2 := 18) rfl rfl e2 e4 ?_
  refine jp_load (pc2 := 19) (n := 0) rfl rfl rfl rfl ?_
  refine jp_getf (pc2 := 22) rfl rfl e2 e5 ?_
  refine jp_load (pc2 := 23) (n := 0) rfl rfl rfl rfl ?_
  refine jp_getf (pc2 := 26) rfl rfl e2 e6 ?_
  refine jp_load (pc2 := 27) (n := 0) rfl rfl rfl rfl ?_
  refine jp_getf (pc2 := 30) rfl rfl e2 e7 ?_
  exact jp_virt0 (pc2 := 33) (As := [(.int (nI a_1)), (.int (nI v_fs1_6)), (.int (nI v_fs1_7)), (.int (nI v_fs1_8)), (.int (nI v_fs1_9)), (.int (nI v_fs1_10))]) (rest := []) rfl rfl rfl (Nat.le_of_ble_eq_true rfl) e2 m8 m9 hc rfl K
theorem c114_33 {r_0 : Nat} {a_1 : Nat} {sa_0 : Nat} (c1 : sa_0 < 2147483648) (K1 : sa_0 = 0 → ip sc call 114 MC MS Q 0 [some (.ref r_0), some (.int (nI a_1))] [] h z c s) (K2 : ¬ (sa_0 = 0) → ip sc call 114 MC MS Q 36 [some (.ref r_0), some (.int (nI a_1))] [] h z c s) : ip sc call 114 MC MS Q 33 [some (.ref r_0), some (.int (nI a_1))] [(.int (nI sa_0))] h z c s := by
  exact jp_if0 (pc2 := 36) rfl rfl (fun q => K1 ((nI_eq c1 (by decide)).mp q)) (fun q => K2 (fun r => q ((nI_eq c1 (by decide)).mpr r)))
theorem c114_36 {o_0 : Option Value} {o_1 : Option Value} (q1 : Q (some (.int (nI 1))) h z)  : ip sc call 114 MC MS Q 36 [o_0, o_1] [] h z c s := by
  refine jp_con (pc2 := 37) (v := (.int (nI 1))) rfl rfl rfl ?_
  exact ip_iret (st := []) rfl rfl rfl q1
theorem c114_38 {o_0 : Option Value} {o_1 : Option Value} (q1 : Q (some (.int (nI 0))) h z)  : ip sc call 114 MC MS Q 38 [o_0, o_1] [] h z c s := by
  refine jp_con (pc2 := 39) (v := (.int (nI 0))) rfl rfl rfl ?_
  exact ip_iret (st := []) rfl rfl rfl q1
theorem c115_0 {r_0 : Nat} {a_1 : Nat} {fs1 : List Value} {v_fs1_6 : Nat} {q_fs1_0 : Nat} {n5 : Nat} {f6 : Nat → Int32} {v10 : Nat} (e2 : h r_0 = some (.inr (9, fs1))) (e3 : fs1[6]? = some (.int (nI v_fs1_6))) (e4 : fs1[0]? = some (.ref q_fs1_0)) (e7 : h q_fs1_0 = some (.inl (0, n5, .inl f6))) (b8 : a_1 + 1 < n5) (c9 : n5 < 2147483648) (e11 : f6 (a_1 + 1) = nI v10) (c12 : v_fs1_6 < 2147483648) (c13 : v10 < 2147483648) (K1 : v10 ≤ v_fs1_6 → ip sc call 115 MC MS Q 101 [some (.ref r_0), some (.int (nI a_1))] [] h z c s) (K2 : ¬ (v10 ≤ v_fs1_6) → ip sc call 115 MC MS Q 15 [some (.ref r_0), some (.int (nI a_1))] [] h z c s) : ip sc call 115 MC MS Q 0 [some (.ref r_0), some (.int (nI a_1))] [] h z c s := by
  refine jp_load (pc2 := 1) (n := 0) rfl rfl rfl rfl ?_
  refine jp_getf (pc2 := 4) rfl rfl e2 e3 ?_
  refine jp_load (pc2 := 5) (n := 0) rfl rfl rfl rfl ?_
  refine jp_getf (pc2 := 8) rfl rfl e2 e4 ?_
  refine jp_load (pc2 := 9) (n := 1) rfl rfl rfl rfl ?_
  refine jp_con (pc2 := 10) (v := (.int (nI 1))) rfl rfl rfl ?_
  refine jp_bin (pc2 := 11) (v := nI (a_1 + 1)) rfl rfl (congrArg some (nI_add _ _)) ?_
  refine jp_iald (pc2 := 12) rfl rfl e7 (vp_in_nI b8 c9) ?_
  rw [(nI_clamp (Nat.lt_trans b8 c9))]
  rw [e11]
  exact jp_icmp (pc2 := 15) rfl rfl (fun q => K1 ((nI_leI c13 c12).mp q)) (fun q => K2 (fun r => q ((nI_leI c13 c12).mpr r)))
theorem c115_15 {r_0 : Nat} {a_1 : Nat} {fs1 : List Value} {v_fs1_7 : Nat} {q_fs1_0 : Nat} {v_fs1_6 : Nat} {n6 : Nat} {f7 : Nat → Int32} {v11 : Nat} (e2 : h r_0 = some (.inr (9, fs1))) (e3 : fs1[7]? = some (.int (nI v_fs1_7))) (e4 : fs1[0]? = some (.ref q_fs1_0)) (e5 : fs1[6]? = some (.int (nI v_fs1_6))) (e8 : h q_fs1_0 = some (.inl (0, n6, .inl f7))) (b9 : (a_1 + 36) + v_fs1_6 < n6) (c10 : n6 < 2147483648) (e12 : f7 ((a_1 + 36) + v_fs1_6) = nI v11) (c13 : v_fs1_7 < 2147483648) (c14 : v11 < 2147483648) (K1 : v11 ≤ v_fs1_7 → ip sc call 115 MC MS Q 101 [some (.ref r_0), some (.int (nI a_1))] [] h z c s) (K2 : ¬ (v11 ≤ v_fs1_7) → ip sc call 115 MC MS Q 36 [some (.ref r_0), some (.int (nI a_1))] [] h z c s) : ip sc call 115 MC MS Q 15 [some (.ref r_0), some (.int (nI a_1))] [] h z c s := by
  refine jp_load (pc2 := 16) (n := 0) rfl rfl rfl rfl ?_
  refine jp_getf (pc2 := 19) rfl rfl e2 e3 ?_
  refine jp_load (pc2 := 20) (n := 0) rfl rfl rfl rfl ?_
  refine jp_getf (pc2 := 23) rfl rfl e2 e4 ?_
  refine jp_load (pc2 := 24) (n := 1) rfl rfl rfl rfl ?_
  refine jp_con (pc2 := 26) (v := (.int (nI 36))) rfl rfl rfl ?_
  refine jp_bin (pc2 := 27) (v := nI (a_1 + 36)) rfl rfl (congrArg some (nI_add _ _)) ?_
  refine jp_load (pc2 := 28) (n := 0) rfl rfl rfl rfl ?_
  refine jp_getf (pc2 := 31) rfl rfl e2 e5 ?_
  refine jp_bin (pc2 := 32) (v := nI ((a_1 + 36) + v_fs1_6)) rfl rfl (congrArg some (nI_add _ _)) ?_
  refine jp_iald (pc2 := 33) rfl rfl e8 (vp_in_nI b9 c10) ?_
  rw [(nI_clamp (Nat.lt_trans b9 c10))]
  rw [e12]
  exact jp_icmp (pc2 := 36) rfl rfl (fun q => K1 ((nI_leI c14 c13).mp q)) (fun q => K2 (fun r => q ((nI_leI c14 c13).mpr r)))
theorem c115_36 {r_0 : Nat} {a_1 : Nat} {fs1 : List Value} {v_fs1_8 : Nat} {v_fs1_6 : Nat} {v_fs1_7 : Nat} {P : ipQ} (e2 : h r_0 = some (.inr (9, fs1))) (e3 : fs1[8]? = some (.int (nI v_fs1_8))) (e4 : fs1[6]? = some (.int (nI v_fs1_6))) (e5 : fs1[7]? = some (.int (nI v_fs1_7))) (m6 : c ≤ MC) (m7 : s ≤ MS) (hc : call 113 [(.ref r_0), (.int (nI a_1)), (.int (nI v_fs1_6)), (.int (nI v_fs1_7))] h z 0 0 P) (K : ∀ (o : Option Value) (h2 : HP) (z2 : Nat), P o h2 z2 → ip sc call 115 MC MS Q 53 [some (.ref r_0), some (.int (nI a_1))] (o.toList ++ [(.int (nI v_fs1_8))]) h2 z2 c s) : ip sc call 115 MC MS Q 36 [some (.ref r_0), some (.int (nI a_1))] [] h z c s := by
  refine jp_load (pc2 := 37) (n := 0) rfl rfl rfl rfl ?_
  refine jp_getf (pc2 := 40) rfl rfl e2 e3 ?_
  refine jp_load (pc2 := 41) (n := 0) rfl rfl rfl rfl ?_
  refine jp_load (pc2 := 42) (n := 1) rfl rfl rfl rfl ?_
  refine jp_load (pc2 := 43) (n := 0) rfl rfl rfl rfl ?_
  refine jp_getf (pc2 := 46) rfl rfl e2 e4 ?_
  refine jp_load (pc2 := 47) (n := 0) rfl rfl rfl rfl ?_
  refine jp_getf (pc2 := 50) rfl rfl e2 e5 ?_
  exact jp_virt0 (pc2 := 53) (As := [(.int (nI a_1)), (.int (nI v_fs1_6)), (.int (nI v_fs1_7))]) (rest := [(.int (nI v_fs1_8))]) rfl rfl rfl (Nat.le_of_ble_eq_true rfl) e2 m6 m7 hc rfl K
theorem c115_53 {r_0 : Nat} {a_1 : Nat} {sa_0 : Nat} {sa_1 : Nat} (c1 : sa_0 < 2147483648) (c2 : sa_1 < 2147483648) (K1 : sa_1 ≤ sa_0 → ip sc call 115 MC MS Q 101 [some (.ref r_0), some (.int (nI a_1))] [] h z c s) (K2 : ¬ (sa_1 ≤ sa_0) → ip sc call 115 MC MS Q 56 [some (.ref r_0), some (.int (nI a_1))] [] h z c s) : ip sc call 115 MC MS Q 53 [some (.ref r_0), some (.int (nI a_1))] [(.int (nI sa_1)), (.int (nI sa_0))] h z c s := by
  exact jp_icmp (pc2 := 56) rfl rfl (fun q => K1 ((nI_leI c2 c1).mp q)) (fun q => K2 (fun r => q ((nI_leI c2 c1).mpr r)))
theorem c115_56 {r_0 : Nat} {a_1 : Nat} {fs1 : List Value} {v_fs1_9 : Nat} {q_fs1_0 : Nat} {v_fs1_6 : Nat} {n6 : Nat} {f7 : Nat → Int32} {v11 : Nat} (e2 : h r_0 = some (.inr (9, fs1))) (e3 : fs1[9]? = some (.int (nI v_fs1_9))) (e4 : fs1[0]? = some (.ref q_fs1_0)) (e5 : fs1[6]? = some (.int (nI v_fs1_6))) (e8 : h q_fs1_0 = some (.inl (0, n6, .inl f7))) (b9 : (a_1 + 36) + v_fs1_6 < n6) (c10 : n6 < 2147483648) (e12 : f7 ((a_1 + 36) + v_fs1_6) = nI v11) (c13 : v_fs1_9 < 2147483648) (c14 : v11 < 2147483648) (K1 : v11 ≤ v_fs1_9 → ip sc call 115 MC MS Q 101 [some (.ref r_0), some (.int (nI a_1))] [] h z c s) (K2 : ¬ (v11 ≤ v_fs1_9) → ip sc call 115 MC MS Q 77 [some (.ref r_0), some (.int (nI a_1))] [] h z c s) : ip sc call 115 MC MS Q 56 [some (.ref r_0), some (.int (nI a_1))] [] h z c s := by
  refine jp_load (pc2 := 57) (n := 0) rfl rfl rfl rfl ?_
  refine jp_getf (pc2 := 60) rfl rfl e2 e3 ?_
  refine jp_load (pc2 := 61) (n := 0) rfl rfl rfl rfl ?_
  refine jp_getf (pc2 := 64) rfl rfl e2 e4 ?_
  refine jp_load (pc2 := 65) (n := 1) rfl rfl rfl rfl ?_
  refine jp_con (pc2 := 67) (v := (.int (nI 36))) rfl rfl rfl ?_
  refine jp_bin (pc2 := 68) (v := nI (a_1 + 36)) rfl rfl (congrArg some (nI_add _ _)) ?_
  refine jp_load (pc2 := 69) (n := 0) rfl rfl rfl rfl ?_
  refine jp_getf (pc2 := 72) rfl rfl e2 e5 ?_
  refine jp_bin (pc2 := 73) (v := nI ((a_1 + 36) + v_fs1_6)) rfl rfl (congrArg some (nI_add _ _)) ?_
  refine jp_iald (pc2 := 74) rfl rfl e8 (vp_in_nI b9 c10) ?_
  rw [(nI_clamp (Nat.lt_trans b9 c10))]
  rw [e12]
  exact jp_icmp (pc2 := 77) rfl rfl (fun q => K1 ((nI_leI c14 c13).mp q)) (fun q => K2 (fun r => q ((nI_leI c14 c13).mpr r)))
theorem c115_77 {r_0 : Nat} {a_1 : Nat} {fs1 : List Value} {v_fs1_10 : Nat} {v_fs1_6 : Nat} {v_fs1_9 : Nat} {P : ipQ} (e2 : h r_0 = some (.inr (9, fs1))) (e3 : fs1[10]? = some (.int (nI v_fs1_10))) (e4 : fs1[6]? = some (.int (nI v_fs1_6))) (e5 : fs1[9]? = some (.int (nI v_fs1_9))) (m6 : c ≤ MC) (m7 : s ≤ MS) (hc : call 113 [(.ref r_0), (.int (nI a_1)), (.int (nI v_fs1_6)), (.int (nI v_fs1_9))] h z 0 0 P) (K : ∀ (o : Option Value) (h2 : HP) (z2 : Nat), P o h2 z2 → ip sc call 115 MC MS Q 94 [some (.ref r_0), some (.int (nI a_1))] (o.toList ++ [(.int (nI v_fs1_10))]) h2 z2 c s) : ip sc call 115 MC MS Q 77 [some (.ref r_0), some (.int (nI a_1))] [] h z c s := by
  refine jp_load (pc2 := 78) (n := 0) rfl rfl rfl rfl ?_
  refine jp_getf (pc2 := 81) rfl rfl e2 e3 ?_
  refine jp_load (pc2 := 82) (n := 0) rfl rfl rfl rfl ?_
  refine jp_load (pc2 := 83) (n := 1) rfl rfl rfl rfl ?_
  refine jp_load (pc2 := 84) (n := 0) rfl rfl rfl rfl ?_
  refine jp_getf (pc2 := 87) rfl rfl e2 e4 ?_
  refine jp_load (pc2 := 88) (n := 0) rfl rfl rfl rfl ?_
  refine jp_getf (pc2 := 91) rfl rfl e2 e5 ?_
  exact jp_virt0 (pc2 := 94) (As := [(.int (nI a_1)), (.int (nI v_fs1_6)), (.int (nI v_fs1_9))]) (rest := [(.int (nI v_fs1_10))]) rfl rfl rfl (Nat.le_of_ble_eq_true rfl) e2 m6 m7 hc rfl K
theorem c115_94 {o_0 : Option Value} {o_1 : Option Value} {sa_0 : Nat} {sa_1 : Nat} (c1 : sa_0 < 2147483648) (c2 : sa_1 < 2147483648) (K1 : sa_1 ≤ sa_0 → ip sc call 115 MC MS Q 101 [o_0, o_1] [] h z c s) (K2 : ¬ (sa_1 ≤ sa_0) → ip sc call 115 MC MS Q 97 [o_0, o_1] [] h z c s) : ip sc call 115 MC MS Q 94 [o_0, o_1] [(.int (nI sa_1)), (.int (nI sa_0))] h z c s := by
  exact jp_icmp (pc2 := 97) rfl rfl (fun q => K1 ((nI_leI c2 c1).mp q)) (fun q => K2 (fun r => q ((nI_leI c2 c1).mpr r)))
theorem c115_97 {o_0 : Option Value} {o_1 : Option Value}  (K : ip sc call 115 MC MS Q 102 [o_0, o_1] [(.int (nI 1))] h z c s) : ip sc call 115 MC MS Q 97 [o_0, o_1] [] h z c s := by
  refine jp_con (pc2 := 98) (v := (.int (nI 1))) rfl rfl rfl ?_
  refine ip_goto rfl ?_
  exact K
theorem c115_101 {o_0 : Option Value} {o_1 : Option Value}  (K : ip sc call 115 MC MS Q 102 [o_0, o_1] [(.int (nI 0))] h z c s) : ip sc call 115 MC MS Q 101 [o_0, o_1] [] h z c s := by
  refine jp_con (pc2 := 102) (v := (.int (nI 0))) rfl rfl rfl ?_
  exact K
theorem c115_102 {o_0 : Option Value} {o_1 : Option Value} {sa_0 : Nat} (t1 : narrow .boolean (.int (nI sa_0)) = .int (nI sa_0)) (q2 : Q (some (.int (nI sa_0))) h z)  : ip sc call 115 MC MS Q 102 [o_0, o_1] [(.int (nI sa_0))] h z c s := by
  exact ip_iret (st := []) rfl rfl t1 q2
set_option maxRecDepth 100000 in
theorem c116_0 {r_0 : Nat} {a_1 : Nat} {o_2 : Option Value} {fs1 : List Value} {P : ipQ} (e2 : h r_0 = some (.inr (9, fs1))) (m3 : c ≤ MC) (m4 : s ≤ MS) (hc : call 115 [(.ref r_0), (.int (nI a_1))] h z 0 0 P) (K : ∀ (o : Option Value) (h2 : HP) (z2 : Nat), P o h2 z2 → ip sc call 116 MC MS Q 5 [some (.ref r_0), some (.int (nI a_1)), o_2] (o.toList ++ []) h2 z2 c s) : ip sc call 116 MC MS Q 0 [some (.ref r_0), some (.int (nI a_1)), o_2] [] h z c s := by
  refine jp_load (pc2 := 1) (n := 0) rfl rfl rfl rfl ?_
  refine jp_load (pc2 := 2) (n := 1) rfl rfl rfl rfl ?_
  exact jp_virt0 (pc2 := 5) (As := [(.int (nI a_1))]) (rest := []) rfl rfl rfl (Nat.le_of_ble_eq_true rfl) e2 m3 m4 hc rfl K
set_option maxRecDepth 100000 in
theorem c116_5 {r_0 : Nat} {a_1 : Nat} {o_2 : Option Value} {sa_0 : Nat} (c1 : sa_0 < 2147483648) (K1 : sa_0 = 0 → ip sc call 116 MC MS Q 99 [some (.ref r_0), some (.int (nI a_1)), o_2] [] h z c s) (K2 : ¬ (sa_0 = 0) → ip sc call 116 MC MS Q 8 [some (.ref r_0), some (.int (nI a_1)), o_2] [] h z c s) : ip sc call 116 MC MS Q 5 [some (.ref r_0), some (.int (nI a_1)), o_2] [(.int (nI sa_0))] h z c s := by
  exact jp_if0 (pc2 := 8) rfl rfl (fun q => K1 ((nI_eq c1 (by decide)).mp q)) (fun q => K2 (fun r => q ((nI_eq c1 (by decide)).mpr r)))
set_option maxRecDepth 100000 in
theorem c116_8 {r_0 : Nat} {a_1 : Nat} {o_2 : Option Value} {fs1 : List Value} {v_fs1_7 : Nat} {v_fs1_9 : Nat} (e2 : h r_0 = some (.inr (9, fs1))) (e3 : fs1[7]? = some (.int (nI v_fs1_7))) (e4 : fs1[9]? = some (.int (nI v_fs1_9))) (c5 : v_fs1_7 < 2147483648) (c6 : v_fs1_9 < 2147483648) (K1 : ¬ v_fs1_7 = v_fs1_9 → ip sc call 116 MC MS Q 40 [some (.ref r_0), some (.int (nI a_1)), o_2] [] h z c s) (K2 : ¬ (¬ v_fs1_7 = v_fs1_9) → ip sc call 116 MC MS Q 19 [some (.ref r_0), some (.int (nI a_1)), o_2] [] h z c s) : ip sc call 116 MC MS Q 8 [some (.ref r_0), some (.int (nI a_1)), o_2] [] h z c s := by
  refine jp_load (pc2 := 9) (n := 0) rfl rfl rfl rfl ?_
  refine jp_getf (pc2 := 12) rfl rfl e2 e3 ?_
  refine jp_load (pc2 := 13) (n := 0) rfl rfl rfl rfl ?_
  refine jp_getf (pc2 := 16) rfl rfl e2 e4 ?_
  exact jp_icmp (pc2 := 19) rfl rfl (fun q => K1 ((not_congr (nI_eq c5 c6)).mp q)) (fun q => K2 (fun r => q ((not_congr (nI_eq c5 c6)).mpr r)))
set_option maxRecDepth 100000 in
theorem c116_19 {r_0 : Nat} {a_1 : Nat} {o_2 : Option Value} {fs1 : List Value} {q_fs1_0 : Nat} {v_fs1_6 : Nat} {n5 : Nat} {f6 : Nat → Int32} {v10 : Nat} (e2 : h r_0 = some (.inr (9, fs1))) (e3 : fs1[0]? = some (.ref q_fs1_0)) (e4 : fs1[6]? = some (.int (nI v_fs1_6))) (e7 : h q_fs1_0 = some (.inl (0, n5, .inl f6))) (b8 : (a_1 + 36) + v_fs1_6 < n5) (c9 : n5 < 2147483648) (e11 : f6 ((a_1 + 36) + v_fs1_6) = nI v10) (d12 : 1 ≤ v10) (K : ip sc call 116 MC MS Q 41 [some (.ref r_0), some (.int (nI a_1)), o_2] [(.int ((nI 1) <<< ((nI (v10 - 1)) &&& 31)))] h z c s) : ip sc call 116 MC MS Q 19 [some (.ref r_0), some (.int (nI a_1)), o_2] [] h z c s := by
  refine jp_con (pc2 := 20) (v := (.int (nI 1))) rfl rfl rfl ?_
  refine jp_load (pc2 := 21) (n := 0) rfl rfl rfl rfl ?_
  refine jp_getf (pc2 := 24) rfl rfl e2 e3 ?_
  refine jp_load (pc2 := 25) (n := 1) rfl rfl rfl rfl ?_
  refine jp_con (pc2 := 27) (v := (.int (nI 36))) rfl rfl rfl ?_
  refine jp_bin (pc2 := 28) (v := nI (a_1 + 36)) rfl rfl (congrArg some (nI_add _ _)) ?_
  refine jp_load (pc2 := 29) (n := 0) rfl rfl rfl rfl ?_
  refine jp_getf (pc2 := 32) rfl rfl e2 e4 ?_
  refine jp_bin (pc2 := 33) (v := nI ((a_1 + 36) + v_fs1_6)) rfl rfl (congrArg some (nI_add _ _)) ?_
  refine jp_iald (pc2 := 34) rfl rfl e7 (vp_in_nI b8 c9) ?_
  rw [(nI_clamp (Nat.lt_trans b8 c9))]
  rw [e11]
  refine jp_con (pc2 := 35) (v := (.int (nI 1))) rfl rfl rfl ?_
  refine jp_bin (pc2 := 36) (v := nI (v10 - 1)) rfl rfl (congrArg some (pk_sub d12)) ?_
  refine jp_bin (pc2 := 37) (v := (nI 1) <<< ((nI (v10 - 1)) &&& 31)) rfl rfl rfl ?_
  refine ip_goto rfl ?_
  exact K
set_option maxRecDepth 100000 in
theorem c116_40 {r_0 : Nat} {a_1 : Nat} {o_2 : Option Value}  (K : ip sc call 116 MC MS Q 41 [some (.ref r_0), some (.int (nI a_1)), o_2] [(.int (nI 1))] h z c s) : ip sc call 116 MC MS Q 40 [some (.ref r_0), some (.int (nI a_1)), o_2] [] h z c s := by
  refine jp_con (pc2 := 41) (v := (.int (nI 1))) rfl rfl rfl ?_
  exact K
set_option maxRecDepth 100000 in
theorem c116_41 {r_0 : Nat} {a_1 : Nat} {o_2 : Option Value} {sa_0 : Nat} {fs1 : List Value} {xv_fs1_11 : Int32} (e2 : h r_0 = some (.inr (9, fs1))) (e3 : fs1[11]? = some (.int xv_fs1_11)) (K1 : xv_fs1_11 < 0 → ip sc call 116 MC MS Q 87 [some (.ref r_0), some (.int (nI a_1)), some (.int (nI sa_0))] [] h z c s) (K2 : ¬ (xv_fs1_11 < 0) → ip sc call 116 MC MS Q 49 [some (.ref r_0), some (.int (nI a_1)), some (.int (nI sa_0))] [] h z c s) : ip sc call 116 MC MS Q 41 [some (.ref r_0), some (.int (nI a_1)), o_2] [(.int (nI sa_0))] h z c s := by
  refine jp_store (pc2 := 42) (n := 2) rfl rfl ⟨rfl, rfl⟩ rfl (Nat.le_of_ble_eq_true rfl) ?_
  refine jp_load (pc2 := 43) (n := 0) rfl rfl rfl rfl ?_
  refine jp_getf (pc2 := 46) rfl rfl e2 e3 ?_
  exact jp_if0 (pc2 := 49) rfl rfl K1 K2
set_option maxRecDepth 100000 in
theorem c116_49 {r_0 : Nat} {a_1 : Nat} {a_2 : Nat} {fs1 : List Value} {xv_fs1_11 : Int32} (e2 : h r_0 = some (.inr (9, fs1))) (e3 : fs1[11]? = some (.int xv_fs1_11)) (K1 : (nI a_2) ≤ (xv_fs1_11 + (nI 1)) → ip sc call 116 MC MS Q 99 [some (.ref r_0), some (.int (nI a_1)), some (.int (nI a_2))] [] h z c s) (K2 : ¬ ((nI a_2) ≤ (xv_fs1_11 + (nI 1))) → ip sc call 116 MC MS Q 59 [some (.ref r_0), some (.int (nI a_1)), some (.int (nI a_2))] [] h z c s) : ip sc call 116 MC MS Q 49 [some (.ref r_0), some (.int (nI a_1)), some (.int (nI a_2))] [] h z c s := by
  refine jp_load (pc2 := 50) (n := 0) rfl rfl rfl rfl ?_
  refine jp_getf (pc2 := 53) rfl rfl e2 e3 ?_
  refine jp_con (pc2 := 54) (v := (.int (nI 1))) rfl rfl rfl ?_
  refine jp_bin (pc2 := 55) (v := xv_fs1_11 + (nI 1)) rfl rfl rfl ?_
  refine jp_load (pc2 := 56) (n := 2) rfl rfl rfl rfl ?_
  exact jp_icmp (pc2 := 59) rfl rfl K1 K2
set_option maxRecDepth 100000 in
theorem c116_59 {r_0 : Nat} {a_1 : Nat} {o_2 : Option Value} {fs1 : List Value} {v_fs1_6 : Nat} {v_fs1_7 : Nat} {v_fs1_8 : Nat} {v_fs1_9 : Nat} {v_fs1_10 : Nat} {P : ipQ} (e2 : h r_0 = some (.inr (9, fs1))) (e3 : fs1[6]? = some (.int (nI v_fs1_6))) (e4 : fs1[7]? = some (.int (nI v_fs1_7))) (e5 : fs1[8]? = some (.int (nI v_fs1_8))) (e6 : fs1[9]? = some (.int (nI v_fs1_9))) (e7 : fs1[10]? = some (.int (nI v_fs1_10))) (m8 : c ≤ MC) (m9 : s ≤ MS) (hc : call 106 [(.ref r_0), (.int (nI a_1)), (.int (nI v_fs1_6)), (.int (nI v_fs1_7)), (.int (nI v_fs1_8)), (.int (nI v_fs1_9)), (.int (nI v_fs1_10))] h z 0 0 P) (K : ∀ (o : Option Value) (h2 : HP) (z2 : Nat), P o h2 z2 → ip sc call 116 MC MS Q 84 [some (.ref r_0), some (.int (nI a_1)), o_2] (o.toList ++ []) h2 z2 c s) : ip sc call 116 MC MS Q 59 [some (.ref r_0), some (.int (nI a_1)), o_2] [] h z c s := by
  refine jp_load (pc2 := 60) (n := 0) rfl rfl rfl rfl ?_
  refine jp_load (pc2 := 61) (n := 1) rfl rfl rfl rfl ?_
  refine jp_load (pc2 := 62) (n := 0) rfl rfl rfl rfl ?_
  refine jp_getf (pc2 := 65) rfl rfl e2 e3 ?_
  refine jp_load (pc2 := 66) (n := 0) rfl rfl rfl rfl ?_
  refine jp_getf (pc2 := 69) rfl rfl e2 e4 ?_
  refine jp_load (pc2 := 70) (n := 0) rfl rfl rfl rfl ?_
  refine jp_getf (pc2 := 73) rfl rfl e2 e5 ?_
  refine jp_load (pc2 := 74) (n := 0) rfl rfl rfl rfl ?_
  refine jp_getf (pc2 := 77) rfl rfl e2 e6 ?_
  refine jp_load (pc2 := 78) (n := 0) rfl rfl rfl rfl ?_
  refine jp_getf (pc2 := 81) rfl rfl e2 e7 ?_
  exact jp_virt0 (pc2 := 84) (As := [(.int (nI a_1)), (.int (nI v_fs1_6)), (.int (nI v_fs1_7)), (.int (nI v_fs1_8)), (.int (nI v_fs1_9)), (.int (nI v_fs1_10))]) (rest := []) rfl rfl rfl (Nat.le_of_ble_eq_true rfl) e2 m8 m9 hc rfl K
set_option maxRecDepth 100000 in
theorem c116_84 {r_0 : Nat} {a_1 : Nat} {o_2 : Option Value} {sa_0 : Nat} (c1 : sa_0 < 2147483648) (K1 : sa_0 = 0 → ip sc call 116 MC MS Q 99 [some (.ref r_0), some (.int (nI a_1)), o_2] [] h z c s) (K2 : ¬ (sa_0 = 0) → ip sc call 116 MC MS Q 87 [some (.ref r_0), some (.int (nI a_1)), o_2] [] h z c s) : ip sc call 116 MC MS Q 84 [some (.ref r_0), some (.int (nI a_1)), o_2] [(.int (nI sa_0))] h z c s := by
  exact jp_if0 (pc2 := 87) rfl rfl (fun q => K1 ((nI_eq c1 (by decide)).mp q)) (fun q => K2 (fun r => q ((nI_eq c1 (by decide)).mpr r)))
set_option maxRecDepth 100000 in
theorem c116_87 {r_0 : Nat} {o_1 : Option Value} {o_2 : Option Value} {fs1 : List Value} {xv_fs1_11 : Int32} (e2 : h r_0 = some (.inr (9, fs1))) (e3 : fs1[11]? = some (.int xv_fs1_11)) (l4 : fs1.length = 16) (q5 : Q (some (.int (nI 1))) (hup h r_0 (.inr (9, (fs1.set 11 (.int (xv_fs1_11 + (nI 1))))))) z)  : ip sc call 116 MC MS Q 87 [some (.ref r_0), o_1, o_2] [] h z c s := by
  refine jp_load (pc2 := 88) (n := 0) rfl rfl rfl rfl ?_
  refine jp_dup (pc2 := 89) rfl rfl rfl ?_
  refine jp_getf (pc2 := 92) rfl rfl e2 e3 ?_
  refine jp_con (pc2 := 93) (v := (.int (nI 1))) rfl rfl rfl ?_
  refine jp_bin (pc2 := 94) (v := xv_fs1_11 + (nI 1)) rfl rfl rfl ?_
  refine jp_putf (pc2 := 97) rfl rfl e2 (ln_lt l4 (by decide)) ⟨rfl, rfl⟩ ?_
  refine jp_con (pc2 := 98) (v := (.int (nI 1))) rfl rfl rfl ?_
  exact ip_iret (st := []) rfl rfl rfl q5
set_option maxRecDepth 100000 in
theorem c116_99 {r_0 : Nat} {a_1 : Nat} {o_2 : Option Value} {fs1 : List Value} {v_fs1_10 : Nat} (e2 : h r_0 = some (.inr (9, fs1))) (l3 : fs1.length = 16) (e4 : fs1[10]? = some (.int (nI v_fs1_10))) (K : ip sc call 116 MC MS Q 114 [some (.ref r_0), some (.int (nI a_1)), o_2] [] (hup h r_0 (.inr (9, ((fs1.set 11 (.int (nI 0))).set 10 (.int (nI (v_fs1_10 + 1))))))) z c s) : ip sc call 116 MC MS Q 99 [some (.ref r_0), some (.int (nI a_1)), o_2] [] h z c s := by
  refine jp_load (pc2 := 100) (n := 0) rfl rfl rfl rfl ?_
  refine jp_con (pc2 := 101) (v := (.int (nI 0))) rfl rfl rfl ?_
  refine jp_putf (pc2 := 104) rfl rfl e2 (ln_lt l3 (by decide)) ⟨rfl, rfl⟩ ?_
  refine jp_load (pc2 := 105) (n := 0) rfl rfl rfl rfl ?_
  refine jp_dup (pc2 := 106) rfl rfl rfl ?_
  refine jp_getf (pc2 := 109) rfl rfl hup_eq (gs_ne (by decide) e4) ?_
  refine jp_con (pc2 := 110) (v := (.int (nI 1))) rfl rfl rfl ?_
  refine jp_bin (pc2 := 111) (v := nI (v_fs1_10 + 1)) rfl rfl (congrArg some (nI_add _ _)) ?_
  refine jp_putf (pc2 := 114) rfl rfl hup_eq (ls_lt (ln_lt l3 (by decide))) ⟨rfl, rfl⟩ ?_
  rw [hup_hup]
  exact K
set_option maxRecDepth 100000 in
theorem c116_114 {r_0 : Nat} {a_1 : Nat} {o_2 : Option Value} {fs1 : List Value} {v_fs1_6 : Nat} {q_fs1_0 : Nat} {n5 : Nat} {f6 : Nat → Int32} {v10 : Nat} (e2 : h r_0 = some (.inr (9, fs1))) (e3 : fs1[6]? = some (.int (nI v_fs1_6))) (e4 : fs1[0]? = some (.ref q_fs1_0)) (e7 : h q_fs1_0 = some (.inl (0, n5, .inl f6))) (b8 : a_1 + 1 < n5) (c9 : n5 < 2147483648) (e11 : f6 (a_1 + 1) = nI v10) (c12 : v_fs1_6 < 2147483648) (c13 : v10 < 2147483648) (K1 : v10 ≤ v_fs1_6 → ip sc call 116 MC MS Q 374 [some (.ref r_0), some (.int (nI a_1)), o_2] [] h z c s) (K2 : ¬ (v10 ≤ v_fs1_6) → ip sc call 116 MC MS Q 129 [some (.ref r_0), some (.int (nI a_1)), o_2] [] h z c s) : ip sc call 116 MC MS Q 114 [some (.ref r_0), some (.int (nI a_1)), o_2] [] h z c s := by
  refine jp_load (pc2 := 115) (n := 0) rfl rfl rfl rfl ?_
  refine jp_getf (pc2 := 118) rfl rfl e2 e3 ?_
  refine jp_load (pc2 := 119) (n := 0) rfl rfl rfl rfl ?_
  refine jp_getf (pc2 := 122) rfl rfl e2 e4 ?_
  refine jp_load (pc2 := 123) (n := 1) rfl rfl rfl rfl ?_
  refine jp_con (pc2 := 124) (v := (.int (nI 1))) rfl rfl rfl ?_
  refine jp_bin (pc2 := 125) (v := nI (a_1 + 1)) rfl rfl (congrArg some (nI_add _ _)) ?_
  refine jp_iald (pc2 := 126) rfl rfl e7 (vp_in_nI b8 c9) ?_
  rw [(nI_clamp (Nat.lt_trans b8 c9))]
  rw [e11]
  exact jp_icmp (pc2 := 129) rfl rfl (fun q => K1 ((nI_leI c13 c12).mp q)) (fun q => K2 (fun r => q ((nI_leI c13 c12).mpr r)))
set_option maxRecDepth 100000 in
theorem c116_129 {r_0 : Nat} {a_1 : Nat} {o_2 : Option Value} {fs1 : List Value} {P : ipQ} (e2 : h r_0 = some (.inr (9, fs1))) (m3 : c ≤ MC) (m4 : s ≤ MS) (hc : call 115 [(.ref r_0), (.int (nI a_1))] h z 0 0 P) (K : ∀ (o : Option Value) (h2 : HP) (z2 : Nat), P o h2 z2 → ip sc call 116 MC MS Q 134 [some (.ref r_0), some (.int (nI a_1)), o_2] (o.toList ++ []) h2 z2 c s) : ip sc call 116 MC MS Q 129 [some (.ref r_0), some (.int (nI a_1)), o_2] [] h z c s := by
  refine jp_load (pc2 := 130) (n := 0) rfl rfl rfl rfl ?_
  refine jp_load (pc2 := 131) (n := 1) rfl rfl rfl rfl ?_
  exact jp_virt0 (pc2 := 134) (As := [(.int (nI a_1))]) (rest := []) rfl rfl rfl (Nat.le_of_ble_eq_true rfl) e2 m3 m4 hc rfl K
set_option maxRecDepth 100000 in
theorem c116_134 {r_0 : Nat} {a_1 : Nat} {o_2 : Option Value} {sa_0 : Nat} (c1 : sa_0 < 2147483648) (K1 : sa_0 = 0 → ip sc call 116 MC MS Q 139 [some (.ref r_0), some (.int (nI a_1)), o_2] [] h z c s) (K2 : ¬ (sa_0 = 0) → ip sc call 116 MC MS Q 137 [some (.ref r_0), some (.int (nI a_1)), o_2] [] h z c s) : ip sc call 116 MC MS Q 134 [some (.ref r_0), some (.int (nI a_1)), o_2] [(.int (nI sa_0))] h z c s := by
  exact jp_if0 (pc2 := 137) rfl rfl (fun q => K1 ((nI_eq c1 (by decide)).mp q)) (fun q => K2 (fun r => q ((nI_eq c1 (by decide)).mpr r)))
set_option maxRecDepth 100000 in
theorem c116_137 {o_0 : Option Value} {o_1 : Option Value} {o_2 : Option Value} (q1 : Q (some (.int (nI 1))) h z)  : ip sc call 116 MC MS Q 137 [o_0, o_1, o_2] [] h z c s := by
  refine jp_con (pc2 := 138) (v := (.int (nI 1))) rfl rfl rfl ?_
  exact ip_iret (st := []) rfl rfl rfl q1
set_option maxRecDepth 100000 in
theorem c116_139 {r_0 : Nat} {a_1 : Nat} {o_2 : Option Value} {fs1 : List Value} {v_fs1_7 : Nat} {q_fs1_0 : Nat} {v_fs1_6 : Nat} {n6 : Nat} {f7 : Nat → Int32} {v11 : Nat} (e2 : h r_0 = some (.inr (9, fs1))) (e3 : fs1[7]? = some (.int (nI v_fs1_7))) (e4 : fs1[0]? = some (.ref q_fs1_0)) (e5 : fs1[6]? = some (.int (nI v_fs1_6))) (e8 : h q_fs1_0 = some (.inl (0, n6, .inl f7))) (b9 : (a_1 + 36) + v_fs1_6 < n6) (c10 : n6 < 2147483648) (e12 : f7 ((a_1 + 36) + v_fs1_6) = nI v11) (c13 : v_fs1_7 < 2147483648) (c14 : v11 < 2147483648) (K1 : v11 ≤ v_fs1_7 → ip sc call 116 MC MS Q 219 [some (.ref r_0), some (.int (nI a_1)), o_2] [] h z c s) (K2 : ¬ (v11 ≤ v_fs1_7) → ip sc call 116 MC MS Q 160 [some (.ref r_0), some (.int (nI a_1)), o_2] [] h z c s) : ip sc call 116 MC MS Q 139 [some (.ref r_0), some (.int (nI a_1)), o_2] [] h z c s := by
  refine jp_load (pc2 := 140) (n := 0) rfl rfl rfl rfl ?_
  refine jp_getf (pc2 := 143) rfl rfl e2 e3 ?_
  refine jp_load (pc2 := 144) (n := 0) rfl rfl rfl rfl ?_
  refine jp_getf (pc2 := 147) rfl rfl e2 e4 ?_
  refine jp_load (pc2 := 148) (n := 1) rfl rfl rfl rfl ?_
  refine jp_con (pc2 := 150) (v := (.int (nI 36))) rfl rfl rfl ?_
  refine jp_bin (pc2 := 151) (v := nI (a_1 + 36)) rfl rfl (congrArg some (nI_add _ _)) ?_
  refine jp_load (pc2 := 152) (n := 0) rfl rfl rfl rfl ?_
  refine jp_getf (pc2 := 155) rfl rfl e2 e5 ?_
  refine jp_bin (pc2 := 156) (v := nI ((a_1 + 36) + v_fs1_6)) rfl rfl (congrArg some (nI_add _ _)) ?_
  refine jp_iald (pc2 := 157) rfl rfl e8 (vp_in_nI b9 c10) ?_
  rw [(nI_clamp (Nat.lt_trans b9 c10))]
  rw [e12]
  exact jp_icmp (pc2 := 160) rfl rfl (fun q => K1 ((nI_leI c14 c13).mp q)) (fun q => K2 (fun r => q ((nI_leI c14 c13).mpr r)))
set_option maxRecDepth 100000 in
theorem c116_160 {r_0 : Nat} {a_1 : Nat} {o_2 : Option Value} {fs1 : List Value} {v_fs1_8 : Nat} {v_fs1_6 : Nat} {v_fs1_7 : Nat} {P : ipQ} (e2 : h r_0 = some (.inr (9, fs1))) (e3 : fs1[8]? = some (.int (nI v_fs1_8))) (e4 : fs1[6]? = some (.int (nI v_fs1_6))) (e5 : fs1[7]? = some (.int (nI v_fs1_7))) (m6 : c ≤ MC) (m7 : s ≤ MS) (hc : call 113 [(.ref r_0), (.int (nI a_1)), (.int (nI v_fs1_6)), (.int (nI v_fs1_7))] h z 0 0 P) (K : ∀ (o : Option Value) (h2 : HP) (z2 : Nat), P o h2 z2 → ip sc call 116 MC MS Q 177 [some (.ref r_0), some (.int (nI a_1)), o_2] (o.toList ++ [(.int (nI v_fs1_8))]) h2 z2 c s) : ip sc call 116 MC MS Q 160 [some (.ref r_0), some (.int (nI a_1)), o_2] [] h z c s := by
  refine jp_load (pc2 := 161) (n := 0) rfl rfl rfl rfl ?_
  refine jp_getf (pc2 := 164) rfl rfl e2 e3 ?_
  refine jp_load (pc2 := 165) (n := 0) rfl rfl rfl rfl ?_
  refine jp_load (pc2 := 166) (n := 1) rfl rfl rfl rfl ?_
  refine jp_load (pc2 := 167) (n := 0) rfl rfl rfl rfl ?_
  refine jp_getf (pc2 := 170) rfl rfl e2 e4 ?_
  refine jp_load (pc2 := 171) (n := 0) rfl rfl rfl rfl ?_
  refine jp_getf (pc2 := 174) rfl rfl e2 e5 ?_
  exact jp_virt0 (pc2 := 177) (As := [(.int (nI a_1)), (.int (nI v_fs1_6)), (.int (nI v_fs1_7))]) (rest := [(.int (nI v_fs1_8))]) rfl rfl rfl (Nat.le_of_ble_eq_true rfl) e2 m6 m7 hc rfl K
set_option maxRecDepth 100000 in
theorem c116_177 {r_0 : Nat} {a_1 : Nat} {o_2 : Option Value} {sa_0 : Nat} {sa_1 : Nat} (c1 : sa_0 < 2147483648) (c2 : sa_1 < 2147483648) (K1 : sa_1 ≤ sa_0 → ip sc call 116 MC MS Q 219 [some (.ref r_0), some (.int (nI a_1)), o_2] [] h z c s) (K2 : ¬ (sa_1 ≤ sa_0) → ip sc call 116 MC MS Q 180 [some (.ref r_0), some (.int (nI a_1)), o_2] [] h z c s) : ip sc call 116 MC MS Q 177 [some (.ref r_0), some (.int (nI a_1)), o_2] [(.int (nI sa_1)), (.int (nI sa_0))] h z c s := by
  exact jp_icmp (pc2 := 180) rfl rfl (fun q => K1 ((nI_leI c2 c1).mp q)) (fun q => K2 (fun r => q ((nI_leI c2 c1).mpr r)))
set_option maxRecDepth 100000 in
theorem c116_180 {r_0 : Nat} {a_1 : Nat} {o_2 : Option Value} {fs1 : List Value} {v_fs1_9 : Nat} {q_fs1_0 : Nat} {v_fs1_6 : Nat} {n6 : Nat} {f7 : Nat → Int32} {v11 : Nat} (e2 : h r_0 = some (.inr (9, fs1))) (e3 : fs1[9]? = some (.int (nI v_fs1_9))) (e4 : fs1[0]? = some (.ref q_fs1_0)) (e5 : fs1[6]? = some (.int (nI v_fs1_6))) (e8 : h q_fs1_0 = some (.inl (0, n6, .inl f7))) (b9 : (a_1 + 36) + v_fs1_6 < n6) (c10 : n6 < 2147483648) (e12 : f7 ((a_1 + 36) + v_fs1_6) = nI v11) (c13 : v_fs1_9 < 2147483648) (c14 : v11 < 2147483648) (K1 : v11 ≤ v_fs1_9 → ip sc call 116 MC MS Q 219 [some (.ref r_0), some (.int (nI a_1)), o_2] [] h z c s) (K2 : ¬ (v11 ≤ v_fs1_9) → ip sc call 116 MC MS Q 201 [some (.ref r_0), some (.int (nI a_1)), o_2] [] h z c s) : ip sc call 116 MC MS Q 180 [some (.ref r_0), some (.int (nI a_1)), o_2] [] h z c s := by
  refine jp_load (pc2 := 181) (n := 0) rfl rfl rfl rfl ?_
  refine jp_getf (pc2 := 184) rfl rfl e2 e3 ?_
  refine jp_load (pc2 := 185) (n := 0) rfl rfl rfl rfl ?_
  refine jp_getf (pc2 := 188) rfl rfl e2 e4 ?_
  refine jp_load (pc2 := 189) (n := 1) rfl rfl rfl rfl ?_
  refine jp_con (pc2 := 191) (v := (.int (nI 36))) rfl rfl rfl ?_
  refine jp_bin (pc2 := 192) (v := nI (a_1 + 36)) rfl rfl (congrArg some (nI_add _ _)) ?_
  refine jp_load (pc2 := 193) (n := 0) rfl rfl rfl rfl ?_
  refine jp_getf (pc2 := 196) rfl rfl e2 e5 ?_
  refine jp_bin (pc2 := 197) (v := nI ((a_1 + 36) + v_fs1_6)) rfl rfl (congrArg some (nI_add _ _)) ?_
  refine jp_iald (pc2 := 198) rfl rfl e8 (vp_in_nI b9 c10) ?_
  rw [(nI_clamp (Nat.lt_trans b9 c10))]
  rw [e12]
  exact jp_icmp (pc2 := 201) rfl rfl (fun q => K1 ((nI_leI c14 c13).mp q)) (fun q => K2 (fun r => q ((nI_leI c14 c13).mpr r)))
set_option maxRecDepth 100000 in
theorem c116_201 {r_0 : Nat} {a_1 : Nat} {o_2 : Option Value} {fs1 : List Value} {v_fs1_9 : Nat} (e2 : h r_0 = some (.inr (9, fs1))) (e3 : fs1[9]? = some (.int (nI v_fs1_9))) (l4 : fs1.length = 16) (K : ip sc call 116 MC MS Q 114 [some (.ref r_0), some (.int (nI a_1)), o_2] [] (hup h r_0 (.inr (9, ((fs1.set 9 (.int (nI (v_fs1_9 + 1)))).set 10 (.int (nI 0)))))) z c s) : ip sc call 116 MC MS Q 201 [some (.ref r_0), some (.int (nI a_1)), o_2] [] h z c s := by
  refine jp_load (pc2 := 202) (n := 0) rfl rfl rfl rfl ?_
  refine jp_dup (pc2 := 203) rfl rfl rfl ?_
  refine jp_getf (pc2 := 206) rfl rfl e2 e3 ?_
  refine jp_con (pc2 := 207) (v := (.int (nI 1))) rfl rfl rfl ?_
  refine jp_bin (pc2 := 208) (v := nI (v_fs1_9 + 1)) rfl rfl (congrArg some (nI_add _ _)) ?_
  refine jp_putf (pc2 := 211) rfl rfl e2 (ln_lt l4 (by decide)) ⟨rfl, rfl⟩ ?_
  refine jp_load (pc2 := 212) (n := 0) rfl rfl rfl rfl ?_
  refine jp_con (pc2 := 213) (v := (.int (nI 0))) rfl rfl rfl ?_
  refine jp_putf (pc2 := 216) rfl rfl hup_eq (ls_lt (ln_lt l4 (by decide))) ⟨rfl, rfl⟩ ?_
  rw [hup_hup]
  refine ip_goto rfl ?_
  exact K
set_option maxRecDepth 100000 in
theorem c116_219 {r_0 : Nat} {a_1 : Nat} {o_2 : Option Value} {fs1 : List Value} {v_fs1_7 : Nat} {q_fs1_0 : Nat} {v_fs1_6 : Nat} {n6 : Nat} {f7 : Nat → Int32} {v11 : Nat} (e2 : h r_0 = some (.inr (9, fs1))) (e3 : fs1[7]? = some (.int (nI v_fs1_7))) (e4 : fs1[0]? = some (.ref q_fs1_0)) (e5 : fs1[6]? = some (.int (nI v_fs1_6))) (e8 : h q_fs1_0 = some (.inl (0, n6, .inl f7))) (b9 : (a_1 + 36) + v_fs1_6 < n6) (c10 : n6 < 2147483648) (e12 : f7 ((a_1 + 36) + v_fs1_6) = nI v11) (c13 : v_fs1_7 < 2147483648) (c14 : v11 < 2147483648) (K1 : v11 ≤ v_fs1_7 → ip sc call 116 MC MS Q 289 [some (.ref r_0), some (.int (nI a_1)), o_2] [] h z c s) (K2 : ¬ (v11 ≤ v_fs1_7) → ip sc call 116 MC MS Q 240 [some (.ref r_0), some (.int (nI a_1)), o_2] [] h z c s) : ip sc call 116 MC MS Q 219 [some (.ref r_0), some (.int (nI a_1)), o_2] [] h z c s := by
  refine jp_load (pc2 := 220) (n := 0) rfl rfl rfl rfl ?_
  refine jp_getf (pc2 := 223) rfl rfl e2 e3 ?_
  refine jp_load (pc2 := 224) (n := 0) rfl rfl rfl rfl ?_
  refine jp_getf (pc2 := 227) rfl rfl e2 e4 ?_
  refine jp_load (pc2 := 228) (n := 1) rfl rfl rfl rfl ?_
  refine jp_con (pc2 := 230) (v := (.int (nI 36))) rfl rfl rfl ?_
  refine jp_bin (pc2 := 231) (v := nI (a_1 + 36)) rfl rfl (congrArg some (nI_add _ _)) ?_
  refine jp_load (pc2 := 232) (n := 0) rfl rfl rfl rfl ?_
  refine jp_getf (pc2 := 235) rfl rfl e2 e5 ?_
  refine jp_bin (pc2 := 236) (v := nI ((a_1 + 36) + v_fs1_6)) rfl rfl (congrArg some (nI_add _ _)) ?_
  refine jp_iald (pc2 := 237) rfl rfl e8 (vp_in_nI b9 c10) ?_
  rw [(nI_clamp (Nat.lt_trans b9 c10))]
  rw [e12]
  exact jp_icmp (pc2 := 240) rfl rfl (fun q => K1 ((nI_leI c14 c13).mp q)) (fun q => K2 (fun r => q ((nI_leI c14 c13).mpr r)))
set_option maxRecDepth 100000 in
theorem c116_240 {r_0 : Nat} {a_1 : Nat} {o_2 : Option Value} {fs1 : List Value} {v_fs1_8 : Nat} {v_fs1_6 : Nat} {v_fs1_7 : Nat} {P : ipQ} (e2 : h r_0 = some (.inr (9, fs1))) (e3 : fs1[8]? = some (.int (nI v_fs1_8))) (e4 : fs1[6]? = some (.int (nI v_fs1_6))) (e5 : fs1[7]? = some (.int (nI v_fs1_7))) (m6 : c ≤ MC) (m7 : s ≤ MS) (hc : call 113 [(.ref r_0), (.int (nI a_1)), (.int (nI v_fs1_6)), (.int (nI v_fs1_7))] h z 0 0 P) (K : ∀ (o : Option Value) (h2 : HP) (z2 : Nat), P o h2 z2 → ip sc call 116 MC MS Q 257 [some (.ref r_0), some (.int (nI a_1)), o_2] (o.toList ++ [(.int (nI v_fs1_8))]) h2 z2 c s) : ip sc call 116 MC MS Q 240 [some (.ref r_0), some (.int (nI a_1)), o_2] [] h z c s := by
  refine jp_load (pc2 := 241) (n := 0) rfl rfl rfl rfl ?_
  refine jp_getf (pc2 := 244) rfl rfl e2 e3 ?_
  refine jp_load (pc2 := 245) (n := 0) rfl rfl rfl rfl ?_
  refine jp_load (pc2 := 246) (n := 1) rfl rfl rfl rfl ?_
  refine jp_load (pc2 := 247) (n := 0) rfl rfl rfl rfl ?_
  refine jp_getf (pc2 := 250) rfl rfl e2 e4 ?_
  refine jp_load (pc2 := 251) (n := 0) rfl rfl rfl rfl ?_
  refine jp_getf (pc2 := 254) rfl rfl e2 e5 ?_
  exact jp_virt0 (pc2 := 257) (As := [(.int (nI a_1)), (.int (nI v_fs1_6)), (.int (nI v_fs1_7))]) (rest := [(.int (nI v_fs1_8))]) rfl rfl rfl (Nat.le_of_ble_eq_true rfl) e2 m6 m7 hc rfl K
set_option maxRecDepth 100000 in
theorem c116_257 {r_0 : Nat} {a_1 : Nat} {o_2 : Option Value} {sa_0 : Nat} {sa_1 : Nat} (c1 : sa_0 < 2147483648) (c2 : sa_1 < 2147483648) (K1 : sa_1 ≤ sa_0 → ip sc call 116 MC MS Q 289 [some (.ref r_0), some (.int (nI a_1)), o_2] [] h z c s) (K2 : ¬ (sa_1 ≤ sa_0) → ip sc call 116 MC MS Q 260 [some (.ref r_0), some (.int (nI a_1)), o_2] [] h z c s) : ip sc call 116 MC MS Q 257 [some (.ref r_0), some (.int (nI a_1)), o_2] [(.int (nI sa_1)), (.int (nI sa_0))] h z c s := by
  exact jp_icmp (pc2 := 260) rfl rfl (fun q => K1 ((nI_leI c2 c1).mp q)) (fun q => K2 (fun r => q ((nI_leI c2 c1).mpr r)))
set_option maxRecDepth 100000 in
theorem c116_260 {r_0 : Nat} {a_1 : Nat} {o_2 : Option Value} {fs1 : List Value} {v_fs1_8 : Nat} {v_fs1_7 : Nat} (e2 : h r_0 = some (.inr (9, fs1))) (e3 : fs1[8]? = some (.int (nI v_fs1_8))) (l4 : fs1.length = 16) (e5 : fs1[7]? = some (.int (nI v_fs1_7))) (K : ip sc call 116 MC MS Q 114 [some (.ref r_0), some (.int (nI a_1)), o_2] [] (hup h r_0 (.inr (9, (((fs1.set 8 (.int (nI (v_fs1_8 + 1)))).set 9 (.int (nI v_fs1_7))).set 10 (.int (nI (v_fs1_8 + 1))))))) z c s) : ip sc call 116 MC MS Q 260 [some (.ref r_0), some (.int (nI a_1)), o_2] [] h z c s := by
  refine jp_load (pc2 := 261) (n := 0) rfl rfl rfl rfl ?_
  refine jp_dup (pc2 := 262) rfl rfl rfl ?_
  refine jp_getf (pc2 := 265) rfl rfl e2 e3 ?_
  refine jp_con (pc2 := 266) (v := (.int (nI 1))) rfl rfl rfl ?_
  refine jp_bin (pc2 := 267) (v := nI (v_fs1_8 + 1)) rfl rfl (congrArg some (nI_add _ _)) ?_
  refine jp_putf (pc2 := 270) rfl rfl e2 (ln_lt l4 (by decide)) ⟨rfl, rfl⟩ ?_
  refine jp_load (pc2 := 271) (n := 0) rfl rfl rfl rfl ?_
  refine jp_load (pc2 := 272) (n := 0) rfl rfl rfl rfl ?_
  refine jp_getf (pc2 := 275) rfl rfl hup_eq (gs_ne (by decide) e5) ?_
  refine jp_putf (pc2 := 278) rfl rfl hup_eq (ls_lt (ln_lt l4 (by decide))) ⟨rfl, rfl⟩ ?_
  rw [hup_hup]
  refine jp_load (pc2 := 279) (n := 0) rfl rfl rfl rfl ?_
  refine jp_load (pc2 := 280) (n := 0) rfl rfl rfl rfl ?_
  refine jp_getf (pc2 := 283) rfl rfl hup_eq (gs_ne (by decide) (gs_eq (ln_lt l4 (by decide)))) ?_
  refine jp_putf (pc2 := 286) rfl rfl hup_eq (ls_lt (ls_lt (ln_lt l4 (by decide)))) ⟨rfl, rfl⟩ ?_
  rw [hup_hup]
  refine ip_goto rfl ?_
  exact K
set_option maxRecDepth 100000 in
theorem c116_289 {r_0 : Nat} {a_1 : Nat} {o_2 : Option Value} {fs1 : List Value} {v_fs1_7 : Nat} {q_fs1_0 : Nat} {v_fs1_6 : Nat} {n6 : Nat} {f7 : Nat → Int32} {v11 : Nat} (e2 : h r_0 = some (.inr (9, fs1))) (e3 : fs1[7]? = some (.int (nI v_fs1_7))) (e4 : fs1[0]? = some (.ref q_fs1_0)) (e5 : fs1[6]? = some (.int (nI v_fs1_6))) (e8 : h q_fs1_0 = some (.inl (0, n6, .inl f7))) (b9 : (a_1 + 36) + v_fs1_6 < n6) (c10 : n6 < 2147483648) (e12 : f7 ((a_1 + 36) + v_fs1_6) = nI v11) (c13 : v_fs1_7 < 2147483648) (c14 : v11 < 2147483648) (K1 : v11 ≤ v_fs1_7 → ip sc call 116 MC MS Q 341 [some (.ref r_0), some (.int (nI a_1)), o_2] [] h z c s) (K2 : ¬ (v11 ≤ v_fs1_7) → ip sc call 116 MC MS Q 310 [some (.ref r_0), some (.int (nI a_1)), o_2] [] h z c s) : ip sc call 116 MC MS Q 289 [some (.ref r_0), some (.int (nI a_1)), o_2] [] h z c s := by
  refine jp_load (pc2 := 290) (n := 0) rfl rfl rfl rfl ?_
  refine jp_getf (pc2 := 293) rfl rfl e2 e3 ?_
  refine jp_load (pc2 := 294) (n := 0) rfl rfl rfl rfl ?_
  refine jp_getf (pc2 := 297) rfl rfl e2 e4 ?_
  refine jp_load (pc2 := 298) (n := 1) rfl rfl rfl rfl ?_
  refine jp_con (pc2 := 300) (v := (.int (nI 36))) rfl rfl rfl ?_
  refine jp_bin (pc2 := 301) (v := nI (a_1 + 36)) rfl rfl (congrArg some (nI_add _ _)) ?_
  refine jp_load (pc2 := 302) (n := 0) rfl rfl rfl rfl ?_
  refine jp_getf (pc2 := 305) rfl rfl e2 e5 ?_
  refine jp_bin (pc2 := 306) (v := nI ((a_1 + 36) + v_fs1_6)) rfl rfl (congrArg some (nI_add _ _)) ?_
  refine jp_iald (pc2 := 307) rfl rfl e8 (vp_in_nI b9 c10) ?_
  rw [(nI_clamp (Nat.lt_trans b9 c10))]
  rw [e12]
  exact jp_icmp (pc2 := 310) rfl rfl (fun q => K1 ((nI_leI c14 c13).mp q)) (fun q => K2 (fun r => q ((nI_leI c14 c13).mpr r)))
set_option maxRecDepth 100000 in
theorem c116_310 {r_0 : Nat} {a_1 : Nat} {o_2 : Option Value} {fs1 : List Value} {v_fs1_7 : Nat} (e2 : h r_0 = some (.inr (9, fs1))) (e3 : fs1[7]? = some (.int (nI v_fs1_7))) (l4 : fs1.length = 16) (K : ip sc call 116 MC MS Q 114 [some (.ref r_0), some (.int (nI a_1)), o_2] [] (hup h r_0 (.inr (9, ((((fs1.set 7 (.int (nI (v_fs1_7 + 1)))).set 8 (.int (nI 0))).set 9 (.int (nI (v_fs1_7 + 1)))).set 10 (.int (nI 0)))))) z c s) : ip sc call 116 MC MS Q 310 [some (.ref r_0), some (.int (nI a_1)), o_2] [] h z c s := by
  refine jp_load (pc2 := 311) (n := 0) rfl rfl rfl rfl ?_
  refine jp_dup (pc2 := 312) rfl rfl rfl ?_
  refine jp_getf (pc2 := 315) rfl rfl e2 e3 ?_
  refine jp_con (pc2 := 316) (v := (.int (nI 1))) rfl rfl rfl ?_
  refine jp_bin (pc2 := 317) (v := nI (v_fs1_7 + 1)) rfl rfl (congrArg some (nI_add _ _)) ?_
  refine jp_putf (pc2 := 320) rfl rfl e2 (ln_lt l4 (by decide)) ⟨rfl, rfl⟩ ?_
  refine jp_load (pc2 := 321) (n := 0) rfl rfl rfl rfl ?_
  refine jp_con (pc2 := 322) (v := (.int (nI 0))) rfl rfl rfl ?_
  refine jp_putf (pc2 := 325) rfl rfl hup_eq (ls_lt (ln_lt l4 (by decide))) ⟨rfl, rfl⟩ ?_
  rw [hup_hup]
  refine jp_load (pc2 := 326) (n := 0) rfl rfl rfl rfl ?_
  refine jp_load (pc2 := 327) (n := 0) rfl rfl rfl rfl ?_
  refine jp_getf (pc2 := 330) rfl rfl hup_eq (gs_ne (by decide) (gs_eq (ln_lt l4 (by decide)))) ?_
  refine jp_putf (pc2 := 333) rfl rfl hup_eq (ls_lt (ls_lt (ln_lt l4 (by decide)))) ⟨rfl, rfl⟩ ?_
  rw [hup_hup]
  refine jp_load (pc2 := 334) (n := 0) rfl rfl rfl rfl ?_
  refine jp_con (pc2 := 335) (v := (.int (nI 0))) rfl rfl rfl ?_
  refine jp_putf (pc2 := 338) rfl rfl hup_eq (ls_lt (ls_lt (ls_lt (ln_lt l4 (by decide))))) ⟨rfl, rfl⟩ ?_
  rw [hup_hup]
  refine ip_goto rfl ?_
  exact K
set_option maxRecDepth 100000 in
theorem c116_341 {r_0 : Nat} {a_1 : Nat} {o_2 : Option Value} {fs1 : List Value} {v_fs1_6 : Nat} (e2 : h r_0 = some (.inr (9, fs1))) (e3 : fs1[6]? = some (.int (nI v_fs1_6))) (l4 : fs1.length = 16) (K : ip sc call 116 MC MS Q 114 [some (.ref r_0), some (.int (nI a_1)), o_2] [] (hup h r_0 (.inr (9, (((((fs1.set 6 (.int (nI (v_fs1_6 + 1)))).set 7 (.int (nI 0))).set 8 (.int (nI 0))).set 9 (.int (nI 0))).set 10 (.int (nI 0)))))) z c s) : ip sc call 116 MC MS Q 341 [some (.ref r_0), some (.int (nI a_1)), o_2] [] h z c s := by
  refine jp_load (pc2 := 342) (n := 0) rfl rfl rfl rfl ?_
  refine jp_dup (pc2 := 343) rfl rfl rfl ?_
  refine jp_getf (pc2 := 346) rfl rfl e2 e3 ?_
  refine jp_con (pc2 := 347) (v := (.int (nI 1))) rfl rfl rfl ?_
  refine jp_bin (pc2 := 348) (v := nI (v_fs1_6 + 1)) rfl rfl (congrArg some (nI_add _ _)) ?_
  refine jp_putf (pc2 := 351) rfl rfl e2 (ln_lt l4 (by decide)) ⟨rfl, rfl⟩ ?_
  refine jp_load (pc2 := 352) (n := 0) rfl rfl rfl rfl ?_
  refine jp_con (pc2 := 353) (v := (.int (nI 0))) rfl rfl rfl ?_
  refine jp_putf (pc2 := 356) rfl rfl hup_eq (ls_lt (ln_lt l4 (by decide))) ⟨rfl, rfl⟩ ?_
  rw [hup_hup]
  refine jp_load (pc2 := 357) (n := 0) rfl rfl rfl rfl ?_
  refine jp_con (pc2 := 358) (v := (.int (nI 0))) rfl rfl rfl ?_
  refine jp_putf (pc2 := 361) rfl rfl hup_eq (ls_lt (ls_lt (ln_lt l4 (by decide)))) ⟨rfl, rfl⟩ ?_
  rw [hup_hup]
  refine jp_load (pc2 := 362) (n := 0) rfl rfl rfl rfl ?_
  refine jp_con (pc2 := 363) (v := (.int (nI 0))) rfl rfl rfl ?_
  refine jp_putf (pc2 := 366) rfl rfl hup_eq (ls_lt (ls_lt (ls_lt (ln_lt l4 (by decide))))) ⟨rfl, rfl⟩ ?_
  rw [hup_hup]
  refine jp_load (pc2 := 367) (n := 0) rfl rfl rfl rfl ?_
  refine jp_con (pc2 := 368) (v := (.int (nI 0))) rfl rfl rfl ?_
  refine jp_putf (pc2 := 371) rfl rfl hup_eq (ls_lt (ls_lt (ls_lt (ls_lt (ln_lt l4 (by decide)))))) ⟨rfl, rfl⟩ ?_
  rw [hup_hup]
  refine ip_goto rfl ?_
  exact K
set_option maxRecDepth 100000 in
theorem c116_374 {o_0 : Option Value} {o_1 : Option Value} {o_2 : Option Value} (q1 : Q (some (.int (nI 0))) h z)  : ip sc call 116 MC MS Q 374 [o_0, o_1, o_2] [] h z c s := by
  refine jp_con (pc2 := 375) (v := (.int (nI 0))) rfl rfl rfl ?_
  exact ip_iret (st := []) rfl rfl rfl q1
theorem c117_0 {r_0 : Nat} {a_1 : Nat} {o_2 : Option Value} {o_3 : Option Value} {fs1 : List Value} {P : ipQ} (e2 : h r_0 = some (.inr (9, fs1))) (m3 : c ≤ MC) (m4 : s ≤ MS) (hc : call 94 [(.ref r_0)] h z 0 0 P) (K : ∀ (o : Option Value) (h2 : HP) (z2 : Nat), P o h2 z2 → ip sc call 117 MC MS Q 4 [some (.ref r_0), some (.int (nI a_1)), o_2, o_3] (o.toList ++ []) h2 z2 c s) : ip sc call 117 MC MS Q 0 [some (.ref r_0), some (.int (nI a_1)), o_2, o_3] [] h z c s := by
  refine jp_load (pc2 := 1) (n := 0) rfl rfl rfl rfl ?_
  exact jp_virt0 (pc2 := 4) (As := []) (rest := []) rfl rfl rfl (Nat.le_of_ble_eq_true rfl) e2 m3 m4 hc rfl K
theorem c117_4 {r_0 : Nat} {a_1 : Nat} {o_2 : Option Value} {o_3 : Option Value} {sa_0 : Nat} {tgt : Nat} (t1 : ipTab 8 86 0 5 #[40, 49, 58, 65, 71, 80] (nI a_1) = some tgt) (K : ip sc call 117 MC MS Q tgt [some (.ref r_0), some (.int (nI a_1)), some (.int (nI sa_0)), some (.int (nI 0))] [] h z c s) : ip sc call 117 MC MS Q 4 [some (.ref r_0), some (.int (nI a_1)), o_2, o_3] [(.int (nI sa_0))] h z c s := by
  refine jp_store (pc2 := 5) (n := 2) rfl rfl ⟨rfl, rfl⟩ rfl (Nat.le_of_ble_eq_true rfl) ?_
  refine jp_con (pc2 := 6) (v := (.int (nI 0))) rfl rfl rfl ?_
  refine jp_store (pc2 := 7) (n := 3) rfl rfl ⟨rfl, rfl⟩ rfl (Nat.le_of_ble_eq_true rfl) ?_
  refine jp_load (pc2 := 8) (n := 1) rfl rfl rfl rfl ?_
  exact ip_tab rfl t1 K
theorem c117_48 {r_0 : Nat} {o_1 : Option Value} {a_2 : Nat} {o_3 : Option Value} {fs1 : List Value} {q_fs1_0 : Nat} {n4 : Nat} {f5 : Nat → Int32} {v9 : Nat} (e2 : h r_0 = some (.inr (9, fs1))) (e3 : fs1[0]? = some (.ref q_fs1_0)) (e6 : h q_fs1_0 = some (.inl (0, n4, .inl f5))) (b7 : a_2 + 0 < n4) (c8 : n4 < 2147483648) (e10 : f5 (a_2 + 0) = nI v9) (q11 : Q (some (.int (nI v9))) h z)  : ip sc call 117 MC MS Q 48 [some (.ref r_0), o_1, some (.int (nI a_2)), o_3] [] h z c s := by
  refine jp_load (pc2 := 49) (n := 0) rfl rfl rfl rfl ?_
  refine jp_getf (pc2 := 52) rfl rfl e2 e3 ?_
  refine jp_load (pc2 := 53) (n := 2) rfl rfl rfl rfl ?_
  refine jp_con (pc2 := 54) (v := (.int (nI 0))) rfl rfl rfl ?_
  refine jp_bin (pc2 := 55) (v := nI (a_2 + 0)) rfl rfl (congrArg some (nI_add _ _)) ?_
  refine jp_iald (pc2 := 56) rfl rfl e6 (vp_in_nI b7 c8) ?_
  rw [(nI_clamp (Nat.lt_trans b7 c8))]
  rw [e10]
  exact ip_iret (st := []) rfl rfl rfl q11
theorem c117_57 {r_0 : Nat} {o_1 : Option Value} {a_2 : Nat} {o_3 : Option Value} {fs1 : List Value} {q_fs1_0 : Nat} {n4 : Nat} {f5 : Nat → Int32} {v9 : Nat} (e2 : h r_0 = some (.inr (9, fs1))) (e3 : fs1[0]? = some (.ref q_fs1_0)) (e6 : h q_fs1_0 = some (.inl (0, n4, .inl f5))) (b7 : a_2 + 1 < n4) (c8 : n4 < 2147483648) (e10 : f5 (a_2 + 1) = nI v9) (q11 : Q (some (.int (nI v9))) h z)  : ip sc call 117 MC MS Q 57 [some (.ref r_0), o_1, some (.int (nI a_2)), o_3] [] h z c s := by
  refine jp_load (pc2 := 58) (n := 0) rfl rfl rfl rfl ?_
  refine jp_getf (pc2 := 61) rfl rfl e2 e3 ?_
  refine jp_load (pc2 := 62) (n := 2) rfl rfl rfl rfl ?_
  refine jp_con (pc2 := 63) (v := (.int (nI 1))) rfl rfl rfl ?_
  refine jp_bin (pc2 := 64) (v := nI (a_2 + 1)) rfl rfl (congrArg some (nI_add _ _)) ?_
  refine jp_iald (pc2 := 65) rfl rfl e6 (vp_in_nI b7 c8) ?_
  rw [(nI_clamp (Nat.lt_trans b7 c8))]
  rw [e10]
  exact ip_iret (st := []) rfl rfl rfl q11
theorem c117_66 {r_0 : Nat} {o_1 : Option Value} {o_2 : Option Value} {o_3 : Option Value} {fs1 : List Value} {q_fs1_0 : Nat} {n4 : Nat} {f5 : Nat → Int32} {v9 : Nat} (e2 : h r_0 = some (.inr (9, fs1))) (e3 : fs1[0]? = some (.ref q_fs1_0)) (e6 : h q_fs1_0 = some (.inl (0, n4, .inl f5))) (b7 : 0 < n4) (c8 : n4 < 2147483648) (e10 : f5 0 = nI v9) (q11 : Q (some (.int (nI v9))) h z)  : ip sc call 117 MC MS Q 66 [some (.ref r_0), o_1, o_2, o_3] [] h z c s := by
  refine jp_load (pc2 := 67) (n := 0) rfl rfl rfl rfl ?_
  refine jp_getf (pc2 := 70) rfl rfl e2 e3 ?_
  refine jp_con (pc2 := 71) (v := (.int (nI 0))) rfl rfl rfl ?_
  refine jp_iald (pc2 := 72) rfl rfl e6 (vp_in_nI b7 c8) ?_
  rw [(nI_clamp (Nat.lt_trans b7 c8))]
  rw [e10]
  exact ip_iret (st := []) rfl rfl rfl q11
theorem c117_73 {r_0 : Nat} {o_1 : Option Value} {a_2 : Nat} {o_3 : Option Value} {fs1 : List Value} {P : ipQ} (e2 : h r_0 = some (.inr (9, fs1))) (m3 : c ≤ MC) (m4 : s ≤ MS) (hc : call 118 [(.ref r_0), (.int (nI a_2))] h z 0 0 P) (K : ∀ (o : Option Value) (h2 : HP) (z2 : Nat), P o h2 z2 → ip sc call 117 MC MS Q 78 [some (.ref r_0), o_1, some (.int (nI a_2)), o_3] (o.toList ++ []) h2 z2 c s) : ip sc call 117 MC MS Q 73 [some (.ref r_0), o_1, some (.int (nI a_2)), o_3] [] h z c s := by
  refine jp_load (pc2 := 74) (n := 0) rfl rfl rfl rfl ?_
  refine jp_load (pc2 := 75) (n := 2) rfl rfl rfl rfl ?_
  exact jp_virt0 (pc2 := 78) (As := [(.int (nI a_2))]) (rest := []) rfl rfl rfl (Nat.le_of_ble_eq_true rfl) e2 m3 m4 hc rfl K
theorem c117_78 {o_0 : Option Value} {o_1 : Option Value} {o_2 : Option Value} {o_3 : Option Value} {sa_0 : Nat} (q1 : Q (some (.int (nI sa_0))) h z)  : ip sc call 117 MC MS Q 78 [o_0, o_1, o_2, o_3] [(.int (nI sa_0))] h z c s := by
  exact ip_iret (st := []) rfl rfl rfl q1
theorem c117_79 {r_0 : Nat} {o_1 : Option Value} {a_2 : Nat} {o_3 : Option Value} {fs1 : List Value} {q_fs1_0 : Nat} {n4 : Nat} {f5 : Nat → Int32} {v9 : Nat} (e2 : h r_0 = some (.inr (9, fs1))) (e3 : fs1[0]? = some (.ref q_fs1_0)) (e6 : h q_fs1_0 = some (.inl (0, n4, .inl f5))) (b7 : a_2 + 2 < n4) (c8 : n4 < 2147483648) (e10 : f5 (a_2 + 2) = nI v9) (q11 : Q (some (.int (nI v9))) h z)  : ip sc call 117 MC MS Q 79 [some (.ref r_0), o_1, some (.int (nI a_2)), o_3] [] h z c s := by
  refine jp_load (pc2 := 80) (n := 0) rfl rfl rfl rfl ?_
  refine jp_getf (pc2 := 83) rfl rfl e2 e3 ?_
  refine jp_load (pc2 := 84) (n := 2) rfl rfl rfl rfl ?_
  refine jp_con (pc2 := 85) (v := (.int (nI 2))) rfl rfl rfl ?_
  refine jp_bin (pc2 := 86) (v := nI (a_2 + 2)) rfl rfl (congrArg some (nI_add _ _)) ?_
  refine jp_iald (pc2 := 87) rfl rfl e6 (vp_in_nI b7 c8) ?_
  rw [(nI_clamp (Nat.lt_trans b7 c8))]
  rw [e10]
  exact ip_iret (st := []) rfl rfl rfl q11
theorem c117_88 {r_0 : Nat} {o_1 : Option Value} {a_2 : Nat} {o_3 : Option Value} {fs1 : List Value} {P : ipQ} (e2 : h r_0 = some (.inr (9, fs1))) (m3 : c ≤ MC) (m4 : s ≤ MS) (hc : call 119 [(.ref r_0), (.int (nI a_2))] h z 0 0 P) (K : ∀ (o : Option Value) (h2 : HP) (z2 : Nat), P o h2 z2 → ip sc call 117 MC MS Q 93 [some (.ref r_0), o_1, some (.int (nI a_2)), o_3] (o.toList ++ []) h2 z2 c s) : ip sc call 117 MC MS Q 88 [some (.ref r_0), o_1, some (.int (nI a_2)), o_3] [] h z c s := by
  refine jp_load (pc2 := 89) (n := 0) rfl rfl rfl rfl ?_
  refine jp_load (pc2 := 90) (n := 2) rfl rfl rfl rfl ?_
  exact jp_virt0 (pc2 := 93) (As := [(.int (nI a_2))]) (rest := []) rfl rfl rfl (Nat.le_of_ble_eq_true rfl) e2 m3 m4 hc rfl K
theorem c117_93 {o_0 : Option Value} {o_1 : Option Value} {o_2 : Option Value} {o_3 : Option Value} {sa_0 : Nat} (q1 : Q (some (.int (nI sa_0))) h z)  : ip sc call 117 MC MS Q 93 [o_0, o_1, o_2, o_3] [(.int (nI sa_0))] h z c s := by
  exact ip_iret (st := []) rfl rfl rfl q1
theorem c117_94 {o_0 : Option Value} {o_1 : Option Value} {o_2 : Option Value} {o_3 : Option Value} (q1 : Q (some (.int ((-1)))) h z)  : ip sc call 117 MC MS Q 94 [o_0, o_1, o_2, o_3] [] h z c s := by
  refine jp_con (pc2 := 95) (v := (.int ((-1)))) rfl rfl rfl ?_
  exact ip_iret (st := []) rfl rfl rfl q1
theorem c118_0 {r_0 : Nat} {a_1 : Nat} {o_2 : Option Value} {o_3 : Option Value}  (K : ip sc call 118 MC MS Q 4 [some (.ref r_0), some (.int (nI a_1)), some (.int (nI 0)), some (.int (nI 0))] [] h z c s) : ip sc call 118 MC MS Q 0 [some (.ref r_0), some (.int (nI a_1)), o_2, o_3] [] h z c s := by
  refine jp_con (pc2 := 1) (v := (.int (nI 0))) rfl rfl rfl ?_
  refine jp_store (pc2 := 2) (n := 2) rfl rfl ⟨rfl, rfl⟩ rfl (Nat.le_of_ble_eq_true rfl) ?_
  refine jp_con (pc2 := 3) (v := (.int (nI 0))) rfl rfl rfl ?_
  refine jp_store (pc2 := 4) (n := 3) rfl rfl ⟨rfl, rfl⟩ rfl (Nat.le_of_ble_eq_true rfl) ?_
  exact K
theorem c118_4 {r_0 : Nat} {a_1 : Nat} {a_2 : Nat} {a_3 : Nat} {fs1 : List Value} {q_fs1_0 : Nat} {n4 : Nat} {f5 : Nat → Int32} {v9 : Nat} (e2 : h r_0 = some (.inr (9, fs1))) (e3 : fs1[0]? = some (.ref q_fs1_0)) (e6 : h q_fs1_0 = some (.inl (0, n4, .inl f5))) (b7 : a_1 + 0 < n4) (c8 : n4 < 2147483648) (e10 : f5 (a_1 + 0) = nI v9) (c11 : a_3 < 2147483648) (c12 : v9 < 2147483648) (K1 : v9 ≤ a_3 → ip sc call 118 MC MS Q 35 [some (.ref r_0), some (.int (nI a_1)), some (.int (nI a_2)), some (.int (nI a_3))] [] h z c s) (K2 : ¬ (v9 ≤ a_3) → ip sc call 118 MC MS Q 16 [some (.ref r_0), some (.int (nI a_1)), some (.int (nI a_2)), some (.int (nI a_3))] [] h z c s) : ip sc call 118 MC MS Q 4 [some (.ref r_0), some (.int (nI a_1)), some (.int (nI a_2)), some (.int (nI a_3))] [] h z c s := by
  refine jp_load (pc2 := 5) (n := 3) rfl rfl rfl rfl ?_
  refine jp_load (pc2 := 6) (n := 0) rfl rfl rfl rfl ?_
  refine jp_getf (pc2 := 9) rfl rfl e2 e3 ?_
  refine jp_load (pc2 := 10) (n := 1) rfl rfl rfl rfl ?_
  refine jp_con (pc2 := 11) (v := (.int (nI 0))) rfl rfl rfl ?_
  refine jp_bin (pc2 := 12) (v := nI (a_1 + 0)) rfl rfl (congrArg some (nI_add _ _)) ?_
  refine jp_iald (pc2 := 13) rfl rfl e6 (vp_in_nI b7 c8) ?_
  rw [(nI_clamp (Nat.lt_trans b7 c8))]
  rw [e10]
  exact jp_icmp (pc2 := 16) rfl rfl (fun q => K1 ((nI_leI c12 c11).mp q)) (fun q => K2 (fun r => q ((nI_leI c12 c11).mpr r)))
theorem c118_16 {r_0 : Nat} {a_1 : Nat} {a_2 : Nat} {a_3 : Nat} {fs1 : List Value} {q_fs1_0 : Nat} {n4 : Nat} {f5 : Nat → Int32} {v9 : Nat} (e2 : h r_0 = some (.inr (9, fs1))) (e3 : fs1[0]? = some (.ref q_fs1_0)) (e6 : h q_fs1_0 = some (.inl (0, n4, .inl f5))) (b7 : (a_1 + 4) + a_3 < n4) (c8 : n4 < 2147483648) (e10 : f5 ((a_1 + 4) + a_3) = nI v9) (K : ip sc call 118 MC MS Q 4 [some (.ref r_0), some (.int (nI a_1)), some (.int (nI (a_2 + v9))), some (.int (nI (a_3 + 1)))] [] h z c s) : ip sc call 118 MC MS Q 16 [some (.ref r_0), some (.int (nI a_1)), some (.int (nI a_2)), some (.int (nI a_3))] [] h z c s := by
  refine jp_load (pc2 := 17) (n := 2) rfl rfl rfl rfl ?_
  refine jp_load (pc2 := 18) (n := 0) rfl rfl rfl rfl ?_
  refine jp_getf (pc2 := 21) rfl rfl e2 e3 ?_
  refine jp_load (pc2 := 22) (n := 1) rfl rfl rfl rfl ?_
  refine jp_con (pc2 := 23) (v := (.int (nI 4))) rfl rfl rfl ?_
  refine jp_bin (pc2 := 24) (v := nI (a_1 + 4)) rfl rfl (congrArg some (nI_add _ _)) ?_
  refine jp_load (pc2 := 25) (n := 3) rfl rfl rfl rfl ?_
  refine jp_bin (pc2 := 26) (v := nI ((a_1 + 4) + a_3)) rfl rfl (congrArg some (nI_add _ _)) ?_
  refine jp_iald (pc2 := 27) rfl rfl e6 (vp_in_nI b7 c8) ?_
  rw [(nI_clamp (Nat.lt_trans b7 c8))]
  rw [e10]
  refine jp_bin (pc2 := 28) (v := nI (a_2 + v9)) rfl rfl (congrArg some (nI_add _ _)) ?_
  refine jp_store (pc2 := 29) (n := 2) rfl rfl ⟨rfl, rfl⟩ rfl (Nat.le_of_ble_eq_true rfl) ?_
  refine jp_iinc (pc2 := 32) (n := 3) (v := nI (a_3 + 1)) rfl rfl rfl (nI_add _ 1) rfl ?_
  refine ip_goto rfl ?_
  exact K
theorem c118_35 {o_0 : Option Value} {o_1 : Option Value} {a_2 : Nat} {o_3 : Option Value} (q1 : Q (some (.int (nI a_2))) h z)  : ip sc call 118 MC MS Q 35 [o_0, o_1, some (.int (nI a_2)), o_3] [] h z c s := by
  refine jp_load (pc2 := 36) (n := 2) rfl rfl rfl rfl ?_
  exact ip_iret (st := []) rfl rfl rfl q1
theorem c119_0 {r_0 : Nat} {a_1 : Nat} {o_2 : Option Value} {o_3 : Option Value} {o_4 : Option Value}  (K : ip sc call 119 MC MS Q 2 [some (.ref r_0), some (.int (nI a_1)), some (.int (nI 0)), o_3, o_4] [] h z c s) : ip sc call 119 MC MS Q 0 [some (.ref r_0), some (.int (nI a_1)), o_2, o_3, o_4] [] h z c s := by
  refine jp_con (pc2 := 1) (v := (.int (nI 0))) rfl rfl rfl ?_
  refine jp_store (pc2 := 2) (n := 2) rfl rfl ⟨rfl, rfl⟩ rfl (Nat.le_of_ble_eq_true rfl) ?_
  exact K
theorem c119_2 {r_0 : Nat} {a_1 : Nat} {a_2 : Nat} {o_3 : Option Value} {o_4 : Option Value} {fs1 : List Value} {q_fs1_0 : Nat} {n4 : Nat} {f5 : Nat → Int32} {v9 : Nat} (e2 : h r_0 = some (.inr (9, fs1))) (e3 : fs1[0]? = some (.ref q_fs1_0)) (e6 : h q_fs1_0 = some (.inl (0, n4, .inl f5))) (b7 : a_1 + 0 < n4) (c8 : n4 < 2147483648) (e10 : f5 (a_1 + 0) = nI v9) (c11 : a_2 < 2147483648) (c12 : v9 < 2147483648) (K1 : v9 ≤ a_2 → ip sc call 119 MC MS Q 27 [some (.ref r_0), some (.int (nI a_1)), some (.int (nI a_2)), o_3, o_4] [] h z c s) (K2 : ¬ (v9 ≤ a_2) → ip sc call 119 MC MS Q 14 [some (.ref r_0), some (.int (nI a_1)), some (.int (nI a_2)), o_3, o_4] [] h z c s) : ip sc call 119 MC MS Q 2 [some (.ref r_0), some (.int (nI a_1)), some (.int (nI a_2)), o_3, o_4] [] h z c s := by
  refine jp_load (pc2 := 3) (n := 2) rfl rfl rfl rfl ?_
  refine jp_load (pc2 := 4) (n := 0) rfl rfl rfl rfl ?_
  refine jp_getf (pc2 := 7) rfl rfl e2 e3 ?_
  refine jp_load (pc2 := 8) (n := 1) rfl rfl rfl rfl ?_
  refine jp_con (pc2 := 9) (v := (.int (nI 0))) rfl rfl rfl ?_
  refine jp_bin (pc2 := 10) (v := nI (a_1 + 0)) rfl rfl (congrArg some (nI_add _ _)) ?_
  refine jp_iald (pc2 := 11) rfl rfl e6 (vp_in_nI b7 c8) ?_
  rw [(nI_clamp (Nat.lt_trans b7 c8))]
  rw [e10]
  exact jp_icmp (pc2 := 14) rfl rfl (fun q => K1 ((nI_leI c12 c11).mp q)) (fun q => K2 (fun r => q ((nI_leI c12 c11).mpr r)))
theorem c119_14 {r_0 : Nat} {a_1 : Nat} {a_2 : Nat} {o_3 : Option Value} {o_4 : Option Value} {fs1 : List Value} {q_fs1_12 : Nat} {n4 : Nat} {f5 : Nat → Int32} {g9 : Nat → Int32} (e2 : h r_0 = some (.inr (9, fs1))) (e3 : fs1[12]? = some (.ref q_fs1_12)) (e6 : h q_fs1_12 = some (.inl (0, n4, .inl f5))) (b7 : a_2 < n4) (c8 : n4 < 2147483648) (d10 : upd f5 a_2 (nI a_2) = g9) (K : ip sc call 119 MC MS Q 2 [some (.ref r_0), some (.int (nI a_1)), some (.int (nI (a_2 + 1))), o_3, o_4] [] (hup h q_fs1_12 (.inl (0, n4, .inl g9))) z c s) : ip sc call 119 MC MS Q 14 [some (.ref r_0), some (.int (nI a_1)), some (.int (nI a_2)), o_3, o_4] [] h z c s := by
  refine jp_load (pc2 := 15) (n := 0) rfl rfl rfl rfl ?_
  refine jp_getf (pc2 := 18) rfl rfl e2 e3 ?_
  refine jp_load (pc2 := 19) (n := 2) rfl rfl rfl rfl ?_
  refine jp_load (pc2 := 20) (n := 2) rfl rfl rfl rfl ?_
  refine jp_iast (pc2 := 21) rfl rfl e6 (vp_in_nI b7 c8) ?_
  rw [(nI_clamp (Nat.lt_trans b7 c8))]
  rw [d10]
  refine jp_iinc (pc2 := 24) (n := 2) (v := nI (a_2 + 1)) rfl rfl rfl (nI_add _ 1) rfl ?_
  refine ip_goto rfl ?_
  exact K
theorem c119_27 {r_0 : Nat} {a_1 : Nat} {o_2 : Option Value} {o_3 : Option Value} {o_4 : Option Value}  (K : ip sc call 119 MC MS Q 35 [some (.ref r_0), some (.int (nI a_1)), some (.int (nI (a_1 + 132))), some (.int (nI 0)), o_4] [] h z c s) : ip sc call 119 MC MS Q 27 [some (.ref r_0), some (.int (nI a_1)), o_2, o_3, o_4] [] h z c s := by
  refine jp_load (pc2 := 28) (n := 1) rfl rfl rfl rfl ?_
  refine jp_con (pc2 := 31) (v := (.int (nI 132))) rfl rfl rfl ?_
  refine jp_bin (pc2 := 32) (v := nI (a_1 + 132)) rfl rfl (congrArg some (nI_add _ _)) ?_
  refine jp_store (pc2 := 33) (n := 2) rfl rfl ⟨rfl, rfl⟩ rfl (Nat.le_of_ble_eq_true rfl) ?_
  refine jp_con (pc2 := 34) (v := (.int (nI 0))) rfl rfl rfl ?_
  refine jp_store (pc2 := 35) (n := 3) rfl rfl ⟨rfl, rfl⟩ rfl (Nat.le_of_ble_eq_true rfl) ?_
  exact K
theorem c119_35 {r_0 : Nat} {a_1 : Nat} {a_2 : Nat} {a_3 : Nat} {o_4 : Option Value} {fs1 : List Value} {q_fs1_0 : Nat} {n4 : Nat} {f5 : Nat → Int32} {v9 : Nat} (e2 : h r_0 = some (.inr (9, fs1))) (e3 : fs1[0]? = some (.ref q_fs1_0)) (e6 : h q_fs1_0 = some (.inl (0, n4, .inl f5))) (b7 : a_1 + 2 < n4) (c8 : n4 < 2147483648) (e10 : f5 (a_1 + 2) = nI v9) (c11 : a_3 < 2147483648) (c12 : v9 < 2147483648) (K1 : v9 ≤ a_3 → ip sc call 119 MC MS Q 112 [some (.ref r_0), some (.int (nI a_1)), some (.int (nI a_2)), some (.int (nI a_3)), o_4] [] h z c s) (K2 : ¬ (v9 ≤ a_3) → ip sc call 119 MC MS Q 47 [some (.ref r_0), some (.int (nI a_1)), some (.int (nI a_2)), some (.int (nI a_3)), o_4] [] h z c s) : ip sc call 119 MC MS Q 35 [some (.ref r_0), some (.int (nI a_1)), some (.int (nI a_2)), some (.int (nI a_3)), o_4] [] h z c s := by
  refine jp_load (pc2 := 36) (n := 3) rfl rfl rfl rfl ?_
  refine jp_load (pc2 := 37) (n := 0) rfl rfl rfl rfl ?_
  refine jp_getf (pc2 := 40) rfl rfl e2 e3 ?_
  refine jp_load (pc2 := 41) (n := 1) rfl rfl rfl rfl ?_
  refine jp_con (pc2 := 42) (v := (.int (nI 2))) rfl rfl rfl ?_
  refine jp_bin (pc2 := 43) (v := nI (a_1 + 2)) rfl rfl (congrArg some (nI_add _ _)) ?_
  refine jp_iald (pc2 := 44) rfl rfl e6 (vp_in_nI b7 c8) ?_
  rw [(nI_clamp (Nat.lt_trans b7 c8))]
  rw [e10]
  exact jp_icmp (pc2 := 47) rfl rfl (fun q => K1 ((nI_leI c12 c11).mp q)) (fun q => K2 (fun r => q ((nI_leI c12 c11).mpr r)))
theorem c119_47 {r_0 : Nat} {a_1 : Nat} {a_2 : Nat} {a_3 : Nat} {o_4 : Option Value}  (K : ip sc call 119 MC MS Q 50 [some (.ref r_0), some (.int (nI a_1)), some (.int (nI a_2)), some (.int (nI a_3)), some (.int (nI 1))] [] h z c s) : ip sc call 119 MC MS Q 47 [some (.ref r_0), some (.int (nI a_1)), some (.int (nI a_2)), some (.int (nI a_3)), o_4] [] h z c s := by
  refine jp_con (pc2 := 48) (v := (.int (nI 1))) rfl rfl rfl ?_
  refine jp_store (pc2 := 50) (n := 4) rfl rfl ⟨rfl, rfl⟩ rfl (Nat.le_of_ble_eq_true rfl) ?_
  exact K
theorem c119_50 {r_0 : Nat} {a_1 : Nat} {a_2 : Nat} {a_3 : Nat} {a_4 : Nat} {fs1 : List Value} {q_fs1_0 : Nat} {n4 : Nat} {f5 : Nat → Int32} {v9 : Nat} (e2 : h r_0 = some (.inr (9, fs1))) (e3 : fs1[0]? = some (.ref q_fs1_0)) (e6 : h q_fs1_0 = some (.inl (0, n4, .inl f5))) (b7 : (a_1 + 68) + a_3 < n4) (c8 : n4 < 2147483648) (e10 : f5 ((a_1 + 68) + a_3) = nI v9) (c11 : a_4 < 2147483648) (c12 : v9 < 2147483648) (K1 : v9 ≤ a_4 → ip sc call 119 MC MS Q 92 [some (.ref r_0), some (.int (nI a_1)), some (.int (nI a_2)), some (.int (nI a_3)), some (.int (nI a_4))] [] h z c s) (K2 : ¬ (v9 ≤ a_4) → ip sc call 119 MC MS Q 66 [some (.ref r_0), some (.int (nI a_1)), some (.int (nI a_2)), some (.int (nI a_3)), some (.int (nI a_4))] [] h z c s) : ip sc call 119 MC MS Q 50 [some (.ref r_0), some (.int (nI a_1)), some (.int (nI a_2)), some (.int (nI a_3)), some (.int (nI a_4))] [] h z c s := by
  refine jp_load (pc2 := 52) (n := 4) rfl rfl rfl rfl ?_
  refine jp_load (pc2 := 53) (n := 0) rfl rfl rfl rfl ?_
  refine jp_getf (pc2 := 56) rfl rfl e2 e3 ?_
  refine jp_load (pc2 := 57) (n := 1) rfl rfl rfl rfl ?_
  refine jp_con (pc2 := 59) (v := (.int (nI 68))) rfl rfl rfl ?_
  refine jp_bin (pc2 := 60) (v := nI (a_1 + 68)) rfl rfl (congrArg some (nI_add _ _)) ?_
  refine jp_load (pc2 := 61) (n := 3) rfl rfl rfl rfl ?_
  refine jp_bin (pc2 := 62) (v := nI ((a_1 + 68) + a_3)) rfl rfl (congrArg some (nI_add _ _)) ?_
  refine jp_iald (pc2 := 63) rfl rfl e6 (vp_in_nI b7 c8) ?_
  rw [(nI_clamp (Nat.lt_trans b7 c8))]
  rw [e10]
  exact jp_icmp (pc2 := 66) rfl rfl (fun q => K1 ((nI_leI c12 c11).mp q)) (fun q => K2 (fun r => q ((nI_leI c12 c11).mpr r)))
theorem c119_66 {r_0 : Nat} {a_1 : Nat} {a_2 : Nat} {a_3 : Nat} {a_4 : Nat} {fs1 : List Value} {q_fs1_0 : Nat} {n4 : Nat} {f5 : Nat → Int32} {v9 : Nat} {v12 : Nat} {P : ipQ} (e2 : h r_0 = some (.inr (9, fs1))) (e3 : fs1[0]? = some (.ref q_fs1_0)) (e6 : h q_fs1_0 = some (.inl (0, n4, .inl f5))) (b7 : a_2 < n4) (c8 : n4 < 2147483648) (e10 : f5 a_2 = nI v9) (b11 : a_2 + a_4 < n4) (e13 : f5 (a_2 + a_4) = nI v12) (m14 : c ≤ MC) (m15 : s ≤ MS) (hc : call 120 [(.ref r_0), (.int (nI a_1)), (.int (nI v9)), (.int (nI v12))] h z 0 0 P) (K : ∀ (o : Option Value) (h2 : HP) (z2 : Nat), P o h2 z2 → ip sc call 119 MC MS Q 86 [some (.ref r_0), some (.int (nI a_1)), some (.int (nI a_2)), some (.int (nI a_3)), some (.int (nI a_4))] (o.toList ++ []) h2 z2 c s) : ip sc call 119 MC MS Q 66 [some (.ref r_0), some (.int (nI a_1)), some (.int (nI a_2)), some (.int (nI a_3)), some (.int (nI a_4))] [] h z c s := by
  refine jp_load (pc2 := 67) (n := 0) rfl rfl rfl rfl ?_
  refine jp_load (pc2 := 68) (n := 1) rfl rfl rfl rfl ?_
  refine jp_load (pc2 := 69) (n := 0) rfl rfl rfl rfl ?_
  refine jp_getf (pc2 := 72) rfl rfl e2 e3 ?_
  refine jp_load (pc2 := 73) (n := 2) rfl rfl rfl rfl ?_
  refine jp_iald (pc2 := 74) rfl rfl e6 (vp_in_nI b7 c8) ?_
  rw [(nI_clamp (Nat.lt_trans b7 c8))]
  rw [e10]
  refine jp_load (pc2 := 75) (n := 0) rfl rfl rfl rfl ?_
  refine jp_getf (pc2 := 78) rfl rfl e2 e3 ?_
  refine jp_load (pc2 := 79) (n := 2) rfl rfl rfl rfl ?_
  refine jp_load (pc2 := 81) (n := 4) rfl rfl rfl rfl ?_
  refine jp_bin (pc2 := 82) (v := nI (a_2 + a_4)) rfl rfl (congrArg some (nI_add _ _)) ?_
  refine jp_iald (pc2 := 83) rfl rfl e6 (vp_in_nI b11 c8) ?_
  rw [(nI_clamp (Nat.lt_trans b11 c8))]
  rw [e13]
  exact jp_virt0 (pc2 := 86) (As := [(.int (nI a_1)), (.int (nI v9)), (.int (nI v12))]) (rest := []) rfl rfl rfl (Nat.le_of_ble_eq_true rfl) e2 m14 m15 hc rfl K
theorem c119_86 {r_0 : Nat} {a_1 : Nat} {a_2 : Nat} {a_3 : Nat} {a_4 : Nat}  (K : ip sc call 119 MC MS Q 50 [some (.ref r_0), some (.int (nI a_1)), some (.int (nI a_2)), some (.int (nI a_3)), some (.int (nI (a_4 + 1)))] [] h z c s) : ip sc call 119 MC MS Q 86 [some (.ref r_0), some (.int (nI a_1)), some (.int (nI a_2)), some (.int (nI a_3)), some (.int (nI a_4))] [] h z c s := by
  refine jp_iinc (pc2 := 89) (n := 4) (v := nI (a_4 + 1)) rfl rfl rfl (nI_add _ 1) rfl ?_
  refine ip_goto rfl ?_
  exact K
theorem c119_92 {r_0 : Nat} {a_1 : Nat} {a_2 : Nat} {a_3 : Nat} {o_4 : Option Value} {fs1 : List Value} {q_fs1_0 : Nat} {n4 : Nat} {f5 : Nat → Int32} {v9 : Nat} (e2 : h r_0 = some (.inr (9, fs1))) (e3 : fs1[0]? = some (.ref q_fs1_0)) (e6 : h q_fs1_0 = some (.inl (0, n4, .inl f5))) (b7 : (a_1 + 68) + a_3 < n4) (c8 : n4 < 2147483648) (e10 : f5 ((a_1 + 68) + a_3) = nI v9) (K : ip sc call 119 MC MS Q 35 [some (.ref r_0), some (.int (nI a_1)), some (.int (nI (a_2 + v9))), some (.int (nI (a_3 + 1))), o_4] [] h z c s) : ip sc call 119 MC MS Q 92 [some (.ref r_0), some (.int (nI a_1)), some (.int (nI a_2)), some (.int (nI a_3)), o_4] [] h z c s := by
  refine jp_load (pc2 := 93) (n := 2) rfl rfl rfl rfl ?_
  refine jp_load (pc2 := 94) (n := 0) rfl rfl rfl rfl ?_
  refine jp_getf (pc2 := 97) rfl rfl e2 e3 ?_
  refine jp_load (pc2 := 98) (n := 1) rfl rfl rfl rfl ?_
  refine jp_con (pc2 := 100) (v := (.int (nI 68))) rfl rfl rfl ?_
  refine jp_bin (pc2 := 101) (v := nI (a_1 + 68)) rfl rfl (congrArg some (nI_add _ _)) ?_
  refine jp_load (pc2 := 102) (n := 3) rfl rfl rfl rfl ?_
  refine jp_bin (pc2 := 103) (v := nI ((a_1 + 68) + a_3)) rfl rfl (congrArg some (nI_add _ _)) ?_
  refine jp_iald (pc2 := 104) rfl rfl e6 (vp_in_nI b7 c8) ?_
  rw [(nI_clamp (Nat.lt_trans b7 c8))]
  rw [e10]
  refine jp_bin (pc2 := 105) (v := nI (a_2 + v9)) rfl rfl (congrArg some (nI_add _ _)) ?_
  refine jp_store (pc2 := 106) (n := 2) rfl rfl ⟨rfl, rfl⟩ rfl (Nat.le_of_ble_eq_true rfl) ?_
  refine jp_iinc (pc2 := 109) (n := 3) (v := nI (a_3 + 1)) rfl rfl rfl (nI_add _ 1) rfl ?_
  refine ip_goto rfl ?_
  exact K
theorem c119_112 {r_0 : Nat} {a_1 : Nat} {o_2 : Option Value} {o_3 : Option Value} {o_4 : Option Value} (k1 : ip2 o_2 = false) (K : ip sc call 119 MC MS Q 117 [some (.ref r_0), some (.int (nI a_1)), o_2, some (.int (nI 0)), some (.int (nI 0))] [] h z c s) : ip sc call 119 MC MS Q 112 [some (.ref r_0), some (.int (nI a_1)), o_2, o_3, o_4] [] h z c s := by
  refine jp_con (pc2 := 113) (v := (.int (nI 0))) rfl rfl rfl ?_
  refine jp_store (pc2 := 114) (n := 3) rfl rfl ⟨rfl, rfl⟩ k1 (Nat.le_of_ble_eq_true rfl) ?_
  refine jp_con (pc2 := 115) (v := (.int (nI 0))) rfl rfl rfl ?_
  refine jp_store (pc2 := 117) (n := 4) rfl rfl ⟨rfl, rfl⟩ rfl (Nat.le_of_ble_eq_true rfl) ?_
  exact K
theorem c119_117 {r_0 : Nat} {a_1 : Nat} {o_2 : Option Value} {a_3 : Nat} {a_4 : Nat} {fs1 : List Value} {q_fs1_0 : Nat} {n4 : Nat} {f5 : Nat → Int32} {v9 : Nat} (e2 : h r_0 = some (.inr (9, fs1))) (e3 : fs1[0]? = some (.ref q_fs1_0)) (e6 : h q_fs1_0 = some (.inl (0, n4, .inl f5))) (b7 : a_1 + 0 < n4) (c8 : n4 < 2147483648) (e10 : f5 (a_1 + 0) = nI v9) (c11 : a_4 < 2147483648) (c12 : v9 < 2147483648) (K1 : v9 ≤ a_4 → ip sc call 119 MC MS Q 156 [some (.ref r_0), some (.int (nI a_1)), o_2, some (.int (nI a_3)), some (.int (nI a_4))] [] h z c s) (K2 : ¬ (v9 ≤ a_4) → ip sc call 119 MC MS Q 130 [some (.ref r_0), some (.int (nI a_1)), o_2, some (.int (nI a_3)), some (.int (nI a_4))] [] h z c s) : ip sc call 119 MC MS Q 117 [some (.ref r_0), some (.int (nI a_1)), o_2, some (.int (nI a_3)), some (.int (nI a_4))] [] h z c s := by
  refine jp_load (pc2 := 119) (n := 4) rfl rfl rfl rfl ?_
  refine jp_load (pc2 := 120) (n := 0) rfl rfl rfl rfl ?_
  refine jp_getf (pc2 := 123) rfl rfl e2 e3 ?_
  refine jp_load (pc2 := 124) (n := 1) rfl rfl rfl rfl ?_
  refine jp_con (pc2 := 125) (v := (.int (nI 0))) rfl rfl rfl ?_
  refine jp_bin (pc2 := 126) (v := nI (a_1 + 0)) rfl rfl (congrArg some (nI_add _ _)) ?_
  refine jp_iald (pc2 := 127) rfl rfl e6 (vp_in_nI b7 c8) ?_
  rw [(nI_clamp (Nat.lt_trans b7 c8))]
  rw [e10]
  exact jp_icmp (pc2 := 130) rfl rfl (fun q => K1 ((nI_leI c12 c11).mp q)) (fun q => K2 (fun r => q ((nI_leI c12 c11).mpr r)))
theorem c119_130 {r_0 : Nat} {a_1 : Nat} {o_2 : Option Value} {a_3 : Nat} {a_4 : Nat} {fs1 : List Value} {q_fs1_12 : Nat} {n4 : Nat} {f5 : Nat → Int32} {v9 : Nat} (e2 : h r_0 = some (.inr (9, fs1))) (e3 : fs1[12]? = some (.ref q_fs1_12)) (e6 : h q_fs1_12 = some (.inl (0, n4, .inl f5))) (b7 : a_4 < n4) (c8 : n4 < 2147483648) (e10 : f5 a_4 = nI v9) (c11 : v9 < 2147483648) (c12 : a_4 < 2147483648) (K1 : ¬ v9 = a_4 → ip sc call 119 MC MS Q 147 [some (.ref r_0), some (.int (nI a_1)), o_2, some (.int (nI a_3)), some (.int (nI a_4))] [(.int (nI a_3))] h z c s) (K2 : ¬ (¬ v9 = a_4) → ip sc call 119 MC MS Q 143 [some (.ref r_0), some (.int (nI a_1)), o_2, some (.int (nI a_3)), some (.int (nI a_4))] [(.int (nI a_3))] h z c s) : ip sc call 119 MC MS Q 130 [some (.ref r_0), some (.int (nI a_1)), o_2, some (.int (nI a_3)), some (.int (nI a_4))] [] h z c s := by
  refine jp_load (pc2 := 131) (n := 3) rfl rfl rfl rfl ?_
  refine jp_load (pc2 := 132) (n := 0) rfl rfl rfl rfl ?_
  refine jp_getf (pc2 := 135) rfl rfl e2 e3 ?_
  refine jp_load (pc2 := 137) (n := 4) rfl rfl rfl rfl ?_
  refine jp_iald (pc2 := 138) rfl rfl e6 (vp_in_nI b7 c8) ?_
  rw [(nI_clamp (Nat.lt_trans b7 c8))]
  rw [e10]
  refine jp_load (pc2 := 140) (n := 4) rfl rfl rfl rfl ?_
  exact jp_icmp (pc2 := 143) rfl rfl (fun q => K1 ((not_congr (nI_eq c11 c12)).mp q)) (fun q => K2 (fun r => q ((not_congr (nI_eq c11 c12)).mpr r)))
theorem c119_143 {r_0 : Nat} {a_1 : Nat} {o_2 : Option Value} {o_3 : Option Value} {a_4 : Nat} {sa_0 : Nat}  (K : ip sc call 119 MC MS Q 148 [some (.ref r_0), some (.int (nI a_1)), o_2, o_3, some (.int (nI a_4))] [(.int (nI 1)), (.int (nI sa_0))] h z c s) : ip sc call 119 MC MS Q 143 [some (.ref r_0), some (.int (nI a_1)), o_2, o_3, some (.int (nI a_4))] [(.int (nI sa_0))] h z c s := by
  refine jp_con (pc2 := 144) (v := (.int (nI 1))) rfl rfl rfl ?_
  refine ip_goto rfl ?_
  exact K
theorem c119_147 {r_0 : Nat} {a_1 : Nat} {o_2 : Option Value} {o_3 : Option Value} {a_4 : Nat} {sa_0 : Nat}  (K : ip sc call 119 MC MS Q 148 [some (.ref r_0), some (.int (nI a_1)), o_2, o_3, some (.int (nI a_4))] [(.int (nI 0)), (.int (nI sa_0))] h z c s) : ip sc call 119 MC MS Q 147 [some (.ref r_0), some (.int (nI a_1)), o_2, o_3, some (.int (nI a_4))] [(.int (nI sa_0))] h z c s := by
  refine jp_con (pc2 := 148) (v := (.int (nI 0))) rfl rfl rfl ?_
  exact K
theorem c119_148 {r_0 : Nat} {a_1 : Nat} {o_2 : Option Value} {o_3 : Option Value} {a_4 : Nat} {sa_0 : Nat} {sa_1 : Nat} (k1 : ip2 o_2 = false) (K : ip sc call 119 MC MS Q 117 [some (.ref r_0), some (.int (nI a_1)), o_2, some (.int (nI (sa_0 + sa_1))), some (.int (nI (a_4 + 1)))] [] h z c s) : ip sc call 119 MC MS Q 148 [some (.ref r_0), some (.int (nI a_1)), o_2, o_3, some (.int (nI a_4))] [(.int (nI sa_1)), (.int (nI sa_0))] h z c s := by
  refine jp_bin (pc2 := 149) (v := nI (sa_0 + sa_1)) rfl rfl (congrArg some (nI_add _ _)) ?_
  refine jp_store (pc2 := 150) (n := 3) rfl rfl ⟨rfl, rfl⟩ k1 (Nat.le_of_ble_eq_true rfl) ?_
  refine jp_iinc (pc2 := 153) (n := 4) (v := nI (a_4 + 1)) rfl rfl rfl (nI_add _ 1) rfl ?_
  refine ip_goto rfl ?_
  exact K
theorem c119_156 {o_0 : Option Value} {o_1 : Option Value} {o_2 : Option Value} {a_3 : Nat} {o_4 : Option Value} (q1 : Q (some (.int (nI a_3))) h z)  : ip sc call 119 MC MS Q 156 [o_0, o_1, o_2, some (.int (nI a_3)), o_4] [] h z c s := by
  refine jp_load (pc2 := 157) (n := 3) rfl rfl rfl rfl ?_
  exact ip_iret (st := []) rfl rfl rfl q1
theorem c120_0 {r_0 : Nat} {a_1 : Nat} {a_2 : Nat} {a_3 : Nat} {o_4 : Option Value} {o_5 : Option Value} {o_6 : Option Value} {fs1 : List Value} {q_fs1_12 : Nat} {n4 : Nat} {f5 : Nat → Int32} {v9 : Nat} {v12 : Nat} (e2 : h r_0 = some (.inr (9, fs1))) (e3 : fs1[12]? = some (.ref q_fs1_12)) (e6 : h q_fs1_12 = some (.inl (0, n4, .inl f5))) (b7 : a_2 < n4) (c8 : n4 < 2147483648) (e10 : f5 a_2 = nI v9) (b11 : a_3 < n4) (e13 : f5 a_3 = nI v12) (c14 : v9 < 2147483648) (c15 : v12 < 2147483648) (K1 : v12 ≤ v9 → ip sc call 120 MC MS Q 24 [some (.ref r_0), some (.int (nI a_1)), some (.int (nI a_2)), some (.int (nI a_3)), o_4, o_5, o_6] [] h z c s) (K2 : ¬ (v12 ≤ v9) → ip sc call 120 MC MS Q 15 [some (.ref r_0), some (.int (nI a_1)), some (.int (nI a_2)), some (.int (nI a_3)), o_4, o_5, o_6] [] h z c s) : ip sc call 120 MC MS Q 0 [some (.ref r_0), some (.int (nI a_1)), some (.int (nI a_2)), some (.int (nI a_3)), o_4, o_5, o_6] [] h z c s := by
  refine jp_load (pc2 := 1) (n := 0) rfl rfl rfl rfl ?_
  refine jp_getf (pc2 := 4) rfl rfl e2 e3 ?_
  refine jp_load (pc2 := 5) (n := 2) rfl rfl rfl rfl ?_
  refine jp_iald (pc2 := 6) rfl rfl e6 (vp_in_nI b7 c8) ?_
  rw [(nI_clamp (Nat.lt_trans b7 c8))]
  rw [e10]
  refine jp_load (pc2 := 7) (n := 0) rfl rfl rfl rfl ?_
  refine jp_getf (pc2 := 10) rfl rfl e2 e3 ?_
  refine jp_load (pc2 := 11) (n := 3) rfl rfl rfl rfl ?_
  refine jp_iald (pc2 := 12) rfl rfl e6 (vp_in_nI b11 c8) ?_
  rw [(nI_clamp (Nat.lt_trans b11 c8))]
  rw [e13]
  exact jp_icmp (pc2 := 15) rfl rfl (fun q => K1 ((nI_leI c15 c14).mp q)) (fun q => K2 (fun r => q ((nI_leI c15 c14).mpr r)))
theorem c120_15 {r_0 : Nat} {a_1 : Nat} {a_2 : Nat} {a_3 : Nat} {o_4 : Option Value} {o_5 : Option Value} {o_6 : Option Value} {fs1 : List Value} {q_fs1_12 : Nat} {n4 : Nat} {f5 : Nat → Int32} {v9 : Nat} (e2 : h r_0 = some (.inr (9, fs1))) (e3 : fs1[12]? = some (.ref q_fs1_12)) (e6 : h q_fs1_12 = some (.inl (0, n4, .inl f5))) (b7 : a_2 < n4) (c8 : n4 < 2147483648) (e10 : f5 a_2 = nI v9) (K : ip sc call 120 MC MS Q 30 [some (.ref r_0), some (.int (nI a_1)), some (.int (nI a_2)), some (.int (nI a_3)), o_4, o_5, o_6] [(.int (nI v9))] h z c s) : ip sc call 120 MC MS Q 15 [some (.ref r_0), some (.int (nI a_1)), some (.int (nI a_2)), some (.int (nI a_3)), o_4, o_5, o_6] [] h z c s := by
  refine jp_load (pc2 := 16) (n := 0) rfl rfl rfl rfl ?_
  refine jp_getf (pc2 := 19) rfl rfl e2 e3 ?_
  refine jp_load (pc2 := 20) (n := 2) rfl rfl rfl rfl ?_
  refine jp_iald (pc2 := 21) rfl rfl e6 (vp_in_nI b7 c8) ?_
  rw [(nI_clamp (Nat.lt_trans b7 c8))]
  rw [e10]
  refine ip_goto rfl ?_
  exact K
theorem c120_24 {r_0 : Nat} {a_1 : Nat} {a_2 : Nat} {a_3 : Nat} {o_4 : Option Value} {o_5 : Option Value} {o_6 : Option Value} {fs1 : List Value} {q_fs1_12 : Nat} {n4 : Nat} {f5 : Nat → Int32} {v9 : Nat} (e2 : h r_0 = some (.inr (9, fs1))) (e3 : fs1[12]? = some (.ref q_fs1_12)) (e6 : h q_fs1_12 = some (.inl (0, n4, .inl f5))) (b7 : a_3 < n4) (c8 : n4 < 2147483648) (e10 : f5 a_3 = nI v9) (K : ip sc call 120 MC MS Q 30 [some (.ref r_0), some (.int (nI a_1)), some (.int (nI a_2)), some (.int (nI a_3)), o_4, o_5, o_6] [(.int (nI v9))] h z c s) : ip sc call 120 MC MS Q 24 [some (.ref r_0), some (.int (nI a_1)), some (.int (nI a_2)), some (.int (nI a_3)), o_4, o_5, o_6] [] h z c s := by
  refine jp_load (pc2 := 25) (n := 0) rfl rfl rfl rfl ?_
  refine jp_getf (pc2 := 28) rfl rfl e2 e3 ?_
  refine jp_load (pc2 := 29) (n := 3) rfl rfl rfl rfl ?_
  refine jp_iald (pc2 := 30) rfl rfl e6 (vp_in_nI b7 c8) ?_
  rw [(nI_clamp (Nat.lt_trans b7 c8))]
  rw [e10]
  exact K
theorem c120_30 {r_0 : Nat} {a_1 : Nat} {a_2 : Nat} {a_3 : Nat} {o_4 : Option Value} {o_5 : Option Value} {o_6 : Option Value} {sa_0 : Nat} {fs1 : List Value} {q_fs1_12 : Nat} {n4 : Nat} {f5 : Nat → Int32} {v9 : Nat} {v12 : Nat} (e2 : h r_0 = some (.inr (9, fs1))) (e3 : fs1[12]? = some (.ref q_fs1_12)) (e6 : h q_fs1_12 = some (.inl (0, n4, .inl f5))) (b7 : a_2 < n4) (c8 : n4 < 2147483648) (e10 : f5 a_2 = nI v9) (b11 : a_3 < n4) (e13 : f5 a_3 = nI v12) (c14 : v9 < 2147483648) (c15 : v12 < 2147483648) (K1 : v12 ≤ v9 → ip sc call 120 MC MS Q 56 [some (.ref r_0), some (.int (nI a_1)), some (.int (nI a_2)), some (.int (nI a_3)), some (.int (nI sa_0)), o_5, o_6] [] h z c s) (K2 : ¬ (v12 ≤ v9) → ip sc call 120 MC MS Q 47 [some (.ref r_0), some (.int (nI a_1)), some (.int (nI a_2)), some (.int (nI a_3)), some (.int (nI sa_0)), o_5, o_6] [] h z c s) : ip sc call 120 MC MS Q 30 [some (.ref r_0), some (.int (nI a_1)), some (.int (nI a_2)), some (.int (nI a_3)), o_4, o_5, o_6] [(.int (nI sa_0))] h z c s := by
  refine jp_store (pc2 := 32) (n := 4) rfl rfl ⟨rfl, rfl⟩ rfl (Nat.le_of_ble_eq_true rfl) ?_
  refine jp_load (pc2 := 33) (n := 0) rfl rfl rfl rfl ?_
  refine jp_getf (pc2 := 36) rfl rfl e2 e3 ?_
  refine jp_load (pc2 := 37) (n := 2) rfl rfl rfl rfl ?_
  refine jp_iald (pc2 := 38) rfl rfl e6 (vp_in_nI b7 c8) ?_
  rw [(nI_clamp (Nat.lt_trans b7 c8))]
  rw [e10]
  refine jp_load (pc2 := 39) (n := 0) rfl rfl rfl rfl ?_
  refine jp_getf (pc2 := 42) rfl rfl e2 e3 ?_
  refine jp_load (pc2 := 43) (n := 3) rfl rfl rfl rfl ?_
  refine jp_iald (pc2 := 44) rfl rfl e6 (vp_in_nI b11 c8) ?_
  rw [(nI_clamp (Nat.lt_trans b11 c8))]
  rw [e13]
  exact jp_icmp (pc2 := 47) rfl rfl (fun q => K1 ((nI_leI c15 c14).mp q)) (fun q => K2 (fun r => q ((nI_leI c15 c14).mpr r)))
theorem c120_47 {r_0 : Nat} {a_1 : Nat} {o_2 : Option Value} {a_3 : Nat} {a_4 : Nat} {o_5 : Option Value} {o_6 : Option Value} {fs1 : List Value} {q_fs1_12 : Nat} {n4 : Nat} {f5 : Nat → Int32} {v9 : Nat} (e2 : h r_0 = some (.inr (9, fs1))) (e3 : fs1[12]? = some (.ref q_fs1_12)) (e6 : h q_fs1_12 = some (.inl (0, n4, .inl f5))) (b7 : a_3 < n4) (c8 : n4 < 2147483648) (e10 : f5 a_3 = nI v9) (K : ip sc call 120 MC MS Q 62 [some (.ref r_0), some (.int (nI a_1)), o_2, some (.int (nI a_3)), some (.int (nI a_4)), o_5, o_6] [(.int (nI v9))] h z c s) : ip sc call 120 MC MS Q 47 [some (.ref r_0), some (.int (nI a_1)), o_2, some (.int (nI a_3)), some (.int (nI a_4)), o_5, o_6] [] h z c s := by
  refine jp_load (pc2 := 48) (n := 0) rfl rfl rfl rfl ?_
  refine jp_getf (pc2 := 51) rfl rfl e2 e3 ?_
  refine jp_load (pc2 := 52) (n := 3) rfl rfl rfl rfl ?_
  refine jp_iald (pc2 := 53) rfl rfl e6 (vp_in_nI b7 c8) ?_
  rw [(nI_clamp (Nat.lt_trans b7 c8))]
  rw [e10]
  refine ip_goto rfl ?_
  exact K
theorem c120_56 {r_0 : Nat} {a_1 : Nat} {a_2 : Nat} {o_3 : Option Value} {a_4 : Nat} {o_5 : Option Value} {o_6 : Option Value} {fs1 : List Value} {q_fs1_12 : Nat} {n4 : Nat} {f5 : Nat → Int32} {v9 : Nat} (e2 : h r_0 = some (.inr (9, fs1))) (e3 : fs1[12]? = some (.ref q_fs1_12)) (e6 : h q_fs1_12 = some (.inl (0, n4, .inl f5))) (b7 : a_2 < n4) (c8 : n4 < 2147483648) (e10 : f5 a_2 = nI v9) (K : ip sc call 120 MC MS Q 62 [some (.ref r_0), some (.int (nI a_1)), some (.int (nI a_2)), o_3, some (.int (nI a_4)), o_5, o_6] [(.int (nI v9))] h z c s) : ip sc call 120 MC MS Q 56 [some (.ref r_0), some (.int (nI a_1)), some (.int (nI a_2)), o_3, some (.int (nI a_4)), o_5, o_6] [] h z c s := by
  refine jp_load (pc2 := 57) (n := 0) rfl rfl rfl rfl ?_
  refine jp_getf (pc2 := 60) rfl rfl e2 e3 ?_
  refine jp_load (pc2 := 61) (n := 2) rfl rfl rfl rfl ?_
  refine jp_iald (pc2 := 62) rfl rfl e6 (vp_in_nI b7 c8) ?_
  rw [(nI_clamp (Nat.lt_trans b7 c8))]
  rw [e10]
  exact K
theorem c120_62 {r_0 : Nat} {a_1 : Nat} {o_2 : Option Value} {o_3 : Option Value} {a_4 : Nat} {o_5 : Option Value} {o_6 : Option Value} {sa_0 : Nat}  (K : ip sc call 120 MC MS Q 67 [some (.ref r_0), some (.int (nI a_1)), o_2, o_3, some (.int (nI a_4)), some (.int (nI sa_0)), some (.int (nI 0))] [] h z c s) : ip sc call 120 MC MS Q 62 [some (.ref r_0), some (.int (nI a_1)), o_2, o_3, some (.int (nI a_4)), o_5, o_6] [(.int (nI sa_0))] h z c s := by
  refine jp_store (pc2 := 64) (n := 5) rfl rfl ⟨rfl, rfl⟩ rfl (Nat.le_of_ble_eq_true rfl) ?_
  refine jp_con (pc2 := 65) (v := (.int (nI 0))) rfl rfl rfl ?_
  refine jp_store (pc2 := 67) (n := 6) rfl rfl ⟨rfl, rfl⟩ rfl (Nat.le_of_ble_eq_true rfl) ?_
  exact K
theorem c120_67 {r_0 : Nat} {a_1 : Nat} {o_2 : Option Value} {o_3 : Option Value} {a_4 : Nat} {a_5 : Nat} {a_6 : Nat} {fs1 : List Value} {q_fs1_0 : Nat} {n4 : Nat} {f5 : Nat → Int32} {v9 : Nat} (e2 : h r_0 = some (.inr (9, fs1))) (e3 : fs1[0]? = some (.ref q_fs1_0)) (e6 : h q_fs1_0 = some (.inl (0, n4, .inl f5))) (b7 : a_1 + 0 < n4) (c8 : n4 < 2147483648) (e10 : f5 (a_1 + 0) = nI v9) (c11 : a_6 < 2147483648) (c12 : v9 < 2147483648) (K1 : v9 ≤ a_6 → ip sc call 120 MC MS Q 107 [some (.ref r_0), some (.int (nI a_1)), o_2, o_3, some (.int (nI a_4)), some (.int (nI a_5)), some (.int (nI a_6))] [] h z c s) (K2 : ¬ (v9 ≤ a_6) → ip sc call 120 MC MS Q 80 [some (.ref r_0), some (.int (nI a_1)), o_2, o_3, some (.int (nI a_4)), some (.int (nI a_5)), some (.int (nI a_6))] [] h z c s) : ip sc call 120 MC MS Q 67 [some (.ref r_0), some (.int (nI a_1)), o_2, o_3, some (.int (nI a_4)), some (.int (nI a_5)), some (.int (nI a_6))] [] h z c s := by
  refine jp_load (pc2 := 69) (n := 6) rfl rfl rfl rfl ?_
  refine jp_load (pc2 := 70) (n := 0) rfl rfl rfl rfl ?_
  refine jp_getf (pc2 := 73) rfl rfl e2 e3 ?_
  refine jp_load (pc2 := 74) (n := 1) rfl rfl rfl rfl ?_
  refine jp_con (pc2 := 75) (v := (.int (nI 0))) rfl rfl rfl ?_
  refine jp_bin (pc2 := 76) (v := nI (a_1 + 0)) rfl rfl (congrArg some (nI_add _ _)) ?_
  refine jp_iald (pc2 := 77) rfl rfl e6 (vp_in_nI b7 c8) ?_
  rw [(nI_clamp (Nat.lt_trans b7 c8))]
  rw [e10]
  exact jp_icmp (pc2 := 80) rfl rfl (fun q => K1 ((nI_leI c12 c11).mp q)) (fun q => K2 (fun r => q ((nI_leI c12 c11).mpr r)))
theorem c120_80 {r_0 : Nat} {a_1 : Nat} {o_2 : Option Value} {o_3 : Option Value} {a_4 : Nat} {a_5 : Nat} {a_6 : Nat} {fs1 : List Value} {q_fs1_12 : Nat} {n4 : Nat} {f5 : Nat → Int32} {v9 : Nat} (e2 : h r_0 = some (.inr (9, fs1))) (e3 : fs1[12]? = some (.ref q_fs1_12)) (e6 : h q_fs1_12 = some (.inl (0, n4, .inl f5))) (b7 : a_6 < n4) (c8 : n4 < 2147483648) (e10 : f5 a_6 = nI v9) (c11 : v9 < 2147483648) (c12 : a_5 < 2147483648) (K1 : ¬ v9 = a_5 → ip sc call 120 MC MS Q 101 [some (.ref r_0), some (.int (nI a_1)), o_2, o_3, some (.int (nI a_4)), some (.int (nI a_5)), some (.int (nI a_6))] [] h z c s) (K2 : ¬ (¬ v9 = a_5) → ip sc call 120 MC MS Q 92 [some (.ref r_0), some (.int (nI a_1)), o_2, o_3, some (.int (nI a_4)), some (.int (nI a_5)), some (.int (nI a_6))] [] h z c s) : ip sc call 120 MC MS Q 80 [some (.ref r_0), some (.int (nI a_1)), o_2, o_3, some (.int (nI a_4)), some (.int (nI a_5)), some (.int (nI a_6))] [] h z c s := by
  refine jp_load (pc2 := 81) (n := 0) rfl rfl rfl rfl ?_
  refine jp_getf (pc2 := 84) rfl rfl e2 e3 ?_
  refine jp_load (pc2 := 86) (n := 6) rfl rfl rfl rfl ?_
  refine jp_iald (pc2 := 87) rfl rfl e6 (vp_in_nI b7 c8) ?_
  rw [(nI_clamp (Nat.lt_trans b7 c8))]
  rw [e10]
  refine jp_load (pc2 := 89) (n := 5) rfl rfl rfl rfl ?_
  exact jp_icmp (pc2 := 92) rfl rfl (fun q => K1 ((not_congr (nI_eq c11 c12)).mp q)) (fun q => K2 (fun r => q ((not_congr (nI_eq c11 c12)).mpr r)))
theorem c120_92 {r_0 : Nat} {a_1 : Nat} {o_2 : Option Value} {o_3 : Option Value} {a_4 : Nat} {a_5 : Nat} {a_6 : Nat} {fs1 : List Value} {q_fs1_12 : Nat} {n4 : Nat} {f5 : Nat → Int32} {g9 : Nat → Int32} (e2 : h r_0 = some (.inr (9, fs1))) (e3 : fs1[12]? = some (.ref q_fs1_12)) (e6 : h q_fs1_12 = some (.inl (0, n4, .inl f5))) (b7 : a_6 < n4) (c8 : n4 < 2147483648) (d10 : upd f5 a_6 (nI a_4) = g9) (K : ip sc call 120 MC MS Q 101 [some (.ref r_0), some (.int (nI a_1)), o_2, o_3, some (.int (nI a_4)), some (.int (nI a_5)), some (.int (nI a_6))] [] (hup h q_fs1_12 (.inl (0, n4, .inl g9))) z c s) : ip sc call 120 MC MS Q 92 [some (.ref r_0), some (.int (nI a_1)), o_2, o_3, some (.int (nI a_4)), some (.int (nI a_5)), some (.int (nI a_6))] [] h z c s := by
  refine jp_load (pc2 := 93) (n := 0) rfl rfl rfl rfl ?_
  refine jp_getf (pc2 := 96) rfl rfl e2 e3 ?_
  refine jp_load (pc2 := 98) (n := 6) rfl rfl rfl rfl ?_
  refine jp_load (pc2 := 100) (n := 4) rfl rfl rfl rfl ?_
  refine jp_iast (pc2 := 101) rfl rfl e6 (vp_in_nI b7 c8) ?_
  rw [(nI_clamp (Nat.lt_trans b7 c8))]
  rw [d10]
  exact K
theorem c120_101 {r_0 : Nat} {a_1 : Nat} {o_2 : Option Value} {o_3 : Option Value} {a_4 : Nat} {a_5 : Nat} {a_6 : Nat}  (K : ip sc call 120 MC MS Q 67 [some (.ref r_0), some (.int (nI a_1)), o_2, o_3, some (.int (nI a_4)), some (.int (nI a_5)), some (.int (nI (a_6 + 1)))] [] h z c s) : ip sc call 120 MC MS Q 101 [some (.ref r_0), some (.int (nI a_1)), o_2, o_3, some (.int (nI a_4)), some (.int (nI a_5)), some (.int (nI a_6))] [] h z c s := by
  refine jp_iinc (pc2 := 104) (n := 6) (v := nI (a_6 + 1)) rfl rfl rfl (nI_add _ 1) rfl ?_
  refine ip_goto rfl ?_
  exact K
theorem c120_107 {o_0 : Option Value} {o_1 : Option Value} {o_2 : Option Value} {o_3 : Option Value} {o_4 : Option Value} {o_5 : Option Value} {o_6 : Option Value} (q1 : Q none h z)  : ip sc call 120 MC MS Q 107 [o_0, o_1, o_2, o_3, o_4, o_5, o_6] [] h z c s := by
  exact ip_vret (st := []) rfl rfl q1
theorem c121_0 {r_0 : Nat} {a_1 : Nat} {fs1 : List Value} {q_fs1_0 : Nat} {P : ipQ} (e2 : h r_0 = some (.inr (9, fs1))) (e3 : fs1[0]? = some (.ref q_fs1_0)) (m4 : c ≤ MC) (m5 : s ≤ MS) (hc : call 94 [(.ref r_0)] h z 0 0 P) (K : ∀ (o : Option Value) (h2 : HP) (z2 : Nat), P o h2 z2 → ip sc call 121 MC MS Q 9 [some (.ref r_0), some (.int (nI a_1))] (o.toList ++ [(.ref q_fs1_0), (.int (nI a_1))]) h2 z2 c s) : ip sc call 121 MC MS Q 0 [some (.ref r_0), some (.int (nI a_1))] [] h z c s := by
  refine jp_load (pc2 := 1) (n := 1) rfl rfl rfl rfl ?_
  refine jp_load (pc2 := 2) (n := 0) rfl rfl rfl rfl ?_
  refine jp_getf (pc2 := 5) rfl rfl e2 e3 ?_
  refine jp_load (pc2 := 6) (n := 0) rfl rfl rfl rfl ?_
  exact jp_virt0 (pc2 := 9) (As := []) (rest := [(.ref q_fs1_0), (.int (nI a_1))]) rfl rfl rfl (Nat.le_of_ble_eq_true rfl) e2 m4 m5 hc rfl K
theorem c121_9 {o_0 : Option Value} {o_1 : Option Value} {sa_0 : Nat} {sr_1 : Nat} {sa_2 : Nat} {n1 : Nat} {f2 : Nat → Int32} {v6 : Nat} {P : ipQ} (e3 : h sr_1 = some (.inl (0, n1, .inl f2))) (b4 : sa_2 + 1 < n1) (c5 : n1 < 2147483648) (e7 : f2 (sa_2 + 1) = nI v6) (m8 : c ≤ MC) (m9 : s ≤ MS) (hc : call 95 [(.int (nI sa_0)), (.int (nI v6))] h z 0 0 P) (K : ∀ (o : Option Value) (h2 : HP) (z2 : Nat), P o h2 z2 → ip sc call 121 MC MS Q 15 [o_0, o_1] (o.toList ++ []) h2 z2 c s) : ip sc call 121 MC MS Q 9 [o_0, o_1] [(.int (nI sa_2)), (.ref sr_1), (.int (nI sa_0))] h z c s := by
  refine jp_con (pc2 := 10) (v := (.int (nI 1))) rfl rfl rfl ?_
  refine jp_bin (pc2 := 11) (v := nI (sa_2 + 1)) rfl rfl (congrArg some (nI_add _ _)) ?_
  refine jp_iald (pc2 := 12) rfl rfl e3 (vp_in_nI b4 c5) ?_
  rw [(nI_clamp (Nat.lt_trans b4 c5))]
  rw [e7]
  exact jp_stat0 (pc2 := 15) (As := [(.int (nI sa_0)), (.int (nI v6))]) (rest := []) rfl rfl rfl (Nat.le_of_ble_eq_true rfl) m8 m9 (by decide) hc rfl K
theorem c121_15 {o_0 : Option Value} {o_1 : Option Value} {sa_0 : Nat} (t1 : narrow .boolean (.int (nI sa_0)) = .int (nI sa_0)) (q2 : Q (some (.int (nI sa_0))) h z)  : ip sc call 121 MC MS Q 15 [o_0, o_1] [(.int (nI sa_0))] h z c s := by
  exact ip_iret (st := []) rfl rfl t1 q2
theorem c122_0 {r_0 : Nat} {a_1 : Nat} {a_2 : Nat} {fs1 : List Value} {P : ipQ} (e2 : h r_0 = some (.inr (9, fs1))) (m3 : c ≤ MC) (m4 : s ≤ MS) (hc : call 121 [(.ref r_0), (.int (nI a_1))] h z 0 0 P) (K : ∀ (o : Option Value) (h2 : HP) (z2 : Nat), P o h2 z2 → ip sc call 122 MC MS Q 5 [some (.ref r_0), some (.int (nI a_1)), some (.int (nI a_2))] (o.toList ++ []) h2 z2 c s) : ip sc call 122 MC MS Q 0 [some (.ref r_0), some (.int (nI a_1)), some (.int (nI a_2))] [] h z c s := by
  refine jp_load (pc2 := 1) (n := 0) rfl rfl rfl rfl ?_
  refine jp_load (pc2 := 2) (n := 1) rfl rfl rfl rfl ?_
  exact jp_virt0 (pc2 := 5) (As := [(.int (nI a_1))]) (rest := []) rfl rfl rfl (Nat.le_of_ble_eq_true rfl) e2 m3 m4 hc rfl K
theorem c122_5 {r_0 : Nat} {a_1 : Nat} {a_2 : Nat} {sa_0 : Nat} (c1 : sa_0 < 2147483648) (K1 : sa_0 = 0 → ip sc call 122 MC MS Q 33 [some (.ref r_0), some (.int (nI a_1)), some (.int (nI a_2))] [] h z c s) (K2 : ¬ (sa_0 = 0) → ip sc call 122 MC MS Q 8 [some (.ref r_0), some (.int (nI a_1)), some (.int (nI a_2))] [] h z c s) : ip sc call 122 MC MS Q 5 [some (.ref r_0), some (.int (nI a_1)), some (.int (nI a_2))] [(.int (nI sa_0))] h z c s := by
  exact jp_if0 (pc2 := 8) rfl rfl (fun q => K1 ((nI_eq c1 (by decide)).mp q)) (fun q => K2 (fun r => q ((nI_eq c1 (by decide)).mpr r)))
theorem c122_8 {r_0 : Nat} {a_1 : Nat} {a_2 : Nat} {fs1 : List Value} {q_fs1_0 : Nat} {P : ipQ} (e2 : h r_0 = some (.inr (9, fs1))) (e3 : fs1[0]? = some (.ref q_fs1_0)) (m4 : c ≤ MC) (m5 : s ≤ MS) (hc : call 94 [(.ref r_0)] h z 0 0 P) (K : ∀ (o : Option Value) (h2 : HP) (z2 : Nat), P o h2 z2 → ip sc call 122 MC MS Q 17 [some (.ref r_0), some (.int (nI a_1)), some (.int (nI a_2))] (o.toList ++ [(.ref q_fs1_0), (.int (nI a_2))]) h2 z2 c s) : ip sc call 122 MC MS Q 8 [some (.ref r_0), some (.int (nI a_1)), some (.int (nI a_2))] [] h z c s := by
  refine jp_load (pc2 := 9) (n := 2) rfl rfl rfl rfl ?_
  refine jp_load (pc2 := 10) (n := 0) rfl rfl rfl rfl ?_
  refine jp_getf (pc2 := 13) rfl rfl e2 e3 ?_
  refine jp_load (pc2 := 14) (n := 0) rfl rfl rfl rfl ?_
  exact jp_virt0 (pc2 := 17) (As := []) (rest := [(.ref q_fs1_0), (.int (nI a_2))]) rfl rfl rfl (Nat.le_of_ble_eq_true rfl) e2 m4 m5 hc rfl K
theorem c122_17 {o_0 : Option Value} {a_1 : Nat} {o_2 : Option Value} {sa_0 : Nat} {sr_1 : Nat} {sa_2 : Nat} {n1 : Nat} {f2 : Nat → Int32} {v6 : Nat} {P : ipQ} (e3 : h sr_1 = some (.inl (0, n1, .inl f2))) (b4 : (sa_2 + 36) + a_1 < n1) (c5 : n1 < 2147483648) (e7 : f2 ((sa_2 + 36) + a_1) = nI v6) (m8 : c ≤ MC) (m9 : s ≤ MS) (hc : call 95 [(.int (nI sa_0)), (.int (nI v6))] h z 0 0 P) (K : ∀ (o : Option Value) (h2 : HP) (z2 : Nat), P o h2 z2 → ip sc call 122 MC MS Q 26 [o_0, some (.int (nI a_1)), o_2] (o.toList ++ []) h2 z2 c s) : ip sc call 122 MC MS Q 17 [o_0, some (.int (nI a_1)), o_2] [(.int (nI sa_2)), (.ref sr_1), (.int (nI sa_0))] h z c s := by
  refine jp_con (pc2 := 19) (v := (.int (nI 36))) rfl rfl rfl ?_
  refine jp_bin (pc2 := 20) (v := nI (sa_2 + 36)) rfl rfl (congrArg some (nI_add _ _)) ?_
  refine jp_load (pc2 := 21) (n := 1) rfl rfl rfl rfl ?_
  refine jp_bin (pc2 := 22) (v := nI ((sa_2 + 36) + a_1)) rfl rfl (congrArg some (nI_add _ _)) ?_
  refine jp_iald (pc2 := 23) rfl rfl e3 (vp_in_nI b4 c5) ?_
  rw [(nI_clamp (Nat.lt_trans b4 c5))]
  rw [e7]
  exact jp_stat0 (pc2 := 26) (As := [(.int (nI sa_0)), (.int (nI v6))]) (rest := []) rfl rfl rfl (Nat.le_of_ble_eq_true rfl) m8 m9 (by decide) hc rfl K
theorem c122_26 {o_0 : Option Value} {o_1 : Option Value} {o_2 : Option Value} {sa_0 : Nat} (c1 : sa_0 < 2147483648) (K1 : sa_0 = 0 → ip sc call 122 MC MS Q 33 [o_0, o_1, o_2] [] h z c s) (K2 : ¬ (sa_0 = 0) → ip sc call 122 MC MS Q 29 [o_0, o_1, o_2] [] h z c s) : ip sc call 122 MC MS Q 26 [o_0, o_1, o_2] [(.int (nI sa_0))] h z c s := by
  exact jp_if0 (pc2 := 29) rfl rfl (fun q => K1 ((nI_eq c1 (by decide)).mp q)) (fun q => K2 (fun r => q ((nI_eq c1 (by decide)).mpr r)))
theorem c122_29 {o_0 : Option Value} {o_1 : Option Value} {o_2 : Option Value}  (K : ip sc call 122 MC MS Q 34 [o_0, o_1, o_2] [(.int (nI 1))] h z c s) : ip sc call 122 MC MS Q 29 [o_0, o_1, o_2] [] h z c s := by
  refine jp_con (pc2 := 30) (v := (.int (nI 1))) rfl rfl rfl ?_
  refine ip_goto rfl ?_
  exact K
theorem c122_33 {o_0 : Option Value} {o_1 : Option Value} {o_2 : Option Value}  (K : ip sc call 122 MC MS Q 34 [o_0, o_1, o_2] [(.int (nI 0))] h z c s) : ip sc call 122 MC MS Q 33 [o_0, o_1, o_2] [] h z c s := by
  refine jp_con (pc2 := 34) (v := (.int (nI 0))) rfl rfl rfl ?_
  exact K
theorem c122_34 {o_0 : Option Value} {o_1 : Option Value} {o_2 : Option Value} {sa_0 : Nat} (t1 : narrow .boolean (.int (nI sa_0)) = .int (nI sa_0)) (q2 : Q (some (.int (nI sa_0))) h z)  : ip sc call 122 MC MS Q 34 [o_0, o_1, o_2] [(.int (nI sa_0))] h z c s := by
  exact ip_iret (st := []) rfl rfl t1 q2
theorem c123_0 {r_0 : Nat} {a_1 : Nat} {a_2 : Nat} {a_3 : Nat} {fs1 : List Value} {P : ipQ} (e2 : h r_0 = some (.inr (9, fs1))) (m3 : c ≤ MC) (m4 : s ≤ MS) (hc : call 122 [(.ref r_0), (.int (nI a_1)), (.int (nI a_2))] h z 0 0 P) (K : ∀ (o : Option Value) (h2 : HP) (z2 : Nat), P o h2 z2 → ip sc call 123 MC MS Q 6 [some (.ref r_0), some (.int (nI a_1)), some (.int (nI a_2)), some (.int (nI a_3))] (o.toList ++ []) h2 z2 c s) : ip sc call 123 MC MS Q 0 [some (.ref r_0), some (.int (nI a_1)), some (.int (nI a_2)), some (.int (nI a_3))] [] h z c s := by
  refine jp_load (pc2 := 1) (n := 0) rfl rfl rfl rfl ?_
  refine jp_load (pc2 := 2) (n := 1) rfl rfl rfl rfl ?_
  refine jp_load (pc2 := 3) (n := 2) rfl rfl rfl rfl ?_
  exact jp_virt0 (pc2 := 6) (As := [(.int (nI a_1)), (.int (nI a_2))]) (rest := []) rfl rfl rfl (Nat.le_of_ble_eq_true rfl) e2 m3 m4 hc rfl K
theorem c123_6 {r_0 : Nat} {a_1 : Nat} {a_2 : Nat} {a_3 : Nat} {sa_0 : Nat} (c1 : sa_0 < 2147483648) (K1 : sa_0 = 0 → ip sc call 123 MC MS Q 30 [some (.ref r_0), some (.int (nI a_1)), some (.int (nI a_2)), some (.int (nI a_3))] [] h z c s) (K2 : ¬ (sa_0 = 0) → ip sc call 123 MC MS Q 9 [some (.ref r_0), some (.int (nI a_1)), some (.int (nI a_2)), some (.int (nI a_3))] [] h z c s) : ip sc call 123 MC MS Q 6 [some (.ref r_0), some (.int (nI a_1)), some (.int (nI a_2)), some (.int (nI a_3))] [(.int (nI sa_0))] h z c s := by
  exact jp_if0 (pc2 := 9) rfl rfl (fun q => K1 ((nI_eq c1 (by decide)).mp q)) (fun q => K2 (fun r => q ((nI_eq c1 (by decide)).mpr r)))
theorem c123_9 {r_0 : Nat} {a_1 : Nat} {a_2 : Nat} {a_3 : Nat} {fs1 : List Value} {P : ipQ} (e2 : h r_0 = some (.inr (9, fs1))) (m3 : c ≤ MC) (m4 : s ≤ MS) (hc : call 94 [(.ref r_0)] h z 0 0 P) (K : ∀ (o : Option Value) (h2 : HP) (z2 : Nat), P o h2 z2 → ip sc call 123 MC MS Q 15 [some (.ref r_0), some (.int (nI a_1)), some (.int (nI a_2)), some (.int (nI a_3))] (o.toList ++ [(.ref r_0), (.int (nI a_3))]) h2 z2 c s) : ip sc call 123 MC MS Q 9 [some (.ref r_0), some (.int (nI a_1)), some (.int (nI a_2)), some (.int (nI a_3))] [] h z c s := by
  refine jp_load (pc2 := 10) (n := 3) rfl rfl rfl rfl ?_
  refine jp_load (pc2 := 11) (n := 0) rfl rfl rfl rfl ?_
  refine jp_load (pc2 := 12) (n := 0) rfl rfl rfl rfl ?_
  exact jp_virt0 (pc2 := 15) (As := []) (rest := [(.ref r_0), (.int (nI a_3))]) rfl rfl rfl (Nat.le_of_ble_eq_true rfl) e2 m3 m4 hc rfl K
theorem c123_15 {o_0 : Option Value} {a_1 : Nat} {a_2 : Nat} {o_3 : Option Value} {sa_0 : Nat} {sr_1 : Nat} {sa_2 : Nat} {fs1 : List Value} {P : ipQ} (e2 : h sr_1 = some (.inr (9, fs1))) (m3 : c ≤ MC) (m4 : s ≤ MS) (hc : call 113 [(.ref sr_1), (.int (nI sa_2)), (.int (nI a_1)), (.int (nI a_2))] h z 0 0 P) (K : ∀ (o : Option Value) (h2 : HP) (z2 : Nat), P o h2 z2 → ip sc call 123 MC MS Q 20 [o_0, some (.int (nI a_1)), some (.int (nI a_2)), o_3] (o.toList ++ [(.int (nI sa_0))]) h2 z2 c s) : ip sc call 123 MC MS Q 15 [o_0, some (.int (nI a_1)), some (.int (nI a_2)), o_3] [(.int (nI sa_2)), (.ref sr_1), (.int (nI sa_0))] h z c s := by
  refine jp_load (pc2 := 16) (n := 1) rfl rfl rfl rfl ?_
  refine jp_load (pc2 := 17) (n := 2) rfl rfl rfl rfl ?_
  exact jp_virt0 (pc2 := 20) (As := [(.int (nI sa_2)), (.int (nI a_1)), (.int (nI a_2))]) (rest := [(.int (nI sa_0))]) rfl rfl rfl (Nat.le_of_ble_eq_true rfl) e2 m3 m4 hc rfl K
theorem c123_20 {o_0 : Option Value} {o_1 : Option Value} {o_2 : Option Value} {o_3 : Option Value} {sa_0 : Nat} {sa_1 : Nat} {P : ipQ} (m1 : c ≤ MC) (m2 : s ≤ MS) (hc : call 95 [(.int (nI sa_0)), (.int (nI sa_1))] h z 0 0 P) (K : ∀ (o : Option Value) (h2 : HP) (z2 : Nat), P o h2 z2 → ip sc call 123 MC MS Q 23 [o_0, o_1, o_2, o_3] (o.toList ++ []) h2 z2 c s) : ip sc call 123 MC MS Q 20 [o_0, o_1, o_2, o_3] [(.int (nI sa_1)), (.int (nI sa_0))] h z c s := by
  exact jp_stat0 (pc2 := 23) (As := [(.int (nI sa_0)), (.int (nI sa_1))]) (rest := []) rfl rfl rfl (Nat.le_of_ble_eq_true rfl) m1 m2 (by decide) hc rfl K
theorem c123_23 {o_0 : Option Value} {o_1 : Option Value} {o_2 : Option Value} {o_3 : Option Value} {sa_0 : Nat} (c1 : sa_0 < 2147483648) (K1 : sa_0 = 0 → ip sc call 123 MC MS Q 30 [o_0, o_1, o_2, o_3] [] h z c s) (K2 : ¬ (sa_0 = 0) → ip sc call 123 MC MS Q 26 [o_0, o_1, o_2, o_3] [] h z c s) : ip sc call 123 MC MS Q 23 [o_0, o_1, o_2, o_3] [(.int (nI sa_0))] h z c s := by
  exact jp_if0 (pc2 := 26) rfl rfl (fun q => K1 ((nI_eq c1 (by decide)).mp q)) (fun q => K2 (fun r => q ((nI_eq c1 (by decide)).mpr r)))
theorem c123_26 {o_0 : Option Value} {o_1 : Option Value} {o_2 : Option Value} {o_3 : Option Value}  (K : ip sc call 123 MC MS Q 31 [o_0, o_1, o_2, o_3] [(.int (nI 1))] h z c s) : ip sc call 123 MC MS Q 26 [o_0, o_1, o_2, o_3] [] h z c s := by
  refine jp_con (pc2 := 27) (v := (.int (nI 1))) rfl rfl rfl ?_
  refine ip_goto rfl ?_
  exact K
theorem c123_30 {o_0 : Option Value} {o_1 : Option Value} {o_2 : Option Value} {o_3 : Option Value}  (K : ip sc call 123 MC MS Q 31 [o_0, o_1, o_2, o_3] [(.int (nI 0))] h z c s) : ip sc call 123 MC MS Q 30 [o_0, o_1, o_2, o_3] [] h z c s := by
  refine jp_con (pc2 := 31) (v := (.int (nI 0))) rfl rfl rfl ?_
  exact K
theorem c123_31 {o_0 : Option Value} {o_1 : Option Value} {o_2 : Option Value} {o_3 : Option Value} {sa_0 : Nat} (t1 : narrow .boolean (.int (nI sa_0)) = .int (nI sa_0)) (q2 : Q (some (.int (nI sa_0))) h z)  : ip sc call 123 MC MS Q 31 [o_0, o_1, o_2, o_3] [(.int (nI sa_0))] h z c s := by
  exact ip_iret (st := []) rfl rfl t1 q2
theorem c124_0 {r_0 : Nat} {a_1 : Nat} {fs1 : List Value} {P : ipQ} (e2 : h r_0 = some (.inr (9, fs1))) (m3 : c ≤ MC) (m4 : s ≤ MS) (hc : call 121 [(.ref r_0), (.int (nI a_1))] h z 0 0 P) (K : ∀ (o : Option Value) (h2 : HP) (z2 : Nat), P o h2 z2 → ip sc call 124 MC MS Q 5 [some (.ref r_0), some (.int (nI a_1))] (o.toList ++ []) h2 z2 c s) : ip sc call 124 MC MS Q 0 [some (.ref r_0), some (.int (nI a_1))] [] h z c s := by
  refine jp_load (pc2 := 1) (n := 0) rfl rfl rfl rfl ?_
  refine jp_load (pc2 := 2) (n := 1) rfl rfl rfl rfl ?_
  exact jp_virt0 (pc2 := 5) (As := [(.int (nI a_1))]) (rest := []) rfl rfl rfl (Nat.le_of_ble_eq_true rfl) e2 m3 m4 hc rfl K
theorem c124_5 {r_0 : Nat} {a_1 : Nat} {sa_0 : Nat} (c1 : sa_0 < 2147483648) (K1 : sa_0 = 0 → ip sc call 124 MC MS Q 25 [some (.ref r_0), some (.int (nI a_1))] [] h z c s) (K2 : ¬ (sa_0 = 0) → ip sc call 124 MC MS Q 8 [some (.ref r_0), some (.int (nI a_1))] [] h z c s) : ip sc call 124 MC MS Q 5 [some (.ref r_0), some (.int (nI a_1))] [(.int (nI sa_0))] h z c s := by
  exact jp_if0 (pc2 := 8) rfl rfl (fun q => K1 ((nI_eq c1 (by decide)).mp q)) (fun q => K2 (fun r => q ((nI_eq c1 (by decide)).mpr r)))
theorem c124_8 {r_0 : Nat} {a_1 : Nat} {fs1 : List Value} {q_fs1_0 : Nat} {P : ipQ} (e2 : h r_0 = some (.inr (9, fs1))) (e3 : fs1[0]? = some (.ref q_fs1_0)) (m4 : c ≤ MC) (m5 : s ≤ MS) (hc : call 94 [(.ref r_0)] h z 0 0 P) (K : ∀ (o : Option Value) (h2 : HP) (z2 : Nat), P o h2 z2 → ip sc call 124 MC MS Q 16 [some (.ref r_0), some (.int (nI a_1))] (o.toList ++ [(.ref q_fs1_0)]) h2 z2 c s) : ip sc call 124 MC MS Q 8 [some (.ref r_0), some (.int (nI a_1))] [] h z c s := by
  refine jp_load (pc2 := 9) (n := 0) rfl rfl rfl rfl ?_
  refine jp_getf (pc2 := 12) rfl rfl e2 e3 ?_
  refine jp_load (pc2 := 13) (n := 0) rfl rfl rfl rfl ?_
  exact jp_virt0 (pc2 := 16) (As := []) (rest := [(.ref q_fs1_0)]) rfl rfl rfl (Nat.le_of_ble_eq_true rfl) e2 m4 m5 hc rfl K
theorem c124_16 {o_0 : Option Value} {a_1 : Nat} {sr_0 : Nat} {sa_1 : Nat} {n1 : Nat} {f2 : Nat → Int32} {v6 : Nat} (e3 : h sr_0 = some (.inl (0, n1, .inl f2))) (b4 : (sa_1 + 36) + a_1 < n1) (c5 : n1 < 2147483648) (e7 : f2 ((sa_1 + 36) + a_1) = nI v6) (K : ip sc call 124 MC MS Q 26 [o_0, some (.int (nI a_1))] [(.int (nI v6))] h z c s) : ip sc call 124 MC MS Q 16 [o_0, some (.int (nI a_1))] [(.int (nI sa_1)), (.ref sr_0)] h z c s := by
  refine jp_con (pc2 := 18) (v := (.int (nI 36))) rfl rfl rfl ?_
  refine jp_bin (pc2 := 19) (v := nI (sa_1 + 36)) rfl rfl (congrArg some (nI_add _ _)) ?_
  refine jp_load (pc2 := 20) (n := 1) rfl rfl rfl rfl ?_
  refine jp_bin (pc2 := 21) (v := nI ((sa_1 + 36) + a_1)) rfl rfl (congrArg some (nI_add _ _)) ?_
  refine jp_iald (pc2 := 22) rfl rfl e3 (vp_in_nI b4 c5) ?_
  rw [(nI_clamp (Nat.lt_trans b4 c5))]
  rw [e7]
  refine ip_goto rfl ?_
  exact K
theorem c124_25 {o_0 : Option Value} {o_1 : Option Value}  (K : ip sc call 124 MC MS Q 26 [o_0, o_1] [(.int ((-1)))] h z c s) : ip sc call 124 MC MS Q 25 [o_0, o_1] [] h z c s := by
  refine jp_con (pc2 := 26) (v := (.int ((-1)))) rfl rfl rfl ?_
  exact K
theorem c124_26 {o_0 : Option Value} {o_1 : Option Value} {sa_0 : Nat} (q1 : Q (some (.int (nI sa_0))) h z)  : ip sc call 124 MC MS Q 26 [o_0, o_1] [(.int (nI sa_0))] h z c s := by
  exact ip_iret (st := []) rfl rfl rfl q1
theorem c125_0 {r_0 : Nat} {a_1 : Nat} {a_2 : Nat} {fs1 : List Value} {P : ipQ} (e2 : h r_0 = some (.inr (9, fs1))) (m3 : c ≤ MC) (m4 : s ≤ MS) (hc : call 122 [(.ref r_0), (.int (nI a_1)), (.int (nI a_2))] h z 0 0 P) (K : ∀ (o : Option Value) (h2 : HP) (z2 : Nat), P o h2 z2 → ip sc call 125 MC MS Q 6 [some (.ref r_0), some (.int (nI a_1)), some (.int (nI a_2))] (o.toList ++ []) h2 z2 c s) : ip sc call 125 MC MS Q 0 [some (.ref r_0), some (.int (nI a_1)), some (.int (nI a_2))] [] h z c s := by
  refine jp_load (pc2 := 1) (n := 0) rfl rfl rfl rfl ?_
  refine jp_load (pc2 := 2) (n := 1) rfl rfl rfl rfl ?_
  refine jp_load (pc2 := 3) (n := 2) rfl rfl rfl rfl ?_
  exact jp_virt0 (pc2 := 6) (As := [(.int (nI a_1)), (.int (nI a_2))]) (rest := []) rfl rfl rfl (Nat.le_of_ble_eq_true rfl) e2 m3 m4 hc rfl K
theorem c125_6 {r_0 : Nat} {a_1 : Nat} {a_2 : Nat} {sa_0 : Nat} (c1 : sa_0 < 2147483648) (K1 : sa_0 = 0 → ip sc call 125 MC MS Q 22 [some (.ref r_0), some (.int (nI a_1)), some (.int (nI a_2))] [] h z c s) (K2 : ¬ (sa_0 = 0) → ip sc call 125 MC MS Q 9 [some (.ref r_0), some (.int (nI a_1)), some (.int (nI a_2))] [] h z c s) : ip sc call 125 MC MS Q 6 [some (.ref r_0), some (.int (nI a_1)), some (.int (nI a_2))] [(.int (nI sa_0))] h z c s := by
  exact jp_if0 (pc2 := 9) rfl rfl (fun q => K1 ((nI_eq c1 (by decide)).mp q)) (fun q => K2 (fun r => q ((nI_eq c1 (by decide)).mpr r)))
theorem c125_9 {r_0 : Nat} {a_1 : Nat} {a_2 : Nat} {fs1 : List Value} {P : ipQ} (e2 : h r_0 = some (.inr (9, fs1))) (m3 : c ≤ MC) (m4 : s ≤ MS) (hc : call 94 [(.ref r_0)] h z 0 0 P) (K : ∀ (o : Option Value) (h2 : HP) (z2 : Nat), P o h2 z2 → ip sc call 125 MC MS Q 14 [some (.ref r_0), some (.int (nI a_1)), some (.int (nI a_2))] (o.toList ++ [(.ref r_0)]) h2 z2 c s) : ip sc call 125 MC MS Q 9 [some (.ref r_0), some (.int (nI a_1)), some (.int (nI a_2))] [] h z c s := by
  refine jp_load (pc2 := 10) (n := 0) rfl rfl rfl rfl ?_
  refine jp_load (pc2 := 11) (n := 0) rfl rfl rfl rfl ?_
  exact jp_virt0 (pc2 := 14) (As := []) (rest := [(.ref r_0)]) rfl rfl rfl (Nat.le_of_ble_eq_true rfl) e2 m3 m4 hc rfl K
theorem c125_14 {o_0 : Option Value} {a_1 : Nat} {a_2 : Nat} {sr_0 : Nat} {sa_1 : Nat} {fs1 : List Value} {P : ipQ} (e2 : h sr_0 = some (.inr (9, fs1))) (m3 : c ≤ MC) (m4 : s ≤ MS) (hc : call 113 [(.ref sr_0), (.int (nI sa_1)), (.int (nI a_1)), (.int (nI a_2))] h z 0 0 P) (K : ∀ (o : Option Value) (h2 : HP) (z2 : Nat), P o h2 z2 → ip sc call 125 MC MS Q 19 [o_0, some (.int (nI a_1)), some (.int (nI a_2))] (o.toList ++ []) h2 z2 c s) : ip sc call 125 MC MS Q 14 [o_0, some (.int (nI a_1)), some (.int (nI a_2))] [(.int (nI sa_1)), (.ref sr_0)] h z c s := by
  refine jp_load (pc2 := 15) (n := 1) rfl rfl rfl rfl ?_
  refine jp_load (pc2 := 16) (n := 2) rfl rfl rfl rfl ?_
  exact jp_virt0 (pc2 := 19) (As := [(.int (nI sa_1)), (.int (nI a_1)), (.int (nI a_2))]) (rest := []) rfl rfl rfl (Nat.le_of_ble_eq_true rfl) e2 m3 m4 hc rfl K
theorem c125_19 {o_0 : Option Value} {o_1 : Option Value} {o_2 : Option Value} {sa_0 : Nat}  (K : ip sc call 125 MC MS Q 23 [o_0, o_1, o_2] [(.int (nI sa_0))] h z c s) : ip sc call 125 MC MS Q 19 [o_0, o_1, o_2] [(.int (nI sa_0))] h z c s := by
  refine ip_goto rfl ?_
  exact K
theorem c125_22 {o_0 : Option Value} {o_1 : Option Value} {o_2 : Option Value}  (K : ip sc call 125 MC MS Q 23 [o_0, o_1, o_2] [(.int ((-1)))] h z c s) : ip sc call 125 MC MS Q 22 [o_0, o_1, o_2] [] h z c s := by
  refine jp_con (pc2 := 23) (v := (.int ((-1)))) rfl rfl rfl ?_
  exact K
theorem c125_23 {o_0 : Option Value} {o_1 : Option Value} {o_2 : Option Value} {sa_0 : Nat} (q1 : Q (some (.int (nI sa_0))) h z)  : ip sc call 125 MC MS Q 23 [o_0, o_1, o_2] [(.int (nI sa_0))] h z c s := by
  exact ip_iret (st := []) rfl rfl rfl q1
end BLK
