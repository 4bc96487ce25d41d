/-! straight stretches of bytecode, printed by wip/whole/gen_blk.py -/
section BLK
variable {sc : ipSc} {call : ipCall} {MC MS : Nat} {Q : ipQ} {h : HP} {z c s : Nat}
-- c35_0 by hand: a making: raw
theorem c36_0 {r_0 : Nat} {a_1 : Nat} (c1 : a_1 < 2147483648) (K1 : a_1 < 0 → ip sc call 36 MC MS Q 16 [some (.ref r_0), some (.int (nI a_1))] [] h z c s) (K2 : ¬ (a_1 < 0) → ip sc call 36 MC MS Q 4 [some (.ref r_0), some (.int (nI a_1))] [] h z c s) : ip sc call 36 MC MS Q 0 [some (.ref r_0), some (.int (nI a_1))] [] h z c s := by
  refine jp_load (pc2 := 1) (n := 1) rfl rfl rfl rfl ?_
  exact jp_if0 (pc2 := 4) rfl rfl (fun q => K1 ((nI_ltI c1 (by decide)).mp q)) (fun q => K2 (fun r => q ((nI_ltI c1 (by decide)).mpr r)))
theorem c36_4 {r_0 : Nat} {a_1 : Nat} {fs1 : List Value} {v_fs1_7 : Nat} (e2 : h r_0 = some (.inr (6, fs1))) (e3 : fs1[7]? = some (.int (nI v_fs1_7))) (c4 : a_1 < 2147483648) (c5 : v_fs1_7 < 2147483648) (K1 : v_fs1_7 ≤ a_1 → ip sc call 36 MC MS Q 16 [some (.ref r_0), some (.int (nI a_1))] [] h z c s) (K2 : ¬ (v_fs1_7 ≤ a_1) → ip sc call 36 MC MS Q 12 [some (.ref r_0), some (.int (nI a_1))] [] h z c s) : ip sc call 36 MC MS Q 4 [some (.ref r_0), some (.int (nI a_1))] [] h z c s := by
  refine jp_load (pc2 := 5) (n := 1) rfl rfl rfl rfl ?_
  refine jp_load (pc2 := 6) (n := 0) rfl rfl rfl rfl ?_
  refine jp_getf (pc2 := 9) rfl rfl e2 e3 ?_
  exact jp_icmp (pc2 := 12) rfl rfl (fun q => K1 ((nI_leI c5 c4).mp q)) (fun q => K2 (fun r => q ((nI_leI c5 c4).mpr r)))
theorem c36_12 {o_0 : Option Value} {o_1 : Option Value}  (K : ip sc call 36 MC MS Q 17 [o_0, o_1] [(.int (nI 1))] h z c s) : ip sc call 36 MC MS Q 12 [o_0, o_1] [] h z c s := by
  refine jp_con (pc2 := 13) (v := (.int (nI 1))) rfl rfl rfl ?_
  refine ip_goto rfl ?_
  exact K
theorem c36_16 {o_0 : Option Value} {o_1 : Option Value}  (K : ip sc call 36 MC MS Q 17 [o_0, o_1] [(.int (nI 0))] h z c s) : ip sc call 36 MC MS Q 16 [o_0, o_1] [] h z c s := by
  refine jp_con (pc2 := 17) (v := (.int (nI 0))) rfl rfl rfl ?_
  exact K
theorem c36_17 {o_0 : Option Value} {o_1 : Option Value} {sa_0 : Nat} (t1 : narrow .boolean (.int (nI sa_0)) = .int (nI sa_0)) (q2 : Q (some (.int (nI sa_0))) h z)  : ip sc call 36 MC MS Q 17 [o_0, o_1] [(.int (nI sa_0))] h z c s := by
  exact ip_iret (st := []) rfl rfl t1 q2
theorem c37_0 {r_0 : Nat} {a_1 : Nat} {a_2 : Nat} {fs1 : List Value} {P : ipQ} (e2 : h r_0 = some (.inr (6, fs1))) (m3 : c ≤ MC) (m4 : s ≤ MS) (hc : call 36 [(.ref r_0), (.int (nI a_1))] h z 0 0 P) (K : ∀ (o : Option Value) (h2 : HP) (z2 : Nat), P o h2 z2 → ip sc call 37 MC MS Q 5 [some (.ref r_0), some (.int (nI a_1)), some (.int (nI a_2))] (o.toList ++ []) h2 z2 c s) : ip sc call 37 MC MS Q 0 [some (.ref r_0), some (.int (nI a_1)), some (.int (nI a_2))] [] h z c s := by
  refine jp_load (pc2 := 1) (n := 0) rfl rfl rfl rfl ?_
  refine jp_load (pc2 := 2) (n := 1) rfl rfl rfl rfl ?_
  exact jp_virt0 (pc2 := 5) (As := [(.int (nI a_1))]) (rest := []) rfl rfl rfl (Nat.le_of_ble_eq_true rfl) e2 m3 m4 hc rfl K
theorem c37_5 {r_0 : Nat} {a_1 : Nat} {a_2 : Nat} {sa_0 : Nat} (c1 : sa_0 < 2147483648) (K1 : sa_0 = 0 → ip sc call 37 MC MS Q 25 [some (.ref r_0), some (.int (nI a_1)), some (.int (nI a_2))] [] h z c s) (K2 : ¬ (sa_0 = 0) → ip sc call 37 MC MS Q 8 [some (.ref r_0), some (.int (nI a_1)), some (.int (nI a_2))] [] h z c s) : ip sc call 37 MC MS Q 5 [some (.ref r_0), some (.int (nI a_1)), some (.int (nI a_2))] [(.int (nI sa_0))] h z c s := by
  exact jp_if0 (pc2 := 8) rfl rfl (fun q => K1 ((nI_eq c1 (by decide)).mp q)) (fun q => K2 (fun r => q ((nI_eq c1 (by decide)).mpr r)))
theorem c37_8 {r_0 : Nat} {a_1 : Nat} {a_2 : Nat} (c1 : a_2 < 2147483648) (K1 : a_2 < 0 → ip sc call 37 MC MS Q 25 [some (.ref r_0), some (.int (nI a_1)), some (.int (nI a_2))] [] h z c s) (K2 : ¬ (a_2 < 0) → ip sc call 37 MC MS Q 12 [some (.ref r_0), some (.int (nI a_1)), some (.int (nI a_2))] [] h z c s) : ip sc call 37 MC MS Q 8 [some (.ref r_0), some (.int (nI a_1)), some (.int (nI a_2))] [] h z c s := by
  refine jp_load (pc2 := 9) (n := 2) rfl rfl rfl rfl ?_
  exact jp_if0 (pc2 := 12) rfl rfl (fun q => K1 ((nI_ltI c1 (by decide)).mp q)) (fun q => K2 (fun r => q ((nI_ltI c1 (by decide)).mpr r)))
theorem c37_12 {r_0 : Nat} {a_1 : Nat} {a_2 : Nat} {fs1 : List Value} {P : ipQ} (e2 : h r_0 = some (.inr (6, fs1))) (m3 : c ≤ MC) (m4 : s ≤ MS) (hc : call 39 [(.ref r_0), (.int (nI a_1))] h z 0 0 P) (K : ∀ (o : Option Value) (h2 : HP) (z2 : Nat), P o h2 z2 → ip sc call 37 MC MS Q 18 [some (.ref r_0), some (.int (nI a_1)), some (.int (nI a_2))] (o.toList ++ [(.int (nI a_2))]) h2 z2 c s) : ip sc call 37 MC MS Q 12 [some (.ref r_0), some (.int (nI a_1)), some (.int (nI a_2))] [] h z c s := by
  refine jp_load (pc2 := 13) (n := 2) rfl rfl rfl rfl ?_
  refine jp_load (pc2 := 14) (n := 0) rfl rfl rfl rfl ?_
  refine jp_load (pc2 := 15) (n := 1) rfl rfl rfl rfl ?_
  exact jp_virt0 (pc2 := 18) (As := [(.int (nI a_1))]) (rest := [(.int (nI a_2))]) rfl rfl rfl (Nat.le_of_ble_eq_true rfl) e2 m3 m4 hc rfl K
theorem c37_18 {o_0 : Option Value} {o_1 : Option Value} {o_2 : Option Value} {sa_0 : Nat} {sa_1 : Nat} (c1 : sa_0 < 2147483648) (c2 : sa_1 < 2147483648) (K1 : sa_1 ≤ sa_0 → ip sc call 37 MC MS Q 25 [o_0, o_1, o_2] [] h z c s) (K2 : ¬ (sa_1 ≤ sa_0) → ip sc call 37 MC MS Q 21 [o_0, o_1, o_2] [] h z c s) : ip sc call 37 MC MS Q 18 [o_0, o_1, o_2] [(.int (nI sa_1)), (.int (nI sa_0))] h z c s := by
  exact jp_icmp (pc2 := 21) rfl rfl (fun q => K1 ((nI_leI c2 c1).mp q)) (fun q => K2 (fun r => q ((nI_leI c2 c1).mpr r)))
theorem c37_21 {o_0 : Option Value} {o_1 : Option Value} {o_2 : Option Value}  (K : ip sc call 37 MC MS Q 26 [o_0, o_1, o_2] [(.int (nI 1))] h z c s) : ip sc call 37 MC MS Q 21 [o_0, o_1, o_2] [] h z c s := by
  refine jp_con (pc2 := 22) (v := (.int (nI 1))) rfl rfl rfl ?_
  refine ip_goto rfl ?_
  exact K
theorem c37_25 {o_0 : Option Value} {o_1 : Option Value} {o_2 : Option Value}  (K : ip sc call 37 MC MS Q 26 [o_0, o_1, o_2] [(.int (nI 0))] h z c s) : ip sc call 37 MC MS Q 25 [o_0, o_1, o_2] [] h z c s := by
  refine jp_con (pc2 := 26) (v := (.int (nI 0))) rfl rfl rfl ?_
  exact K
theorem c37_26 {o_0 : Option Value} {o_1 : Option Value} {o_2 : Option Value} {sa_0 : Nat} (t1 : narrow .boolean (.int (nI sa_0)) = .int (nI sa_0)) (q2 : Q (some (.int (nI sa_0))) h z)  : ip sc call 37 MC MS Q 26 [o_0, o_1, o_2] [(.int (nI sa_0))] h z c s := by
  exact ip_iret (st := []) rfl rfl t1 q2
theorem c38_0 {r_0 : Nat} {a_1 : Nat} {a_2 : Nat} {a_3 : Nat} {fs1 : List Value} {P : ipQ} (e2 : h r_0 = some (.inr (6, fs1))) (m3 : c ≤ MC) (m4 : s ≤ MS) (hc : call 37 [(.ref r_0), (.int (nI a_1)), (.int (nI a_2))] h z 0 0 P) (K : ∀ (o : Option Value) (h2 : HP) (z2 : Nat), P o h2 z2 → ip sc call 38 MC MS Q 6 [some (.ref r_0), some (.int (nI a_1)), some (.int (nI a_2)), some (.int (nI a_3))] (o.toList ++ []) h2 z2 c s) : ip sc call 38 MC MS Q 0 [some (.ref r_0), some (.int (nI a_1)), some (.int (nI a_2)), some (.int (nI a_3))] [] h z c s := by
  refine jp_load (pc2 := 1) (n := 0) rfl rfl rfl rfl ?_
  refine jp_load (pc2 := 2) (n := 1) rfl rfl rfl rfl ?_
  refine jp_load (pc2 := 3) (n := 2) rfl rfl rfl rfl ?_
  exact jp_virt0 (pc2 := 6) (As := [(.int (nI a_1)), (.int (nI a_2))]) (rest := []) rfl rfl rfl (Nat.le_of_ble_eq_true rfl) e2 m3 m4 hc rfl K
theorem c38_6 {r_0 : Nat} {a_1 : Nat} {a_2 : Nat} {a_3 : Nat} {sa_0 : Nat} (c1 : sa_0 < 2147483648) (K1 : sa_0 = 0 → ip sc call 38 MC MS Q 27 [some (.ref r_0), some (.int (nI a_1)), some (.int (nI a_2)), some (.int (nI a_3))] [] h z c s) (K2 : ¬ (sa_0 = 0) → ip sc call 38 MC MS Q 9 [some (.ref r_0), some (.int (nI a_1)), some (.int (nI a_2)), some (.int (nI a_3))] [] h z c s) : ip sc call 38 MC MS Q 6 [some (.ref r_0), some (.int (nI a_1)), some (.int (nI a_2)), some (.int (nI a_3))] [(.int (nI sa_0))] h z c s := by
  exact jp_if0 (pc2 := 9) rfl rfl (fun q => K1 ((nI_eq c1 (by decide)).mp q)) (fun q => K2 (fun r => q ((nI_eq c1 (by decide)).mpr r)))
theorem c38_9 {r_0 : Nat} {a_1 : Nat} {a_2 : Nat} {a_3 : Nat} (c1 : a_3 < 2147483648) (K1 : a_3 < 0 → ip sc call 38 MC MS Q 27 [some (.ref r_0), some (.int (nI a_1)), some (.int (nI a_2)), some (.int (nI a_3))] [] h z c s) (K2 : ¬ (a_3 < 0) → ip sc call 38 MC MS Q 13 [some (.ref r_0), some (.int (nI a_1)), some (.int (nI a_2)), some (.int (nI a_3))] [] h z c s) : ip sc call 38 MC MS Q 9 [some (.ref r_0), some (.int (nI a_1)), some (.int (nI a_2)), some (.int (nI a_3))] [] h z c s := by
  refine jp_load (pc2 := 10) (n := 3) rfl rfl rfl rfl ?_
  exact jp_if0 (pc2 := 13) rfl rfl (fun q => K1 ((nI_ltI c1 (by decide)).mp q)) (fun q => K2 (fun r => q ((nI_ltI c1 (by decide)).mpr r)))
theorem c38_13 {r_0 : Nat} {a_1 : Nat} {a_2 : Nat} {a_3 : Nat} {fs1 : List Value} {P : ipQ} (e2 : h r_0 = some (.inr (6, fs1))) (m3 : c ≤ MC) (m4 : s ≤ MS) (hc : call 40 [(.ref r_0), (.int (nI a_1)), (.int (nI a_2))] h z 0 0 P) (K : ∀ (o : Option Value) (h2 : HP) (z2 : Nat), P o h2 z2 → ip sc call 38 MC MS Q 20 [some (.ref r_0), some (.int (nI a_1)), some (.int (nI a_2)), some (.int (nI a_3))] (o.toList ++ [(.int (nI a_3))]) h2 z2 c s) : ip sc call 38 MC MS Q 13 [some (.ref r_0), some (.int (nI a_1)), some (.int (nI a_2)), some (.int (nI a_3))] [] h z c s := by
  refine jp_load (pc2 := 14) (n := 3) rfl rfl rfl rfl ?_
  refine jp_load (pc2 := 15) (n := 0) rfl rfl rfl rfl ?_
  refine jp_load (pc2 := 16) (n := 1) rfl rfl rfl rfl ?_
  refine jp_load (pc2 := 17) (n := 2) rfl rfl rfl rfl ?_
  exact jp_virt0 (pc2 := 20) (As := [(.int (nI a_1)), (.int (nI a_2))]) (rest := [(.int (nI a_3))]) rfl rfl rfl (Nat.le_of_ble_eq_true rfl) e2 m3 m4 hc rfl K
theorem c38_20 {o_0 : Option Value} {o_1 : Option Value} {o_2 : Option Value} {o_3 : Option Value} {sa_0 : Nat} {sa_1 : Nat} (c1 : sa_0 < 2147483648) (c2 : sa_1 < 2147483648) (K1 : sa_1 ≤ sa_0 → ip sc call 38 MC MS Q 27 [o_0, o_1, o_2, o_3] [] h z c s) (K2 : ¬ (sa_1 ≤ sa_0) → ip sc call 38 MC MS Q 23 [o_0, o_1, o_2, o_3] [] h z c s) : ip sc call 38 MC MS Q 20 [o_0, o_1, o_2, o_3] [(.int (nI sa_1)), (.int (nI sa_0))] h z c s := by
  exact jp_icmp (pc2 := 23) rfl rfl (fun q => K1 ((nI_leI c2 c1).mp q)) (fun q => K2 (fun r => q ((nI_leI c2 c1).mpr r)))
theorem c38_23 {o_0 : Option Value} {o_1 : Option Value} {o_2 : Option Value} {o_3 : Option Value}  (K : ip sc call 38 MC MS Q 28 [o_0, o_1, o_2, o_3] [(.int (nI 1))] h z c s) : ip sc call 38 MC MS Q 23 [o_0, o_1, o_2, o_3] [] h z c s := by
  refine jp_con (pc2 := 24) (v := (.int (nI 1))) rfl rfl rfl ?_
  refine ip_goto rfl ?_
  exact K
theorem c38_27 {o_0 : Option Value} {o_1 : Option Value} {o_2 : Option Value} {o_3 : Option Value}  (K : ip sc call 38 MC MS Q 28 [o_0, o_1, o_2, o_3] [(.int (nI 0))] h z c s) : ip sc call 38 MC MS Q 27 [o_0, o_1, o_2, o_3] [] h z c s := by
  refine jp_con (pc2 := 28) (v := (.int (nI 0))) rfl rfl rfl ?_
  exact K
theorem c38_28 {o_0 : Option Value} {o_1 : Option Value} {o_2 : Option Value} {o_3 : Option Value} {sa_0 : Nat} (t1 : narrow .boolean (.int (nI sa_0)) = .int (nI sa_0)) (q2 : Q (some (.int (nI sa_0))) h z)  : ip sc call 38 MC MS Q 28 [o_0, o_1, o_2, o_3] [(.int (nI sa_0))] h z c s := by
  exact ip_iret (st := []) rfl rfl t1 q2
theorem c39_0 {r_0 : Nat} {a_1 : Nat} {fs1 : List Value} {q_fs1_3 : Nat} {n4 : Nat} {f5 : Nat → Int32} {v9 : Nat} {v12 : Nat} (e2 : h r_0 = some (.inr (6, fs1))) (e3 : fs1[3]? = some (.ref q_fs1_3)) (e6 : h q_fs1_3 = some (.inl (0, n4, .inl f5))) (b7 : a_1 + 1 < n4) (c8 : n4 < 2147483648) (e10 : f5 (a_1 + 1) = nI v9) (b11 : a_1 < n4) (e13 : f5 a_1 = nI v12) (d14 : v12 ≤ v9) (q15 : Q (some (.int (nI (v9 - v12)))) h z)  : ip sc call 39 MC MS Q 0 [some (.ref r_0), some (.int (nI a_1))] [] h z c s := by
  refine jp_load (pc2 := 1) (n := 0) rfl rfl rfl rfl ?_
  refine jp_getf (pc2 := 4) rfl rfl e2 e3 ?_
  refine jp_load (pc2 := 5) (n := 1) rfl rfl rfl rfl ?_
  refine jp_con (pc2 := 6) (v := (.int (nI 1))) rfl rfl rfl ?_
  refine jp_bin (pc2 := 7) (v := nI (a_1 + 1)) rfl rfl (congrArg some (nI_add _ _)) ?_
  refine jp_iald (pc2 := 8) rfl rfl e6 (vp_in_nI b7 c8) ?_
  rw [(nI_clamp (Nat.lt_trans b7 c8))]
  rw [e10]
  refine jp_load (pc2 := 9) (n := 0) rfl rfl rfl rfl ?_
  refine jp_getf (pc2 := 12) rfl rfl e2 e3 ?_
  refine jp_load (pc2 := 13) (n := 1) rfl rfl rfl rfl ?_
  refine jp_iald (pc2 := 14) rfl rfl e6 (vp_in_nI b11 c8) ?_
  rw [(nI_clamp (Nat.lt_trans b11 c8))]
  rw [e13]
  refine jp_bin (pc2 := 15) (v := nI (v9 - v12)) rfl rfl (congrArg some (pk_sub d14)) ?_
  exact ip_iret (st := []) rfl rfl rfl q15
theorem c40_0 {r_0 : Nat} {a_1 : Nat} {a_2 : Nat} {fs1 : List Value} {q_fs1_3 : Nat} {n4 : Nat} {f5 : Nat → Int32} {v9 : Nat} {P : ipQ} (e2 : h r_0 = some (.inr (6, fs1))) (e3 : fs1[3]? = some (.ref q_fs1_3)) (e6 : h q_fs1_3 = some (.inl (0, n4, .inl f5))) (b7 : a_1 < n4) (c8 : n4 < 2147483648) (e10 : f5 a_1 = nI v9) (m11 : c ≤ MC) (m12 : s ≤ MS) (hc : call 41 [(.ref r_0), (.int (nI (v9 + a_2)))] h z 0 0 P) (K : ∀ (o : Option Value) (h2 : HP) (z2 : Nat), P o h2 z2 → ip sc call 40 MC MS Q 12 [some (.ref r_0), some (.int (nI a_1)), some (.int (nI a_2))] (o.toList ++ []) h2 z2 c s) : ip sc call 40 MC MS Q 0 [some (.ref r_0), some (.int (nI a_1)), some (.int (nI a_2))] [] h z c s := by
  refine jp_load (pc2 := 1) (n := 0) rfl rfl rfl rfl ?_
  refine jp_load (pc2 := 2) (n := 0) rfl rfl rfl rfl ?_
  refine jp_getf (pc2 := 5) rfl rfl e2 e3 ?_
  refine jp_load (pc2 := 6) (n := 1) rfl rfl rfl rfl ?_
  refine jp_iald (pc2 := 7) rfl rfl e6 (vp_in_nI b7 c8) ?_
  rw [(nI_clamp (Nat.lt_trans b7 c8))]
  rw [e10]
  refine jp_load (pc2 := 8) (n := 2) rfl rfl rfl rfl ?_
  refine jp_bin (pc2 := 9) (v := nI (v9 + a_2)) rfl rfl (congrArg some (nI_add _ _)) ?_
  exact jp_virt0 (pc2 := 12) (As := [(.int (nI (v9 + a_2)))]) (rest := []) rfl rfl rfl (Nat.le_of_ble_eq_true rfl) e2 m11 m12 hc rfl K
theorem c40_12 {o_0 : Option Value} {o_1 : Option Value} {o_2 : Option Value} {sa_0 : Nat} (q1 : Q (some (.int (nI sa_0))) h z)  : ip sc call 40 MC MS Q 12 [o_0, o_1, o_2] [(.int (nI sa_0))] h z c s := by
  exact ip_iret (st := []) rfl rfl rfl q1
theorem c41_0 {r_0 : Nat} {a_1 : Nat} {fs1 : List Value} {q_fs1_2 : Nat} {n4 : Nat} {f5 : Nat → Int32} {v9 : Nat} {v12 : Nat} (e2 : h r_0 = some (.inr (6, fs1))) (e3 : fs1[2]? = some (.ref q_fs1_2)) (e6 : h q_fs1_2 = some (.inl (0, n4, .inl f5))) (b7 : a_1 + 1 < n4) (c8 : n4 < 2147483648) (e10 : f5 (a_1 + 1) = nI v9) (b11 : a_1 < n4) (e13 : f5 a_1 = nI v12) (d14 : v12 ≤ v9) (q15 : Q (some (.int (nI (v9 - v12)))) h z)  : ip sc call 41 MC MS Q 0 [some (.ref r_0), some (.int (nI a_1))] [] h z c s := by
  refine jp_load (pc2 := 1) (n := 0) rfl rfl rfl rfl ?_
  refine jp_getf (pc2 := 4) rfl rfl e2 e3 ?_
  refine jp_load (pc2 := 5) (n := 1) rfl rfl rfl rfl ?_
  refine jp_con (pc2 := 6) (v := (.int (nI 1))) rfl rfl rfl ?_
  refine jp_bin (pc2 := 7) (v := nI (a_1 + 1)) rfl rfl (congrArg some (nI_add _ _)) ?_
  refine jp_iald (pc2 := 8) rfl rfl e6 (vp_in_nI b7 c8) ?_
  rw [(nI_clamp (Nat.lt_trans b7 c8))]
  rw [e10]
  refine jp_load (pc2 := 9) (n := 0) rfl rfl rfl rfl ?_
  refine jp_getf (pc2 := 12) rfl rfl e2 e3 ?_
  refine jp_load (pc2 := 13) (n := 1) rfl rfl rfl rfl ?_
  refine jp_iald (pc2 := 14) rfl rfl e6 (vp_in_nI b11 c8) ?_
  rw [(nI_clamp (Nat.lt_trans b11 c8))]
  rw [e13]
  refine jp_bin (pc2 := 15) (v := nI (v9 - v12)) rfl rfl (congrArg some (pk_sub d14)) ?_
  exact ip_iret (st := []) rfl rfl rfl q15
theorem c42_0 {r_0 : Nat} {a_1 : Nat} {a_2 : Nat} {a_3 : Nat} {fs1 : List Value} {q_fs1_1 : Nat} {q_fs1_2 : Nat} {q_fs1_3 : Nat} {n6 : Nat} {f7 : Nat → Int32} {v11 : Nat} {n13 : Nat} {f14 : Nat → Int32} {v18 : Nat} {n20 : Nat} {f21 : Nat → Int32} {v25 : Nat} (e2 : h r_0 = some (.inr (6, fs1))) (e3 : fs1[1]? = some (.ref q_fs1_1)) (e4 : fs1[2]? = some (.ref q_fs1_2)) (e5 : fs1[3]? = some (.ref q_fs1_3)) (e8 : h q_fs1_3 = some (.inl (0, n6, .inl f7))) (b9 : a_1 < n6) (c10 : n6 < 2147483648) (e12 : f7 a_1 = nI v11) (e15 : h q_fs1_2 = some (.inl (0, n13, .inl f14))) (b16 : v11 + a_2 < n13) (c17 : n13 < 2147483648) (e19 : f14 (v11 + a_2) = nI v18) (e22 : h q_fs1_1 = some (.inl (0, n20, .inl f21))) (b23 : v18 + a_3 < n20) (c24 : n20 < 2147483648) (e26 : f21 (v18 + a_3) = nI v25) (q27 : Q (some (.int (nI v25))) h z)  : ip sc call 42 MC MS Q 0 [some (.ref r_0), some (.int (nI a_1)), some (.int (nI a_2)), some (.int (nI a_3))] [] h z c s := by
  refine jp_load (pc2 := 1) (n := 0) rfl rfl rfl rfl ?_
  refine jp_getf (pc2 := 4) rfl rfl e2 e3 ?_
  refine jp_load (pc2 := 5) (n := 0) rfl rfl rfl rfl ?_
  refine jp_getf (pc2 := 8) rfl rfl e2 e4 ?_
  refine jp_load (pc2 := 9) (n := 0) rfl rfl rfl rfl ?_
  refine jp_getf (pc2 := 12) rfl rfl e2 e5 ?_
  refine jp_load (pc2 := 13) (n := 1) rfl rfl rfl rfl ?_
  refine jp_iald (pc2 := 14) rfl rfl e8 (vp_in_nI b9 c10) ?_
  rw [(nI_clamp (Nat.lt_trans b9 c10))]
  rw [e12]
  refine jp_load (pc2 := 15) (n := 2) rfl rfl rfl rfl ?_
  refine jp_bin (pc2 := 16) (v := nI (v11 + a_2)) rfl rfl (congrArg some (nI_add _ _)) ?_
  refine jp_iald (pc2 := 17) rfl rfl e15 (vp_in_nI b16 c17) ?_
  rw [(nI_clamp (Nat.lt_trans b16 c17))]
  rw [e19]
  refine jp_load (pc2 := 18) (n := 3) rfl rfl rfl rfl ?_
  refine jp_bin (pc2 := 19) (v := nI (v18 + a_3)) rfl rfl (congrArg some (nI_add _ _)) ?_
  refine jp_iald (pc2 := 20) rfl rfl e22 (vp_in_nI b23 c24) ?_
  rw [(nI_clamp (Nat.lt_trans b23 c24))]
  rw [e26]
  exact ip_iret (st := []) rfl rfl rfl q27
theorem c43_0 {r_0 : Nat} {a_1 : Nat} {a_2 : Nat} (c1 : a_1 < 2147483648) (c2 : a_2 < 2147483648) (K1 : ¬ a_1 = a_2 → ip sc call 43 MC MS Q 23 [some (.ref r_0), some (.int (nI a_1)), some (.int (nI a_2))] [] h z c s) (K2 : ¬ (¬ a_1 = a_2) → ip sc call 43 MC MS Q 5 [some (.ref r_0), some (.int (nI a_1)), some (.int (nI a_2))] [] h z c s) : ip sc call 43 MC MS Q 0 [some (.ref r_0), some (.int (nI a_1)), some (.int (nI a_2))] [] h z c s := by
  refine jp_load (pc2 := 1) (n := 1) rfl rfl rfl rfl ?_
  refine jp_load (pc2 := 2) (n := 2) rfl rfl rfl rfl ?_
  exact jp_icmp (pc2 := 5) rfl rfl (fun q => K1 ((not_congr (nI_eq c1 c2)).mp q)) (fun q => K2 (fun r => q ((not_congr (nI_eq c1 c2)).mpr r)))
theorem c43_5 {r_0 : Nat} {a_1 : Nat} {o_2 : Option Value} {fs1 : List Value} {q_fs1_4 : Nat} {n4 : Nat} {f5 : Nat → Int32} {v9 : Nat} (e2 : h r_0 = some (.inr (6, fs1))) (e3 : fs1[4]? = some (.ref q_fs1_4)) (e6 : h q_fs1_4 = some (.inl (0, n4, .inl f5))) (b7 : a_1 < n4) (c8 : n4 < 2147483648) (e10 : f5 a_1 = nI v9) (c11 : v9 < 2147483648) (K1 : v9 < 2 → ip sc call 43 MC MS Q 19 [some (.ref r_0), some (.int (nI a_1)), o_2] [] h z c s) (K2 : ¬ (v9 < 2) → ip sc call 43 MC MS Q 15 [some (.ref r_0), some (.int (nI a_1)), o_2] [] h z c s) : ip sc call 43 MC MS Q 5 [some (.ref r_0), some (.int (nI a_1)), o_2] [] h z c s := by
  refine jp_load (pc2 := 6) (n := 0) rfl rfl rfl rfl ?_
  refine jp_getf (pc2 := 9) rfl rfl e2 e3 ?_
  refine jp_load (pc2 := 10) (n := 1) rfl rfl rfl rfl ?_
  refine jp_iald (pc2 := 11) rfl rfl e6 (vp_in_nI b7 c8) ?_
  rw [(nI_clamp (Nat.lt_trans b7 c8))]
  rw [e10]
  refine jp_con (pc2 := 12) (v := (.int (nI 2))) rfl rfl rfl ?_
  exact jp_icmp (pc2 := 15) rfl rfl (fun q => K1 ((nI_ltI c11 (by decide)).mp q)) (fun q => K2 (fun r => q ((nI_ltI c11 (by decide)).mpr r)))
theorem c43_15 {o_0 : Option Value} {o_1 : Option Value} {o_2 : Option Value}  (K : ip sc call 43 MC MS Q 48 [o_0, o_1, o_2] [(.int (nI 1))] h z c s) : ip sc call 43 MC MS Q 15 [o_0, o_1, o_2] [] h z c s := by
  refine jp_con (pc2 := 16) (v := (.int (nI 1))) rfl rfl rfl ?_
  refine ip_goto rfl ?_
  exact K
theorem c43_19 {o_0 : Option Value} {o_1 : Option Value} {o_2 : Option Value}  (K : ip sc call 43 MC MS Q 48 [o_0, o_1, o_2] [(.int (nI 0))] h z c s) : ip sc call 43 MC MS Q 19 [o_0, o_1, o_2] [] h z c s := by
  refine jp_con (pc2 := 20) (v := (.int (nI 0))) rfl rfl rfl ?_
  refine ip_goto rfl ?_
  exact K
theorem c43_23 {r_0 : Nat} {a_1 : Nat} {a_2 : Nat} {fs1 : List Value} {q_fs1_4 : Nat} {n4 : Nat} {f5 : Nat → Int32} {v9 : Nat} (e2 : h r_0 = some (.inr (6, fs1))) (e3 : fs1[4]? = some (.ref q_fs1_4)) (e6 : h q_fs1_4 = some (.inl (0, n4, .inl f5))) (b7 : a_1 < n4) (c8 : n4 < 2147483648) (e10 : f5 a_1 = nI v9) (c11 : v9 < 2147483648) (K1 : v9 < 1 → ip sc call 43 MC MS Q 47 [some (.ref r_0), some (.int (nI a_1)), some (.int (nI a_2))] [] h z c s) (K2 : ¬ (v9 < 1) → ip sc call 43 MC MS Q 33 [some (.ref r_0), some (.int (nI a_1)), some (.int (nI a_2))] [] h z c s) : ip sc call 43 MC MS Q 23 [some (.ref r_0), some (.int (nI a_1)), some (.int (nI a_2))] [] h z c s := by
  refine jp_load (pc2 := 24) (n := 0) rfl rfl rfl rfl ?_
  refine jp_getf (pc2 := 27) rfl rfl e2 e3 ?_
  refine jp_load (pc2 := 28) (n := 1) rfl rfl rfl rfl ?_
  refine jp_iald (pc2 := 29) rfl rfl e6 (vp_in_nI b7 c8) ?_
  rw [(nI_clamp (Nat.lt_trans b7 c8))]
  rw [e10]
  refine jp_con (pc2 := 30) (v := (.int (nI 1))) rfl rfl rfl ?_
  exact jp_icmp (pc2 := 33) rfl rfl (fun q => K1 ((nI_ltI c11 (by decide)).mp q)) (fun q => K2 (fun r => q ((nI_ltI c11 (by decide)).mpr r)))
theorem c43_33 {r_0 : Nat} {o_1 : Option Value} {a_2 : Nat} {fs1 : List Value} {q_fs1_4 : Nat} {n4 : Nat} {f5 : Nat → Int32} {v9 : Nat} (e2 : h r_0 = some (.inr (6, fs1))) (e3 : fs1[4]? = some (.ref q_fs1_4)) (e6 : h q_fs1_4 = some (.inl (0, n4, .inl f5))) (b7 : a_2 < n4) (c8 : n4 < 2147483648) (e10 : f5 a_2 = nI v9) (c11 : v9 < 2147483648) (K1 : v9 < 1 → ip sc call 43 MC MS Q 47 [some (.ref r_0), o_1, some (.int (nI a_2))] [] h z c s) (K2 : ¬ (v9 < 1) → ip sc call 43 MC MS Q 43 [some (.ref r_0), o_1, some (.int (nI a_2))] [] h z c s) : ip sc call 43 MC MS Q 33 [some (.ref r_0), o_1, some (.int (nI a_2))] [] h z c s := by
  refine jp_load (pc2 := 34) (n := 0) rfl rfl rfl rfl ?_
  refine jp_getf (pc2 := 37) rfl rfl e2 e3 ?_
  refine jp_load (pc2 := 38) (n := 2) rfl rfl rfl rfl ?_
  refine jp_iald (pc2 := 39) rfl rfl e6 (vp_in_nI b7 c8) ?_
  rw [(nI_clamp (Nat.lt_trans b7 c8))]
  rw [e10]
  refine jp_con (pc2 := 40) (v := (.int (nI 1))) rfl rfl rfl ?_
  exact jp_icmp (pc2 := 43) rfl rfl (fun q => K1 ((nI_ltI c11 (by decide)).mp q)) (fun q => K2 (fun r => q ((nI_ltI c11 (by decide)).mpr r)))
theorem c43_43 {o_0 : Option Value} {o_1 : Option Value} {o_2 : Option Value}  (K : ip sc call 43 MC MS Q 48 [o_0, o_1, o_2] [(.int (nI 1))] h z c s) : ip sc call 43 MC MS Q 43 [o_0, o_1, o_2] [] h z c s := by
  refine jp_con (pc2 := 44) (v := (.int (nI 1))) rfl rfl rfl ?_
  refine ip_goto rfl ?_
  exact K
theorem c43_47 {o_0 : Option Value} {o_1 : Option Value} {o_2 : Option Value}  (K : ip sc call 43 MC MS Q 48 [o_0, o_1, o_2] [(.int (nI 0))] h z c s) : ip sc call 43 MC MS Q 47 [o_0, o_1, o_2] [] h z c s := by
  refine jp_con (pc2 := 48) (v := (.int (nI 0))) rfl rfl rfl ?_
  exact K
theorem c43_48 {o_0 : Option Value} {o_1 : Option Value} {o_2 : Option Value} {sa_0 : Nat} (t1 : narrow .boolean (.int (nI sa_0)) = .int (nI sa_0)) (q2 : Q (some (.int (nI sa_0))) h z)  : ip sc call 43 MC MS Q 48 [o_0, o_1, o_2] [(.int (nI sa_0))] h z c s := by
  exact ip_iret (st := []) rfl rfl t1 q2
theorem c44_0 {r_0 : Nat} {r_1 : Nat} {fs1 : List Value} {v_fs1_1 : Nat} {v_fs1_3 : Nat} (e2 : h r_1 = some (.inr (2, fs1))) (e3 : fs1[1]? = some (.int (nI v_fs1_1))) (e4 : fs1[3]? = some (.int (nI v_fs1_3))) (c5 : v_fs1_1 < 2147483648) (c6 : v_fs1_3 < 2147483648) (K1 : ¬ v_fs1_1 = v_fs1_3 → ip sc call 44 MC MS Q 26 [some (.ref r_0), some (.ref r_1)] [] h z c s) (K2 : ¬ (¬ v_fs1_1 = v_fs1_3) → ip sc call 44 MC MS Q 11 [some (.ref r_0), some (.ref r_1)] [] h z c s) : ip sc call 44 MC MS Q 0 [some (.ref r_0), some (.ref r_1)] [] h z c s := by
  refine jp_load (pc2 := 1) (n := 1) rfl rfl rfl rfl ?_
  refine jp_getf (pc2 := 4) rfl rfl e2 e3 ?_
  refine jp_load (pc2 := 5) (n := 1) rfl rfl rfl rfl ?_
  refine jp_getf (pc2 := 8) rfl rfl e2 e4 ?_
  exact jp_icmp (pc2 := 11) rfl rfl (fun q => K1 ((not_congr (nI_eq c5 c6)).mp q)) (fun q => K2 (fun r => q ((not_congr (nI_eq c5 c6)).mpr r)))
theorem c44_11 {r_0 : Nat} {r_1 : Nat} {fs1 : List Value} {v_fs1_0 : Nat} {fs4 : List Value} {P : ipQ} (e2 : h r_1 = some (.inr (2, fs1))) (e3 : fs1[0]? = some (.int (nI v_fs1_0))) (e5 : h r_0 = some (.inr (6, fs4))) (m6 : c ≤ MC) (m7 : s ≤ MS) (hc : call 39 [(.ref r_0), (.int (nI v_fs1_0))] h z 0 0 P) (K : ∀ (o : Option Value) (h2 : HP) (z2 : Nat), P o h2 z2 → ip sc call 44 MC MS Q 20 [some (.ref r_0), some (.ref r_1)] (o.toList ++ [(.int (nI 1))]) h2 z2 c s) : ip sc call 44 MC MS Q 11 [some (.ref r_0), some (.ref r_1)] [] h z c s := by
  refine jp_con (pc2 := 12) (v := (.int (nI 1))) rfl rfl rfl ?_
  refine jp_load (pc2 := 13) (n := 0) rfl rfl rfl rfl ?_
  refine jp_load (pc2 := 14) (n := 1) rfl rfl rfl rfl ?_
  refine jp_getf (pc2 := 17) rfl rfl e2 e3 ?_
  exact jp_virt0 (pc2 := 20) (As := [(.int (nI v_fs1_0))]) (rest := [(.int (nI 1))]) rfl rfl rfl (Nat.le_of_ble_eq_true rfl) e5 m6 m7 hc rfl K
theorem c44_20 {o_0 : Option Value} {o_1 : Option Value} {sa_0 : Nat} {sa_1 : Nat} (d1 : 1 ≤ sa_1) (K : ip sc call 44 MC MS Q 27 [o_0, o_1] [(.int ((nI sa_0) <<< ((nI (sa_1 - 1)) &&& 31)))] h z c s) : ip sc call 44 MC MS Q 20 [o_0, o_1] [(.int (nI sa_1)), (.int (nI sa_0))] h z c s := by
  refine jp_con (pc2 := 21) (v := (.int (nI 1))) rfl rfl rfl ?_
  refine jp_bin (pc2 := 22) (v := nI (sa_1 - 1)) rfl rfl (congrArg some (pk_sub d1)) ?_
  refine jp_bin (pc2 := 23) (v := (nI sa_0) <<< ((nI (sa_1 - 1)) &&& 31)) rfl rfl rfl ?_
  refine ip_goto rfl ?_
  exact K
theorem c44_26 {o_0 : Option Value} {o_1 : Option Value}  (K : ip sc call 44 MC MS Q 27 [o_0, o_1] [(.int (nI 1))] h z c s) : ip sc call 44 MC MS Q 26 [o_0, o_1] [] h z c s := by
  refine jp_con (pc2 := 27) (v := (.int (nI 1))) rfl rfl rfl ?_
  exact K
theorem c44_27 {o_0 : Option Value} {o_1 : Option Value} {sa_0 : Nat} (q1 : Q (some (.int (nI sa_0))) h z)  : ip sc call 44 MC MS Q 27 [o_0, o_1] [(.int (nI sa_0))] h z c s := by
  exact ip_iret (st := []) rfl rfl rfl q1
theorem c45_0 {r_0 : Nat} {r_1 : Nat} {fs1 : List Value} {v_fs1_0 : Nat} {v_fs1_1 : Nat} {v_fs1_2 : Nat} {fs6 : List Value} {P : ipQ} (e2 : h r_1 = some (.inr (2, fs1))) (e3 : fs1[0]? = some (.int (nI v_fs1_0))) (e4 : fs1[1]? = some (.int (nI v_fs1_1))) (e5 : fs1[2]? = some (.int (nI v_fs1_2))) (e7 : h r_0 = some (.inr (6, fs6))) (m8 : c ≤ MC) (m9 : s ≤ MS) (hc : call 38 [(.ref r_0), (.int (nI v_fs1_0)), (.int (nI v_fs1_1)), (.int (nI v_fs1_2))] h z 0 0 P) (K : ∀ (o : Option Value) (h2 : HP) (z2 : Nat), P o h2 z2 → ip sc call 45 MC MS Q 16 [some (.ref r_0), some (.ref r_1)] (o.toList ++ []) h2 z2 c s) : ip sc call 45 MC MS Q 0 [some (.ref r_0), some (.ref r_1)] [] h z c s := by
  refine jp_load (pc2 := 1) (n := 0) rfl rfl rfl rfl ?_
  refine jp_load (pc2 := 2) (n := 1) rfl rfl rfl rfl ?_
  refine jp_getf (pc2 := 5) rfl rfl e2 e3 ?_
  refine jp_load (pc2 := 6) (n := 1) rfl rfl rfl rfl ?_
  refine jp_getf (pc2 := 9) rfl rfl e2 e4 ?_
  refine jp_load (pc2 := 10) (n := 1) rfl rfl rfl rfl ?_
  refine jp_getf (pc2 := 13) rfl rfl e2 e5 ?_
  exact jp_virt0 (pc2 := 16) (As := [(.int (nI v_fs1_0)), (.int (nI v_fs1_1)), (.int (nI v_fs1_2))]) (rest := []) rfl rfl rfl (Nat.le_of_ble_eq_true rfl) e7 m8 m9 hc rfl K
theorem c45_16 {r_0 : Nat} {r_1 : Nat} {sa_0 : Nat} (c1 : sa_0 < 2147483648) (K1 : sa_0 = 0 → ip sc call 45 MC MS Q 38 [some (.ref r_0), some (.ref r_1)] [] h z c s) (K2 : ¬ (sa_0 = 0) → ip sc call 45 MC MS Q 19 [some (.ref r_0), some (.ref r_1)] [] h z c s) : ip sc call 45 MC MS Q 16 [some (.ref r_0), some (.ref r_1)] [(.int (nI sa_0))] h z c s := by
  exact jp_if0 (pc2 := 19) rfl rfl (fun q => K1 ((nI_eq c1 (by decide)).mp q)) (fun q => K2 (fun r => q ((nI_eq c1 (by decide)).mpr r)))
theorem c45_19 {r_0 : Nat} {r_1 : Nat} {fs1 : List Value} {v_fs1_0 : Nat} {v_fs1_3 : Nat} {v_fs1_4 : Nat} {fs6 : List Value} {P : ipQ} (e2 : h r_1 = some (.inr (2, fs1))) (e3 : fs1[0]? = some (.int (nI v_fs1_0))) (e4 : fs1[3]? = some (.int (nI v_fs1_3))) (e5 : fs1[4]? = some (.int (nI v_fs1_4))) (e7 : h r_0 = some (.inr (6, fs6))) (m8 : c ≤ MC) (m9 : s ≤ MS) (hc : call 38 [(.ref r_0), (.int (nI v_fs1_0)), (.int (nI v_fs1_3)), (.int (nI v_fs1_4))] h z 0 0 P) (K : ∀ (o : Option Value) (h2 : HP) (z2 : Nat), P o h2 z2 → ip sc call 45 MC MS Q 35 [some (.ref r_0), some (.ref r_1)] (o.toList ++ []) h2 z2 c s) : ip sc call 45 MC MS Q 19 [some (.ref r_0), some (.ref r_1)] [] h z c s := by
  refine jp_load (pc2 := 20) (n := 0) rfl rfl rfl rfl ?_
  refine jp_load (pc2 := 21) (n := 1) rfl rfl rfl rfl ?_
  refine jp_getf (pc2 := 24) rfl rfl e2 e3 ?_
  refine jp_load (pc2 := 25) (n := 1) rfl rfl rfl rfl ?_
  refine jp_getf (pc2 := 28) rfl rfl e2 e4 ?_
  refine jp_load (pc2 := 29) (n := 1) rfl rfl rfl rfl ?_
  refine jp_getf (pc2 := 32) rfl rfl e2 e5 ?_
  exact jp_virt0 (pc2 := 35) (As := [(.int (nI v_fs1_0)), (.int (nI v_fs1_3)), (.int (nI v_fs1_4))]) (rest := []) rfl rfl rfl (Nat.le_of_ble_eq_true rfl) e7 m8 m9 hc rfl K
theorem c45_35 {r_0 : Nat} {r_1 : Nat} {sa_0 : Nat} (c1 : sa_0 < 2147483648) (K1 : ¬ sa_0 = 0 → ip sc call 45 MC MS Q 40 [some (.ref r_0), some (.ref r_1)] [] h z c s) (K2 : ¬ (¬ sa_0 = 0) → ip sc call 45 MC MS Q 38 [some (.ref r_0), some (.ref r_1)] [] h z c s) : ip sc call 45 MC MS Q 35 [some (.ref r_0), some (.ref r_1)] [(.int (nI sa_0))] h z c s := by
  exact jp_if0 (pc2 := 38) rfl rfl (fun q => K1 ((not_congr (nI_eq c1 (by decide))).mp q)) (fun q => K2 (fun r => q ((not_congr (nI_eq c1 (by decide))).mpr r)))
theorem c45_38 {o_0 : Option Value} {o_1 : Option Value} (q1 : Q (some (.int (nI 0))) h z)  : ip sc call 45 MC MS Q 38 [o_0, o_1] [] h z c s := by
  refine jp_con (pc2 := 39) (v := (.int (nI 0))) rfl rfl rfl ?_
  exact ip_iret (st := []) rfl rfl rfl q1
theorem c45_40 {r_0 : Nat} {r_1 : Nat} {fs1 : List Value} {v_fs1_1 : Nat} {v_fs1_3 : Nat} (e2 : h r_1 = some (.inr (2, fs1))) (e3 : fs1[1]? = some (.int (nI v_fs1_1))) (e4 : fs1[3]? = some (.int (nI v_fs1_3))) (c5 : v_fs1_1 < 2147483648) (c6 : v_fs1_3 < 2147483648) (K1 : v_fs1_3 < v_fs1_1 → ip sc call 45 MC MS Q 73 [some (.ref r_0), some (.ref r_1)] [] h z c s) (K2 : ¬ (v_fs1_3 < v_fs1_1) → ip sc call 45 MC MS Q 51 [some (.ref r_0), some (.ref r_1)] [] h z c s) : ip sc call 45 MC MS Q 40 [some (.ref r_0), some (.ref r_1)] [] h z c s := by
  refine jp_load (pc2 := 41) (n := 1) rfl rfl rfl rfl ?_
  refine jp_getf (pc2 := 44) rfl rfl e2 e3 ?_
  refine jp_load (pc2 := 45) (n := 1) rfl rfl rfl rfl ?_
  refine jp_getf (pc2 := 48) rfl rfl e2 e4 ?_
  exact jp_icmp (pc2 := 51) rfl rfl (fun q => K1 ((nI_ltI c6 c5).mp q)) (fun q => K2 (fun r => q ((nI_ltI c6 c5).mpr r)))
theorem c45_51 {r_0 : Nat} {r_1 : Nat} {fs1 : List Value} {v_fs1_1 : Nat} {v_fs1_3 : Nat} (e2 : h r_1 = some (.inr (2, fs1))) (e3 : fs1[1]? = some (.int (nI v_fs1_1))) (e4 : fs1[3]? = some (.int (nI v_fs1_3))) (c5 : v_fs1_1 < 2147483648) (c6 : v_fs1_3 < 2147483648) (K1 : ¬ v_fs1_1 = v_fs1_3 → ip sc call 45 MC MS Q 75 [some (.ref r_0), some (.ref r_1)] [] h z c s) (K2 : ¬ (¬ v_fs1_1 = v_fs1_3) → ip sc call 45 MC MS Q 62 [some (.ref r_0), some (.ref r_1)] [] h z c s) : ip sc call 45 MC MS Q 51 [some (.ref r_0), some (.ref r_1)] [] h z c s := by
  refine jp_load (pc2 := 52) (n := 1) rfl rfl rfl rfl ?_
  refine jp_getf (pc2 := 55) rfl rfl e2 e3 ?_
  refine jp_load (pc2 := 56) (n := 1) rfl rfl rfl rfl ?_
  refine jp_getf (pc2 := 59) rfl rfl e2 e4 ?_
  exact jp_icmp (pc2 := 62) rfl rfl (fun q => K1 ((not_congr (nI_eq c5 c6)).mp q)) (fun q => K2 (fun r => q ((not_congr (nI_eq c5 c6)).mpr r)))
theorem c45_62 {r_0 : Nat} {r_1 : Nat} {fs1 : List Value} {v_fs1_2 : Nat} {v_fs1_4 : Nat} (e2 : h r_1 = some (.inr (2, fs1))) (e3 : fs1[2]? = some (.int (nI v_fs1_2))) (e4 : fs1[4]? = some (.int (nI v_fs1_4))) (c5 : v_fs1_2 < 2147483648) (c6 : v_fs1_4 < 2147483648) (K1 : v_fs1_2 ≤ v_fs1_4 → ip sc call 45 MC MS Q 75 [some (.ref r_0), some (.ref r_1)] [] h z c s) (K2 : ¬ (v_fs1_2 ≤ v_fs1_4) → ip sc call 45 MC MS Q 73 [some (.ref r_0), some (.ref r_1)] [] h z c s) : ip sc call 45 MC MS Q 62 [some (.ref r_0), some (.ref r_1)] [] h z c s := by
  refine jp_load (pc2 := 63) (n := 1) rfl rfl rfl rfl ?_
  refine jp_getf (pc2 := 66) rfl rfl e2 e3 ?_
  refine jp_load (pc2 := 67) (n := 1) rfl rfl rfl rfl ?_
  refine jp_getf (pc2 := 70) rfl rfl e2 e4 ?_
  exact jp_icmp (pc2 := 73) rfl rfl (fun q => K1 ((nI_leI c5 c6).mp q)) (fun q => K2 (fun r => q ((nI_leI c5 c6).mpr r)))
theorem c45_73 {o_0 : Option Value} {o_1 : Option Value} (q1 : Q (some (.int (nI 0))) h z)  : ip sc call 45 MC MS Q 73 [o_0, o_1] [] h z c s := by
  refine jp_con (pc2 := 74) (v := (.int (nI 0))) rfl rfl rfl ?_
  exact ip_iret (st := []) rfl rfl rfl q1
theorem c45_75 {r_0 : Nat} {r_1 : Nat} {fs1 : List Value} {v_fs1_5 : Nat} (e2 : h r_1 = some (.inr (2, fs1))) (e3 : fs1[5]? = some (.int (nI v_fs1_5))) (c4 : v_fs1_5 < 2147483648) (K1 : v_fs1_5 < 0 → ip sc call 45 MC MS Q 94 [some (.ref r_0), some (.ref r_1)] [] h z c s) (K2 : ¬ (v_fs1_5 < 0) → ip sc call 45 MC MS Q 82 [some (.ref r_0), some (.ref r_1)] [] h z c s) : ip sc call 45 MC MS Q 75 [some (.ref r_0), some (.ref r_1)] [] h z c s := by
  refine jp_load (pc2 := 76) (n := 1) rfl rfl rfl rfl ?_
  refine jp_getf (pc2 := 79) rfl rfl e2 e3 ?_
  exact jp_if0 (pc2 := 82) rfl rfl (fun q => K1 ((nI_ltI c4 (by decide)).mp q)) (fun q => K2 (fun r => q ((nI_ltI c4 (by decide)).mpr r)))
theorem c45_82 {r_0 : Nat} {r_1 : Nat} {fs1 : List Value} {v_fs1_5 : Nat} {fs4 : List Value} {P : ipQ} (e2 : h r_1 = some (.inr (2, fs1))) (e3 : fs1[5]? = some (.int (nI v_fs1_5))) (e5 : h r_0 = some (.inr (6, fs4))) (m6 : c ≤ MC) (m7 : s ≤ MS) (hc : call 44 [(.ref r_0), (.ref r_1)] h z 0 0 P) (K : ∀ (o : Option Value) (h2 : HP) (z2 : Nat), P o h2 z2 → ip sc call 45 MC MS Q 91 [some (.ref r_0), some (.ref r_1)] (o.toList ++ [(.int (nI v_fs1_5))]) h2 z2 c s) : ip sc call 45 MC MS Q 82 [some (.ref r_0), some (.ref r_1)] [] h z c s := by
  refine jp_load (pc2 := 83) (n := 1) rfl rfl rfl rfl ?_
  refine jp_getf (pc2 := 86) rfl rfl e2 e3 ?_
  refine jp_load (pc2 := 87) (n := 0) rfl rfl rfl rfl ?_
  refine jp_load (pc2 := 88) (n := 1) rfl rfl rfl rfl ?_
  exact jp_virt0 (pc2 := 91) (As := [(.ref r_1)]) (rest := [(.int (nI v_fs1_5))]) rfl rfl rfl (Nat.le_of_ble_eq_true rfl) e5 m6 m7 hc rfl K
theorem c45_91 {r_0 : Nat} {r_1 : Nat} {sa_0 : Nat} {sa_1 : Nat} (c1 : sa_0 < 2147483648) (c2 : sa_1 < 2147483648) (K1 : sa_0 < sa_1 → ip sc call 45 MC MS Q 96 [some (.ref r_0), some (.ref r_1)] [] h z c s) (K2 : ¬ (sa_0 < sa_1) → ip sc call 45 MC MS Q 94 [some (.ref r_0), some (.ref r_1)] [] h z c s) : ip sc call 45 MC MS Q 91 [some (.ref r_0), some (.ref r_1)] [(.int (nI sa_1)), (.int (nI sa_0))] h z c s := by
  exact jp_icmp (pc2 := 94) rfl rfl (fun q => K1 ((nI_ltI c1 c2).mp q)) (fun q => K2 (fun r => q ((nI_ltI c1 c2).mpr r)))
theorem c45_94 {o_0 : Option Value} {o_1 : Option Value} (q1 : Q (some (.int (nI 0))) h z)  : ip sc call 45 MC MS Q 94 [o_0, o_1] [] h z c s := by
  refine jp_con (pc2 := 95) (v := (.int (nI 0))) rfl rfl rfl ?_
  exact ip_iret (st := []) rfl rfl rfl q1
theorem c45_96 {r_0 : Nat} {r_1 : Nat} {fs1 : List Value} {v_fs1_0 : Nat} {v_fs1_1 : Nat} {v_fs1_2 : Nat} {fs6 : List Value} {P : ipQ} (e2 : h r_1 = some (.inr (2, fs1))) (e3 : fs1[0]? = some (.int (nI v_fs1_0))) (e4 : fs1[1]? = some (.int (nI v_fs1_1))) (e5 : fs1[2]? = some (.int (nI v_fs1_2))) (e7 : h r_0 = some (.inr (6, fs6))) (m8 : c ≤ MC) (m9 : s ≤ MS) (hc : call 42 [(.ref r_0), (.int (nI v_fs1_0)), (.int (nI v_fs1_1)), (.int (nI v_fs1_2))] h z 0 0 P) (K : ∀ (o : Option Value) (h2 : HP) (z2 : Nat), P o h2 z2 → ip sc call 45 MC MS Q 113 [some (.ref r_0), some (.ref r_1)] (o.toList ++ [(.ref r_0)]) h2 z2 c s) : ip sc call 45 MC MS Q 96 [some (.ref r_0), some (.ref r_1)] [] h z c s := by
  refine jp_load (pc2 := 97) (n := 0) rfl rfl rfl rfl ?_
  refine jp_load (pc2 := 98) (n := 0) rfl rfl rfl rfl ?_
  refine jp_load (pc2 := 99) (n := 1) rfl rfl rfl rfl ?_
  refine jp_getf (pc2 := 102) rfl rfl e2 e3 ?_
  refine jp_load (pc2 := 103) (n := 1) rfl rfl rfl rfl ?_
  refine jp_getf (pc2 := 106) rfl rfl e2 e4 ?_
  refine jp_load (pc2 := 107) (n := 1) rfl rfl rfl rfl ?_
  refine jp_getf (pc2 := 110) rfl rfl e2 e5 ?_
  exact jp_virt0 (pc2 := 113) (As := [(.int (nI v_fs1_0)), (.int (nI v_fs1_1)), (.int (nI v_fs1_2))]) (rest := [(.ref r_0)]) rfl rfl rfl (Nat.le_of_ble_eq_true rfl) e7 m8 m9 hc rfl K
theorem c45_113 {r_0 : Nat} {r_1 : Nat} {sr_0 : Nat} {sa_1 : Nat} {fs1 : List Value} {v_fs1_0 : Nat} {v_fs1_3 : Nat} {v_fs1_4 : Nat} {fs6 : List Value} {P : ipQ} (e2 : h r_1 = some (.inr (2, fs1))) (e3 : fs1[0]? = some (.int (nI v_fs1_0))) (e4 : fs1[3]? = some (.int (nI v_fs1_3))) (e5 : fs1[4]? = some (.int (nI v_fs1_4))) (e7 : h r_0 = some (.inr (6, fs6))) (m8 : c ≤ MC) (m9 : s ≤ MS) (hc : call 42 [(.ref r_0), (.int (nI v_fs1_0)), (.int (nI v_fs1_3)), (.int (nI v_fs1_4))] h z 0 0 P) (K : ∀ (o : Option Value) (h2 : HP) (z2 : Nat), P o h2 z2 → ip sc call 45 MC MS Q 129 [some (.ref r_0), some (.ref r_1)] (o.toList ++ [(.int (nI sa_1)), (.ref sr_0)]) h2 z2 c s) : ip sc call 45 MC MS Q 113 [some (.ref r_0), some (.ref r_1)] [(.int (nI sa_1)), (.ref sr_0)] h z c s := by
  refine jp_load (pc2 := 114) (n := 0) rfl rfl rfl rfl ?_
  refine jp_load (pc2 := 115) (n := 1) rfl rfl rfl rfl ?_
  refine jp_getf (pc2 := 118) rfl rfl e2 e3 ?_
  refine jp_load (pc2 := 119) (n := 1) rfl rfl rfl rfl ?_
  refine jp_getf (pc2 := 122) rfl rfl e2 e4 ?_
  refine jp_load (pc2 := 123) (n := 1) rfl rfl rfl rfl ?_
  refine jp_getf (pc2 := 126) rfl rfl e2 e5 ?_
  exact jp_virt0 (pc2 := 129) (As := [(.int (nI v_fs1_0)), (.int (nI v_fs1_3)), (.int (nI v_fs1_4))]) (rest := [(.int (nI sa_1)), (.ref sr_0)]) rfl rfl rfl (Nat.le_of_ble_eq_true rfl) e7 m8 m9 hc rfl K
theorem c45_129 {o_0 : Option Value} {o_1 : Option Value} {sr_0 : Nat} {sa_1 : Nat} {sa_2 : Nat} {fs1 : List Value} {P : ipQ} (e2 : h sr_0 = some (.inr (6, fs1))) (m3 : c ≤ MC) (m4 : s ≤ MS) (hc : call 43 [(.ref sr_0), (.int (nI sa_1)), (.int (nI sa_2))] h z 0 0 P) (K : ∀ (o : Option Value) (h2 : HP) (z2 : Nat), P o h2 z2 → ip sc call 45 MC MS Q 132 [o_0, o_1] (o.toList ++ []) h2 z2 c s) : ip sc call 45 MC MS Q 129 [o_0, o_1] [(.int (nI sa_2)), (.int (nI sa_1)), (.ref sr_0)] h z c s := by
  exact jp_virt0 (pc2 := 132) (As := [(.int (nI sa_1)), (.int (nI sa_2))]) (rest := []) rfl rfl rfl (Nat.le_of_ble_eq_true rfl) e2 m3 m4 hc rfl K
theorem c45_132 {o_0 : Option Value} {o_1 : Option Value} {sa_0 : Nat} (t1 : narrow .boolean (.int (nI sa_0)) = .int (nI sa_0)) (q2 : Q (some (.int (nI sa_0))) h z)  : ip sc call 45 MC MS Q 132 [o_0, o_1] [(.int (nI sa_0))] h z c s := by
  exact ip_iret (st := []) rfl rfl t1 q2
theorem c46_0 {r_0 : Nat} {r_1 : Nat} {fs1 : List Value} {v_fs1_4 : Nat} (e2 : h r_1 = some (.inr (2, fs1))) (e3 : fs1[4]? = some (.int (nI v_fs1_4))) (l4 : fs1.length = 6) (K : ip sc call 46 MC MS Q 10 [some (.ref r_0), some (.ref r_1)] [] (hup h r_1 (.inr (2, (fs1.set 4 (.int (nI (v_fs1_4 + 1))))))) z c s) : ip sc call 46 MC MS Q 0 [some (.ref r_0), some (.ref r_1)] [] h z c s := by
  refine jp_load (pc2 := 1) (n := 1) rfl rfl rfl rfl ?_
  refine jp_dup (pc2 := 2) rfl rfl rfl ?_
  refine jp_getf (pc2 := 5) rfl rfl e2 e3 ?_
  refine jp_con (pc2 := 6) (v := (.int (nI 1))) rfl rfl rfl ?_
  refine jp_bin (pc2 := 7) (v := nI (v_fs1_4 + 1)) rfl rfl (congrArg some (nI_add _ _)) ?_
  refine jp_putf (pc2 := 10) rfl rfl e2 (ln_lt l4 (by decide)) ⟨rfl, rfl⟩ ?_
  exact K
theorem c46_10 {r_0 : Nat} {r_1 : Nat} {fs1 : List Value} {v_fs1_0 : Nat} {fs4 : List Value} {v_fs4_7 : Nat} (e2 : h r_1 = some (.inr (2, fs1))) (e3 : fs1[0]? = some (.int (nI v_fs1_0))) (e5 : h r_0 = some (.inr (6, fs4))) (e6 : fs4[7]? = some (.int (nI v_fs4_7))) (c7 : v_fs1_0 < 2147483648) (c8 : v_fs4_7 < 2147483648) (K1 : v_fs4_7 ≤ v_fs1_0 → ip sc call 46 MC MS Q 152 [some (.ref r_0), some (.ref r_1)] [] h z c s) (K2 : ¬ (v_fs4_7 ≤ v_fs1_0) → ip sc call 46 MC MS Q 21 [some (.ref r_0), some (.ref r_1)] [] h z c s) : ip sc call 46 MC MS Q 10 [some (.ref r_0), some (.ref r_1)] [] h z c s := by
  refine jp_load (pc2 := 11) (n := 1) rfl rfl rfl rfl ?_
  refine jp_getf (pc2 := 14) rfl rfl e2 e3 ?_
  refine jp_load (pc2 := 15) (n := 0) rfl rfl rfl rfl ?_
  refine jp_getf (pc2 := 18) rfl rfl e5 e6 ?_
  exact jp_icmp (pc2 := 21) rfl rfl (fun q => K1 ((nI_leI c8 c7).mp q)) (fun q => K2 (fun r => q ((nI_leI c8 c7).mpr r)))
theorem c46_21 {r_0 : Nat} {r_1 : Nat} {fs1 : List Value} {v_fs1_1 : Nat} {v_fs1_0 : Nat} {fs5 : List Value} {P : ipQ} (e2 : h r_1 = some (.inr (2, fs1))) (e3 : fs1[1]? = some (.int (nI v_fs1_1))) (e4 : fs1[0]? = some (.int (nI v_fs1_0))) (e6 : h r_0 = some (.inr (6, fs5))) (m7 : c ≤ MC) (m8 : s ≤ MS) (hc : call 39 [(.ref r_0), (.int (nI v_fs1_0))] h z 0 0 P) (K : ∀ (o : Option Value) (h2 : HP) (z2 : Nat), P o h2 z2 → ip sc call 46 MC MS Q 33 [some (.ref r_0), some (.ref r_1)] (o.toList ++ [(.int (nI v_fs1_1))]) h2 z2 c s) : ip sc call 46 MC MS Q 21 [some (.ref r_0), some (.ref r_1)] [] h z c s := by
  refine jp_load (pc2 := 22) (n := 1) rfl rfl rfl rfl ?_
  refine jp_getf (pc2 := 25) rfl rfl e2 e3 ?_
  refine jp_load (pc2 := 26) (n := 0) rfl rfl rfl rfl ?_
  refine jp_load (pc2 := 27) (n := 1) rfl rfl rfl rfl ?_
  refine jp_getf (pc2 := 30) rfl rfl e2 e4 ?_
  exact jp_virt0 (pc2 := 33) (As := [(.int (nI v_fs1_0))]) (rest := [(.int (nI v_fs1_1))]) rfl rfl rfl (Nat.le_of_ble_eq_true rfl) e6 m7 m8 hc rfl K
theorem c46_33 {r_0 : Nat} {r_1 : Nat} {sa_0 : Nat} {sa_1 : Nat} (c1 : sa_0 < 2147483648) (c2 : sa_1 < 2147483648) (K1 : sa_1 ≤ sa_0 → ip sc call 46 MC MS Q 129 [some (.ref r_0), some (.ref r_1)] [] h z c s) (K2 : ¬ (sa_1 ≤ sa_0) → ip sc call 46 MC MS Q 36 [some (.ref r_0), some (.ref r_1)] [] h z c s) : ip sc call 46 MC MS Q 33 [some (.ref r_0), some (.ref r_1)] [(.int (nI sa_1)), (.int (nI sa_0))] h z c s := by
  exact jp_icmp (pc2 := 36) rfl rfl (fun q => K1 ((nI_leI c2 c1).mp q)) (fun q => K2 (fun r => q ((nI_leI c2 c1).mpr r)))
theorem c46_36 {r_0 : Nat} {r_1 : Nat} {fs1 : List Value} {v_fs1_2 : Nat} {v_fs1_0 : Nat} {v_fs1_1 : Nat} {fs6 : List Value} {P : ipQ} (e2 : h r_1 = some (.inr (2, fs1))) (e3 : fs1[2]? = some (.int (nI v_fs1_2))) (e4 : fs1[0]? = some (.int (nI v_fs1_0))) (e5 : fs1[1]? = some (.int (nI v_fs1_1))) (e7 : h r_0 = some (.inr (6, fs6))) (m8 : c ≤ MC) (m9 : s ≤ MS) (hc : call 40 [(.ref r_0), (.int (nI v_fs1_0)), (.int (nI v_fs1_1))] h z 0 0 P) (K : ∀ (o : Option Value) (h2 : HP) (z2 : Nat), P o h2 z2 → ip sc call 46 MC MS Q 52 [some (.ref r_0), some (.ref r_1)] (o.toList ++ [(.int (nI v_fs1_2))]) h2 z2 c s) : ip sc call 46 MC MS Q 36 [some (.ref r_0), some (.ref r_1)] [] h z c s := by
  refine jp_load (pc2 := 37) (n := 1) rfl rfl rfl rfl ?_
  refine jp_getf (pc2 := 40) rfl rfl e2 e3 ?_
  refine jp_load (pc2 := 41) (n := 0) rfl rfl rfl rfl ?_
  refine jp_load (pc2 := 42) (n := 1) rfl rfl rfl rfl ?_
  refine jp_getf (pc2 := 45) rfl rfl e2 e4 ?_
  refine jp_load (pc2 := 46) (n := 1) rfl rfl rfl rfl ?_
  refine jp_getf (pc2 := 49) rfl rfl e2 e5 ?_
  exact jp_virt0 (pc2 := 52) (As := [(.int (nI v_fs1_0)), (.int (nI v_fs1_1))]) (rest := [(.int (nI v_fs1_2))]) rfl rfl rfl (Nat.le_of_ble_eq_true rfl) e7 m8 m9 hc rfl K
theorem c46_52 {r_0 : Nat} {r_1 : Nat} {sa_0 : Nat} {sa_1 : Nat} (c1 : sa_0 < 2147483648) (c2 : sa_1 < 2147483648) (K1 : sa_1 ≤ sa_0 → ip sc call 46 MC MS Q 96 [some (.ref r_0), some (.ref r_1)] [] h z c s) (K2 : ¬ (sa_1 ≤ sa_0) → ip sc call 46 MC MS Q 55 [some (.ref r_0), some (.ref r_1)] [] h z c s) : ip sc call 46 MC MS Q 52 [some (.ref r_0), some (.ref r_1)] [(.int (nI sa_1)), (.int (nI sa_0))] h z c s := by
  exact jp_icmp (pc2 := 55) rfl rfl (fun q => K1 ((nI_leI c2 c1).mp q)) (fun q => K2 (fun r => q ((nI_leI c2 c1).mpr r)))
theorem c46_55 {r_0 : Nat} {r_1 : Nat} {fs1 : List Value} {P : ipQ} (e2 : h r_0 = some (.inr (6, fs1))) (m3 : c ≤ MC) (m4 : s ≤ MS) (hc : call 47 [(.ref r_0), (.ref r_1)] h z 0 0 P) (K : ∀ (o : Option Value) (h2 : HP) (z2 : Nat), P o h2 z2 → ip sc call 46 MC MS Q 60 [some (.ref r_0), some (.ref r_1)] (o.toList ++ []) h2 z2 c s) : ip sc call 46 MC MS Q 55 [some (.ref r_0), some (.ref r_1)] [] h z c s := by
  refine jp_load (pc2 := 56) (n := 0) rfl rfl rfl rfl ?_
  refine jp_load (pc2 := 57) (n := 1) rfl rfl rfl rfl ?_
  exact jp_virt0 (pc2 := 60) (As := [(.ref r_1)]) (rest := []) rfl rfl rfl (Nat.le_of_ble_eq_true rfl) e2 m3 m4 hc rfl K
theorem c46_60 {r_0 : Nat} {r_1 : Nat} {sa_0 : Nat} (c1 : sa_0 < 2147483648) (K1 : sa_0 = 0 → ip sc call 46 MC MS Q 65 [some (.ref r_0), some (.ref r_1)] [] h z c s) (K2 : ¬ (sa_0 = 0) → ip sc call 46 MC MS Q 63 [some (.ref r_0), some (.ref r_1)] [] h z c s) : ip sc call 46 MC MS Q 60 [some (.ref r_0), some (.ref r_1)] [(.int (nI sa_0))] h z c s := by
  exact jp_if0 (pc2 := 63) rfl rfl (fun q => K1 ((nI_eq c1 (by decide)).mp q)) (fun q => K2 (fun r => q ((nI_eq c1 (by decide)).mpr r)))
theorem c46_63 {o_0 : Option Value} {o_1 : Option Value} (q1 : Q (some (.int (nI 1))) h z)  : ip sc call 46 MC MS Q 63 [o_0, o_1] [] h z c s := by
  refine jp_con (pc2 := 64) (v := (.int (nI 1))) rfl rfl rfl ?_
  exact ip_iret (st := []) rfl rfl rfl q1
theorem c46_65 {r_0 : Nat} {r_1 : Nat} {fs1 : List Value} {v_fs1_1 : Nat} {v_fs1_2 : Nat} (e2 : h r_1 = some (.inr (2, fs1))) (e3 : fs1[1]? = some (.int (nI v_fs1_1))) (l4 : fs1.length = 6) (e5 : fs1[2]? = some (.int (nI v_fs1_2))) (K : ip sc call 46 MC MS Q 36 [some (.ref r_0), some (.ref r_1)] [] (hup h r_1 (.inr (2, (((fs1.set 3 (.int (nI v_fs1_1))).set 4 (.int (nI (v_fs1_2 + 1)))).set 2 (.int (nI (v_fs1_2 + 1))))))) z c s) : ip sc call 46 MC MS Q 65 [some (.ref r_0), some (.ref r_1)] [] h z c s := by
  refine jp_load (pc2 := 66) (n := 1) rfl rfl rfl rfl ?_
  refine jp_load (pc2 := 67) (n := 1) rfl rfl rfl rfl ?_
  refine jp_getf (pc2 := 70) rfl rfl e2 e3 ?_
  refine jp_putf (pc2 := 73) rfl rfl e2 (ln_lt l4 (by decide)) ⟨rfl, rfl⟩ ?_
  refine jp_load (pc2 := 74) (n := 1) rfl rfl rfl rfl ?_
  refine jp_load (pc2 := 75) (n := 1) rfl rfl rfl rfl ?_
  refine jp_getf (pc2 := 78) rfl rfl hup_eq (gs_ne (by decide) e5) ?_
  refine jp_con (pc2 := 79) (v := (.int (nI 1))) rfl rfl rfl ?_
  refine jp_bin (pc2 := 80) (v := nI (v_fs1_2 + 1)) rfl rfl (congrArg some (nI_add _ _)) ?_
  refine jp_putf (pc2 := 83) rfl rfl hup_eq (ls_lt (ln_lt l4 (by decide))) ⟨rfl, rfl⟩ ?_
  rw [hup_hup]
  refine jp_load (pc2 := 84) (n := 1) rfl rfl rfl rfl ?_
  refine jp_dup (pc2 := 85) rfl rfl rfl ?_
  refine jp_getf (pc2 := 88) rfl rfl hup_eq (gs_ne (by decide) (gs_ne (by decide) e5)) ?_
  refine jp_con (pc2 := 89) (v := (.int (nI 1))) rfl rfl rfl ?_
  refine jp_bin (pc2 := 90) (v := nI (v_fs1_2 + 1)) rfl rfl (congrArg some (nI_add _ _)) ?_
  refine jp_putf (pc2 := 93) rfl rfl hup_eq (ls_lt (ls_lt (ln_lt l4 (by decide)))) ⟨rfl, rfl⟩ ?_
  rw [hup_hup]
  refine ip_goto rfl ?_
  exact K
theorem c46_96 {r_0 : Nat} {r_1 : Nat} {fs1 : List Value} {v_fs1_1 : Nat} (e2 : h r_1 = some (.inr (2, fs1))) (l3 : fs1.length = 6) (e4 : fs1[1]? = some (.int (nI v_fs1_1))) (K : ip sc call 46 MC MS Q 21 [some (.ref r_0), some (.ref r_1)] [] (hup h r_1 (.inr (2, ((((fs1.set 2 (.int (nI 0))).set 3 (.int (nI (v_fs1_1 + 1)))).set 4 (.int (nI 0))).set 1 (.int (nI (v_fs1_1 + 1))))))) z c s) : ip sc call 46 MC MS Q 96 [some (.ref r_0), some (.ref r_1)] [] h z c s := by
  refine jp_load (pc2 := 97) (n := 1) rfl rfl rfl rfl ?_
  refine jp_con (pc2 := 98) (v := (.int (nI 0))) rfl rfl rfl ?_
  refine jp_putf (pc2 := 101) rfl rfl e2 (ln_lt l3 (by decide)) ⟨rfl, rfl⟩ ?_
  refine jp_load (pc2 := 102) (n := 1) rfl rfl rfl rfl ?_
  refine jp_load (pc2 := 103) (n := 1) rfl rfl rfl rfl ?_
  refine jp_getf (pc2 := 106) rfl rfl hup_eq (gs_ne (by decide) e4) ?_
  refine jp_con (pc2 := 107) (v := (.int (nI 1))) rfl rfl rfl ?_
  refine jp_bin (pc2 := 108) (v := nI (v_fs1_1 + 1)) rfl rfl (congrArg some (nI_add _ _)) ?_
  refine jp_putf (pc2 := 111) rfl rfl hup_eq (ls_lt (ln_lt l3 (by decide))) ⟨rfl, rfl⟩ ?_
  rw [hup_hup]
  refine jp_load (pc2 := 112) (n := 1) rfl rfl rfl rfl ?_
  refine jp_con (pc2 := 113) (v := (.int (nI 0))) rfl rfl rfl ?_
  refine jp_putf (pc2 := 116) rfl rfl hup_eq (ls_lt (ls_lt (ln_lt l3 (by decide)))) ⟨rfl, rfl⟩ ?_
  rw [hup_hup]
  refine jp_load (pc2 := 117) (n := 1) rfl rfl rfl rfl ?_
  refine jp_dup (pc2 := 118) rfl rfl rfl ?_
  refine jp_getf (pc2 := 121) rfl rfl hup_eq (gs_ne (by decide) (gs_ne (by decide) (gs_ne (by decide) e4))) ?_
  refine jp_con (pc2 := 122) (v := (.int (nI 1))) rfl rfl rfl ?_
  refine jp_bin (pc2 := 123) (v := nI (v_fs1_1 + 1)) rfl rfl (congrArg some (nI_add _ _)) ?_
  refine jp_putf (pc2 := 126) rfl rfl hup_eq (ls_lt (ls_lt (ls_lt (ln_lt l3 (by decide))))) ⟨rfl, rfl⟩ ?_
  rw [hup_hup]
  refine ip_goto rfl ?_
  exact K
theorem c46_129 {r_0 : Nat} {r_1 : Nat} {fs1 : List Value} {v_fs1_0 : Nat} (e2 : h r_1 = some (.inr (2, fs1))) (l3 : fs1.length = 6) (e4 : fs1[0]? = some (.int (nI v_fs1_0))) (K : ip sc call 46 MC MS Q 10 [some (.ref r_0), some (.ref r_1)] [] (hup h r_1 (.inr (2, (((fs1.set 1 (.int (nI 0))).set 3 (.int (nI 0))).set 0 (.int (nI (v_fs1_0 + 1))))))) z c s) : ip sc call 46 MC MS Q 129 [some (.ref r_0), some (.ref r_1)] [] h z c s := by
  refine jp_load (pc2 := 130) (n := 1) rfl rfl rfl rfl ?_
  refine jp_con (pc2 := 131) (v := (.int (nI 0))) rfl rfl rfl ?_
  refine jp_putf (pc2 := 134) rfl rfl e2 (ln_lt l3 (by decide)) ⟨rfl, rfl⟩ ?_
  refine jp_load (pc2 := 135) (n := 1) rfl rfl rfl rfl ?_
  refine jp_con (pc2 := 136) (v := (.int (nI 0))) rfl rfl rfl ?_
  refine jp_putf (pc2 := 139) rfl rfl hup_eq (ls_lt (ln_lt l3 (by decide))) ⟨rfl, rfl⟩ ?_
  rw [hup_hup]
  refine jp_load (pc2 := 140) (n := 1) rfl rfl rfl rfl ?_
  refine jp_dup (pc2 := 141) rfl rfl rfl ?_
  refine jp_getf (pc2 := 144) rfl rfl hup_eq (gs_ne (by decide) (gs_ne (by decide) e4)) ?_
  refine jp_con (pc2 := 145) (v := (.int (nI 1))) rfl rfl rfl ?_
  refine jp_bin (pc2 := 146) (v := nI (v_fs1_0 + 1)) rfl rfl (congrArg some (nI_add _ _)) ?_
  refine jp_putf (pc2 := 149) rfl rfl hup_eq (ls_lt (ls_lt (ln_lt l3 (by decide)))) ⟨rfl, rfl⟩ ?_
  rw [hup_hup]
  refine ip_goto rfl ?_
  exact K
theorem c46_152 {o_0 : Option Value} {o_1 : Option Value} (q1 : Q (some (.int (nI 0))) h z)  : ip sc call 46 MC MS Q 152 [o_0, o_1] [] h z c s := by
  refine jp_con (pc2 := 153) (v := (.int (nI 0))) rfl rfl rfl ?_
  exact ip_iret (st := []) rfl rfl rfl q1
theorem c47_0 {r_0 : Nat} {r_1 : Nat} {o_2 : Option Value} {fs1 : List Value} {v_fs1_0 : Nat} {v_fs1_1 : Nat} {v_fs1_2 : Nat} {fs6 : List Value} {P : ipQ} (e2 : h r_1 = some (.inr (2, fs1))) (e3 : fs1[0]? = some (.int (nI v_fs1_0))) (e4 : fs1[1]? = some (.int (nI v_fs1_1))) (e5 : fs1[2]? = some (.int (nI v_fs1_2))) (e7 : h r_0 = some (.inr (6, fs6))) (m8 : c ≤ MC) (m9 : s ≤ MS) (hc : call 42 [(.ref r_0), (.int (nI v_fs1_0)), (.int (nI v_fs1_1)), (.int (nI v_fs1_2))] h z 0 0 P) (K : ∀ (o : Option Value) (h2 : HP) (z2 : Nat), P o h2 z2 → ip sc call 47 MC MS Q 16 [some (.ref r_0), some (.ref r_1), o_2] (o.toList ++ []) h2 z2 c s) : ip sc call 47 MC MS Q 0 [some (.ref r_0), some (.ref r_1), o_2] [] h z c s := by
  refine jp_load (pc2 := 1) (n := 0) rfl rfl rfl rfl ?_
  refine jp_load (pc2 := 2) (n := 1) rfl rfl rfl rfl ?_
  refine jp_getf (pc2 := 5) rfl rfl e2 e3 ?_
  refine jp_load (pc2 := 6) (n := 1) rfl rfl rfl rfl ?_
  refine jp_getf (pc2 := 9) rfl rfl e2 e4 ?_
  refine jp_load (pc2 := 10) (n := 1) rfl rfl rfl rfl ?_
  refine jp_getf (pc2 := 13) rfl rfl e2 e5 ?_
  exact jp_virt0 (pc2 := 16) (As := [(.int (nI v_fs1_0)), (.int (nI v_fs1_1)), (.int (nI v_fs1_2))]) (rest := []) rfl rfl rfl (Nat.le_of_ble_eq_true rfl) e7 m8 m9 hc rfl K
theorem c47_16 {r_0 : Nat} {r_1 : Nat} {o_2 : Option Value} {sa_0 : Nat} {fs1 : List Value} {q_fs1_4 : Nat} {n4 : Nat} {f5 : Nat → Int32} {v9 : Nat} (e2 : h r_0 = some (.inr (6, fs1))) (e3 : fs1[4]? = some (.ref q_fs1_4)) (e6 : h q_fs1_4 = some (.inl (0, n4, .inl f5))) (b7 : sa_0 < n4) (c8 : n4 < 2147483648) (e10 : f5 sa_0 = nI v9) (c11 : v9 < 2147483648) (K1 : ¬ v9 = 0 → ip sc call 47 MC MS Q 28 [some (.ref r_0), some (.ref r_1), some (.int (nI sa_0))] [] h z c s) (K2 : ¬ (¬ v9 = 0) → ip sc call 47 MC MS Q 26 [some (.ref r_0), some (.ref r_1), some (.int (nI sa_0))] [] h z c s) : ip sc call 47 MC MS Q 16 [some (.ref r_0), some (.ref r_1), o_2] [(.int (nI sa_0))] h z c s := by
  refine jp_store (pc2 := 17) (n := 2) rfl rfl ⟨rfl, rfl⟩ rfl (Nat.le_of_ble_eq_true rfl) ?_
  refine jp_load (pc2 := 18) (n := 0) rfl rfl rfl rfl ?_
  refine jp_getf (pc2 := 21) rfl rfl e2 e3 ?_
  refine jp_load (pc2 := 22) (n := 2) rfl rfl rfl rfl ?_
  refine jp_iald (pc2 := 23) rfl rfl e6 (vp_in_nI b7 c8) ?_
  rw [(nI_clamp (Nat.lt_trans b7 c8))]
  rw [e10]
  exact jp_if0 (pc2 := 26) rfl rfl (fun q => K1 ((not_congr (nI_eq c11 (by decide))).mp q)) (fun q => K2 (fun r => q ((not_congr (nI_eq c11 (by decide))).mpr r)))
theorem c47_26 {o_0 : Option Value} {o_1 : Option Value} {o_2 : Option Value} (q1 : Q (some (.int (nI 0))) h z)  : ip sc call 47 MC MS Q 26 [o_0, o_1, o_2] [] h z c s := by
  refine jp_con (pc2 := 27) (v := (.int (nI 0))) rfl rfl rfl ?_
  exact ip_iret (st := []) rfl rfl rfl q1
theorem c47_28 {r_0 : Nat} {r_1 : Nat} {a_2 : Nat} {fs1 : List Value} {v_fs1_3 : Nat} {v_fs1_0 : Nat} {fs5 : List Value} {P : ipQ} (e2 : h r_1 = some (.inr (2, fs1))) (e3 : fs1[3]? = some (.int (nI v_fs1_3))) (e4 : fs1[0]? = some (.int (nI v_fs1_0))) (e6 : h r_0 = some (.inr (6, fs5))) (m7 : c ≤ MC) (m8 : s ≤ MS) (hc : call 39 [(.ref r_0), (.int (nI v_fs1_0))] h z 0 0 P) (K : ∀ (o : Option Value) (h2 : HP) (z2 : Nat), P o h2 z2 → ip sc call 47 MC MS Q 40 [some (.ref r_0), some (.ref r_1), some (.int (nI a_2))] (o.toList ++ [(.int (nI v_fs1_3))]) h2 z2 c s) : ip sc call 47 MC MS Q 28 [some (.ref r_0), some (.ref r_1), some (.int (nI a_2))] [] h z c s := by
  refine jp_load (pc2 := 29) (n := 1) rfl rfl rfl rfl ?_
  refine jp_getf (pc2 := 32) rfl rfl e2 e3 ?_
  refine jp_load (pc2 := 33) (n := 0) rfl rfl rfl rfl ?_
  refine jp_load (pc2 := 34) (n := 1) rfl rfl rfl rfl ?_
  refine jp_getf (pc2 := 37) rfl rfl e2 e4 ?_
  exact jp_virt0 (pc2 := 40) (As := [(.int (nI v_fs1_0))]) (rest := [(.int (nI v_fs1_3))]) rfl rfl rfl (Nat.le_of_ble_eq_true rfl) e6 m7 m8 hc rfl K
theorem c47_40 {r_0 : Nat} {r_1 : Nat} {a_2 : Nat} {sa_0 : Nat} {sa_1 : Nat} (c1 : sa_0 < 2147483648) (c2 : sa_1 < 2147483648) (K1 : sa_1 ≤ sa_0 → ip sc call 47 MC MS Q 119 [some (.ref r_0), some (.ref r_1), some (.int (nI a_2))] [] h z c s) (K2 : ¬ (sa_1 ≤ sa_0) → ip sc call 47 MC MS Q 43 [some (.ref r_0), some (.ref r_1), some (.int (nI a_2))] [] h z c s) : ip sc call 47 MC MS Q 40 [some (.ref r_0), some (.ref r_1), some (.int (nI a_2))] [(.int (nI sa_1)), (.int (nI sa_0))] h z c s := by
  exact jp_icmp (pc2 := 43) rfl rfl (fun q => K1 ((nI_leI c2 c1).mp q)) (fun q => K2 (fun r => q ((nI_leI c2 c1).mpr r)))
theorem c47_43 {r_0 : Nat} {r_1 : Nat} {a_2 : Nat} {fs1 : List Value} {v_fs1_4 : Nat} {v_fs1_0 : Nat} {v_fs1_3 : Nat} {fs6 : List Value} {P : ipQ} (e2 : h r_1 = some (.inr (2, fs1))) (e3 : fs1[4]? = some (.int (nI v_fs1_4))) (e4 : fs1[0]? = some (.int (nI v_fs1_0))) (e5 : fs1[3]? = some (.int (nI v_fs1_3))) (e7 : h r_0 = some (.inr (6, fs6))) (m8 : c ≤ MC) (m9 : s ≤ MS) (hc : call 40 [(.ref r_0), (.int (nI v_fs1_0)), (.int (nI v_fs1_3))] h z 0 0 P) (K : ∀ (o : Option Value) (h2 : HP) (z2 : Nat), P o h2 z2 → ip sc call 47 MC MS Q 59 [some (.ref r_0), some (.ref r_1), some (.int (nI a_2))] (o.toList ++ [(.int (nI v_fs1_4))]) h2 z2 c s) : ip sc call 47 MC MS Q 43 [some (.ref r_0), some (.ref r_1), some (.int (nI a_2))] [] h z c s := by
  refine jp_load (pc2 := 44) (n := 1) rfl rfl rfl rfl ?_
  refine jp_getf (pc2 := 47) rfl rfl e2 e3 ?_
  refine jp_load (pc2 := 48) (n := 0) rfl rfl rfl rfl ?_
  refine jp_load (pc2 := 49) (n := 1) rfl rfl rfl rfl ?_
  refine jp_getf (pc2 := 52) rfl rfl e2 e4 ?_
  refine jp_load (pc2 := 53) (n := 1) rfl rfl rfl rfl ?_
  refine jp_getf (pc2 := 56) rfl rfl e2 e5 ?_
  exact jp_virt0 (pc2 := 59) (As := [(.int (nI v_fs1_0)), (.int (nI v_fs1_3))]) (rest := [(.int (nI v_fs1_4))]) rfl rfl rfl (Nat.le_of_ble_eq_true rfl) e7 m8 m9 hc rfl K
theorem c47_59 {r_0 : Nat} {r_1 : Nat} {a_2 : Nat} {sa_0 : Nat} {sa_1 : Nat} (c1 : sa_0 < 2147483648) (c2 : sa_1 < 2147483648) (K1 : sa_1 ≤ sa_0 → ip sc call 47 MC MS Q 101 [some (.ref r_0), some (.ref r_1), some (.int (nI a_2))] [] h z c s) (K2 : ¬ (sa_1 ≤ sa_0) → ip sc call 47 MC MS Q 62 [some (.ref r_0), some (.ref r_1), some (.int (nI a_2))] [] h z c s) : ip sc call 47 MC MS Q 59 [some (.ref r_0), some (.ref r_1), some (.int (nI a_2))] [(.int (nI sa_1)), (.int (nI sa_0))] h z c s := by
  exact jp_icmp (pc2 := 62) rfl rfl (fun q => K1 ((nI_leI c2 c1).mp q)) (fun q => K2 (fun r => q ((nI_leI c2 c1).mpr r)))
theorem c47_62 {r_0 : Nat} {r_1 : Nat} {a_2 : Nat} {fs1 : List Value} {v_fs1_0 : Nat} {v_fs1_3 : Nat} {v_fs1_4 : Nat} {fs6 : List Value} {P : ipQ} (e2 : h r_1 = some (.inr (2, fs1))) (e3 : fs1[0]? = some (.int (nI v_fs1_0))) (e4 : fs1[3]? = some (.int (nI v_fs1_3))) (e5 : fs1[4]? = some (.int (nI v_fs1_4))) (e7 : h r_0 = some (.inr (6, fs6))) (m8 : c ≤ MC) (m9 : s ≤ MS) (hc : call 42 [(.ref r_0), (.int (nI v_fs1_0)), (.int (nI v_fs1_3)), (.int (nI v_fs1_4))] h z 0 0 P) (K : ∀ (o : Option Value) (h2 : HP) (z2 : Nat), P o h2 z2 → ip sc call 47 MC MS Q 80 [some (.ref r_0), some (.ref r_1), some (.int (nI a_2))] (o.toList ++ [(.int (nI a_2)), (.ref r_0)]) h2 z2 c s) : ip sc call 47 MC MS Q 62 [some (.ref r_0), some (.ref r_1), some (.int (nI a_2))] [] h z c s := by
  refine jp_load (pc2 := 63) (n := 0) rfl rfl rfl rfl ?_
  refine jp_load (pc2 := 64) (n := 2) rfl rfl rfl rfl ?_
  refine jp_load (pc2 := 65) (n := 0) rfl rfl rfl rfl ?_
  refine jp_load (pc2 := 66) (n := 1) rfl rfl rfl rfl ?_
  refine jp_getf (pc2 := 69) rfl rfl e2 e3 ?_
  refine jp_load (pc2 := 70) (n := 1) rfl rfl rfl rfl ?_
  refine jp_getf (pc2 := 73) rfl rfl e2 e4 ?_
  refine jp_load (pc2 := 74) (n := 1) rfl rfl rfl rfl ?_
  refine jp_getf (pc2 := 77) rfl rfl e2 e5 ?_
  exact jp_virt0 (pc2 := 80) (As := [(.int (nI v_fs1_0)), (.int (nI v_fs1_3)), (.int (nI v_fs1_4))]) (rest := [(.int (nI a_2)), (.ref r_0)]) rfl rfl rfl (Nat.le_of_ble_eq_true rfl) e7 m8 m9 hc rfl K
theorem c47_80 {r_0 : Nat} {r_1 : Nat} {a_2 : Nat} {sr_0 : Nat} {sa_1 : Nat} {sa_2 : Nat} {fs1 : List Value} {P : ipQ} (e2 : h sr_0 = some (.inr (6, fs1))) (m3 : c ≤ MC) (m4 : s ≤ MS) (hc : call 43 [(.ref sr_0), (.int (nI sa_1)), (.int (nI sa_2))] h z 0 0 P) (K : ∀ (o : Option Value) (h2 : HP) (z2 : Nat), P o h2 z2 → ip sc call 47 MC MS Q 83 [some (.ref r_0), some (.ref r_1), some (.int (nI a_2))] (o.toList ++ []) h2 z2 c s) : ip sc call 47 MC MS Q 80 [some (.ref r_0), some (.ref r_1), some (.int (nI a_2))] [(.int (nI sa_2)), (.int (nI sa_1)), (.ref sr_0)] h z c s := by
  exact jp_virt0 (pc2 := 83) (As := [(.int (nI sa_1)), (.int (nI sa_2))]) (rest := []) rfl rfl rfl (Nat.le_of_ble_eq_true rfl) e2 m3 m4 hc rfl K
theorem c47_83 {r_0 : Nat} {r_1 : Nat} {a_2 : Nat} {sa_0 : Nat} (c1 : sa_0 < 2147483648) (K1 : sa_0 = 0 → ip sc call 47 MC MS Q 88 [some (.ref r_0), some (.ref r_1), some (.int (nI a_2))] [] h z c s) (K2 : ¬ (sa_0 = 0) → ip sc call 47 MC MS Q 86 [some (.ref r_0), some (.ref r_1), some (.int (nI a_2))] [] h z c s) : ip sc call 47 MC MS Q 83 [some (.ref r_0), some (.ref r_1), some (.int (nI a_2))] [(.int (nI sa_0))] h z c s := by
  exact jp_if0 (pc2 := 86) rfl rfl (fun q => K1 ((nI_eq c1 (by decide)).mp q)) (fun q => K2 (fun r => q ((nI_eq c1 (by decide)).mpr r)))
theorem c47_86 {o_0 : Option Value} {o_1 : Option Value} {o_2 : Option Value} (q1 : Q (some (.int (nI 1))) h z)  : ip sc call 47 MC MS Q 86 [o_0, o_1, o_2] [] h z c s := by
  refine jp_con (pc2 := 87) (v := (.int (nI 1))) rfl rfl rfl ?_
  exact ip_iret (st := []) rfl rfl rfl q1
theorem c47_88 {r_0 : Nat} {r_1 : Nat} {a_2 : Nat} {fs1 : List Value} {v_fs1_4 : Nat} (e2 : h r_1 = some (.inr (2, fs1))) (e3 : fs1[4]? = some (.int (nI v_fs1_4))) (l4 : fs1.length = 6) (K : ip sc call 47 MC MS Q 43 [some (.ref r_0), some (.ref r_1), some (.int (nI a_2))] [] (hup h r_1 (.inr (2, (fs1.set 4 (.int (nI (v_fs1_4 + 1))))))) z c s) : ip sc call 47 MC MS Q 88 [some (.ref r_0), some (.ref r_1), some (.int (nI a_2))] [] h z c s := by
  refine jp_load (pc2 := 89) (n := 1) rfl rfl rfl rfl ?_
  refine jp_dup (pc2 := 90) rfl rfl rfl ?_
  refine jp_getf (pc2 := 93) rfl rfl e2 e3 ?_
  refine jp_con (pc2 := 94) (v := (.int (nI 1))) rfl rfl rfl ?_
  refine jp_bin (pc2 := 95) (v := nI (v_fs1_4 + 1)) rfl rfl (congrArg some (nI_add _ _)) ?_
  refine jp_putf (pc2 := 98) rfl rfl e2 (ln_lt l4 (by decide)) ⟨rfl, rfl⟩ ?_
  refine ip_goto rfl ?_
  exact K
theorem c47_101 {r_0 : Nat} {r_1 : Nat} {a_2 : Nat} {fs1 : List Value} {v_fs1_3 : Nat} (e2 : h r_1 = some (.inr (2, fs1))) (l3 : fs1.length = 6) (e4 : fs1[3]? = some (.int (nI v_fs1_3))) (K : ip sc call 47 MC MS Q 28 [some (.ref r_0), some (.ref r_1), some (.int (nI a_2))] [] (hup h r_1 (.inr (2, ((fs1.set 4 (.int (nI 0))).set 3 (.int (nI (v_fs1_3 + 1))))))) z c s) : ip sc call 47 MC MS Q 101 [some (.ref r_0), some (.ref r_1), some (.int (nI a_2))] [] h z c s := by
  refine jp_load (pc2 := 102) (n := 1) rfl rfl rfl rfl ?_
  refine jp_con (pc2 := 103) (v := (.int (nI 0))) rfl rfl rfl ?_
  refine jp_putf (pc2 := 106) rfl rfl e2 (ln_lt l3 (by decide)) ⟨rfl, rfl⟩ ?_
  refine jp_load (pc2 := 107) (n := 1) rfl rfl rfl rfl ?_
  refine jp_dup (pc2 := 108) rfl rfl rfl ?_
  refine jp_getf (pc2 := 111) rfl rfl hup_eq (gs_ne (by decide) e4) ?_
  refine jp_con (pc2 := 112) (v := (.int (nI 1))) rfl rfl rfl ?_
  refine jp_bin (pc2 := 113) (v := nI (v_fs1_3 + 1)) rfl rfl (congrArg some (nI_add _ _)) ?_
  refine jp_putf (pc2 := 116) rfl rfl hup_eq (ls_lt (ln_lt l3 (by decide))) ⟨rfl, rfl⟩ ?_
  rw [hup_hup]
  refine ip_goto rfl ?_
  exact K
theorem c47_119 {o_0 : Option Value} {o_1 : Option Value} {o_2 : Option Value} (q1 : Q (some (.int (nI 0))) h z)  : ip sc call 47 MC MS Q 119 [o_0, o_1, o_2] [] h z c s := by
  refine jp_con (pc2 := 120) (v := (.int (nI 0))) rfl rfl rfl ?_
  exact ip_iret (st := []) rfl rfl rfl q1
theorem c48_0 {r_0 : Nat} {a_1 : Nat} {r_2 : Nat} {o_3 : Option Value} {o_4 : Option Value} {o_5 : Option Value} (c1 : a_1 < 2147483648) (K1 : 0 ≤ a_1 → ip sc call 48 MC MS Q 6 [some (.ref r_0), some (.int (nI a_1)), some (.ref r_2), o_3, o_4, o_5] [] h z c s) (K2 : ¬ (0 ≤ a_1) → ip sc call 48 MC MS Q 4 [some (.ref r_0), some (.int (nI a_1)), some (.ref r_2), o_3, o_4, o_5] [] h z c s) : ip sc call 48 MC MS Q 0 [some (.ref r_0), some (.int (nI a_1)), some (.ref r_2), o_3, o_4, o_5] [] h z c s := by
  refine jp_load (pc2 := 1) (n := 1) rfl rfl rfl rfl ?_
  exact jp_if0 (pc2 := 4) rfl rfl (fun q => K1 ((nI_leI (by decide) c1).mp q)) (fun q => K2 (fun r => q ((nI_leI (by decide) c1).mpr r)))
theorem c48_4 {o_0 : Option Value} {o_1 : Option Value} {o_2 : Option Value} {o_3 : Option Value} {o_4 : Option Value} {o_5 : Option Value} (q1 : Q (some (.int (nI 0))) h z)  : ip sc call 48 MC MS Q 4 [o_0, o_1, o_2, o_3, o_4, o_5] [] h z c s := by
  refine jp_con (pc2 := 5) (v := (.int (nI 0))) rfl rfl rfl ?_
  exact ip_iret (st := []) rfl rfl rfl q1
theorem c48_6 {r_0 : Nat} {a_1 : Nat} {r_2 : Nat} {o_3 : Option Value} {o_4 : Option Value} {o_5 : Option Value} {fs1 : List Value} {P : ipQ} (e2 : h r_2 = some (.inr (2, fs1))) (m3 : c ≤ MC) (m4 : s ≤ MS) (hc : call 11 [(.ref r_2)] h z 0 0 P) (K : ∀ (o : Option Value) (h2 : HP) (z2 : Nat), P o h2 z2 → ip sc call 48 MC MS Q 12 [some (.ref r_0), some (.int (nI a_1)), some (.ref r_2), some (.int (nI a_1)), o_4, o_5] (o.toList ++ []) h2 z2 c s) : ip sc call 48 MC MS Q 6 [some (.ref r_0), some (.int (nI a_1)), some (.ref r_2), o_3, o_4, o_5] [] h z c s := by
  refine jp_load (pc2 := 7) (n := 1) rfl rfl rfl rfl ?_
  refine jp_store (pc2 := 8) (n := 3) rfl rfl ⟨rfl, rfl⟩ rfl (Nat.le_of_ble_eq_true rfl) ?_
  refine jp_load (pc2 := 9) (n := 2) rfl rfl rfl rfl ?_
  exact jp_virt0 (pc2 := 12) (As := []) (rest := []) rfl rfl rfl (Nat.le_of_ble_eq_true rfl) e2 m3 m4 hc rfl K
theorem c48_12 {r_0 : Nat} {o_1 : Option Value} {r_2 : Nat} {a_3 : Nat} {o_4 : Option Value} {o_5 : Option Value}  (K : ip sc call 48 MC MS Q 15 [some (.ref r_0), o_1, some (.ref r_2), some (.int (nI a_3)), some (.int (nI 0)), o_5] [] h z c s) : ip sc call 48 MC MS Q 12 [some (.ref r_0), o_1, some (.ref r_2), some (.int (nI a_3)), o_4, o_5] [] h z c s := by
  refine jp_con (pc2 := 13) (v := (.int (nI 0))) rfl rfl rfl ?_
  refine jp_store (pc2 := 15) (n := 4) rfl rfl ⟨rfl, rfl⟩ rfl (Nat.le_of_ble_eq_true rfl) ?_
  exact K
theorem c48_15 {r_0 : Nat} {o_1 : Option Value} {r_2 : Nat} {a_3 : Nat} {a_4 : Nat} {o_5 : Option Value} (c1 : a_4 < 2147483648) (K1 : 1000000 ≤ a_4 → ip sc call 48 MC MS Q 61 [some (.ref r_0), o_1, some (.ref r_2), some (.int (nI a_3)), some (.int (nI a_4)), o_5] [] h z c s) (K2 : ¬ (1000000 ≤ a_4) → ip sc call 48 MC MS Q 22 [some (.ref r_0), o_1, some (.ref r_2), some (.int (nI a_3)), some (.int (nI a_4)), o_5] [] h z c s) : ip sc call 48 MC MS Q 15 [some (.ref r_0), o_1, some (.ref r_2), some (.int (nI a_3)), some (.int (nI a_4)), o_5] [] h z c s := by
  refine jp_load (pc2 := 17) (n := 4) rfl rfl rfl rfl ?_
  refine jp_con (pc2 := 19) (v := (.int (nI 1000000))) rfl rfl rfl ?_
  exact jp_icmp (pc2 := 22) rfl rfl (fun q => K1 ((nI_leI (by decide) c1).mp q)) (fun q => K2 (fun r => q ((nI_leI (by decide) c1).mpr r)))
theorem c48_22 {r_0 : Nat} {o_1 : Option Value} {r_2 : Nat} {a_3 : Nat} {a_4 : Nat} {o_5 : Option Value} {fs1 : List Value} {P : ipQ} (e2 : h r_0 = some (.inr (6, fs1))) (m3 : c ≤ MC) (m4 : s ≤ MS) (hc : call 46 [(.ref r_0), (.ref r_2)] h z 0 0 P) (K : ∀ (o : Option Value) (h2 : HP) (z2 : Nat), P o h2 z2 → ip sc call 48 MC MS Q 27 [some (.ref r_0), o_1, some (.ref r_2), some (.int (nI a_3)), some (.int (nI a_4)), o_5] (o.toList ++ []) h2 z2 c s) : ip sc call 48 MC MS Q 22 [some (.ref r_0), o_1, some (.ref r_2), some (.int (nI a_3)), some (.int (nI a_4)), o_5] [] h z c s := by
  refine jp_load (pc2 := 23) (n := 0) rfl rfl rfl rfl ?_
  refine jp_load (pc2 := 24) (n := 2) rfl rfl rfl rfl ?_
  exact jp_virt0 (pc2 := 27) (As := [(.ref r_2)]) (rest := []) rfl rfl rfl (Nat.le_of_ble_eq_true rfl) e2 m3 m4 hc rfl K
theorem c48_27 {r_0 : Nat} {o_1 : Option Value} {r_2 : Nat} {a_3 : Nat} {a_4 : Nat} {o_5 : Option Value} {sa_0 : Nat} (c1 : sa_0 < 2147483648) (K1 : sa_0 = 0 → ip sc call 48 MC MS Q 61 [some (.ref r_0), o_1, some (.ref r_2), some (.int (nI a_3)), some (.int (nI a_4)), o_5] [] h z c s) (K2 : ¬ (sa_0 = 0) → ip sc call 48 MC MS Q 30 [some (.ref r_0), o_1, some (.ref r_2), some (.int (nI a_3)), some (.int (nI a_4)), o_5] [] h z c s) : ip sc call 48 MC MS Q 27 [some (.ref r_0), o_1, some (.ref r_2), some (.int (nI a_3)), some (.int (nI a_4)), o_5] [(.int (nI sa_0))] h z c s := by
  exact jp_if0 (pc2 := 30) rfl rfl (fun q => K1 ((nI_eq c1 (by decide)).mp q)) (fun q => K2 (fun r => q ((nI_eq c1 (by decide)).mpr r)))
theorem c48_30 {r_0 : Nat} {o_1 : Option Value} {r_2 : Nat} {a_3 : Nat} {a_4 : Nat} {o_5 : Option Value} {fs1 : List Value} {P : ipQ} (e2 : h r_0 = some (.inr (6, fs1))) (m3 : c ≤ MC) (m4 : s ≤ MS) (hc : call 44 [(.ref r_0), (.ref r_2)] h z 0 0 P) (K : ∀ (o : Option Value) (h2 : HP) (z2 : Nat), P o h2 z2 → ip sc call 48 MC MS Q 35 [some (.ref r_0), o_1, some (.ref r_2), some (.int (nI a_3)), some (.int (nI a_4)), o_5] (o.toList ++ []) h2 z2 c s) : ip sc call 48 MC MS Q 30 [some (.ref r_0), o_1, some (.ref r_2), some (.int (nI a_3)), some (.int (nI a_4)), o_5] [] h z c s := by
  refine jp_load (pc2 := 31) (n := 0) rfl rfl rfl rfl ?_
  refine jp_load (pc2 := 32) (n := 2) rfl rfl rfl rfl ?_
  exact jp_virt0 (pc2 := 35) (As := [(.ref r_2)]) (rest := []) rfl rfl rfl (Nat.le_of_ble_eq_true rfl) e2 m3 m4 hc rfl K
theorem c48_35 {r_0 : Nat} {o_1 : Option Value} {r_2 : Nat} {a_3 : Nat} {a_4 : Nat} {o_5 : Option Value} {sa_0 : Nat} (c1 : a_3 < 2147483648) (c2 : sa_0 < 2147483648) (K1 : sa_0 ≤ a_3 → ip sc call 48 MC MS Q 50 [some (.ref r_0), o_1, some (.ref r_2), some (.int (nI a_3)), some (.int (nI a_4)), some (.int (nI sa_0))] [] h z c s) (K2 : ¬ (sa_0 ≤ a_3) → ip sc call 48 MC MS Q 43 [some (.ref r_0), o_1, some (.ref r_2), some (.int (nI a_3)), some (.int (nI a_4)), some (.int (nI sa_0))] [] h z c s) : ip sc call 48 MC MS Q 35 [some (.ref r_0), o_1, some (.ref r_2), some (.int (nI a_3)), some (.int (nI a_4)), o_5] [(.int (nI sa_0))] h z c s := by
  refine jp_store (pc2 := 37) (n := 5) rfl rfl ⟨rfl, rfl⟩ rfl (Nat.le_of_ble_eq_true rfl) ?_
  refine jp_load (pc2 := 38) (n := 3) rfl rfl rfl rfl ?_
  refine jp_load (pc2 := 40) (n := 5) rfl rfl rfl rfl ?_
  exact jp_icmp (pc2 := 43) rfl rfl (fun q => K1 ((nI_leI c2 c1).mp q)) (fun q => K2 (fun r => q ((nI_leI c2 c1).mpr r)))
theorem c48_43 {o_0 : Option Value} {o_1 : Option Value} {r_2 : Nat} {a_3 : Nat} {o_4 : Option Value} {o_5 : Option Value} {fs1 : List Value} (e2 : h r_2 = some (.inr (2, fs1))) (l3 : fs1.length = 6) (q4 : Q (some (.int (nI 1))) (hup h r_2 (.inr (2, (fs1.set 5 (.int (nI a_3)))))) z)  : ip sc call 48 MC MS Q 43 [o_0, o_1, some (.ref r_2), some (.int (nI a_3)), o_4, o_5] [] h z c s := by
  refine jp_load (pc2 := 44) (n := 2) rfl rfl rfl rfl ?_
  refine jp_load (pc2 := 45) (n := 3) rfl rfl rfl rfl ?_
  refine jp_putf (pc2 := 48) rfl rfl e2 (ln_lt l3 (by decide)) ⟨rfl, rfl⟩ ?_
  refine jp_con (pc2 := 49) (v := (.int (nI 1))) rfl rfl rfl ?_
  exact ip_iret (st := []) rfl rfl rfl q4
theorem c48_50 {r_0 : Nat} {o_1 : Option Value} {r_2 : Nat} {a_3 : Nat} {a_4 : Nat} {a_5 : Nat} (d1 : a_5 ≤ a_3) (K : ip sc call 48 MC MS Q 15 [some (.ref r_0), o_1, some (.ref r_2), some (.int (nI (a_3 - a_5))), some (.int (nI (a_4 + 1))), some (.int (nI a_5))] [] h z c s) : ip sc call 48 MC MS Q 50 [some (.ref r_0), o_1, some (.ref r_2), some (.int (nI a_3)), some (.int (nI a_4)), some (.int (nI a_5))] [] h z c s := by
  refine jp_load (pc2 := 51) (n := 3) rfl rfl rfl rfl ?_
  refine jp_load (pc2 := 53) (n := 5) rfl rfl rfl rfl ?_
  refine jp_bin (pc2 := 54) (v := nI (a_3 - a_5)) rfl rfl (congrArg some (pk_sub d1)) ?_
  refine jp_store (pc2 := 55) (n := 3) rfl rfl ⟨rfl, rfl⟩ rfl (Nat.le_of_ble_eq_true rfl) ?_
  refine jp_iinc (pc2 := 58) (n := 4) (v := nI (a_4 + 1)) rfl rfl rfl (nI_add _ 1) rfl ?_
  refine ip_goto rfl ?_
  exact K
theorem c48_61 {o_0 : Option Value} {o_1 : Option Value} {o_2 : Option Value} {o_3 : Option Value} {o_4 : Option Value} {o_5 : Option Value} (q1 : Q (some (.int (nI 0))) h z)  : ip sc call 48 MC MS Q 61 [o_0, o_1, o_2, o_3, o_4, o_5] [] h z c s := by
  refine jp_con (pc2 := 62) (v := (.int (nI 0))) rfl rfl rfl ?_
  exact ip_iret (st := []) rfl rfl rfl q1
theorem c49_0 {r_0 : Nat} {fs1 : List Value} (e2 : h r_0 = some (.inr (6, fs1))) (l3 : fs1.length = 11) (q4 : Q none (hup h r_0 (.inr (6, ((((((fs1.set 5 (.int (nI 0))).set 6 (.int (nI 0))).set 7 (.int (nI 0))).set 8 (.int (nI 0))).set 9 (.int (nI 0))).set 10 (.int (nI 0)))))) z)  : ip sc call 49 MC MS Q 0 [some (.ref r_0)] [] h z c s := by
  refine jp_load (pc2 := 1) (n := 0) rfl rfl rfl rfl ?_
  refine jp_con (pc2 := 2) (v := (.int (nI 0))) rfl rfl rfl ?_
  refine jp_putf (pc2 := 5) rfl rfl e2 (ln_lt l3 (by decide)) ⟨rfl, rfl⟩ ?_
  refine jp_load (pc2 := 6) (n := 0) rfl rfl rfl rfl ?_
  refine jp_con (pc2 := 7) (v := (.int (nI 0))) rfl rfl rfl ?_
  refine jp_putf (pc2 := 10) rfl rfl hup_eq (ls_lt (ln_lt l3 (by decide))) ⟨rfl, rfl⟩ ?_
  rw [hup_hup]
  refine jp_load (pc2 := 11) (n := 0) rfl rfl rfl rfl ?_
  refine jp_con (pc2 := 12) (v := (.int (nI 0))) rfl rfl rfl ?_
  refine jp_putf (pc2 := 15) rfl rfl hup_eq (ls_lt (ls_lt (ln_lt l3 (by decide)))) ⟨rfl, rfl⟩ ?_
  rw [hup_hup]
  refine jp_load (pc2 := 16) (n := 0) rfl rfl rfl rfl ?_
  refine jp_con (pc2 := 17) (v := (.int (nI 0))) rfl rfl rfl ?_
  refine jp_putf (pc2 := 20) rfl rfl hup_eq (ls_lt (ls_lt (ls_lt (ln_lt l3 (by decide))))) ⟨rfl, rfl⟩ ?_
  rw [hup_hup]
  refine jp_load (pc2 := 21) (n := 0) rfl rfl rfl rfl ?_
  refine jp_con (pc2 := 22) (v := (.int (nI 0))) rfl rfl rfl ?_
  refine jp_putf (pc2 := 25) rfl rfl hup_eq (ls_lt (ls_lt (ls_lt (ls_lt (ln_lt l3 (by decide)))))) ⟨rfl, rfl⟩ ?_
  rw [hup_hup]
  refine jp_load (pc2 := 26) (n := 0) rfl rfl rfl rfl ?_
  refine jp_con (pc2 := 27) (v := (.int (nI 0))) rfl rfl rfl ?_
  refine jp_putf (pc2 := 30) rfl rfl hup_eq (ls_lt (ls_lt (ls_lt (ls_lt (ls_lt (ln_lt l3 (by decide))))))) ⟨rfl, rfl⟩ ?_
  rw [hup_hup]
  exact ip_vret (st := []) rfl rfl q4
theorem c50_0 {r_0 : Nat} {a_1 : Nat} {fs1 : List Value} {v_fs1_8 : Nat} {q_fs1_4 : Nat} {n5 : Nat} {f6 : Nat → Int32} (e2 : h r_0 = some (.inr (6, fs1))) (e3 : fs1[8]? = some (.int (nI v_fs1_8))) (e4 : fs1[4]? = some (.ref q_fs1_4)) (e7 : h q_fs1_4 = some (.inl (0, n5, .inl f6))) (c8 : v_fs1_8 < 2147483648) (c9 : n5 < 2147483648) (K1 : n5 ≤ v_fs1_8 → ip sc call 50 MC MS Q 42 [some (.ref r_0), some (.int (nI a_1))] [] h z c s) (K2 : ¬ (n5 ≤ v_fs1_8) → ip sc call 50 MC MS Q 12 [some (.ref r_0), some (.int (nI a_1))] [] h z c s) : ip sc call 50 MC MS Q 0 [some (.ref r_0), some (.int (nI a_1))] [] h z c s := by
  refine jp_load (pc2 := 1) (n := 0) rfl rfl rfl rfl ?_
  refine jp_getf (pc2 := 4) rfl rfl e2 e3 ?_
  refine jp_load (pc2 := 5) (n := 0) rfl rfl rfl rfl ?_
  refine jp_getf (pc2 := 8) rfl rfl e2 e4 ?_
  refine jp_alen (pc2 := 9) rfl rfl e7 (by decide) ?_
  show ip _ _ _ _ _ _ _ _ (.int (nI n5) :: _) _ _ _ _
  exact jp_icmp (pc2 := 12) rfl rfl (fun q => K1 ((nI_leI c9 c8).mp q)) (fun q => K2 (fun r => q ((nI_leI c9 c8).mpr r)))
theorem c50_12 {r_0 : Nat} {a_1 : Nat} {fs1 : List Value} {q_fs1_4 : Nat} {v_fs1_8 : Nat} {n5 : Nat} {f6 : Nat → Int32} {g10 : Nat → Int32} {v_fs1_10 : Nat} (e2 : h r_0 = some (.inr (6, fs1))) (e3 : fs1[4]? = some (.ref q_fs1_4)) (e4 : fs1[8]? = some (.int (nI v_fs1_8))) (e7 : h q_fs1_4 = some (.inl (0, n5, .inl f6))) (b8 : v_fs1_8 < n5) (c9 : n5 < 2147483648) (d11 : upd f6 v_fs1_8 (nI a_1) = g10) (n12 : r_0 ≠ q_fs1_4) (l13 : fs1.length = 11) (e14 : fs1[10]? = some (.int (nI v_fs1_10))) (K : ip sc call 50 MC MS Q 42 [some (.ref r_0), some (.int (nI a_1))] [] (hup (hup h q_fs1_4 (.inl (0, n5, .inl g10))) r_0 (.inr (6, ((fs1.set 8 (.int (nI (v_fs1_8 + 1)))).set 10 (.int (nI (v_fs1_10 + a_1))))))) z c s) : ip sc call 50 MC MS Q 12 [some (.ref r_0), some (.int (nI a_1))] [] h z c s := by
  refine jp_load (pc2 := 13) (n := 0) rfl rfl rfl rfl ?_
  refine jp_getf (pc2 := 16) rfl rfl e2 e3 ?_
  refine jp_load (pc2 := 17) (n := 0) rfl rfl rfl rfl ?_
  refine jp_getf (pc2 := 20) rfl rfl e2 e4 ?_
  refine jp_load (pc2 := 21) (n := 1) rfl rfl rfl rfl ?_
  refine jp_iast (pc2 := 22) rfl rfl e7 (vp_in_nI b8 c9) ?_
  rw [(nI_clamp (Nat.lt_trans b8 c9))]
  rw [d11]
  refine jp_load (pc2 := 23) (n := 0) rfl rfl rfl rfl ?_
  refine jp_dup (pc2 := 24) rfl rfl rfl ?_
  refine jp_getf (pc2 := 27) rfl rfl (hup_ne n12 e2) e4 ?_
  refine jp_con (pc2 := 28) (v := (.int (nI 1))) rfl rfl rfl ?_
  refine jp_bin (pc2 := 29) (v := nI (v_fs1_8 + 1)) rfl rfl (congrArg some (nI_add _ _)) ?_
  refine jp_putf (pc2 := 32) rfl rfl (hup_ne n12 e2) (ln_lt l13 (by decide)) ⟨rfl, rfl⟩ ?_
  refine jp_load (pc2 := 33) (n := 0) rfl rfl rfl rfl ?_
  refine jp_dup (pc2 := 34) rfl rfl rfl ?_
  refine jp_getf (pc2 := 37) rfl rfl hup_eq (gs_ne (by decide) e14) ?_
  refine jp_load (pc2 := 38) (n := 1) rfl rfl rfl rfl ?_
  refine jp_bin (pc2 := 39) (v := nI (v_fs1_10 + a_1)) rfl rfl (congrArg some (nI_add _ _)) ?_
  refine jp_putf (pc2 := 42) rfl rfl hup_eq (ls_lt (ln_lt l13 (by decide))) ⟨rfl, rfl⟩ ?_
  rw [hup_hup]
  exact K
theorem c50_42 {o_0 : Option Value} {o_1 : Option Value} (q1 : Q none h z)  : ip sc call 50 MC MS Q 42 [o_0, o_1] [] h z c s := by
  exact ip_vret (st := []) rfl rfl q1
theorem c51_0 {r_0 : Nat} {a_1 : Nat} {o_2 : Option Value} {fs1 : List Value} {P : ipQ} (e2 : h r_0 = some (.inr (6, fs1))) (m3 : c ≤ MC) (m4 : s ≤ MS) (hc : call 49 [(.ref r_0)] h z 0 0 P) (K : ∀ (o : Option Value) (h2 : HP) (z2 : Nat), P o h2 z2 → ip sc call 51 MC MS Q 4 [some (.ref r_0), some (.int (nI a_1)), o_2] (o.toList ++ []) h2 z2 c s) : ip sc call 51 MC MS Q 0 [some (.ref r_0), some (.int (nI a_1)), o_2] [] h z c s := by
  refine jp_load (pc2 := 1) (n := 0) rfl rfl rfl rfl ?_
  exact jp_virt0 (pc2 := 4) (As := []) (rest := []) rfl rfl rfl (Nat.le_of_ble_eq_true rfl) e2 m3 m4 hc rfl K
theorem c51_4 {r_0 : Nat} {a_1 : Nat} {o_2 : Option Value}  (K : ip sc call 51 MC MS Q 6 [some (.ref r_0), some (.int (nI a_1)), some (.int (nI 0))] [] h z c s) : ip sc call 51 MC MS Q 4 [some (.ref r_0), some (.int (nI a_1)), o_2] [] h z c s := by
  refine jp_con (pc2 := 5) (v := (.int (nI 0))) rfl rfl rfl ?_
  refine jp_store (pc2 := 6) (n := 2) rfl rfl ⟨rfl, rfl⟩ rfl (Nat.le_of_ble_eq_true rfl) ?_
  exact K
theorem c51_6 {r_0 : Nat} {a_1 : Nat} {a_2 : Nat} (c1 : a_2 < 2147483648) (c2 : a_1 < 2147483648) (K1 : a_1 ≤ a_2 → ip sc call 51 MC MS Q 31 [some (.ref r_0), some (.int (nI a_1)), some (.int (nI a_2))] [] h z c s) (K2 : ¬ (a_1 ≤ a_2) → ip sc call 51 MC MS Q 11 [some (.ref r_0), some (.int (nI a_1)), some (.int (nI a_2))] [] h z c s) : ip sc call 51 MC MS Q 6 [some (.ref r_0), some (.int (nI a_1)), some (.int (nI a_2))] [] h z c s := by
  refine jp_load (pc2 := 7) (n := 2) rfl rfl rfl rfl ?_
  refine jp_load (pc2 := 8) (n := 1) rfl rfl rfl rfl ?_
  exact jp_icmp (pc2 := 11) rfl rfl (fun q => K1 ((nI_leI c2 c1).mp q)) (fun q => K2 (fun r => q ((nI_leI c2 c1).mpr r)))
theorem c51_11 {r_0 : Nat} {a_1 : Nat} {a_2 : Nat} {fs1 : List Value} {P : ipQ} (e2 : h r_0 = some (.inr (6, fs1))) (m3 : c ≤ MC) (m4 : s ≤ MS) (hc : call 50 [(.ref r_0), (.int (nI 3))] h z 0 0 P) (K : ∀ (o : Option Value) (h2 : HP) (z2 : Nat), P o h2 z2 → ip sc call 51 MC MS Q 16 [some (.ref r_0), some (.int (nI a_1)), some (.int (nI a_2))] (o.toList ++ []) h2 z2 c s) : ip sc call 51 MC MS Q 11 [some (.ref r_0), some (.int (nI a_1)), some (.int (nI a_2))] [] h z c s := by
  refine jp_load (pc2 := 12) (n := 0) rfl rfl rfl rfl ?_
  refine jp_con (pc2 := 13) (v := (.int (nI 3))) rfl rfl rfl ?_
  exact jp_virt0 (pc2 := 16) (As := [(.int (nI 3))]) (rest := []) rfl rfl rfl (Nat.le_of_ble_eq_true rfl) e2 m3 m4 hc rfl K
theorem c51_16 {r_0 : Nat} {a_1 : Nat} {a_2 : Nat} {fs1 : List Value} {P : ipQ} (e2 : h r_0 = some (.inr (6, fs1))) (m3 : c ≤ MC) (m4 : s ≤ MS) (hc : call 61 [(.ref r_0), (.int (nI a_2))] h z 0 0 P) (K : ∀ (o : Option Value) (h2 : HP) (z2 : Nat), P o h2 z2 → ip sc call 51 MC MS Q 21 [some (.ref r_0), some (.int (nI a_1)), some (.int (nI a_2))] (o.toList ++ []) h2 z2 c s) : ip sc call 51 MC MS Q 16 [some (.ref r_0), some (.int (nI a_1)), some (.int (nI a_2))] [] h z c s := by
  refine jp_load (pc2 := 17) (n := 0) rfl rfl rfl rfl ?_
  refine jp_load (pc2 := 18) (n := 2) rfl rfl rfl rfl ?_
  exact jp_virt0 (pc2 := 21) (As := [(.int (nI a_2))]) (rest := []) rfl rfl rfl (Nat.le_of_ble_eq_true rfl) e2 m3 m4 hc rfl K
theorem c51_21 {r_0 : Nat} {a_1 : Nat} {a_2 : Nat} {fs1 : List Value} {P : ipQ} (e2 : h r_0 = some (.inr (6, fs1))) (m3 : c ≤ MC) (m4 : s ≤ MS) (hc : call 62 [(.ref r_0)] h z 0 0 P) (K : ∀ (o : Option Value) (h2 : HP) (z2 : Nat), P o h2 z2 → ip sc call 51 MC MS Q 25 [some (.ref r_0), some (.int (nI a_1)), some (.int (nI a_2))] (o.toList ++ []) h2 z2 c s) : ip sc call 51 MC MS Q 21 [some (.ref r_0), some (.int (nI a_1)), some (.int (nI a_2))] [] h z c s := by
  refine jp_load (pc2 := 22) (n := 0) rfl rfl rfl rfl ?_
  exact jp_virt0 (pc2 := 25) (As := []) (rest := []) rfl rfl rfl (Nat.le_of_ble_eq_true rfl) e2 m3 m4 hc rfl K
theorem c51_25 {r_0 : Nat} {a_1 : Nat} {a_2 : Nat}  (K : ip sc call 51 MC MS Q 6 [some (.ref r_0), some (.int (nI a_1)), some (.int (nI (a_2 + 1)))] [] h z c s) : ip sc call 51 MC MS Q 25 [some (.ref r_0), some (.int (nI a_1)), some (.int (nI a_2))] [] h z c s := by
  refine jp_iinc (pc2 := 28) (n := 2) (v := nI (a_2 + 1)) rfl rfl rfl (nI_add _ 1) rfl ?_
  refine ip_goto rfl ?_
  exact K
theorem c51_31 {r_0 : Nat} {a_1 : Nat} {o_2 : Option Value} {fs1 : List Value} {P : ipQ} (e2 : h r_0 = some (.inr (6, fs1))) (m3 : c ≤ MC) (m4 : s ≤ MS) (hc : call 63 [(.ref r_0)] h z 0 0 P) (K : ∀ (o : Option Value) (h2 : HP) (z2 : Nat), P o h2 z2 → ip sc call 51 MC MS Q 35 [some (.ref r_0), some (.int (nI a_1)), o_2] (o.toList ++ []) h2 z2 c s) : ip sc call 51 MC MS Q 31 [some (.ref r_0), some (.int (nI a_1)), o_2] [] h z c s := by
  refine jp_load (pc2 := 32) (n := 0) rfl rfl rfl rfl ?_
  exact jp_virt0 (pc2 := 35) (As := []) (rest := []) rfl rfl rfl (Nat.le_of_ble_eq_true rfl) e2 m3 m4 hc rfl K
theorem c51_35 {r_0 : Nat} {a_1 : Nat} {o_2 : Option Value} {fs1 : List Value} (e2 : h r_0 = some (.inr (6, fs1))) (l3 : fs1.length = 11) (q4 : Q none (hup h r_0 (.inr (6, (fs1.set 9 (.int (nI a_1)))))) z)  : ip sc call 51 MC MS Q 35 [some (.ref r_0), some (.int (nI a_1)), o_2] [] h z c s := by
  refine jp_load (pc2 := 36) (n := 0) rfl rfl rfl rfl ?_
  refine jp_load (pc2 := 37) (n := 1) rfl rfl rfl rfl ?_
  refine jp_putf (pc2 := 40) rfl rfl e2 (ln_lt l3 (by decide)) ⟨rfl, rfl⟩ ?_
  exact ip_vret (st := []) rfl rfl q4
theorem c52_0 {r_0 : Nat} {r_1 : Nat} {fs1 : List Value} {P : ipQ} (e2 : h r_0 = some (.inr (6, fs1))) (m3 : c ≤ MC) (m4 : s ≤ MS) (hc : call 49 [(.ref r_0)] h z 0 0 P) (K : ∀ (o : Option Value) (h2 : HP) (z2 : Nat), P o h2 z2 → ip sc call 52 MC MS Q 4 [some (.ref r_0), some (.ref r_1)] (o.toList ++ []) h2 z2 c s) : ip sc call 52 MC MS Q 0 [some (.ref r_0), some (.ref r_1)] [] h z c s := by
  refine jp_load (pc2 := 1) (n := 0) rfl rfl rfl rfl ?_
  exact jp_virt0 (pc2 := 4) (As := []) (rest := []) rfl rfl rfl (Nat.le_of_ble_eq_true rfl) e2 m3 m4 hc rfl K
-- c52_4 by hand: arraycopy: by hand
theorem c53_0 {r_0 : Nat} {r_1 : Nat} {o_2 : Option Value} {fs1 : List Value} {P : ipQ} (e2 : h r_0 = some (.inr (6, fs1))) (m3 : c ≤ MC) (m4 : s ≤ MS) (hc : call 52 [(.ref r_0), (.ref r_1)] h z 0 0 P) (K : ∀ (o : Option Value) (h2 : HP) (z2 : Nat), P o h2 z2 → ip sc call 53 MC MS Q 5 [some (.ref r_0), some (.ref r_1), o_2] (o.toList ++ []) h2 z2 c s) : ip sc call 53 MC MS Q 0 [some (.ref r_0), some (.ref r_1), o_2] [] h z c s := by
  refine jp_load (pc2 := 1) (n := 0) rfl rfl rfl rfl ?_
  refine jp_load (pc2 := 2) (n := 1) rfl rfl rfl rfl ?_
  exact jp_virt0 (pc2 := 5) (As := [(.ref r_1)]) (rest := []) rfl rfl rfl (Nat.le_of_ble_eq_true rfl) e2 m3 m4 hc rfl K
theorem c53_5 {r_0 : Nat} {r_1 : Nat} {o_2 : Option Value}  (K : ip sc call 53 MC MS Q 7 [some (.ref r_0), some (.ref r_1), some (.int (nI 0))] [] h z c s) : ip sc call 53 MC MS Q 5 [some (.ref r_0), some (.ref r_1), o_2] [] h z c s := by
  refine jp_con (pc2 := 6) (v := (.int (nI 0))) rfl rfl rfl ?_
  refine jp_store (pc2 := 7) (n := 2) rfl rfl ⟨rfl, rfl⟩ rfl (Nat.le_of_ble_eq_true rfl) ?_
  exact K
theorem c53_7 {r_0 : Nat} {r_1 : Nat} {a_2 : Nat} {fs1 : List Value} {v_fs1_7 : Nat} (e2 : h r_1 = some (.inr (6, fs1))) (e3 : fs1[7]? = some (.int (nI v_fs1_7))) (c4 : a_2 < 2147483648) (c5 : v_fs1_7 < 2147483648) (K1 : v_fs1_7 ≤ a_2 → ip sc call 53 MC MS Q 27 [some (.ref r_0), some (.ref r_1), some (.int (nI a_2))] [] h z c s) (K2 : ¬ (v_fs1_7 ≤ a_2) → ip sc call 53 MC MS Q 15 [some (.ref r_0), some (.ref r_1), some (.int (nI a_2))] [] h z c s) : ip sc call 53 MC MS Q 7 [some (.ref r_0), some (.ref r_1), some (.int (nI a_2))] [] h z c s := by
  refine jp_load (pc2 := 8) (n := 2) rfl rfl rfl rfl ?_
  refine jp_load (pc2 := 9) (n := 1) rfl rfl rfl rfl ?_
  refine jp_getf (pc2 := 12) rfl rfl e2 e3 ?_
  exact jp_icmp (pc2 := 15) rfl rfl (fun q => K1 ((nI_leI c5 c4).mp q)) (fun q => K2 (fun r => q ((nI_leI c5 c4).mpr r)))
theorem c53_15 {r_0 : Nat} {r_1 : Nat} {a_2 : Nat} {fs1 : List Value} {P : ipQ} (e2 : h r_0 = some (.inr (6, fs1))) (m3 : c ≤ MC) (m4 : s ≤ MS) (hc : call 56 [(.ref r_0), (.ref r_1), (.int (nI a_2))] h z 0 0 P) (K : ∀ (o : Option Value) (h2 : HP) (z2 : Nat), P o h2 z2 → ip sc call 53 MC MS Q 21 [some (.ref r_0), some (.ref r_1), some (.int (nI a_2))] (o.toList ++ []) h2 z2 c s) : ip sc call 53 MC MS Q 15 [some (.ref r_0), some (.ref r_1), some (.int (nI a_2))] [] h z c s := by
  refine jp_load (pc2 := 16) (n := 0) rfl rfl rfl rfl ?_
  refine jp_load (pc2 := 17) (n := 1) rfl rfl rfl rfl ?_
  refine jp_load (pc2 := 18) (n := 2) rfl rfl rfl rfl ?_
  exact jp_virt0 (pc2 := 21) (As := [(.ref r_1), (.int (nI a_2))]) (rest := []) rfl rfl rfl (Nat.le_of_ble_eq_true rfl) e2 m3 m4 hc rfl K
theorem c53_21 {r_0 : Nat} {r_1 : Nat} {a_2 : Nat}  (K : ip sc call 53 MC MS Q 7 [some (.ref r_0), some (.ref r_1), some (.int (nI (a_2 + 1)))] [] h z c s) : ip sc call 53 MC MS Q 21 [some (.ref r_0), some (.ref r_1), some (.int (nI a_2))] [] h z c s := by
  refine jp_iinc (pc2 := 24) (n := 2) (v := nI (a_2 + 1)) rfl rfl rfl (nI_add _ 1) rfl ?_
  refine ip_goto rfl ?_
  exact K
theorem c53_27 {o_0 : Option Value} {o_1 : Option Value} {o_2 : Option Value} (q1 : Q none h z)  : ip sc call 53 MC MS Q 27 [o_0, o_1, o_2] [] h z c s := by
  exact ip_vret (st := []) rfl rfl q1
theorem c54_0 {r_0 : Nat} {r_1 : Nat} {r_2 : Nat} {o_3 : Option Value} {fs1 : List Value} {P : ipQ} (e2 : h r_0 = some (.inr (6, fs1))) (m3 : c ≤ MC) (m4 : s ≤ MS) (hc : call 52 [(.ref r_0), (.ref r_1)] h z 0 0 P) (K : ∀ (o : Option Value) (h2 : HP) (z2 : Nat), P o h2 z2 → ip sc call 54 MC MS Q 5 [some (.ref r_0), some (.ref r_1), some (.ref r_2), o_3] (o.toList ++ []) h2 z2 c s) : ip sc call 54 MC MS Q 0 [some (.ref r_0), some (.ref r_1), some (.ref r_2), o_3] [] h z c s := by
  refine jp_load (pc2 := 1) (n := 0) rfl rfl rfl rfl ?_
  refine jp_load (pc2 := 2) (n := 1) rfl rfl rfl rfl ?_
  exact jp_virt0 (pc2 := 5) (As := [(.ref r_1)]) (rest := []) rfl rfl rfl (Nat.le_of_ble_eq_true rfl) e2 m3 m4 hc rfl K
theorem c54_5 {r_0 : Nat} {r_1 : Nat} {r_2 : Nat} {o_3 : Option Value} {fs1 : List Value} {v_fs1_0 : Nat} {v_fs1_1 : Nat} {v_fs1_2 : Nat} {fs6 : List Value} {P : ipQ} (e2 : h r_2 = some (.inr (2, fs1))) (e3 : fs1[0]? = some (.int (nI v_fs1_0))) (e4 : fs1[1]? = some (.int (nI v_fs1_1))) (e5 : fs1[2]? = some (.int (nI v_fs1_2))) (e7 : h r_1 = some (.inr (6, fs6))) (m8 : c ≤ MC) (m9 : s ≤ MS) (hc : call 42 [(.ref r_1), (.int (nI v_fs1_0)), (.int (nI v_fs1_1)), (.int (nI v_fs1_2))] h z 0 0 P) (K : ∀ (o : Option Value) (h2 : HP) (z2 : Nat), P o h2 z2 → ip sc call 54 MC MS Q 22 [some (.ref r_0), some (.ref r_1), some (.ref r_2), o_3] (o.toList ++ [(.ref r_0)]) h2 z2 c s) : ip sc call 54 MC MS Q 5 [some (.ref r_0), some (.ref r_1), some (.ref r_2), o_3] [] h z c s := by
  refine jp_load (pc2 := 6) (n := 0) rfl rfl rfl rfl ?_
  refine jp_load (pc2 := 7) (n := 1) rfl rfl rfl rfl ?_
  refine jp_load (pc2 := 8) (n := 2) rfl rfl rfl rfl ?_
  refine jp_getf (pc2 := 11) rfl rfl e2 e3 ?_
  refine jp_load (pc2 := 12) (n := 2) rfl rfl rfl rfl ?_
  refine jp_getf (pc2 := 15) rfl rfl e2 e4 ?_
  refine jp_load (pc2 := 16) (n := 2) rfl rfl rfl rfl ?_
  refine jp_getf (pc2 := 19) rfl rfl e2 e5 ?_
  exact jp_virt0 (pc2 := 22) (As := [(.int (nI v_fs1_0)), (.int (nI v_fs1_1)), (.int (nI v_fs1_2))]) (rest := [(.ref r_0)]) rfl rfl rfl (Nat.le_of_ble_eq_true rfl) e7 m8 m9 hc rfl K
theorem c54_22 {r_0 : Nat} {r_1 : Nat} {r_2 : Nat} {o_3 : Option Value} {sr_0 : Nat} {sa_1 : Nat} {fs1 : List Value} {P : ipQ} (e2 : h sr_0 = some (.inr (6, fs1))) (m3 : c ≤ MC) (m4 : s ≤ MS) (hc : call 55 [(.ref sr_0), (.int (nI sa_1))] h z 0 0 P) (K : ∀ (o : Option Value) (h2 : HP) (z2 : Nat), P o h2 z2 → ip sc call 54 MC MS Q 25 [some (.ref r_0), some (.ref r_1), some (.ref r_2), o_3] (o.toList ++ []) h2 z2 c s) : ip sc call 54 MC MS Q 22 [some (.ref r_0), some (.ref r_1), some (.ref r_2), o_3] [(.int (nI sa_1)), (.ref sr_0)] h z c s := by
  exact jp_virt0 (pc2 := 25) (As := [(.int (nI sa_1))]) (rest := []) rfl rfl rfl (Nat.le_of_ble_eq_true rfl) e2 m3 m4 hc rfl K
theorem c54_25 {r_0 : Nat} {r_1 : Nat} {r_2 : Nat} {o_3 : Option Value} {fs1 : List Value} {v_fs1_0 : Nat} {v_fs1_3 : Nat} {v_fs1_4 : Nat} {fs6 : List Value} {P : ipQ} (e2 : h r_2 = some (.inr (2, fs1))) (e3 : fs1[0]? = some (.int (nI v_fs1_0))) (e4 : fs1[3]? = some (.int (nI v_fs1_3))) (e5 : fs1[4]? = some (.int (nI v_fs1_4))) (e7 : h r_1 = some (.inr (6, fs6))) (m8 : c ≤ MC) (m9 : s ≤ MS) (hc : call 42 [(.ref r_1), (.int (nI v_fs1_0)), (.int (nI v_fs1_3)), (.int (nI v_fs1_4))] h z 0 0 P) (K : ∀ (o : Option Value) (h2 : HP) (z2 : Nat), P o h2 z2 → ip sc call 54 MC MS Q 42 [some (.ref r_0), some (.ref r_1), some (.ref r_2), o_3] (o.toList ++ [(.ref r_0)]) h2 z2 c s) : ip sc call 54 MC MS Q 25 [some (.ref r_0), some (.ref r_1), some (.ref r_2), o_3] [] h z c s := by
  refine jp_load (pc2 := 26) (n := 0) rfl rfl rfl rfl ?_
  refine jp_load (pc2 := 27) (n := 1) rfl rfl rfl rfl ?_
  refine jp_load (pc2 := 28) (n := 2) rfl rfl rfl rfl ?_
  refine jp_getf (pc2 := 31) rfl rfl e2 e3 ?_
  refine jp_load (pc2 := 32) (n := 2) rfl rfl rfl rfl ?_
  refine jp_getf (pc2 := 35) rfl rfl e2 e4 ?_
  refine jp_load (pc2 := 36) (n := 2) rfl rfl rfl rfl ?_
  refine jp_getf (pc2 := 39) rfl rfl e2 e5 ?_
  exact jp_virt0 (pc2 := 42) (As := [(.int (nI v_fs1_0)), (.int (nI v_fs1_3)), (.int (nI v_fs1_4))]) (rest := [(.ref r_0)]) rfl rfl rfl (Nat.le_of_ble_eq_true rfl) e7 m8 m9 hc rfl K
theorem c54_42 {r_0 : Nat} {r_1 : Nat} {r_2 : Nat} {o_3 : Option Value} {sr_0 : Nat} {sa_1 : Nat} {fs1 : List Value} {P : ipQ} (e2 : h sr_0 = some (.inr (6, fs1))) (m3 : c ≤ MC) (m4 : s ≤ MS) (hc : call 55 [(.ref sr_0), (.int (nI sa_1))] h z 0 0 P) (K : ∀ (o : Option Value) (h2 : HP) (z2 : Nat), P o h2 z2 → ip sc call 54 MC MS Q 45 [some (.ref r_0), some (.ref r_1), some (.ref r_2), o_3] (o.toList ++ []) h2 z2 c s) : ip sc call 54 MC MS Q 42 [some (.ref r_0), some (.ref r_1), some (.ref r_2), o_3] [(.int (nI sa_1)), (.ref sr_0)] h z c s := by
  exact jp_virt0 (pc2 := 45) (As := [(.int (nI sa_1))]) (rest := []) rfl rfl rfl (Nat.le_of_ble_eq_true rfl) e2 m3 m4 hc rfl K
theorem c54_45 {r_0 : Nat} {r_1 : Nat} {r_2 : Nat} {o_3 : Option Value} {fs1 : List Value} {P : ipQ} (e2 : h r_0 = some (.inr (6, fs1))) (m3 : c ≤ MC) (m4 : s ≤ MS) (hc : call 50 [(.ref r_0), (.int (nI 1))] h z 0 0 P) (K : ∀ (o : Option Value) (h2 : HP) (z2 : Nat), P o h2 z2 → ip sc call 54 MC MS Q 50 [some (.ref r_0), some (.ref r_1), some (.ref r_2), o_3] (o.toList ++ []) h2 z2 c s) : ip sc call 54 MC MS Q 45 [some (.ref r_0), some (.ref r_1), some (.ref r_2), o_3] [] h z c s := by
  refine jp_load (pc2 := 46) (n := 0) rfl rfl rfl rfl ?_
  refine jp_con (pc2 := 47) (v := (.int (nI 1))) rfl rfl rfl ?_
  exact jp_virt0 (pc2 := 50) (As := [(.int (nI 1))]) (rest := []) rfl rfl rfl (Nat.le_of_ble_eq_true rfl) e2 m3 m4 hc rfl K
theorem c54_50 {r_0 : Nat} {r_1 : Nat} {r_2 : Nat} {o_3 : Option Value} {fs1 : List Value} {v_fs1_1 : Nat} {v_fs1_3 : Nat} (e2 : h r_2 = some (.inr (2, fs1))) (e3 : fs1[1]? = some (.int (nI v_fs1_1))) (e4 : fs1[3]? = some (.int (nI v_fs1_3))) (c5 : v_fs1_1 < 2147483648) (c6 : v_fs1_3 < 2147483648) (K1 : v_fs1_1 = v_fs1_3 → ip sc call 54 MC MS Q 71 [some (.ref r_0), some (.ref r_1), some (.ref r_2), o_3] [] h z c s) (K2 : ¬ (v_fs1_1 = v_fs1_3) → ip sc call 54 MC MS Q 61 [some (.ref r_0), some (.ref r_1), some (.ref r_2), o_3] [] h z c s) : ip sc call 54 MC MS Q 50 [some (.ref r_0), some (.ref r_1), some (.ref r_2), o_3] [] h z c s := by
  refine jp_load (pc2 := 51) (n := 2) rfl rfl rfl rfl ?_
  refine jp_getf (pc2 := 54) rfl rfl e2 e3 ?_
  refine jp_load (pc2 := 55) (n := 2) rfl rfl rfl rfl ?_
  refine jp_getf (pc2 := 58) rfl rfl e2 e4 ?_
  exact jp_icmp (pc2 := 61) rfl rfl (fun q => K1 ((nI_eq c5 c6).mp q)) (fun q => K2 (fun r => q ((nI_eq c5 c6).mpr r)))
theorem c54_61 {r_0 : Nat} {r_1 : Nat} {r_2 : Nat} {o_3 : Option Value} {fs1 : List Value} {v_fs1_9 : Nat} (e2 : h r_0 = some (.inr (6, fs1))) (e3 : fs1[9]? = some (.int (nI v_fs1_9))) (d4 : 1 ≤ v_fs1_9) (l5 : fs1.length = 11) (K : ip sc call 54 MC MS Q 71 [some (.ref r_0), some (.ref r_1), some (.ref r_2), o_3] [] (hup h r_0 (.inr (6, (fs1.set 9 (.int (nI (v_fs1_9 - 1))))))) z c s) : ip sc call 54 MC MS Q 61 [some (.ref r_0), some (.ref r_1), some (.ref r_2), o_3] [] h z c s := by
  refine jp_load (pc2 := 62) (n := 0) rfl rfl rfl rfl ?_
  refine jp_dup (pc2 := 63) rfl rfl rfl ?_
  refine jp_getf (pc2 := 66) rfl rfl e2 e3 ?_
  refine jp_con (pc2 := 67) (v := (.int (nI 1))) rfl rfl rfl ?_
  refine jp_bin (pc2 := 68) (v := nI (v_fs1_9 - 1)) rfl rfl (congrArg some (pk_sub d4)) ?_
  refine jp_putf (pc2 := 71) rfl rfl e2 (ln_lt l5 (by decide)) ⟨rfl, rfl⟩ ?_
  exact K
theorem c54_71 {r_0 : Nat} {r_1 : Nat} {r_2 : Nat} {o_3 : Option Value}  (K : ip sc call 54 MC MS Q 73 [some (.ref r_0), some (.ref r_1), some (.ref r_2), some (.int (nI 0))] [] h z c s) : ip sc call 54 MC MS Q 71 [some (.ref r_0), some (.ref r_1), some (.ref r_2), o_3] [] h z c s := by
  refine jp_con (pc2 := 72) (v := (.int (nI 0))) rfl rfl rfl ?_
  refine jp_store (pc2 := 73) (n := 3) rfl rfl ⟨rfl, rfl⟩ rfl (Nat.le_of_ble_eq_true rfl) ?_
  exact K
theorem c54_73 {r_0 : Nat} {r_1 : Nat} {r_2 : Nat} {a_3 : Nat} {fs1 : List Value} {v_fs1_7 : Nat} (e2 : h r_1 = some (.inr (6, fs1))) (e3 : fs1[7]? = some (.int (nI v_fs1_7))) (c4 : a_3 < 2147483648) (c5 : v_fs1_7 < 2147483648) (K1 : v_fs1_7 ≤ a_3 → ip sc call 54 MC MS Q 131 [some (.ref r_0), some (.ref r_1), some (.ref r_2), some (.int (nI a_3))] [] h z c s) (K2 : ¬ (v_fs1_7 ≤ a_3) → ip sc call 54 MC MS Q 81 [some (.ref r_0), some (.ref r_1), some (.ref r_2), some (.int (nI a_3))] [] h z c s) : ip sc call 54 MC MS Q 73 [some (.ref r_0), some (.ref r_1), some (.ref r_2), some (.int (nI a_3))] [] h z c s := by
  refine jp_load (pc2 := 74) (n := 3) rfl rfl rfl rfl ?_
  refine jp_load (pc2 := 75) (n := 1) rfl rfl rfl rfl ?_
  refine jp_getf (pc2 := 78) rfl rfl e2 e3 ?_
  exact jp_icmp (pc2 := 81) rfl rfl (fun q => K1 ((nI_leI c5 c4).mp q)) (fun q => K2 (fun r => q ((nI_leI c5 c4).mpr r)))
theorem c54_81 {r_0 : Nat} {r_1 : Nat} {r_2 : Nat} {a_3 : Nat} {fs1 : List Value} {v_fs1_0 : Nat} (e2 : h r_2 = some (.inr (2, fs1))) (e3 : fs1[0]? = some (.int (nI v_fs1_0))) (c4 : a_3 < 2147483648) (c5 : v_fs1_0 < 2147483648) (K1 : a_3 = v_fs1_0 → ip sc call 54 MC MS Q 98 [some (.ref r_0), some (.ref r_1), some (.ref r_2), some (.int (nI a_3))] [] h z c s) (K2 : ¬ (a_3 = v_fs1_0) → ip sc call 54 MC MS Q 89 [some (.ref r_0), some (.ref r_1), some (.ref r_2), some (.int (nI a_3))] [] h z c s) : ip sc call 54 MC MS Q 81 [some (.ref r_0), some (.ref r_1), some (.ref r_2), some (.int (nI a_3))] [] h z c s := by
  refine jp_load (pc2 := 82) (n := 3) rfl rfl rfl rfl ?_
  refine jp_load (pc2 := 83) (n := 2) rfl rfl rfl rfl ?_
  refine jp_getf (pc2 := 86) rfl rfl e2 e3 ?_
  exact jp_icmp (pc2 := 89) rfl rfl (fun q => K1 ((nI_eq c4 c5).mp q)) (fun q => K2 (fun r => q ((nI_eq c4 c5).mpr r)))
theorem c54_89 {r_0 : Nat} {r_1 : Nat} {r_2 : Nat} {a_3 : Nat} {fs1 : List Value} {P : ipQ} (e2 : h r_0 = some (.inr (6, fs1))) (m3 : c ≤ MC) (m4 : s ≤ MS) (hc : call 56 [(.ref r_0), (.ref r_1), (.int (nI a_3))] h z 0 0 P) (K : ∀ (o : Option Value) (h2 : HP) (z2 : Nat), P o h2 z2 → ip sc call 54 MC MS Q 95 [some (.ref r_0), some (.ref r_1), some (.ref r_2), some (.int (nI a_3))] (o.toList ++ []) h2 z2 c s) : ip sc call 54 MC MS Q 89 [some (.ref r_0), some (.ref r_1), some (.ref r_2), some (.int (nI a_3))] [] h z c s := by
  refine jp_load (pc2 := 90) (n := 0) rfl rfl rfl rfl ?_
  refine jp_load (pc2 := 91) (n := 1) rfl rfl rfl rfl ?_
  refine jp_load (pc2 := 92) (n := 3) rfl rfl rfl rfl ?_
  exact jp_virt0 (pc2 := 95) (As := [(.ref r_1), (.int (nI a_3))]) (rest := []) rfl rfl rfl (Nat.le_of_ble_eq_true rfl) e2 m3 m4 hc rfl K
theorem c54_95 {r_0 : Nat} {r_1 : Nat} {r_2 : Nat} {a_3 : Nat}  (K : ip sc call 54 MC MS Q 125 [some (.ref r_0), some (.ref r_1), some (.ref r_2), some (.int (nI a_3))] [] h z c s) : ip sc call 54 MC MS Q 95 [some (.ref r_0), some (.ref r_1), some (.ref r_2), some (.int (nI a_3))] [] h z c s := by
  refine ip_goto rfl ?_
  exact K
theorem c54_98 {r_0 : Nat} {r_1 : Nat} {r_2 : Nat} {a_3 : Nat} {fs1 : List Value} {v_fs1_1 : Nat} {v_fs1_3 : Nat} (e2 : h r_2 = some (.inr (2, fs1))) (e3 : fs1[1]? = some (.int (nI v_fs1_1))) (e4 : fs1[3]? = some (.int (nI v_fs1_3))) (c5 : v_fs1_1 < 2147483648) (c6 : v_fs1_3 < 2147483648) (K1 : v_fs1_1 = v_fs1_3 → ip sc call 54 MC MS Q 118 [some (.ref r_0), some (.ref r_1), some (.ref r_2), some (.int (nI a_3))] [] h z c s) (K2 : ¬ (v_fs1_1 = v_fs1_3) → ip sc call 54 MC MS Q 109 [some (.ref r_0), some (.ref r_1), some (.ref r_2), some (.int (nI a_3))] [] h z c s) : ip sc call 54 MC MS Q 98 [some (.ref r_0), some (.ref r_1), some (.ref r_2), some (.int (nI a_3))] [] h z c s := by
  refine jp_load (pc2 := 99) (n := 2) rfl rfl rfl rfl ?_
  refine jp_getf (pc2 := 102) rfl rfl e2 e3 ?_
  refine jp_load (pc2 := 103) (n := 2) rfl rfl rfl rfl ?_
  refine jp_getf (pc2 := 106) rfl rfl e2 e4 ?_
  exact jp_icmp (pc2 := 109) rfl rfl (fun q => K1 ((nI_eq c5 c6).mp q)) (fun q => K2 (fun r => q ((nI_eq c5 c6).mpr r)))
theorem c54_109 {r_0 : Nat} {r_1 : Nat} {r_2 : Nat} {a_3 : Nat} {fs1 : List Value} {P : ipQ} (e2 : h r_0 = some (.inr (6, fs1))) (m3 : c ≤ MC) (m4 : s ≤ MS) (hc : call 59 [(.ref r_0), (.ref r_1), (.ref r_2)] h z 0 0 P) (K : ∀ (o : Option Value) (h2 : HP) (z2 : Nat), P o h2 z2 → ip sc call 54 MC MS Q 115 [some (.ref r_0), some (.ref r_1), some (.ref r_2), some (.int (nI a_3))] (o.toList ++ []) h2 z2 c s) : ip sc call 54 MC MS Q 109 [some (.ref r_0), some (.ref r_1), some (.ref r_2), some (.int (nI a_3))] [] h z c s := by
  refine jp_load (pc2 := 110) (n := 0) rfl rfl rfl rfl ?_
  refine jp_load (pc2 := 111) (n := 1) rfl rfl rfl rfl ?_
  refine jp_load (pc2 := 112) (n := 2) rfl rfl rfl rfl ?_
  exact jp_virt0 (pc2 := 115) (As := [(.ref r_1), (.ref r_2)]) (rest := []) rfl rfl rfl (Nat.le_of_ble_eq_true rfl) e2 m3 m4 hc rfl K
theorem c54_115 {r_0 : Nat} {r_1 : Nat} {r_2 : Nat} {a_3 : Nat}  (K : ip sc call 54 MC MS Q 125 [some (.ref r_0), some (.ref r_1), some (.ref r_2), some (.int (nI a_3))] [] h z c s) : ip sc call 54 MC MS Q 115 [some (.ref r_0), some (.ref r_1), some (.ref r_2), some (.int (nI a_3))] [] h z c s := by
  refine ip_goto rfl ?_
  exact K
theorem c54_118 {r_0 : Nat} {r_1 : Nat} {r_2 : Nat} {a_3 : Nat} {fs1 : List Value} {P : ipQ} (e2 : h r_0 = some (.inr (6, fs1))) (m3 : c ≤ MC) (m4 : s ≤ MS) (hc : call 60 [(.ref r_0), (.ref r_1), (.ref r_2), (.int (nI 0))] h z 0 0 P) (K : ∀ (o : Option Value) (h2 : HP) (z2 : Nat), P o h2 z2 → ip sc call 54 MC MS Q 125 [some (.ref r_0), some (.ref r_1), some (.ref r_2), some (.int (nI a_3))] (o.toList ++ []) h2 z2 c s) : ip sc call 54 MC MS Q 118 [some (.ref r_0), some (.ref r_1), some (.ref r_2), some (.int (nI a_3))] [] h z c s := by
  refine jp_load (pc2 := 119) (n := 0) rfl rfl rfl rfl ?_
  refine jp_load (pc2 := 120) (n := 1) rfl rfl rfl rfl ?_
  refine jp_load (pc2 := 121) (n := 2) rfl rfl rfl rfl ?_
  refine jp_con (pc2 := 122) (v := (.int (nI 0))) rfl rfl rfl ?_
  exact jp_virt0 (pc2 := 125) (As := [(.ref r_1), (.ref r_2), (.int (nI 0))]) (rest := []) rfl rfl rfl (Nat.le_of_ble_eq_true rfl) e2 m3 m4 hc rfl K
theorem c54_125 {r_0 : Nat} {r_1 : Nat} {r_2 : Nat} {a_3 : Nat}  (K : ip sc call 54 MC MS Q 73 [some (.ref r_0), some (.ref r_1), some (.ref r_2), some (.int (nI (a_3 + 1)))] [] h z c s) : ip sc call 54 MC MS Q 125 [some (.ref r_0), some (.ref r_1), some (.ref r_2), some (.int (nI a_3))] [] h z c s := by
  refine jp_iinc (pc2 := 128) (n := 3) (v := nI (a_3 + 1)) rfl rfl rfl (nI_add _ 1) rfl ?_
  refine ip_goto rfl ?_
  exact K
theorem c54_131 {r_0 : Nat} {r_1 : Nat} {r_2 : Nat} {o_3 : Option Value} {fs1 : List Value} {v_fs1_1 : Nat} {v_fs1_3 : Nat} (e2 : h r_2 = some (.inr (2, fs1))) (e3 : fs1[1]? = some (.int (nI v_fs1_1))) (e4 : fs1[3]? = some (.int (nI v_fs1_3))) (c5 : v_fs1_1 < 2147483648) (c6 : v_fs1_3 < 2147483648) (K1 : ¬ v_fs1_1 = v_fs1_3 → ip sc call 54 MC MS Q 149 [some (.ref r_0), some (.ref r_1), some (.ref r_2), o_3] [] h z c s) (K2 : ¬ (¬ v_fs1_1 = v_fs1_3) → ip sc call 54 MC MS Q 142 [some (.ref r_0), some (.ref r_1), some (.ref r_2), o_3] [] h z c s) : ip sc call 54 MC MS Q 131 [some (.ref r_0), some (.ref r_1), some (.ref r_2), o_3] [] h z c s := by
  refine jp_load (pc2 := 132) (n := 2) rfl rfl rfl rfl ?_
  refine jp_getf (pc2 := 135) rfl rfl e2 e3 ?_
  refine jp_load (pc2 := 136) (n := 2) rfl rfl rfl rfl ?_
  refine jp_getf (pc2 := 139) rfl rfl e2 e4 ?_
  exact jp_icmp (pc2 := 142) rfl rfl (fun q => K1 ((not_congr (nI_eq c5 c6)).mp q)) (fun q => K2 (fun r => q ((not_congr (nI_eq c5 c6)).mpr r)))
theorem c54_142 {r_0 : Nat} {r_1 : Nat} {r_2 : Nat} {o_3 : Option Value} {fs1 : List Value} {P : ipQ} (e2 : h r_0 = some (.inr (6, fs1))) (m3 : c ≤ MC) (m4 : s ≤ MS) (hc : call 60 [(.ref r_0), (.ref r_1), (.ref r_2), (.int (nI 1))] h z 0 0 P) (K : ∀ (o : Option Value) (h2 : HP) (z2 : Nat), P o h2 z2 → ip sc call 54 MC MS Q 149 [some (.ref r_0), some (.ref r_1), some (.ref r_2), o_3] (o.toList ++ []) h2 z2 c s) : ip sc call 54 MC MS Q 142 [some (.ref r_0), some (.ref r_1), some (.ref r_2), o_3] [] h z c s := by
  refine jp_load (pc2 := 143) (n := 0) rfl rfl rfl rfl ?_
  refine jp_load (pc2 := 144) (n := 1) rfl rfl rfl rfl ?_
  refine jp_load (pc2 := 145) (n := 2) rfl rfl rfl rfl ?_
  refine jp_con (pc2 := 146) (v := (.int (nI 1))) rfl rfl rfl ?_
  exact jp_virt0 (pc2 := 149) (As := [(.ref r_1), (.ref r_2), (.int (nI 1))]) (rest := []) rfl rfl rfl (Nat.le_of_ble_eq_true rfl) e2 m3 m4 hc rfl K
theorem c54_149 {o_0 : Option Value} {o_1 : Option Value} {o_2 : Option Value} {o_3 : Option Value} (q1 : Q none h z)  : ip sc call 54 MC MS Q 149 [o_0, o_1, o_2, o_3] [] h z c s := by
  exact ip_vret (st := []) rfl rfl q1
theorem c55_0 {r_0 : Nat} {a_1 : Nat} {fs1 : List Value} {q_fs1_4 : Nat} {n4 : Nat} {f5 : Nat → Int32} {v9 : Nat} {g12 : Nat → Int32} {v_fs1_10 : Nat} (e2 : h r_0 = some (.inr (6, fs1))) (e3 : fs1[4]? = some (.ref q_fs1_4)) (e6 : h q_fs1_4 = some (.inl (0, n4, .inl f5))) (b7 : a_1 < n4) (c8 : n4 < 2147483648) (e10 : f5 a_1 = nI v9) (d11 : 1 ≤ v9) (d13 : upd f5 a_1 (nI (v9 - 1)) = g12) (n14 : r_0 ≠ q_fs1_4) (e15 : fs1[10]? = some (.int (nI v_fs1_10))) (d16 : 1 ≤ v_fs1_10) (l17 : fs1.length = 11) (q18 : Q none (hup (hup h q_fs1_4 (.inl (0, n4, .inl g12))) r_0 (.inr (6, (fs1.set 10 (.int (nI (v_fs1_10 - 1))))))) z)  : ip sc call 55 MC MS Q 0 [some (.ref r_0), some (.int (nI a_1))] [] h z c s := by
  refine jp_load (pc2 := 1) (n := 0) rfl rfl rfl rfl ?_
  refine jp_getf (pc2 := 4) rfl rfl e2 e3 ?_
  refine jp_load (pc2 := 5) (n := 1) rfl rfl rfl rfl ?_
  refine jp_dup2 (pc2 := 6) rfl rfl rfl rfl ?_
  refine jp_iald (pc2 := 7) rfl rfl e6 (vp_in_nI b7 c8) ?_
  rw [(nI_clamp (Nat.lt_trans b7 c8))]
  rw [e10]
  refine jp_con (pc2 := 8) (v := (.int (nI 1))) rfl rfl rfl ?_
  refine jp_bin (pc2 := 9) (v := nI (v9 - 1)) rfl rfl (congrArg some (pk_sub d11)) ?_
  refine jp_iast (pc2 := 10) rfl rfl e6 (vp_in_nI b7 c8) ?_
  rw [(nI_clamp (Nat.lt_trans b7 c8))]
  rw [d13]
  refine jp_load (pc2 := 11) (n := 0) rfl rfl rfl rfl ?_
  refine jp_dup (pc2 := 12) rfl rfl rfl ?_
  refine jp_getf (pc2 := 15) rfl rfl (hup_ne n14 e2) e15 ?_
  refine jp_con (pc2 := 16) (v := (.int (nI 1))) rfl rfl rfl ?_
  refine jp_bin (pc2 := 17) (v := nI (v_fs1_10 - 1)) rfl rfl (congrArg some (pk_sub d16)) ?_
  refine jp_putf (pc2 := 20) rfl rfl (hup_ne n14 e2) (ln_lt l17 (by decide)) ⟨rfl, rfl⟩ ?_
  exact ip_vret (st := []) rfl rfl q18
theorem c56_0 {r_0 : Nat} {r_1 : Nat} {a_2 : Nat} {o_3 : Option Value} {fs1 : List Value} {q_fs1_3 : Nat} {n4 : Nat} {f5 : Nat → Int32} {v9 : Nat} (e2 : h r_1 = some (.inr (6, fs1))) (e3 : fs1[3]? = some (.ref q_fs1_3)) (e6 : h q_fs1_3 = some (.inl (0, n4, .inl f5))) (b7 : a_2 < n4) (c8 : n4 < 2147483648) (e10 : f5 a_2 = nI v9) (K : ip sc call 56 MC MS Q 7 [some (.ref r_0), some (.ref r_1), some (.int (nI a_2)), some (.int (nI v9))] [] h z c s) : ip sc call 56 MC MS Q 0 [some (.ref r_0), some (.ref r_1), some (.int (nI a_2)), o_3] [] h z c s := by
  refine jp_load (pc2 := 1) (n := 1) rfl rfl rfl rfl ?_
  refine jp_getf (pc2 := 4) rfl rfl e2 e3 ?_
  refine jp_load (pc2 := 5) (n := 2) rfl rfl rfl rfl ?_
  refine jp_iald (pc2 := 6) rfl rfl e6 (vp_in_nI b7 c8) ?_
  rw [(nI_clamp (Nat.lt_trans b7 c8))]
  rw [e10]
  refine jp_store (pc2 := 7) (n := 3) rfl rfl ⟨rfl, rfl⟩ rfl (Nat.le_of_ble_eq_true rfl) ?_
  exact K
theorem c56_7 {r_0 : Nat} {r_1 : Nat} {a_2 : Nat} {a_3 : Nat} {fs1 : List Value} {q_fs1_3 : Nat} {n4 : Nat} {f5 : Nat → Int32} {v9 : Nat} (e2 : h r_1 = some (.inr (6, fs1))) (e3 : fs1[3]? = some (.ref q_fs1_3)) (e6 : h q_fs1_3 = some (.inl (0, n4, .inl f5))) (b7 : a_2 + 1 < n4) (c8 : n4 < 2147483648) (e10 : f5 (a_2 + 1) = nI v9) (c11 : a_3 < 2147483648) (c12 : v9 < 2147483648) (K1 : v9 ≤ a_3 → ip sc call 56 MC MS Q 41 [some (.ref r_0), some (.ref r_1), some (.int (nI a_2)), some (.int (nI a_3))] [] h z c s) (K2 : ¬ (v9 ≤ a_3) → ip sc call 56 MC MS Q 19 [some (.ref r_0), some (.ref r_1), some (.int (nI a_2)), some (.int (nI a_3))] [] h z c s) : ip sc call 56 MC MS Q 7 [some (.ref r_0), some (.ref r_1), some (.int (nI a_2)), some (.int (nI a_3))] [] h z c s := by
  refine jp_load (pc2 := 8) (n := 3) rfl rfl rfl rfl ?_
  refine jp_load (pc2 := 9) (n := 1) rfl rfl rfl rfl ?_
  refine jp_getf (pc2 := 12) rfl rfl e2 e3 ?_
  refine jp_load (pc2 := 13) (n := 2) rfl rfl rfl rfl ?_
  refine jp_con (pc2 := 14) (v := (.int (nI 1))) rfl rfl rfl ?_
  refine jp_bin (pc2 := 15) (v := nI (a_2 + 1)) rfl rfl (congrArg some (nI_add _ _)) ?_
  refine jp_iald (pc2 := 16) rfl rfl e6 (vp_in_nI b7 c8) ?_
  rw [(nI_clamp (Nat.lt_trans b7 c8))]
  rw [e10]
  exact jp_icmp (pc2 := 19) rfl rfl (fun q => K1 ((nI_leI c12 c11).mp q)) (fun q => K2 (fun r => q ((nI_leI c12 c11).mpr r)))
theorem c56_19 {r_0 : Nat} {r_1 : Nat} {a_2 : Nat} {a_3 : Nat} {fs1 : List Value} {P : ipQ} (e2 : h r_1 = some (.inr (6, fs1))) (m3 : c ≤ MC) (m4 : s ≤ MS) (hc : call 41 [(.ref r_1), (.int (nI a_3))] h z 0 0 P) (K : ∀ (o : Option Value) (h2 : HP) (z2 : Nat), P o h2 z2 → ip sc call 56 MC MS Q 28 [some (.ref r_0), some (.ref r_1), some (.int (nI a_2)), some (.int (nI a_3))] (o.toList ++ [(.int (nI 0)), (.int (nI a_3)), (.ref r_1), (.ref r_0)]) h2 z2 c s) : ip sc call 56 MC MS Q 19 [some (.ref r_0), some (.ref r_1), some (.int (nI a_2)), some (.int (nI a_3))] [] h z c s := by
  refine jp_load (pc2 := 20) (n := 0) rfl rfl rfl rfl ?_
  refine jp_load (pc2 := 21) (n := 1) rfl rfl rfl rfl ?_
  refine jp_load (pc2 := 22) (n := 3) rfl rfl rfl rfl ?_
  refine jp_con (pc2 := 23) (v := (.int (nI 0))) rfl rfl rfl ?_
  refine jp_load (pc2 := 24) (n := 1) rfl rfl rfl rfl ?_
  refine jp_load (pc2 := 25) (n := 3) rfl rfl rfl rfl ?_
  exact jp_virt0 (pc2 := 28) (As := [(.int (nI a_3))]) (rest := [(.int (nI 0)), (.int (nI a_3)), (.ref r_1), (.ref r_0)]) rfl rfl rfl (Nat.le_of_ble_eq_true rfl) e2 m3 m4 hc rfl K
theorem c56_28 {r_0 : Nat} {r_1 : Nat} {a_2 : Nat} {a_3 : Nat} {sr_0 : Nat} {sr_1 : Nat} {sa_2 : Nat} {sa_3 : Nat} {sa_4 : Nat} {fs1 : List Value} {P : ipQ} (e2 : h sr_0 = some (.inr (6, fs1))) (m3 : c ≤ MC) (m4 : s ≤ MS) (hc : call 57 [(.ref sr_0), (.ref sr_1), (.int (nI sa_2)), (.int (nI sa_3)), (.int (nI sa_4))] h z 0 0 P) (K : ∀ (o : Option Value) (h2 : HP) (z2 : Nat), P o h2 z2 → ip sc call 56 MC MS Q 31 [some (.ref r_0), some (.ref r_1), some (.int (nI a_2)), some (.int (nI a_3))] (o.toList ++ []) h2 z2 c s) : ip sc call 56 MC MS Q 28 [some (.ref r_0), some (.ref r_1), some (.int (nI a_2)), some (.int (nI a_3))] [(.int (nI sa_4)), (.int (nI sa_3)), (.int (nI sa_2)), (.ref sr_1), (.ref sr_0)] h z c s := by
  exact jp_virt0 (pc2 := 31) (As := [(.ref sr_1), (.int (nI sa_2)), (.int (nI sa_3)), (.int (nI sa_4))]) (rest := []) rfl rfl rfl (Nat.le_of_ble_eq_true rfl) e2 m3 m4 hc rfl K
theorem c56_31 {r_0 : Nat} {r_1 : Nat} {a_2 : Nat} {a_3 : Nat} {fs1 : List Value} {P : ipQ} (e2 : h r_0 = some (.inr (6, fs1))) (m3 : c ≤ MC) (m4 : s ≤ MS) (hc : call 62 [(.ref r_0)] h z 0 0 P) (K : ∀ (o : Option Value) (h2 : HP) (z2 : Nat), P o h2 z2 → ip sc call 56 MC MS Q 35 [some (.ref r_0), some (.ref r_1), some (.int (nI a_2)), some (.int (nI a_3))] (o.toList ++ []) h2 z2 c s) : ip sc call 56 MC MS Q 31 [some (.ref r_0), some (.ref r_1), some (.int (nI a_2)), some (.int (nI a_3))] [] h z c s := by
  refine jp_load (pc2 := 32) (n := 0) rfl rfl rfl rfl ?_
  exact jp_virt0 (pc2 := 35) (As := []) (rest := []) rfl rfl rfl (Nat.le_of_ble_eq_true rfl) e2 m3 m4 hc rfl K
theorem c56_35 {r_0 : Nat} {r_1 : Nat} {a_2 : Nat} {a_3 : Nat}  (K : ip sc call 56 MC MS Q 7 [some (.ref r_0), some (.ref r_1), some (.int (nI a_2)), some (.int (nI (a_3 + 1)))] [] h z c s) : ip sc call 56 MC MS Q 35 [some (.ref r_0), some (.ref r_1), some (.int (nI a_2)), some (.int (nI a_3))] [] h z c s := by
  refine jp_iinc (pc2 := 38) (n := 3) (v := nI (a_3 + 1)) rfl rfl rfl (nI_add _ 1) rfl ?_
  refine ip_goto rfl ?_
  exact K
theorem c56_41 {r_0 : Nat} {o_1 : Option Value} {o_2 : Option Value} {o_3 : Option Value} {fs1 : List Value} {P : ipQ} (e2 : h r_0 = some (.inr (6, fs1))) (m3 : c ≤ MC) (m4 : s ≤ MS) (hc : call 63 [(.ref r_0)] h z 0 0 P) (K : ∀ (o : Option Value) (h2 : HP) (z2 : Nat), P o h2 z2 → ip sc call 56 MC MS Q 45 [some (.ref r_0), o_1, o_2, o_3] (o.toList ++ []) h2 z2 c s) : ip sc call 56 MC MS Q 41 [some (.ref r_0), o_1, o_2, o_3] [] h z c s := by
  refine jp_load (pc2 := 42) (n := 0) rfl rfl rfl rfl ?_
  exact jp_virt0 (pc2 := 45) (As := []) (rest := []) rfl rfl rfl (Nat.le_of_ble_eq_true rfl) e2 m3 m4 hc rfl K
theorem c56_45 {o_0 : Option Value} {o_1 : Option Value} {o_2 : Option Value} {o_3 : Option Value} (q1 : Q none h z)  : ip sc call 56 MC MS Q 45 [o_0, o_1, o_2, o_3] [] h z c s := by
  exact ip_vret (st := []) rfl rfl q1
theorem c57_0 {r_0 : Nat} {r_1 : Nat} {a_2 : Nat} {a_3 : Nat} {a_4 : Nat} {o_5 : Option Value} {o_6 : Option Value} {o_7 : Option Value} {o_8 : Option Value} {fs1 : List Value} {q_fs1_2 : Nat} {n4 : Nat} {f5 : Nat → Int32} {v9 : Nat} {P : ipQ} (e2 : h r_1 = some (.inr (6, fs1))) (e3 : fs1[2]? = some (.ref q_fs1_2)) (e6 : h q_fs1_2 = some (.inl (0, n4, .inl f5))) (b7 : a_2 < n4) (c8 : n4 < 2147483648) (e10 : f5 a_2 = nI v9) (m11 : c ≤ MC) (m12 : s ≤ MS) (hc : call 41 [(.ref r_1), (.int (nI a_2))] h z 0 0 P) (K : ∀ (o : Option Value) (h2 : HP) (z2 : Nat), P o h2 z2 → ip sc call 57 MC MS Q 13 [some (.ref r_0), some (.ref r_1), some (.int (nI a_2)), some (.int (nI a_3)), some (.int (nI a_4)), some (.int (nI v9)), o_6, o_7, o_8] (o.toList ++ []) h2 z2 c s) : ip sc call 57 MC MS Q 0 [some (.ref r_0), some (.ref r_1), some (.int (nI a_2)), some (.int (nI a_3)), some (.int (nI a_4)), o_5, o_6, o_7, o_8] [] h z c s := by
  refine jp_load (pc2 := 1) (n := 1) rfl rfl rfl rfl ?_
  refine jp_getf (pc2 := 4) rfl rfl e2 e3 ?_
  refine jp_load (pc2 := 5) (n := 2) rfl rfl rfl rfl ?_
  refine jp_iald (pc2 := 6) rfl rfl e6 (vp_in_nI b7 c8) ?_
  rw [(nI_clamp (Nat.lt_trans b7 c8))]
  rw [e10]
  refine jp_store (pc2 := 8) (n := 5) rfl rfl ⟨rfl, rfl⟩ rfl (Nat.le_of_ble_eq_true rfl) ?_
  refine jp_load (pc2 := 9) (n := 1) rfl rfl rfl rfl ?_
  refine jp_load (pc2 := 10) (n := 2) rfl rfl rfl rfl ?_
  exact jp_virt0 (pc2 := 13) (As := [(.int (nI a_2))]) (rest := []) rfl rfl rfl (Nat.le_of_ble_eq_true rfl) e2 m11 m12 hc rfl K
theorem c57_13 {r_0 : Nat} {r_1 : Nat} {o_2 : Option Value} {a_3 : Nat} {a_4 : Nat} {a_5 : Nat} {o_6 : Option Value} {o_7 : Option Value} {o_8 : Option Value} {sa_0 : Nat}  (K : ip sc call 57 MC MS Q 21 [some (.ref r_0), some (.ref r_1), o_2, some (.int (nI a_3)), some (.int (nI a_4)), some (.int (nI a_5)), some (.int (nI sa_0)), some (.int (nI a_3)), some (.int (nI 0))] [] h z c s) : ip sc call 57 MC MS Q 13 [some (.ref r_0), some (.ref r_1), o_2, some (.int (nI a_3)), some (.int (nI a_4)), some (.int (nI a_5)), o_6, o_7, o_8] [(.int (nI sa_0))] h z c s := by
  refine jp_store (pc2 := 15) (n := 6) rfl rfl ⟨rfl, rfl⟩ rfl (Nat.le_of_ble_eq_true rfl) ?_
  refine jp_load (pc2 := 16) (n := 3) rfl rfl rfl rfl ?_
  refine jp_store (pc2 := 18) (n := 7) rfl rfl ⟨rfl, rfl⟩ rfl (Nat.le_of_ble_eq_true rfl) ?_
  refine jp_con (pc2 := 19) (v := (.int (nI 0))) rfl rfl rfl ?_
  refine jp_store (pc2 := 21) (n := 8) rfl rfl ⟨rfl, rfl⟩ rfl (Nat.le_of_ble_eq_true rfl) ?_
  exact K
theorem c57_21 {r_0 : Nat} {r_1 : Nat} {o_2 : Option Value} {o_3 : Option Value} {a_4 : Nat} {a_5 : Nat} {a_6 : Nat} {a_7 : Nat} {a_8 : Nat} (c1 : a_8 < 2147483648) (c2 : a_4 < 2147483648) (K1 : a_4 ≤ a_8 → ip sc call 57 MC MS Q 67 [some (.ref r_0), some (.ref r_1), o_2, o_3, some (.int (nI a_4)), some (.int (nI a_5)), some (.int (nI a_6)), some (.int (nI a_7)), some (.int (nI a_8))] [] h z c s) (K2 : ¬ (a_4 ≤ a_8) → ip sc call 57 MC MS Q 28 [some (.ref r_0), some (.ref r_1), o_2, o_3, some (.int (nI a_4)), some (.int (nI a_5)), some (.int (nI a_6)), some (.int (nI a_7)), some (.int (nI a_8))] [] h z c s) : ip sc call 57 MC MS Q 21 [some (.ref r_0), some (.ref r_1), o_2, o_3, some (.int (nI a_4)), some (.int (nI a_5)), some (.int (nI a_6)), some (.int (nI a_7)), some (.int (nI a_8))] [] h z c s := by
  refine jp_load (pc2 := 23) (n := 8) rfl rfl rfl rfl ?_
  refine jp_load (pc2 := 25) (n := 4) rfl rfl rfl rfl ?_
  exact jp_icmp (pc2 := 28) rfl rfl (fun q => K1 ((nI_leI c2 c1).mp q)) (fun q => K2 (fun r => q ((nI_leI c2 c1).mpr r)))
theorem c57_28 {r_0 : Nat} {r_1 : Nat} {o_2 : Option Value} {o_3 : Option Value} {a_4 : Nat} {a_5 : Nat} {a_6 : Nat} {a_7 : Nat} {a_8 : Nat} {fs1 : List Value} {q_fs1_1 : Nat} {n4 : Nat} {f5 : Nat → Int32} {v9 : Nat} {fs11 : List Value} {P : ipQ} (e2 : h r_1 = some (.inr (6, fs1))) (e3 : fs1[1]? = some (.ref q_fs1_1)) (e6 : h q_fs1_1 = some (.inl (0, n4, .inl f5))) (b7 : a_5 + a_7 < n4) (c8 : n4 < 2147483648) (e10 : f5 (a_5 + a_7) = nI v9) (e12 : h r_0 = some (.inr (6, fs11))) (m13 : c ≤ MC) (m14 : s ≤ MS) (hc : call 61 [(.ref r_0), (.int (nI v9))] h z 0 0 P) (K : ∀ (o : Option Value) (h2 : HP) (z2 : Nat), P o h2 z2 → ip sc call 57 MC MS Q 42 [some (.ref r_0), some (.ref r_1), o_2, o_3, some (.int (nI a_4)), some (.int (nI a_5)), some (.int (nI a_6)), some (.int (nI a_7)), some (.int (nI a_8))] (o.toList ++ []) h2 z2 c s) : ip sc call 57 MC MS Q 28 [some (.ref r_0), some (.ref r_1), o_2, o_3, some (.int (nI a_4)), some (.int (nI a_5)), some (.int (nI a_6)), some (.int (nI a_7)), some (.int (nI a_8))] [] h z c s := by
  refine jp_load (pc2 := 29) (n := 0) rfl rfl rfl rfl ?_
  refine jp_load (pc2 := 30) (n := 1) rfl rfl rfl rfl ?_
  refine jp_getf (pc2 := 33) rfl rfl e2 e3 ?_
  refine jp_load (pc2 := 35) (n := 5) rfl rfl rfl rfl ?_
  refine jp_load (pc2 := 37) (n := 7) rfl rfl rfl rfl ?_
  refine jp_bin (pc2 := 38) (v := nI (a_5 + a_7)) rfl rfl (congrArg some (nI_add _ _)) ?_
  refine jp_iald (pc2 := 39) rfl rfl e6 (vp_in_nI b7 c8) ?_
  rw [(nI_clamp (Nat.lt_trans b7 c8))]
  rw [e10]
  exact jp_virt0 (pc2 := 42) (As := [(.int (nI v9))]) (rest := []) rfl rfl rfl (Nat.le_of_ble_eq_true rfl) e12 m13 m14 hc rfl K
theorem c57_42 {r_0 : Nat} {r_1 : Nat} {o_2 : Option Value} {o_3 : Option Value} {a_4 : Nat} {a_5 : Nat} {a_6 : Nat} {a_7 : Nat} {a_8 : Nat} (c1 : a_7 + 1 < 2147483648) (c2 : a_6 < 2147483648) (K1 : a_6 ≤ (a_7 + 1) → ip sc call 57 MC MS Q 58 [some (.ref r_0), some (.ref r_1), o_2, o_3, some (.int (nI a_4)), some (.int (nI a_5)), some (.int (nI a_6)), some (.int (nI a_7)), some (.int (nI a_8))] [] h z c s) (K2 : ¬ (a_6 ≤ (a_7 + 1)) → ip sc call 57 MC MS Q 51 [some (.ref r_0), some (.ref r_1), o_2, o_3, some (.int (nI a_4)), some (.int (nI a_5)), some (.int (nI a_6)), some (.int (nI a_7)), some (.int (nI a_8))] [] h z c s) : ip sc call 57 MC MS Q 42 [some (.ref r_0), some (.ref r_1), o_2, o_3, some (.int (nI a_4)), some (.int (nI a_5)), some (.int (nI a_6)), some (.int (nI a_7)), some (.int (nI a_8))] [] h z c s := by
  refine jp_load (pc2 := 44) (n := 7) rfl rfl rfl rfl ?_
  refine jp_con (pc2 := 45) (v := (.int (nI 1))) rfl rfl rfl ?_
  refine jp_bin (pc2 := 46) (v := nI (a_7 + 1)) rfl rfl (congrArg some (nI_add _ _)) ?_
  refine jp_load (pc2 := 48) (n := 6) rfl rfl rfl rfl ?_
  exact jp_icmp (pc2 := 51) rfl rfl (fun q => K1 ((nI_leI c2 c1).mp q)) (fun q => K2 (fun r => q ((nI_leI c2 c1).mpr r)))
theorem c57_51 {r_0 : Nat} {r_1 : Nat} {o_2 : Option Value} {o_3 : Option Value} {a_4 : Nat} {a_5 : Nat} {a_6 : Nat} {a_7 : Nat} {a_8 : Nat}  (K : ip sc call 57 MC MS Q 59 [some (.ref r_0), some (.ref r_1), o_2, o_3, some (.int (nI a_4)), some (.int (nI a_5)), some (.int (nI a_6)), some (.int (nI a_7)), some (.int (nI a_8))] [(.int (nI (a_7 + 1)))] h z c s) : ip sc call 57 MC MS Q 51 [some (.ref r_0), some (.ref r_1), o_2, o_3, some (.int (nI a_4)), some (.int (nI a_5)), some (.int (nI a_6)), some (.int (nI a_7)), some (.int (nI a_8))] [] h z c s := by
  refine jp_load (pc2 := 53) (n := 7) rfl rfl rfl rfl ?_
  refine jp_con (pc2 := 54) (v := (.int (nI 1))) rfl rfl rfl ?_
  refine jp_bin (pc2 := 55) (v := nI (a_7 + 1)) rfl rfl (congrArg some (nI_add _ _)) ?_
  refine ip_goto rfl ?_
  exact K
theorem c57_58 {r_0 : Nat} {r_1 : Nat} {o_2 : Option Value} {o_3 : Option Value} {a_4 : Nat} {a_5 : Nat} {a_6 : Nat} {o_7 : Option Value} {a_8 : Nat}  (K : ip sc call 57 MC MS Q 59 [some (.ref r_0), some (.ref r_1), o_2, o_3, some (.int (nI a_4)), some (.int (nI a_5)), some (.int (nI a_6)), o_7, some (.int (nI a_8))] [(.int (nI 0))] h z c s) : ip sc call 57 MC MS Q 58 [some (.ref r_0), some (.ref r_1), o_2, o_3, some (.int (nI a_4)), some (.int (nI a_5)), some (.int (nI a_6)), o_7, some (.int (nI a_8))] [] h z c s := by
  refine jp_con (pc2 := 59) (v := (.int (nI 0))) rfl rfl rfl ?_
  exact K
theorem c57_59 {r_0 : Nat} {r_1 : Nat} {o_2 : Option Value} {o_3 : Option Value} {a_4 : Nat} {a_5 : Nat} {a_6 : Nat} {o_7 : Option Value} {a_8 : Nat} {sa_0 : Nat}  (K : ip sc call 57 MC MS Q 21 [some (.ref r_0), some (.ref r_1), o_2, o_3, some (.int (nI a_4)), some (.int (nI a_5)), some (.int (nI a_6)), some (.int (nI sa_0)), some (.int (nI (a_8 + 1)))] [] h z c s) : ip sc call 57 MC MS Q 59 [some (.ref r_0), some (.ref r_1), o_2, o_3, some (.int (nI a_4)), some (.int (nI a_5)), some (.int (nI a_6)), o_7, some (.int (nI a_8))] [(.int (nI sa_0))] h z c s := by
  refine jp_store (pc2 := 61) (n := 7) rfl rfl ⟨rfl, rfl⟩ rfl (Nat.le_of_ble_eq_true rfl) ?_
  refine jp_iinc (pc2 := 64) (n := 8) (v := nI (a_8 + 1)) rfl rfl rfl (nI_add _ 1) rfl ?_
  refine ip_goto rfl ?_
  exact K
theorem c57_67 {o_0 : Option Value} {o_1 : Option Value} {o_2 : Option Value} {o_3 : Option Value} {o_4 : Option Value} {o_5 : Option Value} {o_6 : Option Value} {o_7 : Option Value} {o_8 : Option Value} (q1 : Q none h z)  : ip sc call 57 MC MS Q 67 [o_0, o_1, o_2, o_3, o_4, o_5, o_6, o_7, o_8] [] h z c s := by
  exact ip_vret (st := []) rfl rfl q1
theorem c58_0 {r_0 : Nat} {a_1 : Nat} {a_2 : Nat} {fs1 : List Value} {q_fs1_4 : Nat} {q_fs1_1 : Nat} {q_fs1_2 : Nat} {n6 : Nat} {f7 : Nat → Int32} {v11 : Nat} {n13 : Nat} {f14 : Nat → Int32} {v18 : Nat} {n20 : Nat} {f21 : Nat → Int32} {v25 : Nat} (e2 : h r_0 = some (.inr (6, fs1))) (e3 : fs1[4]? = some (.ref q_fs1_4)) (e4 : fs1[1]? = some (.ref q_fs1_1)) (e5 : fs1[2]? = some (.ref q_fs1_2)) (e8 : h q_fs1_2 = some (.inl (0, n6, .inl f7))) (b9 : a_1 < n6) (c10 : n6 < 2147483648) (e12 : f7 a_1 = nI v11) (e15 : h q_fs1_1 = some (.inl (0, n13, .inl f14))) (b16 : v11 + a_2 < n13) (c17 : n13 < 2147483648) (e19 : f14 (v11 + a_2) = nI v18) (e22 : h q_fs1_4 = some (.inl (0, n20, .inl f21))) (b23 : v18 < n20) (c24 : n20 < 2147483648) (e26 : f21 v18 = nI v25) (c27 : v25 < 2147483648) (K1 : ¬ v25 = 3 → ip sc call 58 MC MS Q 26 [some (.ref r_0), some (.int (nI a_1)), some (.int (nI a_2))] [] h z c s) (K2 : ¬ (¬ v25 = 3) → ip sc call 58 MC MS Q 22 [some (.ref r_0), some (.int (nI a_1)), some (.int (nI a_2))] [] h z c s) : ip sc call 58 MC MS Q 0 [some (.ref r_0), some (.int (nI a_1)), some (.int (nI a_2))] [] h z c s := by
  refine jp_load (pc2 := 1) (n := 0) rfl rfl rfl rfl ?_
  refine jp_getf (pc2 := 4) rfl rfl e2 e3 ?_
  refine jp_load (pc2 := 5) (n := 0) rfl rfl rfl rfl ?_
  refine jp_getf (pc2 := 8) rfl rfl e2 e4 ?_
  refine jp_load (pc2 := 9) (n := 0) rfl rfl rfl rfl ?_
  refine jp_getf (pc2 := 12) rfl rfl e2 e5 ?_
  refine jp_load (pc2 := 13) (n := 1) rfl rfl rfl rfl ?_
  refine jp_iald (pc2 := 14) rfl rfl e8 (vp_in_nI b9 c10) ?_
  rw [(nI_clamp (Nat.lt_trans b9 c10))]
  rw [e12]
  refine jp_load (pc2 := 15) (n := 2) rfl rfl rfl rfl ?_
  refine jp_bin (pc2 := 16) (v := nI (v11 + a_2)) rfl rfl (congrArg some (nI_add _ _)) ?_
  refine jp_iald (pc2 := 17) rfl rfl e15 (vp_in_nI b16 c17) ?_
  rw [(nI_clamp (Nat.lt_trans b16 c17))]
  rw [e19]
  refine jp_iald (pc2 := 18) rfl rfl e22 (vp_in_nI b23 c24) ?_
  rw [(nI_clamp (Nat.lt_trans b23 c24))]
  rw [e26]
  refine jp_con (pc2 := 19) (v := (.int (nI 3))) rfl rfl rfl ?_
  exact jp_icmp (pc2 := 22) rfl rfl (fun q => K1 ((not_congr (nI_eq c27 (by decide))).mp q)) (fun q => K2 (fun r => q ((not_congr (nI_eq c27 (by decide))).mpr r)))
theorem c58_22 {o_0 : Option Value} {o_1 : Option Value} {o_2 : Option Value}  (K : ip sc call 58 MC MS Q 33 [o_0, o_1, o_2] [(.int (nI 1))] h z c s) : ip sc call 58 MC MS Q 22 [o_0, o_1, o_2] [] h z c s := by
  refine jp_con (pc2 := 23) (v := (.int (nI 1))) rfl rfl rfl ?_
  refine ip_goto rfl ?_
  exact K
theorem c58_26 {r_0 : Nat} {a_1 : Nat} {o_2 : Option Value} {fs1 : List Value} {P : ipQ} (e2 : h r_0 = some (.inr (6, fs1))) (m3 : c ≤ MC) (m4 : s ≤ MS) (hc : call 41 [(.ref r_0), (.int (nI a_1))] h z 0 0 P) (K : ∀ (o : Option Value) (h2 : HP) (z2 : Nat), P o h2 z2 → ip sc call 58 MC MS Q 31 [some (.ref r_0), some (.int (nI a_1)), o_2] (o.toList ++ []) h2 z2 c s) : ip sc call 58 MC MS Q 26 [some (.ref r_0), some (.int (nI a_1)), o_2] [] h z c s := by
  refine jp_load (pc2 := 27) (n := 0) rfl rfl rfl rfl ?_
  refine jp_load (pc2 := 28) (n := 1) rfl rfl rfl rfl ?_
  exact jp_virt0 (pc2 := 31) (As := [(.int (nI a_1))]) (rest := []) rfl rfl rfl (Nat.le_of_ble_eq_true rfl) e2 m3 m4 hc rfl K
theorem c58_31 {o_0 : Option Value} {o_1 : Option Value} {o_2 : Option Value} {sa_0 : Nat}  (K : ip sc call 58 MC MS Q 33 [o_0, o_1, o_2] [(.int (nI (sa_0 + 1)))] h z c s) : ip sc call 58 MC MS Q 31 [o_0, o_1, o_2] [(.int (nI sa_0))] h z c s := by
  refine jp_con (pc2 := 32) (v := (.int (nI 1))) rfl rfl rfl ?_
  refine jp_bin (pc2 := 33) (v := nI (sa_0 + 1)) rfl rfl (congrArg some (nI_add _ _)) ?_
  exact K
theorem c58_33 {o_0 : Option Value} {o_1 : Option Value} {o_2 : Option Value} {sa_0 : Nat} (q1 : Q (some (.int (nI sa_0))) h z)  : ip sc call 58 MC MS Q 33 [o_0, o_1, o_2] [(.int (nI sa_0))] h z c s := by
  exact ip_iret (st := []) rfl rfl rfl q1
theorem c59_0 {r_0 : Nat} {r_1 : Nat} {r_2 : Nat} {o_3 : Option Value} {o_4 : Option Value} {o_5 : Option Value} {fs1 : List Value} {q_fs1_3 : Nat} {fs4 : List Value} {v_fs4_0 : Nat} {n7 : Nat} {f8 : Nat → Int32} {v12 : Nat} {v_fs1_8 : Nat} (e2 : h r_1 = some (.inr (6, fs1))) (e3 : fs1[3]? = some (.ref q_fs1_3)) (e5 : h r_2 = some (.inr (2, fs4))) (e6 : fs4[0]? = some (.int (nI v_fs4_0))) (e9 : h q_fs1_3 = some (.inl (0, n7, .inl f8))) (b10 : v_fs4_0 < n7) (c11 : n7 < 2147483648) (e13 : f8 v_fs4_0 = nI v12) (e14 : fs1[8]? = some (.int (nI v_fs1_8))) (K : ip sc call 59 MC MS Q 19 [some (.ref r_0), some (.ref r_1), some (.ref r_2), some (.int (nI v12)), some (.int (nI v_fs1_8)), some (.int (nI v12))] [] h z c s) : ip sc call 59 MC MS Q 0 [some (.ref r_0), some (.ref r_1), some (.ref r_2), o_3, o_4, o_5] [] h z c s := by
  refine jp_load (pc2 := 1) (n := 1) rfl rfl rfl rfl ?_
  refine jp_getf (pc2 := 4) rfl rfl e2 e3 ?_
  refine jp_load (pc2 := 5) (n := 2) rfl rfl rfl rfl ?_
  refine jp_getf (pc2 := 8) rfl rfl e5 e6 ?_
  refine jp_iald (pc2 := 9) rfl rfl e9 (vp_in_nI b10 c11) ?_
  rw [(nI_clamp (Nat.lt_trans b10 c11))]
  rw [e13]
  refine jp_store (pc2 := 10) (n := 3) rfl rfl ⟨rfl, rfl⟩ rfl (Nat.le_of_ble_eq_true rfl) ?_
  refine jp_load (pc2 := 11) (n := 1) rfl rfl rfl rfl ?_
  refine jp_getf (pc2 := 14) rfl rfl e2 e14 ?_
  refine jp_store (pc2 := 16) (n := 4) rfl rfl ⟨rfl, rfl⟩ rfl (Nat.le_of_ble_eq_true rfl) ?_
  refine jp_load (pc2 := 17) (n := 3) rfl rfl rfl rfl ?_
  refine jp_store (pc2 := 19) (n := 5) rfl rfl ⟨rfl, rfl⟩ rfl (Nat.le_of_ble_eq_true rfl) ?_
  exact K
theorem c59_19 {r_0 : Nat} {r_1 : Nat} {r_2 : Nat} {a_3 : Nat} {a_4 : Nat} {a_5 : Nat} {fs1 : List Value} {q_fs1_3 : Nat} {fs4 : List Value} {v_fs4_0 : Nat} {n7 : Nat} {f8 : Nat → Int32} {v12 : Nat} (e2 : h r_1 = some (.inr (6, fs1))) (e3 : fs1[3]? = some (.ref q_fs1_3)) (e5 : h r_2 = some (.inr (2, fs4))) (e6 : fs4[0]? = some (.int (nI v_fs4_0))) (e9 : h q_fs1_3 = some (.inl (0, n7, .inl f8))) (b10 : v_fs4_0 + 1 < n7) (c11 : n7 < 2147483648) (e13 : f8 (v_fs4_0 + 1) = nI v12) (c14 : a_5 < 2147483648) (c15 : v12 < 2147483648) (K1 : v12 ≤ a_5 → ip sc call 59 MC MS Q 150 [some (.ref r_0), some (.ref r_1), some (.ref r_2), some (.int (nI a_3)), some (.int (nI a_4)), some (.int (nI a_5))] [] h z c s) (K2 : ¬ (v12 ≤ a_5) → ip sc call 59 MC MS Q 35 [some (.ref r_0), some (.ref r_1), some (.ref r_2), some (.int (nI a_3)), some (.int (nI a_4)), some (.int (nI a_5))] [] h z c s) : ip sc call 59 MC MS Q 19 [some (.ref r_0), some (.ref r_1), some (.ref r_2), some (.int (nI a_3)), some (.int (nI a_4)), some (.int (nI a_5))] [] h z c s := by
  refine jp_load (pc2 := 21) (n := 5) rfl rfl rfl rfl ?_
  refine jp_load (pc2 := 22) (n := 1) rfl rfl rfl rfl ?_
  refine jp_getf (pc2 := 25) rfl rfl e2 e3 ?_
  refine jp_load (pc2 := 26) (n := 2) rfl rfl rfl rfl ?_
  refine jp_getf (pc2 := 29) rfl rfl e5 e6 ?_
  refine jp_con (pc2 := 30) (v := (.int (nI 1))) rfl rfl rfl ?_
  refine jp_bin (pc2 := 31) (v := nI (v_fs4_0 + 1)) rfl rfl (congrArg some (nI_add _ _)) ?_
  refine jp_iald (pc2 := 32) rfl rfl e9 (vp_in_nI b10 c11) ?_
  rw [(nI_clamp (Nat.lt_trans b10 c11))]
  rw [e13]
  exact jp_icmp (pc2 := 35) rfl rfl (fun q => K1 ((nI_leI c15 c14).mp q)) (fun q => K2 (fun r => q ((nI_leI c15 c14).mpr r)))
theorem c59_35 {r_0 : Nat} {r_1 : Nat} {r_2 : Nat} {a_3 : Nat} {a_4 : Nat} {a_5 : Nat} {fs1 : List Value} {v_fs1_1 : Nat} (e2 : h r_2 = some (.inr (2, fs1))) (e3 : fs1[1]? = some (.int (nI v_fs1_1))) (c4 : a_5 < 2147483648) (c5 : a_3 + v_fs1_1 < 2147483648) (K1 : ¬ a_5 = (a_3 + v_fs1_1) → ip sc call 59 MC MS Q 115 [some (.ref r_0), some (.ref r_1), some (.ref r_2), some (.int (nI a_3)), some (.int (nI a_4)), some (.int (nI a_5))] [] h z c s) (K2 : ¬ (¬ a_5 = (a_3 + v_fs1_1)) → ip sc call 59 MC MS Q 46 [some (.ref r_0), some (.ref r_1), some (.ref r_2), some (.int (nI a_3)), some (.int (nI a_4)), some (.int (nI a_5))] [] h z c s) : ip sc call 59 MC MS Q 35 [some (.ref r_0), some (.ref r_1), some (.ref r_2), some (.int (nI a_3)), some (.int (nI a_4)), some (.int (nI a_5))] [] h z c s := by
  refine jp_load (pc2 := 37) (n := 5) rfl rfl rfl rfl ?_
  refine jp_load (pc2 := 38) (n := 3) rfl rfl rfl rfl ?_
  refine jp_load (pc2 := 39) (n := 2) rfl rfl rfl rfl ?_
  refine jp_getf (pc2 := 42) rfl rfl e2 e3 ?_
  refine jp_bin (pc2 := 43) (v := nI (a_3 + v_fs1_1)) rfl rfl (congrArg some (nI_add _ _)) ?_
  exact jp_icmp (pc2 := 46) rfl rfl (fun q => K1 ((not_congr (nI_eq c4 c5)).mp q)) (fun q => K2 (fun r => q ((not_congr (nI_eq c4 c5)).mpr r)))
theorem c59_46 {r_0 : Nat} {r_1 : Nat} {r_2 : Nat} {a_3 : Nat} {a_4 : Nat} {a_5 : Nat} {fs1 : List Value} {v_fs1_2 : Nat} {fs4 : List Value} {P : ipQ} (e2 : h r_2 = some (.inr (2, fs1))) (e3 : fs1[2]? = some (.int (nI v_fs1_2))) (e5 : h r_1 = some (.inr (6, fs4))) (m6 : c ≤ MC) (m7 : s ≤ MS) (hc : call 58 [(.ref r_1), (.int (nI a_5)), (.int (nI v_fs1_2))] h z 0 0 P) (K : ∀ (o : Option Value) (h2 : HP) (z2 : Nat), P o h2 z2 → ip sc call 59 MC MS Q 64 [some (.ref r_0), some (.ref r_1), some (.ref r_2), some (.int (nI a_3)), some (.int (nI a_4)), some (.int (nI a_5))] (o.toList ++ [(.int (nI v_fs1_2)), (.int (nI a_5)), (.ref r_1), (.ref r_0)]) h2 z2 c s) : ip sc call 59 MC MS Q 46 [some (.ref r_0), some (.ref r_1), some (.ref r_2), some (.int (nI a_3)), some (.int (nI a_4)), some (.int (nI a_5))] [] h z c s := by
  refine jp_load (pc2 := 47) (n := 0) rfl rfl rfl rfl ?_
  refine jp_load (pc2 := 48) (n := 1) rfl rfl rfl rfl ?_
  refine jp_load (pc2 := 50) (n := 5) rfl rfl rfl rfl ?_
  refine jp_load (pc2 := 51) (n := 2) rfl rfl rfl rfl ?_
  refine jp_getf (pc2 := 54) rfl rfl e2 e3 ?_
  refine jp_load (pc2 := 55) (n := 1) rfl rfl rfl rfl ?_
  refine jp_load (pc2 := 57) (n := 5) rfl rfl rfl rfl ?_
  refine jp_load (pc2 := 58) (n := 2) rfl rfl rfl rfl ?_
  refine jp_getf (pc2 := 61) rfl rfl e2 e3 ?_
  exact jp_virt0 (pc2 := 64) (As := [(.int (nI a_5)), (.int (nI v_fs1_2))]) (rest := [(.int (nI v_fs1_2)), (.int (nI a_5)), (.ref r_1), (.ref r_0)]) rfl rfl rfl (Nat.le_of_ble_eq_true rfl) e5 m6 m7 hc rfl K
theorem c59_64 {r_0 : Nat} {r_1 : Nat} {r_2 : Nat} {a_3 : Nat} {a_4 : Nat} {a_5 : Nat} {sr_0 : Nat} {sr_1 : Nat} {sa_2 : Nat} {sa_3 : Nat} {sa_4 : Nat} {fs1 : List Value} {P : ipQ} (e2 : h sr_0 = some (.inr (6, fs1))) (m3 : c ≤ MC) (m4 : s ≤ MS) (hc : call 57 [(.ref sr_0), (.ref sr_1), (.int (nI sa_2)), (.int (nI sa_3)), (.int (nI sa_4))] h z 0 0 P) (K : ∀ (o : Option Value) (h2 : HP) (z2 : Nat), P o h2 z2 → ip sc call 59 MC MS Q 67 [some (.ref r_0), some (.ref r_1), some (.ref r_2), some (.int (nI a_3)), some (.int (nI a_4)), some (.int (nI a_5))] (o.toList ++ []) h2 z2 c s) : ip sc call 59 MC MS Q 64 [some (.ref r_0), some (.ref r_1), some (.ref r_2), some (.int (nI a_3)), some (.int (nI a_4)), some (.int (nI a_5))] [(.int (nI sa_4)), (.int (nI sa_3)), (.int (nI sa_2)), (.ref sr_1), (.ref sr_0)] h z c s := by
  exact jp_virt0 (pc2 := 67) (As := [(.ref sr_1), (.int (nI sa_2)), (.int (nI sa_3)), (.int (nI sa_4))]) (rest := []) rfl rfl rfl (Nat.le_of_ble_eq_true rfl) e2 m3 m4 hc rfl K
theorem c59_67 {r_0 : Nat} {r_1 : Nat} {r_2 : Nat} {a_3 : Nat} {a_4 : Nat} {a_5 : Nat} {fs1 : List Value} {P : ipQ} (e2 : h r_0 = some (.inr (6, fs1))) (m3 : c ≤ MC) (m4 : s ≤ MS) (hc : call 61 [(.ref r_0), (.int (nI a_4))] h z 0 0 P) (K : ∀ (o : Option Value) (h2 : HP) (z2 : Nat), P o h2 z2 → ip sc call 59 MC MS Q 73 [some (.ref r_0), some (.ref r_1), some (.ref r_2), some (.int (nI a_3)), some (.int (nI a_4)), some (.int (nI a_5))] (o.toList ++ []) h2 z2 c s) : ip sc call 59 MC MS Q 67 [some (.ref r_0), some (.ref r_1), some (.ref r_2), some (.int (nI a_3)), some (.int (nI a_4)), some (.int (nI a_5))] [] h z c s := by
  refine jp_load (pc2 := 68) (n := 0) rfl rfl rfl rfl ?_
  refine jp_load (pc2 := 70) (n := 4) rfl rfl rfl rfl ?_
  exact jp_virt0 (pc2 := 73) (As := [(.int (nI a_4))]) (rest := []) rfl rfl rfl (Nat.le_of_ble_eq_true rfl) e2 m3 m4 hc rfl K
theorem c59_73 {r_0 : Nat} {r_1 : Nat} {r_2 : Nat} {a_3 : Nat} {a_4 : Nat} {a_5 : Nat} {fs1 : List Value} {v_fs1_3 : Nat} {v_fs1_4 : Nat} {fs5 : List Value} {P : ipQ} (e2 : h r_2 = some (.inr (2, fs1))) (e3 : fs1[3]? = some (.int (nI v_fs1_3))) (e4 : fs1[4]? = some (.int (nI v_fs1_4))) (e6 : h r_1 = some (.inr (6, fs5))) (m7 : c ≤ MC) (m8 : s ≤ MS) (hc : call 58 [(.ref r_1), (.int (nI (a_3 + v_fs1_3))), (.int (nI v_fs1_4))] h z 0 0 P) (K : ∀ (o : Option Value) (h2 : HP) (z2 : Nat), P o h2 z2 → ip sc call 59 MC MS Q 99 [some (.ref r_0), some (.ref r_1), some (.ref r_2), some (.int (nI a_3)), some (.int (nI a_4)), some (.int (nI a_5))] (o.toList ++ [(.int (nI v_fs1_4)), (.int (nI (a_3 + v_fs1_3))), (.ref r_1), (.ref r_0)]) h2 z2 c s) : ip sc call 59 MC MS Q 73 [some (.ref r_0), some (.ref r_1), some (.ref r_2), some (.int (nI a_3)), some (.int (nI a_4)), some (.int (nI a_5))] [] h z c s := by
  refine jp_load (pc2 := 74) (n := 0) rfl rfl rfl rfl ?_
  refine jp_load (pc2 := 75) (n := 1) rfl rfl rfl rfl ?_
  refine jp_load (pc2 := 76) (n := 3) rfl rfl rfl rfl ?_
  refine jp_load (pc2 := 77) (n := 2) rfl rfl rfl rfl ?_
  refine jp_getf (pc2 := 80) rfl rfl e2 e3 ?_
  refine jp_bin (pc2 := 81) (v := nI (a_3 + v_fs1_3)) rfl rfl (congrArg some (nI_add _ _)) ?_
  refine jp_load (pc2 := 82) (n := 2) rfl rfl rfl rfl ?_
  refine jp_getf (pc2 := 85) rfl rfl e2 e4 ?_
  refine jp_load (pc2 := 86) (n := 1) rfl rfl rfl rfl ?_
  refine jp_load (pc2 := 87) (n := 3) rfl rfl rfl rfl ?_
  refine jp_load (pc2 := 88) (n := 2) rfl rfl rfl rfl ?_
  refine jp_getf (pc2 := 91) rfl rfl e2 e3 ?_
  refine jp_bin (pc2 := 92) (v := nI (a_3 + v_fs1_3)) rfl rfl (congrArg some (nI_add _ _)) ?_
  refine jp_load (pc2 := 93) (n := 2) rfl rfl rfl rfl ?_
  refine jp_getf (pc2 := 96) rfl rfl e2 e4 ?_
  exact jp_virt0 (pc2 := 99) (As := [(.int (nI (a_3 + v_fs1_3))), (.int (nI v_fs1_4))]) (rest := [(.int (nI v_fs1_4)), (.int (nI (a_3 + v_fs1_3))), (.ref r_1), (.ref r_0)]) rfl rfl rfl (Nat.le_of_ble_eq_true rfl) e6 m7 m8 hc rfl K
theorem c59_99 {r_0 : Nat} {r_1 : Nat} {r_2 : Nat} {a_3 : Nat} {a_4 : Nat} {a_5 : Nat} {sr_0 : Nat} {sr_1 : Nat} {sa_2 : Nat} {sa_3 : Nat} {sa_4 : Nat} {fs1 : List Value} {P : ipQ} (e2 : h sr_0 = some (.inr (6, fs1))) (m3 : c ≤ MC) (m4 : s ≤ MS) (hc : call 57 [(.ref sr_0), (.ref sr_1), (.int (nI sa_2)), (.int (nI sa_3)), (.int (nI sa_4))] h z 0 0 P) (K : ∀ (o : Option Value) (h2 : HP) (z2 : Nat), P o h2 z2 → ip sc call 59 MC MS Q 102 [some (.ref r_0), some (.ref r_1), some (.ref r_2), some (.int (nI a_3)), some (.int (nI a_4)), some (.int (nI a_5))] (o.toList ++ []) h2 z2 c s) : ip sc call 59 MC MS Q 99 [some (.ref r_0), some (.ref r_1), some (.ref r_2), some (.int (nI a_3)), some (.int (nI a_4)), some (.int (nI a_5))] [(.int (nI sa_4)), (.int (nI sa_3)), (.int (nI sa_2)), (.ref sr_1), (.ref sr_0)] h z c s := by
  exact jp_virt0 (pc2 := 102) (As := [(.ref sr_1), (.int (nI sa_2)), (.int (nI sa_3)), (.int (nI sa_4))]) (rest := []) rfl rfl rfl (Nat.le_of_ble_eq_true rfl) e2 m3 m4 hc rfl K
theorem c59_102 {r_0 : Nat} {r_1 : Nat} {r_2 : Nat} {a_3 : Nat} {a_4 : Nat} {a_5 : Nat} {fs1 : List Value} {P : ipQ} (e2 : h r_0 = some (.inr (6, fs1))) (m3 : c ≤ MC) (m4 : s ≤ MS) (hc : call 61 [(.ref r_0), (.int (nI a_4))] h z 0 0 P) (K : ∀ (o : Option Value) (h2 : HP) (z2 : Nat), P o h2 z2 → ip sc call 59 MC MS Q 108 [some (.ref r_0), some (.ref r_1), some (.ref r_2), some (.int (nI a_3)), some (.int (nI a_4)), some (.int (nI a_5))] (o.toList ++ []) h2 z2 c s) : ip sc call 59 MC MS Q 102 [some (.ref r_0), some (.ref r_1), some (.ref r_2), some (.int (nI a_3)), some (.int (nI a_4)), some (.int (nI a_5))] [] h z c s := by
  refine jp_load (pc2 := 103) (n := 0) rfl rfl rfl rfl ?_
  refine jp_load (pc2 := 105) (n := 4) rfl rfl rfl rfl ?_
  exact jp_virt0 (pc2 := 108) (As := [(.int (nI a_4))]) (rest := []) rfl rfl rfl (Nat.le_of_ble_eq_true rfl) e2 m3 m4 hc rfl K
theorem c59_108 {r_0 : Nat} {r_1 : Nat} {r_2 : Nat} {a_3 : Nat} {a_4 : Nat} {a_5 : Nat} {fs1 : List Value} {P : ipQ} (e2 : h r_0 = some (.inr (6, fs1))) (m3 : c ≤ MC) (m4 : s ≤ MS) (hc : call 62 [(.ref r_0)] h z 0 0 P) (K : ∀ (o : Option Value) (h2 : HP) (z2 : Nat), P o h2 z2 → ip sc call 59 MC MS Q 112 [some (.ref r_0), some (.ref r_1), some (.ref r_2), some (.int (nI a_3)), some (.int (nI a_4)), some (.int (nI a_5))] (o.toList ++ []) h2 z2 c s) : ip sc call 59 MC MS Q 108 [some (.ref r_0), some (.ref r_1), some (.ref r_2), some (.int (nI a_3)), some (.int (nI a_4)), some (.int (nI a_5))] [] h z c s := by
  refine jp_load (pc2 := 109) (n := 0) rfl rfl rfl rfl ?_
  exact jp_virt0 (pc2 := 112) (As := []) (rest := []) rfl rfl rfl (Nat.le_of_ble_eq_true rfl) e2 m3 m4 hc rfl K
theorem c59_112 {r_0 : Nat} {r_1 : Nat} {r_2 : Nat} {a_3 : Nat} {a_4 : Nat} {a_5 : Nat}  (K : ip sc call 59 MC MS Q 144 [some (.ref r_0), some (.ref r_1), some (.ref r_2), some (.int (nI a_3)), some (.int (nI a_4)), some (.int (nI a_5))] [] h z c s) : ip sc call 59 MC MS Q 112 [some (.ref r_0), some (.ref r_1), some (.ref r_2), some (.int (nI a_3)), some (.int (nI a_4)), some (.int (nI a_5))] [] h z c s := by
  refine ip_goto rfl ?_
  exact K
theorem c59_115 {r_0 : Nat} {r_1 : Nat} {r_2 : Nat} {a_3 : Nat} {a_4 : Nat} {a_5 : Nat} {fs1 : List Value} {v_fs1_3 : Nat} (e2 : h r_2 = some (.inr (2, fs1))) (e3 : fs1[3]? = some (.int (nI v_fs1_3))) (c4 : a_5 < 2147483648) (c5 : a_3 + v_fs1_3 < 2147483648) (K1 : a_5 = (a_3 + v_fs1_3) → ip sc call 59 MC MS Q 144 [some (.ref r_0), some (.ref r_1), some (.ref r_2), some (.int (nI a_3)), some (.int (nI a_4)), some (.int (nI a_5))] [] h z c s) (K2 : ¬ (a_5 = (a_3 + v_fs1_3)) → ip sc call 59 MC MS Q 126 [some (.ref r_0), some (.ref r_1), some (.ref r_2), some (.int (nI a_3)), some (.int (nI a_4)), some (.int (nI a_5))] [] h z c s) : ip sc call 59 MC MS Q 115 [some (.ref r_0), some (.ref r_1), some (.ref r_2), some (.int (nI a_3)), some (.int (nI a_4)), some (.int (nI a_5))] [] h z c s := by
  refine jp_load (pc2 := 117) (n := 5) rfl rfl rfl rfl ?_
  refine jp_load (pc2 := 118) (n := 3) rfl rfl rfl rfl ?_
  refine jp_load (pc2 := 119) (n := 2) rfl rfl rfl rfl ?_
  refine jp_getf (pc2 := 122) rfl rfl e2 e3 ?_
  refine jp_bin (pc2 := 123) (v := nI (a_3 + v_fs1_3)) rfl rfl (congrArg some (nI_add _ _)) ?_
  exact jp_icmp (pc2 := 126) rfl rfl (fun q => K1 ((nI_eq c4 c5).mp q)) (fun q => K2 (fun r => q ((nI_eq c4 c5).mpr r)))
theorem c59_126 {r_0 : Nat} {r_1 : Nat} {r_2 : Nat} {a_3 : Nat} {a_4 : Nat} {a_5 : Nat} {fs1 : List Value} {P : ipQ} (e2 : h r_1 = some (.inr (6, fs1))) (m3 : c ≤ MC) (m4 : s ≤ MS) (hc : call 41 [(.ref r_1), (.int (nI a_5))] h z 0 0 P) (K : ∀ (o : Option Value) (h2 : HP) (z2 : Nat), P o h2 z2 → ip sc call 59 MC MS Q 137 [some (.ref r_0), some (.ref r_1), some (.ref r_2), some (.int (nI a_3)), some (.int (nI a_4)), some (.int (nI a_5))] (o.toList ++ [(.int (nI 0)), (.int (nI a_5)), (.ref r_1), (.ref r_0)]) h2 z2 c s) : ip sc call 59 MC MS Q 126 [some (.ref r_0), some (.ref r_1), some (.ref r_2), some (.int (nI a_3)), some (.int (nI a_4)), some (.int (nI a_5))] [] h z c s := by
  refine jp_load (pc2 := 127) (n := 0) rfl rfl rfl rfl ?_
  refine jp_load (pc2 := 128) (n := 1) rfl rfl rfl rfl ?_
  refine jp_load (pc2 := 130) (n := 5) rfl rfl rfl rfl ?_
  refine jp_con (pc2 := 131) (v := (.int (nI 0))) rfl rfl rfl ?_
  refine jp_load (pc2 := 132) (n := 1) rfl rfl rfl rfl ?_
  refine jp_load (pc2 := 134) (n := 5) rfl rfl rfl rfl ?_
  exact jp_virt0 (pc2 := 137) (As := [(.int (nI a_5))]) (rest := [(.int (nI 0)), (.int (nI a_5)), (.ref r_1), (.ref r_0)]) rfl rfl rfl (Nat.le_of_ble_eq_true rfl) e2 m3 m4 hc rfl K
theorem c59_137 {r_0 : Nat} {r_1 : Nat} {r_2 : Nat} {a_3 : Nat} {a_4 : Nat} {a_5 : Nat} {sr_0 : Nat} {sr_1 : Nat} {sa_2 : Nat} {sa_3 : Nat} {sa_4 : Nat} {fs1 : List Value} {P : ipQ} (e2 : h sr_0 = some (.inr (6, fs1))) (m3 : c ≤ MC) (m4 : s ≤ MS) (hc : call 57 [(.ref sr_0), (.ref sr_1), (.int (nI sa_2)), (.int (nI sa_3)), (.int (nI sa_4))] h z 0 0 P) (K : ∀ (o : Option Value) (h2 : HP) (z2 : Nat), P o h2 z2 → ip sc call 59 MC MS Q 140 [some (.ref r_0), some (.ref r_1), some (.ref r_2), some (.int (nI a_3)), some (.int (nI a_4)), some (.int (nI a_5))] (o.toList ++ []) h2 z2 c s) : ip sc call 59 MC MS Q 137 [some (.ref r_0), some (.ref r_1), some (.ref r_2), some (.int (nI a_3)), some (.int (nI a_4)), some (.int (nI a_5))] [(.int (nI sa_4)), (.int (nI sa_3)), (.int (nI sa_2)), (.ref sr_1), (.ref sr_0)] h z c s := by
  exact jp_virt0 (pc2 := 140) (As := [(.ref sr_1), (.int (nI sa_2)), (.int (nI sa_3)), (.int (nI sa_4))]) (rest := []) rfl rfl rfl (Nat.le_of_ble_eq_true rfl) e2 m3 m4 hc rfl K
theorem c59_140 {r_0 : Nat} {r_1 : Nat} {r_2 : Nat} {a_3 : Nat} {a_4 : Nat} {a_5 : Nat} {fs1 : List Value} {P : ipQ} (e2 : h r_0 = some (.inr (6, fs1))) (m3 : c ≤ MC) (m4 : s ≤ MS) (hc : call 62 [(.ref r_0)] h z 0 0 P) (K : ∀ (o : Option Value) (h2 : HP) (z2 : Nat), P o h2 z2 → ip sc call 59 MC MS Q 144 [some (.ref r_0), some (.ref r_1), some (.ref r_2), some (.int (nI a_3)), some (.int (nI a_4)), some (.int (nI a_5))] (o.toList ++ []) h2 z2 c s) : ip sc call 59 MC MS Q 140 [some (.ref r_0), some (.ref r_1), some (.ref r_2), some (.int (nI a_3)), some (.int (nI a_4)), some (.int (nI a_5))] [] h z c s := by
  refine jp_load (pc2 := 141) (n := 0) rfl rfl rfl rfl ?_
  exact jp_virt0 (pc2 := 144) (As := []) (rest := []) rfl rfl rfl (Nat.le_of_ble_eq_true rfl) e2 m3 m4 hc rfl K
theorem c59_144 {r_0 : Nat} {r_1 : Nat} {r_2 : Nat} {a_3 : Nat} {a_4 : Nat} {a_5 : Nat}  (K : ip sc call 59 MC MS Q 19 [some (.ref r_0), some (.ref r_1), some (.ref r_2), some (.int (nI a_3)), some (.int (nI a_4)), some (.int (nI (a_5 + 1)))] [] h z c s) : ip sc call 59 MC MS Q 144 [some (.ref r_0), some (.ref r_1), some (.ref r_2), some (.int (nI a_3)), some (.int (nI a_4)), some (.int (nI a_5))] [] h z c s := by
  refine jp_iinc (pc2 := 147) (n := 5) (v := nI (a_5 + 1)) rfl rfl rfl (nI_add _ 1) rfl ?_
  refine ip_goto rfl ?_
  exact K
theorem c59_150 {r_0 : Nat} {o_1 : Option Value} {o_2 : Option Value} {o_3 : Option Value} {o_4 : Option Value} {o_5 : Option Value} {fs1 : List Value} {P : ipQ} (e2 : h r_0 = some (.inr (6, fs1))) (m3 : c ≤ MC) (m4 : s ≤ MS) (hc : call 63 [(.ref r_0)] h z 0 0 P) (K : ∀ (o : Option Value) (h2 : HP) (z2 : Nat), P o h2 z2 → ip sc call 59 MC MS Q 154 [some (.ref r_0), o_1, o_2, o_3, o_4, o_5] (o.toList ++ []) h2 z2 c s) : ip sc call 59 MC MS Q 150 [some (.ref r_0), o_1, o_2, o_3, o_4, o_5] [] h z c s := by
  refine jp_load (pc2 := 151) (n := 0) rfl rfl rfl rfl ?_
  exact jp_virt0 (pc2 := 154) (As := []) (rest := []) rfl rfl rfl (Nat.le_of_ble_eq_true rfl) e2 m3 m4 hc rfl K
theorem c59_154 {o_0 : Option Value} {o_1 : Option Value} {o_2 : Option Value} {o_3 : Option Value} {o_4 : Option Value} {o_5 : Option Value} (q1 : Q none h z)  : ip sc call 59 MC MS Q 154 [o_0, o_1, o_2, o_3, o_4, o_5] [] h z c s := by
  exact ip_vret (st := []) rfl rfl q1
theorem c60_0 {r_0 : Nat} {r_1 : Nat} {r_2 : Nat} {a_3 : Nat} {o_4 : Option Value} {o_5 : Option Value} {o_6 : Option Value} {o_7 : Option Value} {o_8 : Option Value} {fs1 : List Value} {q_fs1_3 : Nat} {fs4 : List Value} {v_fs4_0 : Nat} {n7 : Nat} {f8 : Nat → Int32} {v12 : Nat} {v_fs4_1 : Nat} {v_fs4_4 : Nat} {v_fs4_2 : Nat} (e2 : h r_1 = some (.inr (6, fs1))) (e3 : fs1[3]? = some (.ref q_fs1_3)) (e5 : h r_2 = some (.inr (2, fs4))) (e6 : fs4[0]? = some (.int (nI v_fs4_0))) (e9 : h q_fs1_3 = some (.inl (0, n7, .inl f8))) (b10 : v_fs4_0 < n7) (c11 : n7 < 2147483648) (e13 : f8 v_fs4_0 = nI v12) (e14 : fs4[1]? = some (.int (nI v_fs4_1))) (e15 : fs4[4]? = some (.int (nI v_fs4_4))) (e16 : fs4[2]? = some (.int (nI v_fs4_2))) (d17 : v_fs4_2 ≤ v_fs4_4) (c18 : a_3 < 2147483648) (K1 : ¬ a_3 = 0 → ip sc call 60 MC MS Q 53 [some (.ref r_0), some (.ref r_1), some (.ref r_2), some (.int (nI a_3)), some (.int (nI v12)), some (.int (nI (v12 + v_fs4_1))), some (.int (nI ((v_fs4_4 - v_fs4_2) + 1))), o_7, o_8] [] h z c s) (K2 : ¬ (¬ a_3 = 0) → ip sc call 60 MC MS Q 37 [some (.ref r_0), some (.ref r_1), some (.ref r_2), some (.int (nI a_3)), some (.int (nI v12)), some (.int (nI (v12 + v_fs4_1))), some (.int (nI ((v_fs4_4 - v_fs4_2) + 1))), o_7, o_8] [] h z c s) : ip sc call 60 MC MS Q 0 [some (.ref r_0), some (.ref r_1), some (.ref r_2), some (.int (nI a_3)), o_4, o_5, o_6, o_7, o_8] [] h z c s := by
  refine jp_load (pc2 := 1) (n := 1) rfl rfl rfl rfl ?_
  refine jp_getf (pc2 := 4) rfl rfl e2 e3 ?_
  refine jp_load (pc2 := 5) (n := 2) rfl rfl rfl rfl ?_
  refine jp_getf (pc2 := 8) rfl rfl e5 e6 ?_
  refine jp_iald (pc2 := 9) rfl rfl e9 (vp_in_nI b10 c11) ?_
  rw [(nI_clamp (Nat.lt_trans b10 c11))]
  rw [e13]
  refine jp_store (pc2 := 11) (n := 4) rfl rfl ⟨rfl, rfl⟩ rfl (Nat.le_of_ble_eq_true rfl) ?_
  refine jp_load (pc2 := 13) (n := 4) rfl rfl rfl rfl ?_
  refine jp_load (pc2 := 14) (n := 2) rfl rfl rfl rfl ?_
  refine jp_getf (pc2 := 17) rfl rfl e5 e14 ?_
  refine jp_bin (pc2 := 18) (v := nI (v12 + v_fs4_1)) rfl rfl (congrArg some (nI_add _ _)) ?_
  refine jp_store (pc2 := 20) (n := 5) rfl rfl ⟨rfl, rfl⟩ rfl (Nat.le_of_ble_eq_true rfl) ?_
  refine jp_load (pc2 := 21) (n := 2) rfl rfl rfl rfl ?_
  refine jp_getf (pc2 := 24) rfl rfl e5 e15 ?_
  refine jp_load (pc2 := 25) (n := 2) rfl rfl rfl rfl ?_
  refine jp_getf (pc2 := 28) rfl rfl e5 e16 ?_
  refine jp_bin (pc2 := 29) (v := nI (v_fs4_4 - v_fs4_2)) rfl rfl (congrArg some (pk_sub d17)) ?_
  refine jp_con (pc2 := 30) (v := (.int (nI 1))) rfl rfl rfl ?_
  refine jp_bin (pc2 := 31) (v := nI ((v_fs4_4 - v_fs4_2) + 1)) rfl rfl (congrArg some (nI_add _ _)) ?_
  refine jp_store (pc2 := 33) (n := 6) rfl rfl ⟨rfl, rfl⟩ rfl (Nat.le_of_ble_eq_true rfl) ?_
  refine jp_load (pc2 := 34) (n := 3) rfl rfl rfl rfl ?_
  exact jp_if0 (pc2 := 37) rfl rfl (fun q => K1 ((not_congr (nI_eq c18 (by decide))).mp q)) (fun q => K2 (fun r => q ((not_congr (nI_eq c18 (by decide))).mpr r)))
theorem c60_37 {r_0 : Nat} {r_1 : Nat} {r_2 : Nat} {a_3 : Nat} {a_4 : Nat} {a_5 : Nat} {a_6 : Nat} {o_7 : Option Value} {o_8 : Option Value} {fs1 : List Value} {v_fs1_2 : Nat} {fs4 : List Value} {P : ipQ} (e2 : h r_2 = some (.inr (2, fs1))) (e3 : fs1[2]? = some (.int (nI v_fs1_2))) (e5 : h r_0 = some (.inr (6, fs4))) (m6 : c ≤ MC) (m7 : s ≤ MS) (hc : call 57 [(.ref r_0), (.ref r_1), (.int (nI a_5)), (.int (nI v_fs1_2)), (.int (nI a_6))] h z 0 0 P) (K : ∀ (o : Option Value) (h2 : HP) (z2 : Nat), P o h2 z2 → ip sc call 60 MC MS Q 50 [some (.ref r_0), some (.ref r_1), some (.ref r_2), some (.int (nI a_3)), some (.int (nI a_4)), some (.int (nI a_5)), some (.int (nI a_6)), o_7, o_8] (o.toList ++ []) h2 z2 c s) : ip sc call 60 MC MS Q 37 [some (.ref r_0), some (.ref r_1), some (.ref r_2), some (.int (nI a_3)), some (.int (nI a_4)), some (.int (nI a_5)), some (.int (nI a_6)), o_7, o_8] [] h z c s := by
  refine jp_load (pc2 := 38) (n := 0) rfl rfl rfl rfl ?_
  refine jp_load (pc2 := 39) (n := 1) rfl rfl rfl rfl ?_
  refine jp_load (pc2 := 41) (n := 5) rfl rfl rfl rfl ?_
  refine jp_load (pc2 := 42) (n := 2) rfl rfl rfl rfl ?_
  refine jp_getf (pc2 := 45) rfl rfl e2 e3 ?_
  refine jp_load (pc2 := 47) (n := 6) rfl rfl rfl rfl ?_
  exact jp_virt0 (pc2 := 50) (As := [(.ref r_1), (.int (nI a_5)), (.int (nI v_fs1_2)), (.int (nI a_6))]) (rest := []) rfl rfl rfl (Nat.le_of_ble_eq_true rfl) e5 m6 m7 hc rfl K
theorem c60_50 {r_0 : Nat} {r_1 : Nat} {r_2 : Nat} {a_3 : Nat} {a_4 : Nat} {a_5 : Nat} {o_6 : Option Value} {o_7 : Option Value} {o_8 : Option Value}  (K : ip sc call 60 MC MS Q 79 [some (.ref r_0), some (.ref r_1), some (.ref r_2), some (.int (nI a_3)), some (.int (nI a_4)), some (.int (nI a_5)), o_6, o_7, o_8] [] h z c s) : ip sc call 60 MC MS Q 50 [some (.ref r_0), some (.ref r_1), some (.ref r_2), some (.int (nI a_3)), some (.int (nI a_4)), some (.int (nI a_5)), o_6, o_7, o_8] [] h z c s := by
  refine ip_goto rfl ?_
  exact K
theorem c60_53 {r_0 : Nat} {r_1 : Nat} {r_2 : Nat} {a_3 : Nat} {a_4 : Nat} {a_5 : Nat} {a_6 : Nat} {o_7 : Option Value} {o_8 : Option Value} {fs1 : List Value} {v_fs1_4 : Nat} {v_fs1_2 : Nat} {fs5 : List Value} {P : ipQ} (e2 : h r_2 = some (.inr (2, fs1))) (e3 : fs1[4]? = some (.int (nI v_fs1_4))) (e4 : fs1[2]? = some (.int (nI v_fs1_2))) (e6 : h r_1 = some (.inr (6, fs5))) (m7 : c ≤ MC) (m8 : s ≤ MS) (hc : call 58 [(.ref r_1), (.int (nI a_5)), (.int (nI v_fs1_2))] h z 0 0 P) (K : ∀ (o : Option Value) (h2 : HP) (z2 : Nat), P o h2 z2 → ip sc call 60 MC MS Q 71 [some (.ref r_0), some (.ref r_1), some (.ref r_2), some (.int (nI a_3)), some (.int (nI a_4)), some (.int (nI a_5)), some (.int (nI a_6)), o_7, o_8] (o.toList ++ [(.int (nI v_fs1_4)), (.int (nI a_5)), (.ref r_1), (.ref r_0)]) h2 z2 c s) : ip sc call 60 MC MS Q 53 [some (.ref r_0), some (.ref r_1), some (.ref r_2), some (.int (nI a_3)), some (.int (nI a_4)), some (.int (nI a_5)), some (.int (nI a_6)), o_7, o_8] [] h z c s := by
  refine jp_load (pc2 := 54) (n := 0) rfl rfl rfl rfl ?_
  refine jp_load (pc2 := 55) (n := 1) rfl rfl rfl rfl ?_
  refine jp_load (pc2 := 57) (n := 5) rfl rfl rfl rfl ?_
  refine jp_load (pc2 := 58) (n := 2) rfl rfl rfl rfl ?_
  refine jp_getf (pc2 := 61) rfl rfl e2 e3 ?_
  refine jp_load (pc2 := 62) (n := 1) rfl rfl rfl rfl ?_
  refine jp_load (pc2 := 64) (n := 5) rfl rfl rfl rfl ?_
  refine jp_load (pc2 := 65) (n := 2) rfl rfl rfl rfl ?_
  refine jp_getf (pc2 := 68) rfl rfl e2 e4 ?_
  exact jp_virt0 (pc2 := 71) (As := [(.int (nI a_5)), (.int (nI v_fs1_2))]) (rest := [(.int (nI v_fs1_4)), (.int (nI a_5)), (.ref r_1), (.ref r_0)]) rfl rfl rfl (Nat.le_of_ble_eq_true rfl) e6 m7 m8 hc rfl K
theorem c60_71 {r_0 : Nat} {r_1 : Nat} {r_2 : Nat} {a_3 : Nat} {a_4 : Nat} {a_5 : Nat} {a_6 : Nat} {o_7 : Option Value} {o_8 : Option Value} {sr_0 : Nat} {sr_1 : Nat} {sa_2 : Nat} {sa_3 : Nat} {sa_4 : Nat} {fs2 : List Value} {P : ipQ} (d1 : a_6 ≤ sa_4) (e3 : h sr_0 = some (.inr (6, fs2))) (m4 : c ≤ MC) (m5 : s ≤ MS) (hc : call 57 [(.ref sr_0), (.ref sr_1), (.int (nI sa_2)), (.int (nI sa_3)), (.int (nI ((sa_4 - a_6) + 1)))] h z 0 0 P) (K : ∀ (o : Option Value) (h2 : HP) (z2 : Nat), P o h2 z2 → ip sc call 60 MC MS Q 79 [some (.ref r_0), some (.ref r_1), some (.ref r_2), some (.int (nI a_3)), some (.int (nI a_4)), some (.int (nI a_5)), some (.int (nI a_6)), o_7, o_8] (o.toList ++ []) h2 z2 c s) : ip sc call 60 MC MS Q 71 [some (.ref r_0), some (.ref r_1), some (.ref r_2), some (.int (nI a_3)), some (.int (nI a_4)), some (.int (nI a_5)), some (.int (nI a_6)), o_7, o_8] [(.int (nI sa_4)), (.int (nI sa_3)), (.int (nI sa_2)), (.ref sr_1), (.ref sr_0)] h z c s := by
  refine jp_load (pc2 := 73) (n := 6) rfl rfl rfl rfl ?_
  refine jp_bin (pc2 := 74) (v := nI (sa_4 - a_6)) rfl rfl (congrArg some (pk_sub d1)) ?_
  refine jp_con (pc2 := 75) (v := (.int (nI 1))) rfl rfl rfl ?_
  refine jp_bin (pc2 := 76) (v := nI ((sa_4 - a_6) + 1)) rfl rfl (congrArg some (nI_add _ _)) ?_
  exact jp_virt0 (pc2 := 79) (As := [(.ref sr_1), (.int (nI sa_2)), (.int (nI sa_3)), (.int (nI ((sa_4 - a_6) + 1)))]) (rest := []) rfl rfl rfl (Nat.le_of_ble_eq_true rfl) e3 m4 m5 hc rfl K
theorem c60_79 {r_0 : Nat} {r_1 : Nat} {r_2 : Nat} {a_3 : Nat} {a_4 : Nat} {a_5 : Nat} {o_6 : Option Value} {o_7 : Option Value} {o_8 : Option Value} {fs1 : List Value} {v_fs1_8 : Nat} {fs4 : List Value} {P : ipQ} (e2 : h r_1 = some (.inr (6, fs1))) (e3 : fs1[8]? = some (.int (nI v_fs1_8))) (e5 : h r_0 = some (.inr (6, fs4))) (m6 : c ≤ MC) (m7 : s ≤ MS) (hc : call 61 [(.ref r_0), (.int (nI v_fs1_8))] h z 0 0 P) (K : ∀ (o : Option Value) (h2 : HP) (z2 : Nat), P o h2 z2 → ip sc call 60 MC MS Q 87 [some (.ref r_0), some (.ref r_1), some (.ref r_2), some (.int (nI a_3)), some (.int (nI a_4)), some (.int (nI a_5)), o_6, o_7, o_8] (o.toList ++ []) h2 z2 c s) : ip sc call 60 MC MS Q 79 [some (.ref r_0), some (.ref r_1), some (.ref r_2), some (.int (nI a_3)), some (.int (nI a_4)), some (.int (nI a_5)), o_6, o_7, o_8] [] h z c s := by
  refine jp_load (pc2 := 80) (n := 0) rfl rfl rfl rfl ?_
  refine jp_load (pc2 := 81) (n := 1) rfl rfl rfl rfl ?_
  refine jp_getf (pc2 := 84) rfl rfl e2 e3 ?_
  exact jp_virt0 (pc2 := 87) (As := [(.int (nI v_fs1_8))]) (rest := []) rfl rfl rfl (Nat.le_of_ble_eq_true rfl) e5 m6 m7 hc rfl K
theorem c60_87 {r_0 : Nat} {r_1 : Nat} {r_2 : Nat} {a_3 : Nat} {a_4 : Nat} {a_5 : Nat} {o_6 : Option Value} {o_7 : Option Value} {o_8 : Option Value} {fs1 : List Value} {P : ipQ} (e2 : h r_0 = some (.inr (6, fs1))) (m3 : c ≤ MC) (m4 : s ≤ MS) (hc : call 62 [(.ref r_0)] h z 0 0 P) (K : ∀ (o : Option Value) (h2 : HP) (z2 : Nat), P o h2 z2 → ip sc call 60 MC MS Q 91 [some (.ref r_0), some (.ref r_1), some (.ref r_2), some (.int (nI a_3)), some (.int (nI a_4)), some (.int (nI a_5)), o_6, o_7, o_8] (o.toList ++ []) h2 z2 c s) : ip sc call 60 MC MS Q 87 [some (.ref r_0), some (.ref r_1), some (.ref r_2), some (.int (nI a_3)), some (.int (nI a_4)), some (.int (nI a_5)), o_6, o_7, o_8] [] h z c s := by
  refine jp_load (pc2 := 88) (n := 0) rfl rfl rfl rfl ?_
  exact jp_virt0 (pc2 := 91) (As := []) (rest := []) rfl rfl rfl (Nat.le_of_ble_eq_true rfl) e2 m3 m4 hc rfl K
theorem c60_91 {r_0 : Nat} {r_1 : Nat} {r_2 : Nat} {a_3 : Nat} {a_4 : Nat} {a_5 : Nat} {o_6 : Option Value} {o_7 : Option Value} {o_8 : Option Value} {fs1 : List Value} {v_fs1_5 : Nat} (e2 : h r_2 = some (.inr (2, fs1))) (e3 : fs1[5]? = some (.int (nI v_fs1_5))) (k4 : ip2 o_6 = false) (K : ip sc call 60 MC MS Q 101 [some (.ref r_0), some (.ref r_1), some (.ref r_2), some (.int (nI a_3)), some (.int (nI a_4)), some (.int (nI a_5)), o_6, some (.int (nI v_fs1_5)), some (.int (nI a_4))] [] h z c s) : ip sc call 60 MC MS Q 91 [some (.ref r_0), some (.ref r_1), some (.ref r_2), some (.int (nI a_3)), some (.int (nI a_4)), some (.int (nI a_5)), o_6, o_7, o_8] [] h z c s := by
  refine jp_load (pc2 := 92) (n := 2) rfl rfl rfl rfl ?_
  refine jp_getf (pc2 := 95) rfl rfl e2 e3 ?_
  refine jp_store (pc2 := 97) (n := 7) rfl rfl ⟨rfl, rfl⟩ k4 (Nat.le_of_ble_eq_true rfl) ?_
  refine jp_load (pc2 := 99) (n := 4) rfl rfl rfl rfl ?_
  refine jp_store (pc2 := 101) (n := 8) rfl rfl ⟨rfl, rfl⟩ rfl (Nat.le_of_ble_eq_true rfl) ?_
  exact K
theorem c60_101 {r_0 : Nat} {r_1 : Nat} {r_2 : Nat} {a_3 : Nat} {o_4 : Option Value} {a_5 : Nat} {o_6 : Option Value} {a_7 : Nat} {a_8 : Nat} {fs1 : List Value} {q_fs1_3 : Nat} {fs4 : List Value} {v_fs4_0 : Nat} {n7 : Nat} {f8 : Nat → Int32} {v12 : Nat} (e2 : h r_1 = some (.inr (6, fs1))) (e3 : fs1[3]? = some (.ref q_fs1_3)) (e5 : h r_2 = some (.inr (2, fs4))) (e6 : fs4[0]? = some (.int (nI v_fs4_0))) (e9 : h q_fs1_3 = some (.inl (0, n7, .inl f8))) (b10 : v_fs4_0 + 1 < n7) (c11 : n7 < 2147483648) (e13 : f8 (v_fs4_0 + 1) = nI v12) (c14 : a_8 < 2147483648) (c15 : v12 < 2147483648) (K1 : v12 ≤ a_8 → ip sc call 60 MC MS Q 162 [some (.ref r_0), some (.ref r_1), some (.ref r_2), some (.int (nI a_3)), o_4, some (.int (nI a_5)), o_6, some (.int (nI a_7)), some (.int (nI a_8))] [] h z c s) (K2 : ¬ (v12 ≤ a_8) → ip sc call 60 MC MS Q 117 [some (.ref r_0), some (.ref r_1), some (.ref r_2), some (.int (nI a_3)), o_4, some (.int (nI a_5)), o_6, some (.int (nI a_7)), some (.int (nI a_8))] [] h z c s) : ip sc call 60 MC MS Q 101 [some (.ref r_0), some (.ref r_1), some (.ref r_2), some (.int (nI a_3)), o_4, some (.int (nI a_5)), o_6, some (.int (nI a_7)), some (.int (nI a_8))] [] h z c s := by
  refine jp_load (pc2 := 103) (n := 8) rfl rfl rfl rfl ?_
  refine jp_load (pc2 := 104) (n := 1) rfl rfl rfl rfl ?_
  refine jp_getf (pc2 := 107) rfl rfl e2 e3 ?_
  refine jp_load (pc2 := 108) (n := 2) rfl rfl rfl rfl ?_
  refine jp_getf (pc2 := 111) rfl rfl e5 e6 ?_
  refine jp_con (pc2 := 112) (v := (.int (nI 1))) rfl rfl rfl ?_
  refine jp_bin (pc2 := 113) (v := nI (v_fs4_0 + 1)) rfl rfl (congrArg some (nI_add _ _)) ?_
  refine jp_iald (pc2 := 114) rfl rfl e9 (vp_in_nI b10 c11) ?_
  rw [(nI_clamp (Nat.lt_trans b10 c11))]
  rw [e13]
  exact jp_icmp (pc2 := 117) rfl rfl (fun q => K1 ((nI_leI c15 c14).mp q)) (fun q => K2 (fun r => q ((nI_leI c15 c14).mpr r)))
theorem c60_117 {r_0 : Nat} {r_1 : Nat} {r_2 : Nat} {a_3 : Nat} {o_4 : Option Value} {a_5 : Nat} {o_6 : Option Value} {a_7 : Nat} {a_8 : Nat} (c1 : a_8 < 2147483648) (c2 : a_5 < 2147483648) (K1 : a_8 = a_5 → ip sc call 60 MC MS Q 156 [some (.ref r_0), some (.ref r_1), some (.ref r_2), some (.int (nI a_3)), o_4, some (.int (nI a_5)), o_6, some (.int (nI a_7)), some (.int (nI a_8))] [] h z c s) (K2 : ¬ (a_8 = a_5) → ip sc call 60 MC MS Q 124 [some (.ref r_0), some (.ref r_1), some (.ref r_2), some (.int (nI a_3)), o_4, some (.int (nI a_5)), o_6, some (.int (nI a_7)), some (.int (nI a_8))] [] h z c s) : ip sc call 60 MC MS Q 117 [some (.ref r_0), some (.ref r_1), some (.ref r_2), some (.int (nI a_3)), o_4, some (.int (nI a_5)), o_6, some (.int (nI a_7)), some (.int (nI a_8))] [] h z c s := by
  refine jp_load (pc2 := 119) (n := 8) rfl rfl rfl rfl ?_
  refine jp_load (pc2 := 121) (n := 5) rfl rfl rfl rfl ?_
  exact jp_icmp (pc2 := 124) rfl rfl (fun q => K1 ((nI_eq c1 c2).mp q)) (fun q => K2 (fun r => q ((nI_eq c1 c2).mpr r)))
theorem c60_124 {r_0 : Nat} {r_1 : Nat} {r_2 : Nat} {a_3 : Nat} {o_4 : Option Value} {a_5 : Nat} {o_6 : Option Value} {a_7 : Nat} {a_8 : Nat}  (K1 : ¬ ((nI a_7) &&& (nI 1)) = (nI a_3) → ip sc call 60 MC MS Q 150 [some (.ref r_0), some (.ref r_1), some (.ref r_2), some (.int (nI a_3)), o_4, some (.int (nI a_5)), o_6, some (.int (nI a_7)), some (.int (nI a_8))] [] h z c s) (K2 : ¬ (¬ ((nI a_7) &&& (nI 1)) = (nI a_3)) → ip sc call 60 MC MS Q 132 [some (.ref r_0), some (.ref r_1), some (.ref r_2), some (.int (nI a_3)), o_4, some (.int (nI a_5)), o_6, some (.int (nI a_7)), some (.int (nI a_8))] [] h z c s) : ip sc call 60 MC MS Q 124 [some (.ref r_0), some (.ref r_1), some (.ref r_2), some (.int (nI a_3)), o_4, some (.int (nI a_5)), o_6, some (.int (nI a_7)), some (.int (nI a_8))] [] h z c s := by
  refine jp_load (pc2 := 126) (n := 7) rfl rfl rfl rfl ?_
  refine jp_con (pc2 := 127) (v := (.int (nI 1))) rfl rfl rfl ?_
  refine jp_bin (pc2 := 128) (v := (nI a_7) &&& (nI 1)) rfl rfl rfl ?_
  refine jp_load (pc2 := 129) (n := 3) rfl rfl rfl rfl ?_
  exact jp_icmp (pc2 := 132) rfl rfl K1 K2
theorem c60_132 {r_0 : Nat} {r_1 : Nat} {r_2 : Nat} {a_3 : Nat} {o_4 : Option Value} {a_5 : Nat} {o_6 : Option Value} {a_7 : Nat} {a_8 : Nat} {fs1 : List Value} {P : ipQ} (e2 : h r_1 = some (.inr (6, fs1))) (m3 : c ≤ MC) (m4 : s ≤ MS) (hc : call 41 [(.ref r_1), (.int (nI a_8))] h z 0 0 P) (K : ∀ (o : Option Value) (h2 : HP) (z2 : Nat), P o h2 z2 → ip sc call 60 MC MS Q 143 [some (.ref r_0), some (.ref r_1), some (.ref r_2), some (.int (nI a_3)), o_4, some (.int (nI a_5)), o_6, some (.int (nI a_7)), some (.int (nI a_8))] (o.toList ++ [(.int (nI 0)), (.int (nI a_8)), (.ref r_1), (.ref r_0)]) h2 z2 c s) : ip sc call 60 MC MS Q 132 [some (.ref r_0), some (.ref r_1), some (.ref r_2), some (.int (nI a_3)), o_4, some (.int (nI a_5)), o_6, some (.int (nI a_7)), some (.int (nI a_8))] [] h z c s := by
  refine jp_load (pc2 := 133) (n := 0) rfl rfl rfl rfl ?_
  refine jp_load (pc2 := 134) (n := 1) rfl rfl rfl rfl ?_
  refine jp_load (pc2 := 136) (n := 8) rfl rfl rfl rfl ?_
  refine jp_con (pc2 := 137) (v := (.int (nI 0))) rfl rfl rfl ?_
  refine jp_load (pc2 := 138) (n := 1) rfl rfl rfl rfl ?_
  refine jp_load (pc2 := 140) (n := 8) rfl rfl rfl rfl ?_
  exact jp_virt0 (pc2 := 143) (As := [(.int (nI a_8))]) (rest := [(.int (nI 0)), (.int (nI a_8)), (.ref r_1), (.ref r_0)]) rfl rfl rfl (Nat.le_of_ble_eq_true rfl) e2 m3 m4 hc rfl K
theorem c60_143 {r_0 : Nat} {r_1 : Nat} {r_2 : Nat} {a_3 : Nat} {o_4 : Option Value} {a_5 : Nat} {o_6 : Option Value} {a_7 : Nat} {a_8 : Nat} {sr_0 : Nat} {sr_1 : Nat} {sa_2 : Nat} {sa_3 : Nat} {sa_4 : Nat} {fs1 : List Value} {P : ipQ} (e2 : h sr_0 = some (.inr (6, fs1))) (m3 : c ≤ MC) (m4 : s ≤ MS) (hc : call 57 [(.ref sr_0), (.ref sr_1), (.int (nI sa_2)), (.int (nI sa_3)), (.int (nI sa_4))] h z 0 0 P) (K : ∀ (o : Option Value) (h2 : HP) (z2 : Nat), P o h2 z2 → ip sc call 60 MC MS Q 146 [some (.ref r_0), some (.ref r_1), some (.ref r_2), some (.int (nI a_3)), o_4, some (.int (nI a_5)), o_6, some (.int (nI a_7)), some (.int (nI a_8))] (o.toList ++ []) h2 z2 c s) : ip sc call 60 MC MS Q 143 [some (.ref r_0), some (.ref r_1), some (.ref r_2), some (.int (nI a_3)), o_4, some (.int (nI a_5)), o_6, some (.int (nI a_7)), some (.int (nI a_8))] [(.int (nI sa_4)), (.int (nI sa_3)), (.int (nI sa_2)), (.ref sr_1), (.ref sr_0)] h z c s := by
  exact jp_virt0 (pc2 := 146) (As := [(.ref sr_1), (.int (nI sa_2)), (.int (nI sa_3)), (.int (nI sa_4))]) (rest := []) rfl rfl rfl (Nat.le_of_ble_eq_true rfl) e2 m3 m4 hc rfl K
theorem c60_146 {r_0 : Nat} {r_1 : Nat} {r_2 : Nat} {a_3 : Nat} {o_4 : Option Value} {a_5 : Nat} {o_6 : Option Value} {a_7 : Nat} {a_8 : Nat} {fs1 : List Value} {P : ipQ} (e2 : h r_0 = some (.inr (6, fs1))) (m3 : c ≤ MC) (m4 : s ≤ MS) (hc : call 62 [(.ref r_0)] h z 0 0 P) (K : ∀ (o : Option Value) (h2 : HP) (z2 : Nat), P o h2 z2 → ip sc call 60 MC MS Q 150 [some (.ref r_0), some (.ref r_1), some (.ref r_2), some (.int (nI a_3)), o_4, some (.int (nI a_5)), o_6, some (.int (nI a_7)), some (.int (nI a_8))] (o.toList ++ []) h2 z2 c s) : ip sc call 60 MC MS Q 146 [some (.ref r_0), some (.ref r_1), some (.ref r_2), some (.int (nI a_3)), o_4, some (.int (nI a_5)), o_6, some (.int (nI a_7)), some (.int (nI a_8))] [] h z c s := by
  refine jp_load (pc2 := 147) (n := 0) rfl rfl rfl rfl ?_
  exact jp_virt0 (pc2 := 150) (As := []) (rest := []) rfl rfl rfl (Nat.le_of_ble_eq_true rfl) e2 m3 m4 hc rfl K
theorem c60_150 {r_0 : Nat} {r_1 : Nat} {r_2 : Nat} {a_3 : Nat} {o_4 : Option Value} {a_5 : Nat} {o_6 : Option Value} {a_7 : Nat} {a_8 : Nat} (k1 : ip2 o_6 = false) (K : ip sc call 60 MC MS Q 156 [some (.ref r_0), some (.ref r_1), some (.ref r_2), some (.int (nI a_3)), o_4, some (.int (nI a_5)), o_6, some (.int ((nI a_7) >>> ((nI 1) &&& 31))), some (.int (nI a_8))] [] h z c s) : ip sc call 60 MC MS Q 150 [some (.ref r_0), some (.ref r_1), some (.ref r_2), some (.int (nI a_3)), o_4, some (.int (nI a_5)), o_6, some (.int (nI a_7)), some (.int (nI a_8))] [] h z c s := by
  refine jp_load (pc2 := 152) (n := 7) rfl rfl rfl rfl ?_
  refine jp_con (pc2 := 153) (v := (.int (nI 1))) rfl rfl rfl ?_
  refine jp_bin (pc2 := 154) (v := (nI a_7) >>> ((nI 1) &&& 31)) rfl rfl rfl ?_
  refine jp_store (pc2 := 156) (n := 7) rfl rfl ⟨rfl, rfl⟩ k1 (Nat.le_of_ble_eq_true rfl) ?_
  exact K
theorem c60_156 {r_0 : Nat} {r_1 : Nat} {r_2 : Nat} {a_3 : Nat} {o_4 : Option Value} {a_5 : Nat} {o_6 : Option Value} {a_7 : Nat} {a_8 : Nat}  (K : ip sc call 60 MC MS Q 101 [some (.ref r_0), some (.ref r_1), some (.ref r_2), some (.int (nI a_3)), o_4, some (.int (nI a_5)), o_6, some (.int (nI a_7)), some (.int (nI (a_8 + 1)))] [] h z c s) : ip sc call 60 MC MS Q 156 [some (.ref r_0), some (.ref r_1), some (.ref r_2), some (.int (nI a_3)), o_4, some (.int (nI a_5)), o_6, some (.int (nI a_7)), some (.int (nI a_8))] [] h z c s := by
  refine jp_iinc (pc2 := 159) (n := 8) (v := nI (a_8 + 1)) rfl rfl rfl (nI_add _ 1) rfl ?_
  refine ip_goto rfl ?_
  exact K
theorem c60_162 {r_0 : Nat} {o_1 : Option Value} {o_2 : Option Value} {o_3 : Option Value} {o_4 : Option Value} {o_5 : Option Value} {o_6 : Option Value} {o_7 : Option Value} {o_8 : Option Value} {fs1 : List Value} {P : ipQ} (e2 : h r_0 = some (.inr (6, fs1))) (m3 : c ≤ MC) (m4 : s ≤ MS) (hc : call 63 [(.ref r_0)] h z 0 0 P) (K : ∀ (o : Option Value) (h2 : HP) (z2 : Nat), P o h2 z2 → ip sc call 60 MC MS Q 166 [some (.ref r_0), o_1, o_2, o_3, o_4, o_5, o_6, o_7, o_8] (o.toList ++ []) h2 z2 c s) : ip sc call 60 MC MS Q 162 [some (.ref r_0), o_1, o_2, o_3, o_4, o_5, o_6, o_7, o_8] [] h z c s := by
  refine jp_load (pc2 := 163) (n := 0) rfl rfl rfl rfl ?_
  exact jp_virt0 (pc2 := 166) (As := []) (rest := []) rfl rfl rfl (Nat.le_of_ble_eq_true rfl) e2 m3 m4 hc rfl K
theorem c60_166 {o_0 : Option Value} {o_1 : Option Value} {o_2 : Option Value} {o_3 : Option Value} {o_4 : Option Value} {o_5 : Option Value} {o_6 : Option Value} {o_7 : Option Value} {o_8 : Option Value} (q1 : Q none h z)  : ip sc call 60 MC MS Q 166 [o_0, o_1, o_2, o_3, o_4, o_5, o_6, o_7, o_8] [] h z c s := by
  exact ip_vret (st := []) rfl rfl q1
theorem c61_0 {r_0 : Nat} {a_1 : Nat} {o_2 : Option Value} {fs1 : List Value} {v_fs1_5 : Nat} {q_fs1_2 : Nat} {v_fs1_6 : Nat} {n6 : Nat} {f7 : Nat → Int32} {v11 : Nat} (e2 : h r_0 = some (.inr (6, fs1))) (e3 : fs1[5]? = some (.int (nI v_fs1_5))) (e4 : fs1[2]? = some (.ref q_fs1_2)) (e5 : fs1[6]? = some (.int (nI v_fs1_6))) (e8 : h q_fs1_2 = some (.inl (0, n6, .inl f7))) (b9 : v_fs1_6 < n6) (c10 : n6 < 2147483648) (e12 : f7 v_fs1_6 = nI v11) (c13 : v_fs1_5 < 2147483648) (c14 : v11 < 2147483648) (K1 : v_fs1_5 ≤ v11 → ip sc call 61 MC MS Q 20 [some (.ref r_0), some (.int (nI a_1)), o_2] [] h z c s) (K2 : ¬ (v_fs1_5 ≤ v11) → ip sc call 61 MC MS Q 16 [some (.ref r_0), some (.int (nI a_1)), o_2] [] h z c s) : ip sc call 61 MC MS Q 0 [some (.ref r_0), some (.int (nI a_1)), o_2] [] h z c s := by
  refine jp_load (pc2 := 1) (n := 0) rfl rfl rfl rfl ?_
  refine jp_getf (pc2 := 4) rfl rfl e2 e3 ?_
  refine jp_load (pc2 := 5) (n := 0) rfl rfl rfl rfl ?_
  refine jp_getf (pc2 := 8) rfl rfl e2 e4 ?_
  refine jp_load (pc2 := 9) (n := 0) rfl rfl rfl rfl ?_
  refine jp_getf (pc2 := 12) rfl rfl e2 e5 ?_
  refine jp_iald (pc2 := 13) rfl rfl e8 (vp_in_nI b9 c10) ?_
  rw [(nI_clamp (Nat.lt_trans b9 c10))]
  rw [e12]
  exact jp_icmp (pc2 := 16) rfl rfl (fun q => K1 ((nI_leI c13 c14).mp q)) (fun q => K2 (fun r => q ((nI_leI c13 c14).mpr r)))
theorem c61_16 {r_0 : Nat} {a_1 : Nat} {o_2 : Option Value}  (K : ip sc call 61 MC MS Q 21 [some (.ref r_0), some (.int (nI a_1)), o_2] [(.int (nI 1))] h z c s) : ip sc call 61 MC MS Q 16 [some (.ref r_0), some (.int (nI a_1)), o_2] [] h z c s := by
  refine jp_con (pc2 := 17) (v := (.int (nI 1))) rfl rfl rfl ?_
  refine ip_goto rfl ?_
  exact K
theorem c61_20 {r_0 : Nat} {a_1 : Nat} {o_2 : Option Value}  (K : ip sc call 61 MC MS Q 21 [some (.ref r_0), some (.int (nI a_1)), o_2] [(.int (nI 0))] h z c s) : ip sc call 61 MC MS Q 20 [some (.ref r_0), some (.int (nI a_1)), o_2] [] h z c s := by
  refine jp_con (pc2 := 21) (v := (.int (nI 0))) rfl rfl rfl ?_
  exact K
theorem c61_21 {r_0 : Nat} {a_1 : Nat} {o_2 : Option Value} {sa_0 : Nat} {fs1 : List Value} {v_fs1_0 : Nat} (e2 : h r_0 = some (.inr (6, fs1))) (e3 : fs1[0]? = some (.int (nI v_fs1_0))) (c4 : v_fs1_0 < 2147483648) (K1 : v_fs1_0 = 0 → ip sc call 61 MC MS Q 58 [some (.ref r_0), some (.int (nI a_1)), some (.int (nI sa_0))] [] h z c s) (K2 : ¬ (v_fs1_0 = 0) → ip sc call 61 MC MS Q 29 [some (.ref r_0), some (.int (nI a_1)), some (.int (nI sa_0))] [] h z c s) : ip sc call 61 MC MS Q 21 [some (.ref r_0), some (.int (nI a_1)), o_2] [(.int (nI sa_0))] h z c s := by
  refine jp_store (pc2 := 22) (n := 2) rfl rfl ⟨rfl, rfl⟩ rfl (Nat.le_of_ble_eq_true rfl) ?_
  refine jp_load (pc2 := 23) (n := 0) rfl rfl rfl rfl ?_
  refine jp_getf (pc2 := 26) rfl rfl e2 e3 ?_
  exact jp_if0 (pc2 := 29) rfl rfl (fun q => K1 ((nI_eq c4 (by decide)).mp q)) (fun q => K2 (fun r => q ((nI_eq c4 (by decide)).mpr r)))
theorem c61_29 {r_0 : Nat} {a_1 : Nat} {a_2 : Nat} {fs1 : List Value} {q_fs1_4 : Nat} {n4 : Nat} {f5 : Nat → Int32} {v9 : Nat} (e2 : h r_0 = some (.inr (6, fs1))) (e3 : fs1[4]? = some (.ref q_fs1_4)) (e6 : h q_fs1_4 = some (.inl (0, n4, .inl f5))) (b7 : a_1 < n4) (c8 : n4 < 2147483648) (e10 : f5 a_1 = nI v9) (c11 : v9 < 2147483648) (K1 : v9 = 0 → ip sc call 61 MC MS Q 57 [some (.ref r_0), some (.int (nI a_1)), some (.int (nI a_2))] [] h z c s) (K2 : ¬ (v9 = 0) → ip sc call 61 MC MS Q 38 [some (.ref r_0), some (.int (nI a_1)), some (.int (nI a_2))] [] h z c s) : ip sc call 61 MC MS Q 29 [some (.ref r_0), some (.int (nI a_1)), some (.int (nI a_2))] [] h z c s := by
  refine jp_load (pc2 := 30) (n := 0) rfl rfl rfl rfl ?_
  refine jp_getf (pc2 := 33) rfl rfl e2 e3 ?_
  refine jp_load (pc2 := 34) (n := 1) rfl rfl rfl rfl ?_
  refine jp_iald (pc2 := 35) rfl rfl e6 (vp_in_nI b7 c8) ?_
  rw [(nI_clamp (Nat.lt_trans b7 c8))]
  rw [e10]
  exact jp_if0 (pc2 := 38) rfl rfl (fun q => K1 ((nI_eq c11 (by decide)).mp q)) (fun q => K2 (fun r => q ((nI_eq c11 (by decide)).mpr r)))
theorem c61_38 {r_0 : Nat} {a_1 : Nat} {a_2 : Nat} (c1 : a_2 < 2147483648) (K1 : a_2 = 0 → ip sc call 61 MC MS Q 58 [some (.ref r_0), some (.int (nI a_1)), some (.int (nI a_2))] [] h z c s) (K2 : ¬ (a_2 = 0) → ip sc call 61 MC MS Q 42 [some (.ref r_0), some (.int (nI a_1)), some (.int (nI a_2))] [] h z c s) : ip sc call 61 MC MS Q 38 [some (.ref r_0), some (.int (nI a_1)), some (.int (nI a_2))] [] h z c s := by
  refine jp_load (pc2 := 39) (n := 2) rfl rfl rfl rfl ?_
  exact jp_if0 (pc2 := 42) rfl rfl (fun q => K1 ((nI_eq c1 (by decide)).mp q)) (fun q => K2 (fun r => q ((nI_eq c1 (by decide)).mpr r)))
theorem c61_42 {r_0 : Nat} {a_1 : Nat} {o_2 : Option Value} {fs1 : List Value} {q_fs1_1 : Nat} {v_fs1_5 : Nat} {n6 : Nat} {f7 : Nat → Int32} {v11 : Nat} (e2 : h r_0 = some (.inr (6, fs1))) (e3 : fs1[1]? = some (.ref q_fs1_1)) (e4 : fs1[5]? = some (.int (nI v_fs1_5))) (d5 : 1 ≤ v_fs1_5) (e8 : h q_fs1_1 = some (.inl (0, n6, .inl f7))) (b9 : v_fs1_5 - 1 < n6) (c10 : n6 < 2147483648) (e12 : f7 (v_fs1_5 - 1) = nI v11) (c13 : v11 < 2147483648) (c14 : a_1 < 2147483648) (K1 : ¬ v11 = a_1 → ip sc call 61 MC MS Q 58 [some (.ref r_0), some (.int (nI a_1)), o_2] [] h z c s) (K2 : ¬ (¬ v11 = a_1) → ip sc call 61 MC MS Q 57 [some (.ref r_0), some (.int (nI a_1)), o_2] [] h z c s) : ip sc call 61 MC MS Q 42 [some (.ref r_0), some (.int (nI a_1)), o_2] [] h z c s := by
  refine jp_load (pc2 := 43) (n := 0) rfl rfl rfl rfl ?_
  refine jp_getf (pc2 := 46) rfl rfl e2 e3 ?_
  refine jp_load (pc2 := 47) (n := 0) rfl rfl rfl rfl ?_
  refine jp_getf (pc2 := 50) rfl rfl e2 e4 ?_
  refine jp_con (pc2 := 51) (v := (.int (nI 1))) rfl rfl rfl ?_
  refine jp_bin (pc2 := 52) (v := nI (v_fs1_5 - 1)) rfl rfl (congrArg some (pk_sub d5)) ?_
  refine jp_iald (pc2 := 53) rfl rfl e8 (vp_in_nI b9 c10) ?_
  rw [(nI_clamp (Nat.lt_trans b9 c10))]
  rw [e12]
  refine jp_load (pc2 := 54) (n := 1) rfl rfl rfl rfl ?_
  exact jp_icmp (pc2 := 57) rfl rfl (fun q => K1 ((not_congr (nI_eq c13 c14)).mp q)) (fun q => K2 (fun r => q ((not_congr (nI_eq c13 c14)).mpr r)))
theorem c61_57 {o_0 : Option Value} {o_1 : Option Value} {o_2 : Option Value} (q1 : Q none h z)  : ip sc call 61 MC MS Q 57 [o_0, o_1, o_2] [] h z c s := by
  exact ip_vret (st := []) rfl rfl q1
theorem c61_58 {r_0 : Nat} {a_1 : Nat} {o_2 : Option Value} {fs1 : List Value} {v_fs1_5 : Nat} {q_fs1_1 : Nat} {n5 : Nat} {f6 : Nat → Int32} (e2 : h r_0 = some (.inr (6, fs1))) (e3 : fs1[5]? = some (.int (nI v_fs1_5))) (e4 : fs1[1]? = some (.ref q_fs1_1)) (e7 : h q_fs1_1 = some (.inl (0, n5, .inl f6))) (c8 : v_fs1_5 < 2147483648) (c9 : n5 < 2147483648) (K1 : n5 ≤ v_fs1_5 → ip sc call 61 MC MS Q 90 [some (.ref r_0), some (.int (nI a_1)), o_2] [] h z c s) (K2 : ¬ (n5 ≤ v_fs1_5) → ip sc call 61 MC MS Q 70 [some (.ref r_0), some (.int (nI a_1)), o_2] [] h z c s) : ip sc call 61 MC MS Q 58 [some (.ref r_0), some (.int (nI a_1)), o_2] [] h z c s := by
  refine jp_load (pc2 := 59) (n := 0) rfl rfl rfl rfl ?_
  refine jp_getf (pc2 := 62) rfl rfl e2 e3 ?_
  refine jp_load (pc2 := 63) (n := 0) rfl rfl rfl rfl ?_
  refine jp_getf (pc2 := 66) rfl rfl e2 e4 ?_
  refine jp_alen (pc2 := 67) rfl rfl e7 (by decide) ?_
  show ip _ _ _ _ _ _ _ _ (.int (nI n5) :: _) _ _ _ _
  exact jp_icmp (pc2 := 70) rfl rfl (fun q => K1 ((nI_leI c9 c8).mp q)) (fun q => K2 (fun r => q ((nI_leI c9 c8).mpr r)))
theorem c61_70 {r_0 : Nat} {a_1 : Nat} {o_2 : Option Value} {fs1 : List Value} {q_fs1_1 : Nat} {v_fs1_5 : Nat} {n5 : Nat} {f6 : Nat → Int32} {g10 : Nat → Int32} (e2 : h r_0 = some (.inr (6, fs1))) (e3 : fs1[1]? = some (.ref q_fs1_1)) (e4 : fs1[5]? = some (.int (nI v_fs1_5))) (e7 : h q_fs1_1 = some (.inl (0, n5, .inl f6))) (b8 : v_fs1_5 < n5) (c9 : n5 < 2147483648) (d11 : upd f6 v_fs1_5 (nI a_1) = g10) (n12 : r_0 ≠ q_fs1_1) (l13 : fs1.length = 11) (K : ip sc call 61 MC MS Q 90 [some (.ref r_0), some (.int (nI a_1)), o_2] [] (hup (hup h q_fs1_1 (.inl (0, n5, .inl g10))) r_0 (.inr (6, (fs1.set 5 (.int (nI (v_fs1_5 + 1))))))) z c s) : ip sc call 61 MC MS Q 70 [some (.ref r_0), some (.int (nI a_1)), o_2] [] h z c s := by
  refine jp_load (pc2 := 71) (n := 0) rfl rfl rfl rfl ?_
  refine jp_getf (pc2 := 74) rfl rfl e2 e3 ?_
  refine jp_load (pc2 := 75) (n := 0) rfl rfl rfl rfl ?_
  refine jp_getf (pc2 := 78) rfl rfl e2 e4 ?_
  refine jp_load (pc2 := 79) (n := 1) rfl rfl rfl rfl ?_
  refine jp_iast (pc2 := 80) rfl rfl e7 (vp_in_nI b8 c9) ?_
  rw [(nI_clamp (Nat.lt_trans b8 c9))]
  rw [d11]
  refine jp_load (pc2 := 81) (n := 0) rfl rfl rfl rfl ?_
  refine jp_dup (pc2 := 82) rfl rfl rfl ?_
  refine jp_getf (pc2 := 85) rfl rfl (hup_ne n12 e2) e4 ?_
  refine jp_con (pc2 := 86) (v := (.int (nI 1))) rfl rfl rfl ?_
  refine jp_bin (pc2 := 87) (v := nI (v_fs1_5 + 1)) rfl rfl (congrArg some (nI_add _ _)) ?_
  refine jp_putf (pc2 := 90) rfl rfl (hup_ne n12 e2) (ln_lt l13 (by decide)) ⟨rfl, rfl⟩ ?_
  exact K
theorem c61_90 {o_0 : Option Value} {o_1 : Option Value} {o_2 : Option Value} (q1 : Q none h z)  : ip sc call 61 MC MS Q 90 [o_0, o_1, o_2] [] h z c s := by
  exact ip_vret (st := []) rfl rfl q1
theorem c62_0 {r_0 : Nat} {o_1 : Option Value} {fs1 : List Value} {q_fs1_2 : Nat} {v_fs1_6 : Nat} {n5 : Nat} {f6 : Nat → Int32} {v10 : Nat} {v_fs1_0 : Nat} (e2 : h r_0 = some (.inr (6, fs1))) (e3 : fs1[2]? = some (.ref q_fs1_2)) (e4 : fs1[6]? = some (.int (nI v_fs1_6))) (e7 : h q_fs1_2 = some (.inl (0, n5, .inl f6))) (b8 : v_fs1_6 < n5) (c9 : n5 < 2147483648) (e11 : f6 v_fs1_6 = nI v10) (e12 : fs1[0]? = some (.int (nI v_fs1_0))) (c13 : v_fs1_0 < 2147483648) (K1 : v_fs1_0 = 0 → ip sc call 62 MC MS Q 66 [some (.ref r_0), some (.int (nI v10))] [] h z c s) (K2 : ¬ (v_fs1_0 = 0) → ip sc call 62 MC MS Q 17 [some (.ref r_0), some (.int (nI v10))] [] h z c s) : ip sc call 62 MC MS Q 0 [some (.ref r_0), o_1] [] h z c s := by
  refine jp_load (pc2 := 1) (n := 0) rfl rfl rfl rfl ?_
  refine jp_getf (pc2 := 4) rfl rfl e2 e3 ?_
  refine jp_load (pc2 := 5) (n := 0) rfl rfl rfl rfl ?_
  refine jp_getf (pc2 := 8) rfl rfl e2 e4 ?_
  refine jp_iald (pc2 := 9) rfl rfl e7 (vp_in_nI b8 c9) ?_
  rw [(nI_clamp (Nat.lt_trans b8 c9))]
  rw [e11]
  refine jp_store (pc2 := 10) (n := 1) rfl rfl ⟨rfl, rfl⟩ rfl (Nat.le_of_ble_eq_true rfl) ?_
  refine jp_load (pc2 := 11) (n := 0) rfl rfl rfl rfl ?_
  refine jp_getf (pc2 := 14) rfl rfl e2 e12 ?_
  exact jp_if0 (pc2 := 17) rfl rfl (fun q => K1 ((nI_eq c13 (by decide)).mp q)) (fun q => K2 (fun r => q ((nI_eq c13 (by decide)).mpr r)))
theorem c62_17 {r_0 : Nat} {a_1 : Nat} {fs1 : List Value} {v_fs1_5 : Nat} (e2 : h r_0 = some (.inr (6, fs1))) (e3 : fs1[5]? = some (.int (nI v_fs1_5))) (c4 : v_fs1_5 < 2147483648) (c5 : a_1 + 1 < 2147483648) (K1 : v_fs1_5 ≤ (a_1 + 1) → ip sc call 62 MC MS Q 57 [some (.ref r_0), some (.int (nI a_1))] [] h z c s) (K2 : ¬ (v_fs1_5 ≤ (a_1 + 1)) → ip sc call 62 MC MS Q 27 [some (.ref r_0), some (.int (nI a_1))] [] h z c s) : ip sc call 62 MC MS Q 17 [some (.ref r_0), some (.int (nI a_1))] [] h z c s := by
  refine jp_load (pc2 := 18) (n := 0) rfl rfl rfl rfl ?_
  refine jp_getf (pc2 := 21) rfl rfl e2 e3 ?_
  refine jp_load (pc2 := 22) (n := 1) rfl rfl rfl rfl ?_
  refine jp_con (pc2 := 23) (v := (.int (nI 1))) rfl rfl rfl ?_
  refine jp_bin (pc2 := 24) (v := nI (a_1 + 1)) rfl rfl (congrArg some (nI_add _ _)) ?_
  exact jp_icmp (pc2 := 27) rfl rfl (fun q => K1 ((nI_leI c4 c5).mp q)) (fun q => K2 (fun r => q ((nI_leI c4 c5).mpr r)))
theorem c62_27 {r_0 : Nat} {a_1 : Nat} {fs1 : List Value} {q_fs1_1 : Nat} {n4 : Nat} {f5 : Nat → Int32} {v9 : Nat} {v_fs1_5 : Nat} {v14 : Nat} (e2 : h r_0 = some (.inr (6, fs1))) (e3 : fs1[1]? = some (.ref q_fs1_1)) (e6 : h q_fs1_1 = some (.inl (0, n4, .inl f5))) (b7 : a_1 < n4) (c8 : n4 < 2147483648) (e10 : f5 a_1 = nI v9) (e11 : fs1[5]? = some (.int (nI v_fs1_5))) (d12 : 1 ≤ v_fs1_5) (b13 : v_fs1_5 - 1 < n4) (e15 : f5 (v_fs1_5 - 1) = nI v14) (c16 : v9 < 2147483648) (c17 : v14 < 2147483648) (K1 : ¬ v9 = v14 → ip sc call 62 MC MS Q 57 [some (.ref r_0), some (.int (nI a_1))] [] h z c s) (K2 : ¬ (¬ v9 = v14) → ip sc call 62 MC MS Q 47 [some (.ref r_0), some (.int (nI a_1))] [] h z c s) : ip sc call 62 MC MS Q 27 [some (.ref r_0), some (.int (nI a_1))] [] h z c s := by
  refine jp_load (pc2 := 28) (n := 0) rfl rfl rfl rfl ?_
  refine jp_getf (pc2 := 31) rfl rfl e2 e3 ?_
  refine jp_load (pc2 := 32) (n := 1) rfl rfl rfl rfl ?_
  refine jp_iald (pc2 := 33) rfl rfl e6 (vp_in_nI b7 c8) ?_
  rw [(nI_clamp (Nat.lt_trans b7 c8))]
  rw [e10]
  refine jp_load (pc2 := 34) (n := 0) rfl rfl rfl rfl ?_
  refine jp_getf (pc2 := 37) rfl rfl e2 e3 ?_
  refine jp_load (pc2 := 38) (n := 0) rfl rfl rfl rfl ?_
  refine jp_getf (pc2 := 41) rfl rfl e2 e11 ?_
  refine jp_con (pc2 := 42) (v := (.int (nI 1))) rfl rfl rfl ?_
  refine jp_bin (pc2 := 43) (v := nI (v_fs1_5 - 1)) rfl rfl (congrArg some (pk_sub d12)) ?_
  refine jp_iald (pc2 := 44) rfl rfl e6 (vp_in_nI b13 c8) ?_
  rw [(nI_clamp (Nat.lt_trans b13 c8))]
  rw [e15]
  exact jp_icmp (pc2 := 47) rfl rfl (fun q => K1 ((not_congr (nI_eq c16 c17)).mp q)) (fun q => K2 (fun r => q ((not_congr (nI_eq c16 c17)).mpr r)))
theorem c62_47 {r_0 : Nat} {a_1 : Nat} {fs1 : List Value} {v_fs1_5 : Nat} (e2 : h r_0 = some (.inr (6, fs1))) (e3 : fs1[5]? = some (.int (nI v_fs1_5))) (d4 : 1 ≤ v_fs1_5) (l5 : fs1.length = 11) (K : ip sc call 62 MC MS Q 57 [some (.ref r_0), some (.int (nI a_1))] [] (hup h r_0 (.inr (6, (fs1.set 5 (.int (nI (v_fs1_5 - 1))))))) z c s) : ip sc call 62 MC MS Q 47 [some (.ref r_0), some (.int (nI a_1))] [] h z c s := by
  refine jp_load (pc2 := 48) (n := 0) rfl rfl rfl rfl ?_
  refine jp_dup (pc2 := 49) rfl rfl rfl ?_
  refine jp_getf (pc2 := 52) rfl rfl e2 e3 ?_
  refine jp_con (pc2 := 53) (v := (.int (nI 1))) rfl rfl rfl ?_
  refine jp_bin (pc2 := 54) (v := nI (v_fs1_5 - 1)) rfl rfl (congrArg some (pk_sub d4)) ?_
  refine jp_putf (pc2 := 57) rfl rfl e2 (ln_lt l5 (by decide)) ⟨rfl, rfl⟩ ?_
  exact K
theorem c62_57 {r_0 : Nat} {a_1 : Nat} {fs1 : List Value} {v_fs1_5 : Nat} (e2 : h r_0 = some (.inr (6, fs1))) (e3 : fs1[5]? = some (.int (nI v_fs1_5))) (c4 : v_fs1_5 < 2147483648) (c5 : a_1 < 2147483648) (K1 : ¬ v_fs1_5 = a_1 → ip sc call 62 MC MS Q 66 [some (.ref r_0), some (.int (nI a_1))] [] h z c s) (K2 : ¬ (¬ v_fs1_5 = a_1) → ip sc call 62 MC MS Q 65 [some (.ref r_0), some (.int (nI a_1))] [] h z c s) : ip sc call 62 MC MS Q 57 [some (.ref r_0), some (.int (nI a_1))] [] h z c s := by
  refine jp_load (pc2 := 58) (n := 0) rfl rfl rfl rfl ?_
  refine jp_getf (pc2 := 61) rfl rfl e2 e3 ?_
  refine jp_load (pc2 := 62) (n := 1) rfl rfl rfl rfl ?_
  exact jp_icmp (pc2 := 65) rfl rfl (fun q => K1 ((not_congr (nI_eq c4 c5)).mp q)) (fun q => K2 (fun r => q ((not_congr (nI_eq c4 c5)).mpr r)))
theorem c62_65 {o_0 : Option Value} {o_1 : Option Value} (q1 : Q none h z)  : ip sc call 62 MC MS Q 65 [o_0, o_1] [] h z c s := by
  exact ip_vret (st := []) rfl rfl q1
theorem c62_66 {r_0 : Nat} {o_1 : Option Value} {fs1 : List Value} {v_fs1_6 : Nat} (e2 : h r_0 = some (.inr (6, fs1))) (e3 : fs1[6]? = some (.int (nI v_fs1_6))) (c4 : v_fs1_6 < 2147483648) (K1 : 31 ≤ v_fs1_6 → ip sc call 62 MC MS Q 98 [some (.ref r_0), o_1] [] h z c s) (K2 : ¬ (31 ≤ v_fs1_6) → ip sc call 62 MC MS Q 75 [some (.ref r_0), o_1] [] h z c s) : ip sc call 62 MC MS Q 66 [some (.ref r_0), o_1] [] h z c s := by
  refine jp_load (pc2 := 67) (n := 0) rfl rfl rfl rfl ?_
  refine jp_getf (pc2 := 70) rfl rfl e2 e3 ?_
  refine jp_con (pc2 := 72) (v := (.int (nI 31))) rfl rfl rfl ?_
  exact jp_icmp (pc2 := 75) rfl rfl (fun q => K1 ((nI_leI (by decide) c4).mp q)) (fun q => K2 (fun r => q ((nI_leI (by decide) c4).mpr r)))
theorem c62_75 {r_0 : Nat} {o_1 : Option Value} {fs1 : List Value} {v_fs1_6 : Nat} {q_fs1_2 : Nat} {v_fs1_5 : Nat} {n7 : Nat} {f8 : Nat → Int32} {g13 : Nat → Int32} (e2 : h r_0 = some (.inr (6, fs1))) (e3 : fs1[6]? = some (.int (nI v_fs1_6))) (l4 : fs1.length = 11) (e5 : fs1[2]? = some (.ref q_fs1_2)) (e6 : fs1[5]? = some (.int (nI v_fs1_5))) (e9 : h q_fs1_2 = some (.inl (0, n7, .inl f8))) (n10 : q_fs1_2 ≠ r_0) (b11 : v_fs1_6 + 1 < n7) (c12 : n7 < 2147483648) (d14 : upd f8 (v_fs1_6 + 1) (nI v_fs1_5) = g13) (K : ip sc call 62 MC MS Q 98 [some (.ref r_0), o_1] [] (hup (hup h r_0 (.inr (6, (fs1.set 6 (.int (nI (v_fs1_6 + 1))))))) q_fs1_2 (.inl (0, n7, .inl g13))) z c s) : ip sc call 62 MC MS Q 75 [some (.ref r_0), o_1] [] h z c s := by
  refine jp_load (pc2 := 76) (n := 0) rfl rfl rfl rfl ?_
  refine jp_dup (pc2 := 77) rfl rfl rfl ?_
  refine jp_getf (pc2 := 80) rfl rfl e2 e3 ?_
  refine jp_con (pc2 := 81) (v := (.int (nI 1))) rfl rfl rfl ?_
  refine jp_bin (pc2 := 82) (v := nI (v_fs1_6 + 1)) rfl rfl (congrArg some (nI_add _ _)) ?_
  refine jp_putf (pc2 := 85) rfl rfl e2 (ln_lt l4 (by decide)) ⟨rfl, rfl⟩ ?_
  refine jp_load (pc2 := 86) (n := 0) rfl rfl rfl rfl ?_
  refine jp_getf (pc2 := 89) rfl rfl hup_eq (gs_ne (by decide) e5) ?_
  refine jp_load (pc2 := 90) (n := 0) rfl rfl rfl rfl ?_
  refine jp_getf (pc2 := 93) rfl rfl hup_eq (gs_eq (ln_lt l4 (by decide))) ?_
  refine jp_load (pc2 := 94) (n := 0) rfl rfl rfl rfl ?_
  refine jp_getf (pc2 := 97) rfl rfl hup_eq (gs_ne (by decide) e6) ?_
  refine jp_iast (pc2 := 98) rfl rfl (hup_ne n10 e9) (vp_in_nI b11 c12) ?_
  rw [(nI_clamp (Nat.lt_trans b11 c12))]
  rw [d14]
  exact K
theorem c62_98 {o_0 : Option Value} {o_1 : Option Value} (q1 : Q none h z)  : ip sc call 62 MC MS Q 98 [o_0, o_1] [] h z c s := by
  exact ip_vret (st := []) rfl rfl q1
theorem c63_0 {r_0 : Nat} {fs1 : List Value} {v_fs1_0 : Nat} (e2 : h r_0 = some (.inr (6, fs1))) (e3 : fs1[0]? = some (.int (nI v_fs1_0))) (c4 : v_fs1_0 < 2147483648) (K1 : v_fs1_0 = 0 → ip sc call 63 MC MS Q 57 [some (.ref r_0)] [] h z c s) (K2 : ¬ (v_fs1_0 = 0) → ip sc call 63 MC MS Q 7 [some (.ref r_0)] [] h z c s) : ip sc call 63 MC MS Q 0 [some (.ref r_0)] [] h z c s := by
  refine jp_load (pc2 := 1) (n := 0) rfl rfl rfl rfl ?_
  refine jp_getf (pc2 := 4) rfl rfl e2 e3 ?_
  exact jp_if0 (pc2 := 7) rfl rfl (fun q => K1 ((nI_eq c4 (by decide)).mp q)) (fun q => K2 (fun r => q ((nI_eq c4 (by decide)).mpr r)))
theorem c63_7 {r_0 : Nat} {fs1 : List Value} {q_fs1_2 : Nat} {q_fs1_3 : Nat} {v_fs1_7 : Nat} {n6 : Nat} {f7 : Nat → Int32} {v11 : Nat} {n13 : Nat} {f14 : Nat → Int32} {v18 : Nat} {P : ipQ} (e2 : h r_0 = some (.inr (6, fs1))) (e3 : fs1[2]? = some (.ref q_fs1_2)) (e4 : fs1[3]? = some (.ref q_fs1_3)) (e5 : fs1[7]? = some (.int (nI v_fs1_7))) (e8 : h q_fs1_3 = some (.inl (0, n6, .inl f7))) (b9 : v_fs1_7 < n6) (c10 : n6 < 2147483648) (e12 : f7 v_fs1_7 = nI v11) (e15 : h q_fs1_2 = some (.inl (0, n13, .inl f14))) (b16 : v11 < n13) (c17 : n13 < 2147483648) (e19 : f14 v11 = nI v18) (m20 : c ≤ MC) (m21 : s ≤ MS) (hc : call 64 [(.ref r_0), (.int (nI v18))] h z 0 0 P) (K : ∀ (o : Option Value) (h2 : HP) (z2 : Nat), P o h2 z2 → ip sc call 63 MC MS Q 25 [some (.ref r_0)] (o.toList ++ []) h2 z2 c s) : ip sc call 63 MC MS Q 7 [some (.ref r_0)] [] h z c s := by
  refine jp_load (pc2 := 8) (n := 0) rfl rfl rfl rfl ?_
  refine jp_load (pc2 := 9) (n := 0) rfl rfl rfl rfl ?_
  refine jp_getf (pc2 := 12) rfl rfl e2 e3 ?_
  refine jp_load (pc2 := 13) (n := 0) rfl rfl rfl rfl ?_
  refine jp_getf (pc2 := 16) rfl rfl e2 e4 ?_
  refine jp_load (pc2 := 17) (n := 0) rfl rfl rfl rfl ?_
  refine jp_getf (pc2 := 20) rfl rfl e2 e5 ?_
  refine jp_iald (pc2 := 21) rfl rfl e8 (vp_in_nI b9 c10) ?_
  rw [(nI_clamp (Nat.lt_trans b9 c10))]
  rw [e12]
  refine jp_iald (pc2 := 22) rfl rfl e15 (vp_in_nI b16 c17) ?_
  rw [(nI_clamp (Nat.lt_trans b16 c17))]
  rw [e19]
  exact jp_virt0 (pc2 := 25) (As := [(.int (nI v18))]) (rest := []) rfl rfl rfl (Nat.le_of_ble_eq_true rfl) e2 m20 m21 hc rfl K
theorem c63_25 {r_0 : Nat} {sa_0 : Nat} (c1 : sa_0 < 2147483648) (K1 : ¬ sa_0 = 0 → ip sc call 63 MC MS Q 57 [some (.ref r_0)] [] h z c s) (K2 : ¬ (¬ sa_0 = 0) → ip sc call 63 MC MS Q 28 [some (.ref r_0)] [] h z c s) : ip sc call 63 MC MS Q 25 [some (.ref r_0)] [(.int (nI sa_0))] h z c s := by
  exact jp_if0 (pc2 := 28) rfl rfl (fun q => K1 ((not_congr (nI_eq c1 (by decide))).mp q)) (fun q => K2 (fun r => q ((not_congr (nI_eq c1 (by decide))).mpr r)))
theorem c63_28 {r_0 : Nat} {fs1 : List Value} {q_fs1_3 : Nat} {v_fs1_7 : Nat} {n5 : Nat} {f6 : Nat → Int32} {v10 : Nat} {q_fs1_2 : Nat} {n14 : Nat} {f15 : Nat → Int32} {v20 : Nat} (e2 : h r_0 = some (.inr (6, fs1))) (e3 : fs1[3]? = some (.ref q_fs1_3)) (e4 : fs1[7]? = some (.int (nI v_fs1_7))) (e7 : h q_fs1_3 = some (.inl (0, n5, .inl f6))) (b8 : v_fs1_7 < n5) (c9 : n5 < 2147483648) (e11 : f6 v_fs1_7 = nI v10) (l12 : fs1.length = 11) (e13 : fs1[2]? = some (.ref q_fs1_2)) (e16 : h q_fs1_2 = some (.inl (0, n14, .inl f15))) (n17 : q_fs1_2 ≠ r_0) (b18 : v10 < n14) (c19 : n14 < 2147483648) (e21 : f15 v10 = nI v20) (K : ip sc call 63 MC MS Q 89 [some (.ref r_0)] [] (hup h r_0 (.inr (6, ((fs1.set 6 (.int (nI v10))).set 5 (.int (nI v20)))))) z c s) : ip sc call 63 MC MS Q 28 [some (.ref r_0)] [] h z c s := by
  refine jp_load (pc2 := 29) (n := 0) rfl rfl rfl rfl ?_
  refine jp_load (pc2 := 30) (n := 0) rfl rfl rfl rfl ?_
  refine jp_getf (pc2 := 33) rfl rfl e2 e3 ?_
  refine jp_load (pc2 := 34) (n := 0) rfl rfl rfl rfl ?_
  refine jp_getf (pc2 := 37) rfl rfl e2 e4 ?_
  refine jp_iald (pc2 := 38) rfl rfl e7 (vp_in_nI b8 c9) ?_
  rw [(nI_clamp (Nat.lt_trans b8 c9))]
  rw [e11]
  refine jp_putf (pc2 := 41) rfl rfl e2 (ln_lt l12 (by decide)) ⟨rfl, rfl⟩ ?_
  refine jp_load (pc2 := 42) (n := 0) rfl rfl rfl rfl ?_
  refine jp_load (pc2 := 43) (n := 0) rfl rfl rfl rfl ?_
  refine jp_getf (pc2 := 46) rfl rfl hup_eq (gs_ne (by decide) e13) ?_
  refine jp_load (pc2 := 47) (n := 0) rfl rfl rfl rfl ?_
  refine jp_getf (pc2 := 50) rfl rfl hup_eq (gs_eq (ln_lt l12 (by decide))) ?_
  refine jp_iald (pc2 := 51) rfl rfl (hup_ne n17 e16) (vp_in_nI b18 c19) ?_
  rw [(nI_clamp (Nat.lt_trans b18 c19))]
  rw [e21]
  refine jp_putf (pc2 := 54) rfl rfl hup_eq (ls_lt (ln_lt l12 (by decide))) ⟨rfl, rfl⟩ ?_
  rw [hup_hup]
  refine ip_goto rfl ?_
  exact K
theorem c63_57 {r_0 : Nat} {fs1 : List Value} {v_fs1_7 : Nat} (e2 : h r_0 = some (.inr (6, fs1))) (e3 : fs1[7]? = some (.int (nI v_fs1_7))) (c4 : v_fs1_7 < 2147483648) (K1 : 24 ≤ v_fs1_7 → ip sc call 63 MC MS Q 89 [some (.ref r_0)] [] h z c s) (K2 : ¬ (24 ≤ v_fs1_7) → ip sc call 63 MC MS Q 66 [some (.ref r_0)] [] h z c s) : ip sc call 63 MC MS Q 57 [some (.ref r_0)] [] h z c s := by
  refine jp_load (pc2 := 58) (n := 0) rfl rfl rfl rfl ?_
  refine jp_getf (pc2 := 61) rfl rfl e2 e3 ?_
  refine jp_con (pc2 := 63) (v := (.int (nI 24))) rfl rfl rfl ?_
  exact jp_icmp (pc2 := 66) rfl rfl (fun q => K1 ((nI_leI (by decide) c4).mp q)) (fun q => K2 (fun r => q ((nI_leI (by decide) c4).mpr r)))
theorem c63_66 {r_0 : Nat} {fs1 : List Value} {v_fs1_7 : Nat} {q_fs1_3 : Nat} {v_fs1_6 : Nat} {n7 : Nat} {f8 : Nat → Int32} {g13 : Nat → Int32} (e2 : h r_0 = some (.inr (6, fs1))) (e3 : fs1[7]? = some (.int (nI v_fs1_7))) (l4 : fs1.length = 11) (e5 : fs1[3]? = some (.ref q_fs1_3)) (e6 : fs1[6]? = some (.int (nI v_fs1_6))) (e9 : h q_fs1_3 = some (.inl (0, n7, .inl f8))) (n10 : q_fs1_3 ≠ r_0) (b11 : v_fs1_7 + 1 < n7) (c12 : n7 < 2147483648) (d14 : upd f8 (v_fs1_7 + 1) (nI v_fs1_6) = g13) (K : ip sc call 63 MC MS Q 89 [some (.ref r_0)] [] (hup (hup h r_0 (.inr (6, (fs1.set 7 (.int (nI (v_fs1_7 + 1))))))) q_fs1_3 (.inl (0, n7, .inl g13))) z c s) : ip sc call 63 MC MS Q 66 [some (.ref r_0)] [] h z c s := by
  refine jp_load (pc2 := 67) (n := 0) rfl rfl rfl rfl ?_
  refine jp_dup (pc2 := 68) rfl rfl rfl ?_
  refine jp_getf (pc2 := 71) rfl rfl e2 e3 ?_
  refine jp_con (pc2 := 72) (v := (.int (nI 1))) rfl rfl rfl ?_
  refine jp_bin (pc2 := 73) (v := nI (v_fs1_7 + 1)) rfl rfl (congrArg some (nI_add _ _)) ?_
  refine jp_putf (pc2 := 76) rfl rfl e2 (ln_lt l4 (by decide)) ⟨rfl, rfl⟩ ?_
  refine jp_load (pc2 := 77) (n := 0) rfl rfl rfl rfl ?_
  refine jp_getf (pc2 := 80) rfl rfl hup_eq (gs_ne (by decide) e5) ?_
  refine jp_load (pc2 := 81) (n := 0) rfl rfl rfl rfl ?_
  refine jp_getf (pc2 := 84) rfl rfl hup_eq (gs_eq (ln_lt l4 (by decide))) ?_
  refine jp_load (pc2 := 85) (n := 0) rfl rfl rfl rfl ?_
  refine jp_getf (pc2 := 88) rfl rfl hup_eq (gs_ne (by decide) e6) ?_
  refine jp_iast (pc2 := 89) rfl rfl (hup_ne n10 e9) (vp_in_nI b11 c12) ?_
  rw [(nI_clamp (Nat.lt_trans b11 c12))]
  rw [d14]
  exact K
theorem c63_89 {o_0 : Option Value} (q1 : Q none h z)  : ip sc call 63 MC MS Q 89 [o_0] [] h z c s := by
  exact ip_vret (st := []) rfl rfl q1
theorem c64_0 {r_0 : Nat} {a_1 : Nat} {o_2 : Option Value}  (K : ip sc call 64 MC MS Q 2 [some (.ref r_0), some (.int (nI a_1)), some (.int (nI a_1))] [] h z c s) : ip sc call 64 MC MS Q 0 [some (.ref r_0), some (.int (nI a_1)), o_2] [] h z c s := by
  refine jp_load (pc2 := 1) (n := 1) rfl rfl rfl rfl ?_
  refine jp_store (pc2 := 2) (n := 2) rfl rfl ⟨rfl, rfl⟩ rfl (Nat.le_of_ble_eq_true rfl) ?_
  exact K
theorem c64_2 {r_0 : Nat} {a_1 : Nat} {a_2 : Nat} {fs1 : List Value} {v_fs1_5 : Nat} (e2 : h r_0 = some (.inr (6, fs1))) (e3 : fs1[5]? = some (.int (nI v_fs1_5))) (c4 : a_2 < 2147483648) (c5 : v_fs1_5 < 2147483648) (K1 : v_fs1_5 ≤ a_2 → ip sc call 64 MC MS Q 48 [some (.ref r_0), some (.int (nI a_1)), some (.int (nI a_2))] [] h z c s) (K2 : ¬ (v_fs1_5 ≤ a_2) → ip sc call 64 MC MS Q 10 [some (.ref r_0), some (.int (nI a_1)), some (.int (nI a_2))] [] h z c s) : ip sc call 64 MC MS Q 2 [some (.ref r_0), some (.int (nI a_1)), some (.int (nI a_2))] [] h z c s := by
  refine jp_load (pc2 := 3) (n := 2) rfl rfl rfl rfl ?_
  refine jp_load (pc2 := 4) (n := 0) rfl rfl rfl rfl ?_
  refine jp_getf (pc2 := 7) rfl rfl e2 e3 ?_
  exact jp_icmp (pc2 := 10) rfl rfl (fun q => K1 ((nI_leI c5 c4).mp q)) (fun q => K2 (fun r => q ((nI_leI c5 c4).mpr r)))
theorem c64_10 {r_0 : Nat} {a_1 : Nat} {a_2 : Nat} {fs1 : List Value} {q_fs1_4 : Nat} {q_fs1_1 : Nat} {n5 : Nat} {f6 : Nat → Int32} {v10 : Nat} {n12 : Nat} {f13 : Nat → Int32} {v17 : Nat} (e2 : h r_0 = some (.inr (6, fs1))) (e3 : fs1[4]? = some (.ref q_fs1_4)) (e4 : fs1[1]? = some (.ref q_fs1_1)) (e7 : h q_fs1_1 = some (.inl (0, n5, .inl f6))) (b8 : a_2 < n5) (c9 : n5 < 2147483648) (e11 : f6 a_2 = nI v10) (e14 : h q_fs1_4 = some (.inl (0, n12, .inl f13))) (b15 : v10 < n12) (c16 : n12 < 2147483648) (e18 : f13 v10 = nI v17) (c19 : v17 < 2147483648) (K1 : 2 ≤ v17 → ip sc call 64 MC MS Q 40 [some (.ref r_0), some (.int (nI a_1)), some (.int (nI a_2))] [] h z c s) (K2 : ¬ (2 ≤ v17) → ip sc call 64 MC MS Q 25 [some (.ref r_0), some (.int (nI a_1)), some (.int (nI a_2))] [] h z c s) : ip sc call 64 MC MS Q 10 [some (.ref r_0), some (.int (nI a_1)), some (.int (nI a_2))] [] h z c s := by
  refine jp_load (pc2 := 11) (n := 0) rfl rfl rfl rfl ?_
  refine jp_getf (pc2 := 14) rfl rfl e2 e3 ?_
  refine jp_load (pc2 := 15) (n := 0) rfl rfl rfl rfl ?_
  refine jp_getf (pc2 := 18) rfl rfl e2 e4 ?_
  refine jp_load (pc2 := 19) (n := 2) rfl rfl rfl rfl ?_
  refine jp_iald (pc2 := 20) rfl rfl e7 (vp_in_nI b8 c9) ?_
  rw [(nI_clamp (Nat.lt_trans b8 c9))]
  rw [e11]
  refine jp_iald (pc2 := 21) rfl rfl e14 (vp_in_nI b15 c16) ?_
  rw [(nI_clamp (Nat.lt_trans b15 c16))]
  rw [e18]
  refine jp_con (pc2 := 22) (v := (.int (nI 2))) rfl rfl rfl ?_
  exact jp_icmp (pc2 := 25) rfl rfl (fun q => K1 ((nI_leI (by decide) c19).mp q)) (fun q => K2 (fun r => q ((nI_leI (by decide) c19).mpr r)))
theorem c64_25 {r_0 : Nat} {a_1 : Nat} {a_2 : Nat} {fs1 : List Value} {q_fs1_1 : Nat} {n4 : Nat} {f5 : Nat → Int32} {v9 : Nat} {v12 : Nat} (e2 : h r_0 = some (.inr (6, fs1))) (e3 : fs1[1]? = some (.ref q_fs1_1)) (e6 : h q_fs1_1 = some (.inl (0, n4, .inl f5))) (b7 : a_2 < n4) (c8 : n4 < 2147483648) (e10 : f5 a_2 = nI v9) (b11 : a_1 < n4) (e13 : f5 a_1 = nI v12) (c14 : v9 < 2147483648) (c15 : v12 < 2147483648) (K1 : v9 = v12 → ip sc call 64 MC MS Q 42 [some (.ref r_0), some (.int (nI a_1)), some (.int (nI a_2))] [] h z c s) (K2 : ¬ (v9 = v12) → ip sc call 64 MC MS Q 40 [some (.ref r_0), some (.int (nI a_1)), some (.int (nI a_2))] [] h z c s) : ip sc call 64 MC MS Q 25 [some (.ref r_0), some (.int (nI a_1)), some (.int (nI a_2))] [] h z c s := by
  refine jp_load (pc2 := 26) (n := 0) rfl rfl rfl rfl ?_
  refine jp_getf (pc2 := 29) rfl rfl e2 e3 ?_
  refine jp_load (pc2 := 30) (n := 2) rfl rfl rfl rfl ?_
  refine jp_iald (pc2 := 31) rfl rfl e6 (vp_in_nI b7 c8) ?_
  rw [(nI_clamp (Nat.lt_trans b7 c8))]
  rw [e10]
  refine jp_load (pc2 := 32) (n := 0) rfl rfl rfl rfl ?_
  refine jp_getf (pc2 := 35) rfl rfl e2 e3 ?_
  refine jp_load (pc2 := 36) (n := 1) rfl rfl rfl rfl ?_
  refine jp_iald (pc2 := 37) rfl rfl e6 (vp_in_nI b11 c8) ?_
  rw [(nI_clamp (Nat.lt_trans b11 c8))]
  rw [e13]
  exact jp_icmp (pc2 := 40) rfl rfl (fun q => K1 ((nI_eq c14 c15).mp q)) (fun q => K2 (fun r => q ((nI_eq c14 c15).mpr r)))
theorem c64_40 {o_0 : Option Value} {o_1 : Option Value} {o_2 : Option Value} (q1 : Q (some (.int (nI 1))) h z)  : ip sc call 64 MC MS Q 40 [o_0, o_1, o_2] [] h z c s := by
  refine jp_con (pc2 := 41) (v := (.int (nI 1))) rfl rfl rfl ?_
  exact ip_iret (st := []) rfl rfl rfl q1
theorem c64_42 {r_0 : Nat} {a_1 : Nat} {a_2 : Nat}  (K : ip sc call 64 MC MS Q 2 [some (.ref r_0), some (.int (nI a_1)), some (.int (nI (a_2 + 1)))] [] h z c s) : ip sc call 64 MC MS Q 42 [some (.ref r_0), some (.int (nI a_1)), some (.int (nI a_2))] [] h z c s := by
  refine jp_iinc (pc2 := 45) (n := 2) (v := nI (a_2 + 1)) rfl rfl rfl (nI_add _ 1) rfl ?_
  refine ip_goto rfl ?_
  exact K
theorem c64_48 {o_0 : Option Value} {o_1 : Option Value} {o_2 : Option Value} (q1 : Q (some (.int (nI 0))) h z)  : ip sc call 64 MC MS Q 48 [o_0, o_1, o_2] [] h z c s := by
  refine jp_con (pc2 := 49) (v := (.int (nI 0))) rfl rfl rfl ?_
  exact ip_iret (st := []) rfl rfl rfl q1
end BLK
