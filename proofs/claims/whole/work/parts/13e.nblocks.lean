/-! straight stretches of bytecode, printed by wip/whole/gen_blk.py -/
section BLK
variable {sc : ipSc} {call : ipCall} {MC MS : Nat} {Q : ipQ} {h : HP} {z c s : Nat}
theorem c126_0 {r_0 : Nat} {a_1 : Nat} {a_2 : Nat} {a_3 : Nat} {fs1 : List Value} {P : ipQ} (e2 : h r_0 = some (.inr (9, fs1))) (m3 : c ≤ MC) (m4 : s ≤ MS) (hc : call 123 [(.ref r_0), (.int (nI a_1)), (.int (nI a_2)), (.int (nI a_3))] h z 0 0 P) (K : ∀ (o : Option Value) (h2 : HP) (z2 : Nat), P o h2 z2 → ip sc call 126 MC MS Q 7 [some (.ref r_0), some (.int (nI a_1)), some (.int (nI a_2)), some (.int (nI a_3))] (o.toList ++ []) h2 z2 c s) : ip sc call 126 MC MS Q 0 [some (.ref r_0), some (.int (nI a_1)), some (.int (nI a_2)), some (.int (nI a_3))] [] h z c s := by
  refine jp_load (pc2 := 1) (n := 0) rfl rfl rfl rfl ?_
  refine jp_load (pc2 := 2) (n := 1) rfl rfl rfl rfl ?_
  refine jp_load (pc2 := 3) (n := 2) rfl rfl rfl rfl ?_
  refine jp_load (pc2 := 4) (n := 3) rfl rfl rfl rfl ?_
  exact jp_virt0 (pc2 := 7) (As := [(.int (nI a_1)), (.int (nI a_2)), (.int (nI a_3))]) (rest := []) rfl rfl rfl (Nat.le_of_ble_eq_true rfl) e2 m3 m4 hc rfl K
theorem c126_7 {r_0 : Nat} {a_1 : Nat} {a_2 : Nat} {a_3 : Nat} {sa_0 : Nat} (c1 : sa_0 < 2147483648) (K1 : sa_0 = 0 → ip sc call 126 MC MS Q 24 [some (.ref r_0), some (.int (nI a_1)), some (.int (nI a_2)), some (.int (nI a_3))] [] h z c s) (K2 : ¬ (sa_0 = 0) → ip sc call 126 MC MS Q 10 [some (.ref r_0), some (.int (nI a_1)), some (.int (nI a_2)), some (.int (nI a_3))] [] h z c s) : ip sc call 126 MC MS Q 7 [some (.ref r_0), some (.int (nI a_1)), some (.int (nI a_2)), some (.int (nI a_3))] [(.int (nI sa_0))] h z c s := by
  exact jp_if0 (pc2 := 10) rfl rfl (fun q => K1 ((nI_eq c1 (by decide)).mp q)) (fun q => K2 (fun r => q ((nI_eq c1 (by decide)).mpr r)))
theorem c126_10 {r_0 : Nat} {a_1 : Nat} {a_2 : Nat} {a_3 : Nat} {fs1 : List Value} {P : ipQ} (e2 : h r_0 = some (.inr (9, fs1))) (m3 : c ≤ MC) (m4 : s ≤ MS) (hc : call 94 [(.ref r_0)] h z 0 0 P) (K : ∀ (o : Option Value) (h2 : HP) (z2 : Nat), P o h2 z2 → ip sc call 126 MC MS Q 15 [some (.ref r_0), some (.int (nI a_1)), some (.int (nI a_2)), some (.int (nI a_3))] (o.toList ++ [(.ref r_0)]) h2 z2 c s) : ip sc call 126 MC MS Q 10 [some (.ref r_0), some (.int (nI a_1)), some (.int (nI a_2)), some (.int (nI a_3))] [] h z c s := by
  refine jp_load (pc2 := 11) (n := 0) rfl rfl rfl rfl ?_
  refine jp_load (pc2 := 12) (n := 0) rfl rfl rfl rfl ?_
  exact jp_virt0 (pc2 := 15) (As := []) (rest := [(.ref r_0)]) rfl rfl rfl (Nat.le_of_ble_eq_true rfl) e2 m3 m4 hc rfl K
theorem c126_15 {o_0 : Option Value} {a_1 : Nat} {a_2 : Nat} {a_3 : Nat} {sr_0 : Nat} {sa_1 : Nat} {fs1 : List Value} {P : ipQ} (e2 : h sr_0 = some (.inr (9, fs1))) (m3 : c ≤ MC) (m4 : s ≤ MS) (hc : call 105 [(.ref sr_0), (.int (nI sa_1)), (.int (nI a_1)), (.int (nI a_2)), (.int (nI a_3))] h z 0 0 P) (K : ∀ (o : Option Value) (h2 : HP) (z2 : Nat), P o h2 z2 → ip sc call 126 MC MS Q 21 [o_0, some (.int (nI a_1)), some (.int (nI a_2)), some (.int (nI a_3))] (o.toList ++ []) h2 z2 c s) : ip sc call 126 MC MS Q 15 [o_0, some (.int (nI a_1)), some (.int (nI a_2)), some (.int (nI a_3))] [(.int (nI sa_1)), (.ref sr_0)] h z c s := by
  refine jp_load (pc2 := 16) (n := 1) rfl rfl rfl rfl ?_
  refine jp_load (pc2 := 17) (n := 2) rfl rfl rfl rfl ?_
  refine jp_load (pc2 := 18) (n := 3) rfl rfl rfl rfl ?_
  exact jp_virt0 (pc2 := 21) (As := [(.int (nI sa_1)), (.int (nI a_1)), (.int (nI a_2)), (.int (nI a_3))]) (rest := []) rfl rfl rfl (Nat.le_of_ble_eq_true rfl) e2 m3 m4 hc rfl K
theorem c126_21 {o_0 : Option Value} {o_1 : Option Value} {o_2 : Option Value} {o_3 : Option Value} {sa_0 : Nat}  (K : ip sc call 126 MC MS Q 25 [o_0, o_1, o_2, o_3] [(.int (nI sa_0))] h z c s) : ip sc call 126 MC MS Q 21 [o_0, o_1, o_2, o_3] [(.int (nI sa_0))] h z c s := by
  refine ip_goto rfl ?_
  exact K
theorem c126_24 {o_0 : Option Value} {o_1 : Option Value} {o_2 : Option Value} {o_3 : Option Value}  (K : ip sc call 126 MC MS Q 25 [o_0, o_1, o_2, o_3] [(.int ((-1)))] h z c s) : ip sc call 126 MC MS Q 24 [o_0, o_1, o_2, o_3] [] h z c s := by
  refine jp_con (pc2 := 25) (v := (.int ((-1)))) rfl rfl rfl ?_
  exact K
theorem c126_25 {o_0 : Option Value} {o_1 : Option Value} {o_2 : Option Value} {o_3 : Option Value} {sa_0 : Nat} (q1 : Q (some (.int (nI sa_0))) h z)  : ip sc call 126 MC MS Q 25 [o_0, o_1, o_2, o_3] [(.int (nI sa_0))] h z c s := by
  exact ip_iret (st := []) rfl rfl rfl q1
theorem c127_0 {r_0 : Nat} {a_1 : Nat} {fs1 : List Value} {q_fs1_0 : Nat} {P : ipQ} (e2 : h r_0 = some (.inr (9, fs1))) (e3 : fs1[0]? = some (.ref q_fs1_0)) (m4 : c ≤ MC) (m5 : s ≤ MS) (hc : call 94 [(.ref r_0)] h z 0 0 P) (K : ∀ (o : Option Value) (h2 : HP) (z2 : Nat), P o h2 z2 → ip sc call 127 MC MS Q 9 [some (.ref r_0), some (.int (nI a_1))] (o.toList ++ [(.ref q_fs1_0), (.int (nI a_1))]) h2 z2 c s) : ip sc call 127 MC MS Q 0 [some (.ref r_0), some (.int (nI a_1))] [] h z c s := by
  refine jp_load (pc2 := 1) (n := 1) rfl rfl rfl rfl ?_
  refine jp_load (pc2 := 2) (n := 0) rfl rfl rfl rfl ?_
  refine jp_getf (pc2 := 5) rfl rfl e2 e3 ?_
  refine jp_load (pc2 := 6) (n := 0) rfl rfl rfl rfl ?_
  exact jp_virt0 (pc2 := 9) (As := []) (rest := [(.ref q_fs1_0), (.int (nI a_1))]) rfl rfl rfl (Nat.le_of_ble_eq_true rfl) e2 m4 m5 hc rfl K
theorem c127_9 {r_0 : Nat} {a_1 : Nat} {sa_0 : Nat} {sr_1 : Nat} {sa_2 : Nat} {n1 : Nat} {f2 : Nat → Int32} {v6 : Nat} {P : ipQ} (e3 : h sr_1 = some (.inl (0, n1, .inl f2))) (b4 : sa_2 + 0 < n1) (c5 : n1 < 2147483648) (e7 : f2 (sa_2 + 0) = nI v6) (m8 : c ≤ MC) (m9 : s ≤ MS) (hc : call 95 [(.int (nI sa_0)), (.int (nI v6))] h z 0 0 P) (K : ∀ (o : Option Value) (h2 : HP) (z2 : Nat), P o h2 z2 → ip sc call 127 MC MS Q 15 [some (.ref r_0), some (.int (nI a_1))] (o.toList ++ []) h2 z2 c s) : ip sc call 127 MC MS Q 9 [some (.ref r_0), some (.int (nI a_1))] [(.int (nI sa_2)), (.ref sr_1), (.int (nI sa_0))] h z c s := by
  refine jp_con (pc2 := 10) (v := (.int (nI 0))) rfl rfl rfl ?_
  refine jp_bin (pc2 := 11) (v := nI (sa_2 + 0)) rfl rfl (congrArg some (nI_add _ _)) ?_
  refine jp_iald (pc2 := 12) rfl rfl e3 (vp_in_nI b4 c5) ?_
  rw [(nI_clamp (Nat.lt_trans b4 c5))]
  rw [e7]
  exact jp_stat0 (pc2 := 15) (As := [(.int (nI sa_0)), (.int (nI v6))]) (rest := []) rfl rfl rfl (Nat.le_of_ble_eq_true rfl) m8 m9 (by decide) hc rfl K
theorem c127_15 {r_0 : Nat} {a_1 : Nat} {sa_0 : Nat} (c1 : sa_0 < 2147483648) (K1 : sa_0 = 0 → ip sc call 127 MC MS Q 34 [some (.ref r_0), some (.int (nI a_1))] [] h z c s) (K2 : ¬ (sa_0 = 0) → ip sc call 127 MC MS Q 18 [some (.ref r_0), some (.int (nI a_1))] [] h z c s) : ip sc call 127 MC MS Q 15 [some (.ref r_0), some (.int (nI a_1))] [(.int (nI sa_0))] h z c s := by
  exact jp_if0 (pc2 := 18) rfl rfl (fun q => K1 ((nI_eq c1 (by decide)).mp q)) (fun q => K2 (fun r => q ((nI_eq c1 (by decide)).mpr r)))
theorem c127_18 {r_0 : Nat} {a_1 : Nat} {fs1 : List Value} {q_fs1_0 : Nat} {P : ipQ} (e2 : h r_0 = some (.inr (9, fs1))) (e3 : fs1[0]? = some (.ref q_fs1_0)) (m4 : c ≤ MC) (m5 : s ≤ MS) (hc : call 94 [(.ref r_0)] h z 0 0 P) (K : ∀ (o : Option Value) (h2 : HP) (z2 : Nat), P o h2 z2 → ip sc call 127 MC MS Q 26 [some (.ref r_0), some (.int (nI a_1))] (o.toList ++ [(.ref q_fs1_0)]) h2 z2 c s) : ip sc call 127 MC MS Q 18 [some (.ref r_0), some (.int (nI a_1))] [] h z c s := by
  refine jp_load (pc2 := 19) (n := 0) rfl rfl rfl rfl ?_
  refine jp_getf (pc2 := 22) rfl rfl e2 e3 ?_
  refine jp_load (pc2 := 23) (n := 0) rfl rfl rfl rfl ?_
  exact jp_virt0 (pc2 := 26) (As := []) (rest := [(.ref q_fs1_0)]) rfl rfl rfl (Nat.le_of_ble_eq_true rfl) e2 m4 m5 hc rfl K
theorem c127_26 {o_0 : Option Value} {a_1 : Nat} {sr_0 : Nat} {sa_1 : Nat} {n1 : Nat} {f2 : Nat → Int32} {v6 : Nat} (e3 : h sr_0 = some (.inl (0, n1, .inl f2))) (b4 : (sa_1 + 4) + a_1 < n1) (c5 : n1 < 2147483648) (e7 : f2 ((sa_1 + 4) + a_1) = nI v6) (K : ip sc call 127 MC MS Q 35 [o_0, some (.int (nI a_1))] [(.int (nI v6))] h z c s) : ip sc call 127 MC MS Q 26 [o_0, some (.int (nI a_1))] [(.int (nI sa_1)), (.ref sr_0)] h z c s := by
  refine jp_con (pc2 := 27) (v := (.int (nI 4))) rfl rfl rfl ?_
  refine jp_bin (pc2 := 28) (v := nI (sa_1 + 4)) rfl rfl (congrArg some (nI_add _ _)) ?_
  refine jp_load (pc2 := 29) (n := 1) rfl rfl rfl rfl ?_
  refine jp_bin (pc2 := 30) (v := nI ((sa_1 + 4) + a_1)) rfl rfl (congrArg some (nI_add _ _)) ?_
  refine jp_iald (pc2 := 31) rfl rfl e3 (vp_in_nI b4 c5) ?_
  rw [(nI_clamp (Nat.lt_trans b4 c5))]
  rw [e7]
  refine ip_goto rfl ?_
  exact K
theorem c127_34 {o_0 : Option Value} {o_1 : Option Value}  (K : ip sc call 127 MC MS Q 35 [o_0, o_1] [(.int ((-1)))] h z c s) : ip sc call 127 MC MS Q 34 [o_0, o_1] [] h z c s := by
  refine jp_con (pc2 := 35) (v := (.int ((-1)))) rfl rfl rfl ?_
  exact K
theorem c127_35 {o_0 : Option Value} {o_1 : Option Value} {sa_0 : Nat} (q1 : Q (some (.int (nI sa_0))) h z)  : ip sc call 127 MC MS Q 35 [o_0, o_1] [(.int (nI sa_0))] h z c s := by
  exact ip_iret (st := []) rfl rfl rfl q1
theorem c128_0 {r_0 : Nat} {a_1 : Nat} {a_2 : Nat} {a_3 : Nat} {a_4 : Nat} {a_5 : Nat} {a_6 : Nat} {o_7 : Option Value} {o_8 : Option Value} {o_9 : Option Value} {o_10 : Option Value} {fs1 : List Value} {P : ipQ} (e2 : h r_0 = some (.inr (9, fs1))) (m3 : c ≤ MC) (m4 : s ≤ MS) (hc : call 94 [(.ref r_0)] h z 0 0 P) (K : ∀ (o : Option Value) (h2 : HP) (z2 : Nat), P o h2 z2 → ip sc call 128 MC MS Q 4 [some (.ref r_0), some (.int (nI a_1)), some (.int (nI a_2)), some (.int (nI a_3)), some (.int (nI a_4)), some (.int (nI a_5)), some (.int (nI a_6)), o_7, o_8, o_9, o_10] (o.toList ++ []) h2 z2 c s) : ip sc call 128 MC MS Q 0 [some (.ref r_0), some (.int (nI a_1)), some (.int (nI a_2)), some (.int (nI a_3)), some (.int (nI a_4)), some (.int (nI a_5)), some (.int (nI a_6)), o_7, o_8, o_9, o_10] [] h z c s := by
  refine jp_load (pc2 := 1) (n := 0) rfl rfl rfl rfl ?_
  exact jp_virt0 (pc2 := 4) (As := []) (rest := []) rfl rfl rfl (Nat.le_of_ble_eq_true rfl) e2 m3 m4 hc rfl K
theorem c128_4 {r_0 : Nat} {a_1 : Nat} {a_2 : Nat} {a_3 : Nat} {a_4 : Nat} {a_5 : Nat} {a_6 : Nat} {o_7 : Option Value} {o_8 : Option Value} {o_9 : Option Value} {o_10 : Option Value} {sa_0 : Nat} {fs1 : List Value} {q_fs1_0 : Nat} {n4 : Nat} {f5 : Nat → Int32} {v9 : Nat} {P : ipQ} (e2 : h r_0 = some (.inr (9, fs1))) (e3 : fs1[0]? = some (.ref q_fs1_0)) (e6 : h q_fs1_0 = some (.inl (0, n4, .inl f5))) (b7 : 0 < n4) (c8 : n4 < 2147483648) (e10 : f5 0 = nI v9) (m11 : c ≤ MC) (m12 : s ≤ MS) (hc : call 93 [(.int (nI (v9 + 1)))] h z 0 0 P) (K : ∀ (o : Option Value) (h2 : HP) (z2 : Nat), P o h2 z2 → ip sc call 128 MC MS Q 24 [some (.ref r_0), some (.int (nI a_1)), some (.int (nI a_2)), some (.int (nI a_3)), some (.int (nI a_4)), some (.int (nI a_5)), some (.int (nI a_6)), some (.int (nI sa_0)), some (.int (nI v9)), o_9, o_10] (o.toList ++ [(.int (nI sa_0)), (.ref r_0)]) h2 z2 c s) : ip sc call 128 MC MS Q 4 [some (.ref r_0), some (.int (nI a_1)), some (.int (nI a_2)), some (.int (nI a_3)), some (.int (nI a_4)), some (.int (nI a_5)), some (.int (nI a_6)), o_7, o_8, o_9, o_10] [(.int (nI sa_0))] h z c s := by
  refine jp_store (pc2 := 6) (n := 7) rfl rfl ⟨rfl, rfl⟩ rfl (Nat.le_of_ble_eq_true rfl) ?_
  refine jp_load (pc2 := 7) (n := 0) rfl rfl rfl rfl ?_
  refine jp_getf (pc2 := 10) rfl rfl e2 e3 ?_
  refine jp_con (pc2 := 11) (v := (.int (nI 0))) rfl rfl rfl ?_
  refine jp_iald (pc2 := 12) rfl rfl e6 (vp_in_nI b7 c8) ?_
  rw [(nI_clamp (Nat.lt_trans b7 c8))]
  rw [e10]
  refine jp_store (pc2 := 14) (n := 8) rfl rfl ⟨rfl, rfl⟩ rfl (Nat.le_of_ble_eq_true rfl) ?_
  refine jp_load (pc2 := 15) (n := 0) rfl rfl rfl rfl ?_
  refine jp_load (pc2 := 17) (n := 7) rfl rfl rfl rfl ?_
  refine jp_load (pc2 := 19) (n := 8) rfl rfl rfl rfl ?_
  refine jp_con (pc2 := 20) (v := (.int (nI 1))) rfl rfl rfl ?_
  refine jp_bin (pc2 := 21) (v := nI (v9 + 1)) rfl rfl (congrArg some (nI_add _ _)) ?_
  exact jp_stat0 (pc2 := 24) (As := [(.int (nI (v9 + 1)))]) (rest := [(.int (nI sa_0)), (.ref r_0)]) rfl rfl rfl (Nat.le_of_ble_eq_true rfl) m11 m12 (by decide) hc rfl K
theorem c128_24 {r_0 : Nat} {a_1 : Nat} {a_2 : Nat} {a_3 : Nat} {a_4 : Nat} {a_5 : Nat} {a_6 : Nat} {o_7 : Option Value} {a_8 : Nat} {o_9 : Option Value} {o_10 : Option Value} {sr_0 : Nat} {sa_1 : Nat} {sa_2 : Nat} {fs1 : List Value} {P : ipQ} (e2 : h sr_0 = some (.inr (9, fs1))) (m3 : c ≤ MC) (m4 : s ≤ MS) (hc : call 108 [(.ref sr_0), (.int (nI sa_1)), (.int (nI sa_2)), (.int (nI a_1)), (.int (nI a_2)), (.int (nI a_3)), (.int (nI a_4)), (.int (nI a_5)), (.int (nI a_6))] h z 0 0 P) (K : ∀ (o : Option Value) (h2 : HP) (z2 : Nat), P o h2 z2 → ip sc call 128 MC MS Q 36 [some (.ref r_0), some (.int (nI a_1)), some (.int (nI a_2)), some (.int (nI a_3)), some (.int (nI a_4)), some (.int (nI a_5)), some (.int (nI a_6)), o_7, some (.int (nI a_8)), o_9, o_10] (o.toList ++ []) h2 z2 c s) : ip sc call 128 MC MS Q 24 [some (.ref r_0), some (.int (nI a_1)), some (.int (nI a_2)), some (.int (nI a_3)), some (.int (nI a_4)), some (.int (nI a_5)), some (.int (nI a_6)), o_7, some (.int (nI a_8)), o_9, o_10] [(.int (nI sa_2)), (.int (nI sa_1)), (.ref sr_0)] h z c s := by
  refine jp_load (pc2 := 25) (n := 1) rfl rfl rfl rfl ?_
  refine jp_load (pc2 := 26) (n := 2) rfl rfl rfl rfl ?_
  refine jp_load (pc2 := 27) (n := 3) rfl rfl rfl rfl ?_
  refine jp_load (pc2 := 29) (n := 4) rfl rfl rfl rfl ?_
  refine jp_load (pc2 := 31) (n := 5) rfl rfl rfl rfl ?_
  refine jp_load (pc2 := 33) (n := 6) rfl rfl rfl rfl ?_
  exact jp_virt0 (pc2 := 36) (As := [(.int (nI sa_1)), (.int (nI sa_2)), (.int (nI a_1)), (.int (nI a_2)), (.int (nI a_3)), (.int (nI a_4)), (.int (nI a_5)), (.int (nI a_6))]) (rest := []) rfl rfl rfl (Nat.le_of_ble_eq_true rfl) e2 m3 m4 hc rfl K
theorem c128_36 {r_0 : Nat} {a_1 : Nat} {a_2 : Nat} {a_3 : Nat} {a_4 : Nat} {a_5 : Nat} {a_6 : Nat} {o_7 : Option Value} {a_8 : Nat} {o_9 : Option Value} {o_10 : Option Value} {sa_0 : Nat} {fs1 : List Value} {q_fs1_0 : Nat} {n4 : Nat} {f5 : Nat → Int32} {g9 : Nat → Int32} {g13 : Nat → Int32} {g16 : Nat → Int32} {g19 : Nat → Int32} {g22 : Nat → Int32} {g25 : Nat → Int32} {v28 : Nat} {g30 : Nat → Int32} (e2 : h r_0 = some (.inr (9, fs1))) (e3 : fs1[0]? = some (.ref q_fs1_0)) (e6 : h q_fs1_0 = some (.inl (0, n4, .inl f5))) (b7 : 8020 + (6 * a_8) < n4) (c8 : n4 < 2147483648) (d10 : upd f5 (8020 + (6 * a_8)) (nI a_1) = g9) (n11 : r_0 ≠ q_fs1_0) (b12 : (8020 + (6 * a_8)) + 1 < n4) (d14 : upd g9 ((8020 + (6 * a_8)) + 1) (nI a_2) = g13) (b15 : (8020 + (6 * a_8)) + 2 < n4) (d17 : upd g13 ((8020 + (6 * a_8)) + 2) (nI a_3) = g16) (b18 : (8020 + (6 * a_8)) + 3 < n4) (d20 : upd g16 ((8020 + (6 * a_8)) + 3) (nI a_4) = g19) (b21 : (8020 + (6 * a_8)) + 4 < n4) (d23 : upd g19 ((8020 + (6 * a_8)) + 4) (nI a_5) = g22) (b24 : (8020 + (6 * a_8)) + 5 < n4) (d26 : upd g22 ((8020 + (6 * a_8)) + 5) (nI a_6) = g25) (b27 : 0 < n4) (e29 : g25 0 = nI v28) (d31 : upd g25 0 (nI (v28 + 1)) = g30) (q32 : Q (some (.int (nI sa_0))) (hup h q_fs1_0 (.inl (0, n4, .inl g30))) z)  : ip sc call 128 MC MS Q 36 [some (.ref r_0), some (.int (nI a_1)), some (.int (nI a_2)), some (.int (nI a_3)), some (.int (nI a_4)), some (.int (nI a_5)), some (.int (nI a_6)), o_7, some (.int (nI a_8)), o_9, o_10] [(.int (nI sa_0))] h z c s := by
  refine jp_store (pc2 := 38) (n := 9) rfl rfl ⟨rfl, rfl⟩ rfl (Nat.le_of_ble_eq_true rfl) ?_
  refine jp_con (pc2 := 41) (v := (.int (nI 8020))) rfl rfl rfl ?_
  refine jp_con (pc2 := 43) (v := (.int (nI 6))) rfl rfl rfl ?_
  refine jp_load (pc2 := 45) (n := 8) rfl rfl rfl rfl ?_
  refine jp_bin (pc2 := 46) (v := nI (6 * a_8)) rfl rfl (congrArg some (pk_mul _ _)) ?_
  refine jp_bin (pc2 := 47) (v := nI (8020 + (6 * a_8))) rfl rfl (congrArg some (nI_add _ _)) ?_
  refine jp_store (pc2 := 49) (n := 10) rfl rfl ⟨rfl, rfl⟩ rfl (Nat.le_of_ble_eq_true rfl) ?_
  refine jp_load (pc2 := 50) (n := 0) rfl rfl rfl rfl ?_
  refine jp_getf (pc2 := 53) rfl rfl e2 e3 ?_
  refine jp_load (pc2 := 55) (n := 10) rfl rfl rfl rfl ?_
  refine jp_load (pc2 := 56) (n := 1) rfl rfl rfl rfl ?_
  refine jp_iast (pc2 := 57) rfl rfl e6 (vp_in_nI b7 c8) ?_
  rw [(nI_clamp (Nat.lt_trans b7 c8))]
  rw [d10]
  refine jp_load (pc2 := 58) (n := 0) rfl rfl rfl rfl ?_
  refine jp_getf (pc2 := 61) rfl rfl (hup_ne n11 e2) e3 ?_
  refine jp_load (pc2 := 63) (n := 10) rfl rfl rfl rfl ?_
  refine jp_con (pc2 := 64) (v := (.int (nI 1))) rfl rfl rfl ?_
  refine jp_bin (pc2 := 65) (v := nI ((8020 + (6 * a_8)) + 1)) rfl rfl (congrArg some (nI_add _ _)) ?_
  refine jp_load (pc2 := 66) (n := 2) rfl rfl rfl rfl ?_
  refine jp_iast (pc2 := 67) rfl rfl hup_eq (vp_in_nI b12 c8) ?_
  rw [(nI_clamp (Nat.lt_trans b12 c8))]
  rw [d14]
  rw [hup_hup]
  refine jp_load (pc2 := 68) (n := 0) rfl rfl rfl rfl ?_
  refine jp_getf (pc2 := 71) rfl rfl (hup_ne n11 e2) e3 ?_
  refine jp_load (pc2 := 73) (n := 10) rfl rfl rfl rfl ?_
  refine jp_con (pc2 := 74) (v := (.int (nI 2))) rfl rfl rfl ?_
  refine jp_bin (pc2 := 75) (v := nI ((8020 + (6 * a_8)) + 2)) rfl rfl (congrArg some (nI_add _ _)) ?_
  refine jp_load (pc2 := 76) (n := 3) rfl rfl rfl rfl ?_
  refine jp_iast (pc2 := 77) rfl rfl hup_eq (vp_in_nI b15 c8) ?_
  rw [(nI_clamp (Nat.lt_trans b15 c8))]
  rw [d17]
  rw [hup_hup]
  refine jp_load (pc2 := 78) (n := 0) rfl rfl rfl rfl ?_
  refine jp_getf (pc2 := 81) rfl rfl (hup_ne n11 e2) e3 ?_
  refine jp_load (pc2 := 83) (n := 10) rfl rfl rfl rfl ?_
  refine jp_con (pc2 := 84) (v := (.int (nI 3))) rfl rfl rfl ?_
  refine jp_bin (pc2 := 85) (v := nI ((8020 + (6 * a_8)) + 3)) rfl rfl (congrArg some (nI_add _ _)) ?_
  refine jp_load (pc2 := 87) (n := 4) rfl rfl rfl rfl ?_
  refine jp_iast (pc2 := 88) rfl rfl hup_eq (vp_in_nI b18 c8) ?_
  rw [(nI_clamp (Nat.lt_trans b18 c8))]
  rw [d20]
  rw [hup_hup]
  refine jp_load (pc2 := 89) (n := 0) rfl rfl rfl rfl ?_
  refine jp_getf (pc2 := 92) rfl rfl (hup_ne n11 e2) e3 ?_
  refine jp_load (pc2 := 94) (n := 10) rfl rfl rfl rfl ?_
  refine jp_con (pc2 := 95) (v := (.int (nI 4))) rfl rfl rfl ?_
  refine jp_bin (pc2 := 96) (v := nI ((8020 + (6 * a_8)) + 4)) rfl rfl (congrArg some (nI_add _ _)) ?_
  refine jp_load (pc2 := 98) (n := 5) rfl rfl rfl rfl ?_
  refine jp_iast (pc2 := 99) rfl rfl hup_eq (vp_in_nI b21 c8) ?_
  rw [(nI_clamp (Nat.lt_trans b21 c8))]
  rw [d23]
  rw [hup_hup]
  refine jp_load (pc2 := 100) (n := 0) rfl rfl rfl rfl ?_
  refine jp_getf (pc2 := 103) rfl rfl (hup_ne n11 e2) e3 ?_
  refine jp_load (pc2 := 105) (n := 10) rfl rfl rfl rfl ?_
  refine jp_con (pc2 := 106) (v := (.int (nI 5))) rfl rfl rfl ?_
  refine jp_bin (pc2 := 107) (v := nI ((8020 + (6 * a_8)) + 5)) rfl rfl (congrArg some (nI_add _ _)) ?_
  refine jp_load (pc2 := 109) (n := 6) rfl rfl rfl rfl ?_
  refine jp_iast (pc2 := 110) rfl rfl hup_eq (vp_in_nI b24 c8) ?_
  rw [(nI_clamp (Nat.lt_trans b24 c8))]
  rw [d26]
  rw [hup_hup]
  refine jp_load (pc2 := 111) (n := 0) rfl rfl rfl rfl ?_
  refine jp_getf (pc2 := 114) rfl rfl (hup_ne n11 e2) e3 ?_
  refine jp_con (pc2 := 115) (v := (.int (nI 0))) rfl rfl rfl ?_
  refine jp_dup2 (pc2 := 116) rfl rfl rfl rfl ?_
  refine jp_iald (pc2 := 117) rfl rfl hup_eq (vp_in_nI b27 c8) ?_
  rw [(nI_clamp (Nat.lt_trans b27 c8))]
  rw [e29]
  refine jp_con (pc2 := 118) (v := (.int (nI 1))) rfl rfl rfl ?_
  refine jp_bin (pc2 := 119) (v := nI (v28 + 1)) rfl rfl (congrArg some (nI_add _ _)) ?_
  refine jp_iast (pc2 := 120) rfl rfl hup_eq (vp_in_nI b27 c8) ?_
  rw [(nI_clamp (Nat.lt_trans b27 c8))]
  rw [d31]
  rw [hup_hup]
  refine jp_load (pc2 := 122) (n := 9) rfl rfl rfl rfl ?_
  exact ip_iret (st := []) rfl rfl rfl q32
theorem c129_0 {r_0 : Nat} {a_1 : Nat} {a_2 : Nat} {a_3 : Nat} {a_4 : Nat} {a_5 : Nat} {a_6 : Nat} {o_7 : Option Value} {fs1 : List Value} {P : ipQ} (e2 : h r_0 = some (.inr (9, fs1))) (m3 : c ≤ MC) (m4 : s ≤ MS) (hc : call 123 [(.ref r_0), (.int (nI a_1)), (.int (nI a_2)), (.int (nI a_3))] h z 0 0 P) (K : ∀ (o : Option Value) (h2 : HP) (z2 : Nat), P o h2 z2 → ip sc call 129 MC MS Q 7 [some (.ref r_0), some (.int (nI a_1)), some (.int (nI a_2)), some (.int (nI a_3)), some (.int (nI a_4)), some (.int (nI a_5)), some (.int (nI a_6)), o_7] (o.toList ++ []) h2 z2 c s) : ip sc call 129 MC MS Q 0 [some (.ref r_0), some (.int (nI a_1)), some (.int (nI a_2)), some (.int (nI a_3)), some (.int (nI a_4)), some (.int (nI a_5)), some (.int (nI a_6)), o_7] [] h z c s := by
  refine jp_load (pc2 := 1) (n := 0) rfl rfl rfl rfl ?_
  refine jp_load (pc2 := 2) (n := 1) rfl rfl rfl rfl ?_
  refine jp_load (pc2 := 3) (n := 2) rfl rfl rfl rfl ?_
  refine jp_load (pc2 := 4) (n := 3) rfl rfl rfl rfl ?_
  exact jp_virt0 (pc2 := 7) (As := [(.int (nI a_1)), (.int (nI a_2)), (.int (nI a_3))]) (rest := []) rfl rfl rfl (Nat.le_of_ble_eq_true rfl) e2 m3 m4 hc rfl K
theorem c129_7 {r_0 : Nat} {a_1 : Nat} {a_2 : Nat} {a_3 : Nat} {a_4 : Nat} {a_5 : Nat} {a_6 : Nat} {o_7 : Option Value} {sa_0 : Nat} (c1 : sa_0 < 2147483648) (K1 : sa_0 = 0 → ip sc call 129 MC MS Q 40 [some (.ref r_0), some (.int (nI a_1)), some (.int (nI a_2)), some (.int (nI a_3)), some (.int (nI a_4)), some (.int (nI a_5)), some (.int (nI a_6)), o_7] [] h z c s) (K2 : ¬ (sa_0 = 0) → ip sc call 129 MC MS Q 10 [some (.ref r_0), some (.int (nI a_1)), some (.int (nI a_2)), some (.int (nI a_3)), some (.int (nI a_4)), some (.int (nI a_5)), some (.int (nI a_6)), o_7] [] h z c s) : ip sc call 129 MC MS Q 7 [some (.ref r_0), some (.int (nI a_1)), some (.int (nI a_2)), some (.int (nI a_3)), some (.int (nI a_4)), some (.int (nI a_5)), some (.int (nI a_6)), o_7] [(.int (nI sa_0))] h z c s := by
  exact jp_if0 (pc2 := 10) rfl rfl (fun q => K1 ((nI_eq c1 (by decide)).mp q)) (fun q => K2 (fun r => q ((nI_eq c1 (by decide)).mpr r)))
theorem c129_10 {r_0 : Nat} {a_1 : Nat} {a_2 : Nat} {a_3 : Nat} {a_4 : Nat} {a_5 : Nat} {a_6 : Nat} {o_7 : Option Value} {fs1 : List Value} {P : ipQ} (e2 : h r_0 = some (.inr (9, fs1))) (m3 : c ≤ MC) (m4 : s ≤ MS) (hc : call 123 [(.ref r_0), (.int (nI a_1)), (.int (nI a_4)), (.int (nI a_5))] h z 0 0 P) (K : ∀ (o : Option Value) (h2 : HP) (z2 : Nat), P o h2 z2 → ip sc call 129 MC MS Q 19 [some (.ref r_0), some (.int (nI a_1)), some (.int (nI a_2)), some (.int (nI a_3)), some (.int (nI a_4)), some (.int (nI a_5)), some (.int (nI a_6)), o_7] (o.toList ++ []) h2 z2 c s) : ip sc call 129 MC MS Q 10 [some (.ref r_0), some (.int (nI a_1)), some (.int (nI a_2)), some (.int (nI a_3)), some (.int (nI a_4)), some (.int (nI a_5)), some (.int (nI a_6)), o_7] [] h z c s := by
  refine jp_load (pc2 := 11) (n := 0) rfl rfl rfl rfl ?_
  refine jp_load (pc2 := 12) (n := 1) rfl rfl rfl rfl ?_
  refine jp_load (pc2 := 14) (n := 4) rfl rfl rfl rfl ?_
  refine jp_load (pc2 := 16) (n := 5) rfl rfl rfl rfl ?_
  exact jp_virt0 (pc2 := 19) (As := [(.int (nI a_1)), (.int (nI a_4)), (.int (nI a_5))]) (rest := []) rfl rfl rfl (Nat.le_of_ble_eq_true rfl) e2 m3 m4 hc rfl K
theorem c129_19 {r_0 : Nat} {a_1 : Nat} {a_2 : Nat} {a_3 : Nat} {a_4 : Nat} {a_5 : Nat} {a_6 : Nat} {o_7 : Option Value} {sa_0 : Nat} (c1 : sa_0 < 2147483648) (K1 : sa_0 = 0 → ip sc call 129 MC MS Q 40 [some (.ref r_0), some (.int (nI a_1)), some (.int (nI a_2)), some (.int (nI a_3)), some (.int (nI a_4)), some (.int (nI a_5)), some (.int (nI a_6)), o_7] [] h z c s) (K2 : ¬ (sa_0 = 0) → ip sc call 129 MC MS Q 22 [some (.ref r_0), some (.int (nI a_1)), some (.int (nI a_2)), some (.int (nI a_3)), some (.int (nI a_4)), some (.int (nI a_5)), some (.int (nI a_6)), o_7] [] h z c s) : ip sc call 129 MC MS Q 19 [some (.ref r_0), some (.int (nI a_1)), some (.int (nI a_2)), some (.int (nI a_3)), some (.int (nI a_4)), some (.int (nI a_5)), some (.int (nI a_6)), o_7] [(.int (nI sa_0))] h z c s := by
  exact jp_if0 (pc2 := 22) rfl rfl (fun q => K1 ((nI_eq c1 (by decide)).mp q)) (fun q => K2 (fun r => q ((nI_eq c1 (by decide)).mpr r)))
theorem c129_22 {r_0 : Nat} {a_1 : Nat} {a_2 : Nat} {a_3 : Nat} {a_4 : Nat} {a_5 : Nat} {a_6 : Nat} {o_7 : Option Value} (c1 : a_2 < 2147483648) (c2 : a_4 < 2147483648) (K1 : a_4 < a_2 → ip sc call 129 MC MS Q 40 [some (.ref r_0), some (.int (nI a_1)), some (.int (nI a_2)), some (.int (nI a_3)), some (.int (nI a_4)), some (.int (nI a_5)), some (.int (nI a_6)), o_7] [] h z c s) (K2 : ¬ (a_4 < a_2) → ip sc call 129 MC MS Q 28 [some (.ref r_0), some (.int (nI a_1)), some (.int (nI a_2)), some (.int (nI a_3)), some (.int (nI a_4)), some (.int (nI a_5)), some (.int (nI a_6)), o_7] [] h z c s) : ip sc call 129 MC MS Q 22 [some (.ref r_0), some (.int (nI a_1)), some (.int (nI a_2)), some (.int (nI a_3)), some (.int (nI a_4)), some (.int (nI a_5)), some (.int (nI a_6)), o_7] [] h z c s := by
  refine jp_load (pc2 := 23) (n := 2) rfl rfl rfl rfl ?_
  refine jp_load (pc2 := 25) (n := 4) rfl rfl rfl rfl ?_
  exact jp_icmp (pc2 := 28) rfl rfl (fun q => K1 ((nI_ltI c2 c1).mp q)) (fun q => K2 (fun r => q ((nI_ltI c2 c1).mpr r)))
theorem c129_28 {r_0 : Nat} {a_1 : Nat} {a_2 : Nat} {a_3 : Nat} {a_4 : Nat} {a_5 : Nat} {a_6 : Nat} {o_7 : Option Value} (c1 : a_2 < 2147483648) (c2 : a_4 < 2147483648) (K1 : ¬ a_2 = a_4 → ip sc call 129 MC MS Q 42 [some (.ref r_0), some (.int (nI a_1)), some (.int (nI a_2)), some (.int (nI a_3)), some (.int (nI a_4)), some (.int (nI a_5)), some (.int (nI a_6)), o_7] [] h z c s) (K2 : ¬ (¬ a_2 = a_4) → ip sc call 129 MC MS Q 34 [some (.ref r_0), some (.int (nI a_1)), some (.int (nI a_2)), some (.int (nI a_3)), some (.int (nI a_4)), some (.int (nI a_5)), some (.int (nI a_6)), o_7] [] h z c s) : ip sc call 129 MC MS Q 28 [some (.ref r_0), some (.int (nI a_1)), some (.int (nI a_2)), some (.int (nI a_3)), some (.int (nI a_4)), some (.int (nI a_5)), some (.int (nI a_6)), o_7] [] h z c s := by
  refine jp_load (pc2 := 29) (n := 2) rfl rfl rfl rfl ?_
  refine jp_load (pc2 := 31) (n := 4) rfl rfl rfl rfl ?_
  exact jp_icmp (pc2 := 34) rfl rfl (fun q => K1 ((not_congr (nI_eq c1 c2)).mp q)) (fun q => K2 (fun r => q ((not_congr (nI_eq c1 c2)).mpr r)))
theorem c129_34 {r_0 : Nat} {a_1 : Nat} {a_2 : Nat} {a_3 : Nat} {a_4 : Nat} {a_5 : Nat} {a_6 : Nat} {o_7 : Option Value} (c1 : a_3 < 2147483648) (c2 : a_5 < 2147483648) (K1 : a_3 ≤ a_5 → ip sc call 129 MC MS Q 42 [some (.ref r_0), some (.int (nI a_1)), some (.int (nI a_2)), some (.int (nI a_3)), some (.int (nI a_4)), some (.int (nI a_5)), some (.int (nI a_6)), o_7] [] h z c s) (K2 : ¬ (a_3 ≤ a_5) → ip sc call 129 MC MS Q 40 [some (.ref r_0), some (.int (nI a_1)), some (.int (nI a_2)), some (.int (nI a_3)), some (.int (nI a_4)), some (.int (nI a_5)), some (.int (nI a_6)), o_7] [] h z c s) : ip sc call 129 MC MS Q 34 [some (.ref r_0), some (.int (nI a_1)), some (.int (nI a_2)), some (.int (nI a_3)), some (.int (nI a_4)), some (.int (nI a_5)), some (.int (nI a_6)), o_7] [] h z c s := by
  refine jp_load (pc2 := 35) (n := 3) rfl rfl rfl rfl ?_
  refine jp_load (pc2 := 37) (n := 5) rfl rfl rfl rfl ?_
  exact jp_icmp (pc2 := 40) rfl rfl (fun q => K1 ((nI_leI c1 c2).mp q)) (fun q => K2 (fun r => q ((nI_leI c1 c2).mpr r)))
theorem c129_40 {o_0 : Option Value} {o_1 : Option Value} {o_2 : Option Value} {o_3 : Option Value} {o_4 : Option Value} {o_5 : Option Value} {o_6 : Option Value} {o_7 : Option Value} (q1 : Q (some (.int ((-1)))) h z)  : ip sc call 129 MC MS Q 40 [o_0, o_1, o_2, o_3, o_4, o_5, o_6, o_7] [] h z c s := by
  refine jp_con (pc2 := 41) (v := (.int ((-1)))) rfl rfl rfl ?_
  exact ip_iret (st := []) rfl rfl rfl q1
theorem c129_42 {r_0 : Nat} {a_1 : Nat} {a_2 : Nat} {a_3 : Nat} {a_4 : Nat} {a_5 : Nat} {a_6 : Nat} {o_7 : Option Value} (c1 : a_2 < 2147483648) (c2 : a_4 < 2147483648) (K1 : ¬ a_2 = a_4 → ip sc call 129 MC MS Q 69 [some (.ref r_0), some (.int (nI a_1)), some (.int (nI a_2)), some (.int (nI a_3)), some (.int (nI a_4)), some (.int (nI a_5)), some (.int (nI a_6)), o_7] [] h z c s) (K2 : ¬ (¬ a_2 = a_4) → ip sc call 129 MC MS Q 48 [some (.ref r_0), some (.int (nI a_1)), some (.int (nI a_2)), some (.int (nI a_3)), some (.int (nI a_4)), some (.int (nI a_5)), some (.int (nI a_6)), o_7] [] h z c s) : ip sc call 129 MC MS Q 42 [some (.ref r_0), some (.int (nI a_1)), some (.int (nI a_2)), some (.int (nI a_3)), some (.int (nI a_4)), some (.int (nI a_5)), some (.int (nI a_6)), o_7] [] h z c s := by
  refine jp_load (pc2 := 43) (n := 2) rfl rfl rfl rfl ?_
  refine jp_load (pc2 := 45) (n := 4) rfl rfl rfl rfl ?_
  exact jp_icmp (pc2 := 48) rfl rfl (fun q => K1 ((not_congr (nI_eq c1 c2)).mp q)) (fun q => K2 (fun r => q ((not_congr (nI_eq c1 c2)).mpr r)))
theorem c129_48 {r_0 : Nat} {a_1 : Nat} {a_2 : Nat} {a_3 : Nat} {a_4 : Nat} {a_5 : Nat} {a_6 : Nat} {o_7 : Option Value} {fs1 : List Value} {q_fs1_0 : Nat} {P : ipQ} (e2 : h r_0 = some (.inr (9, fs1))) (e3 : fs1[0]? = some (.ref q_fs1_0)) (m4 : c ≤ MC) (m5 : s ≤ MS) (hc : call 94 [(.ref r_0)] h z 0 0 P) (K : ∀ (o : Option Value) (h2 : HP) (z2 : Nat), P o h2 z2 → ip sc call 129 MC MS Q 57 [some (.ref r_0), some (.int (nI a_1)), some (.int (nI a_2)), some (.int (nI a_3)), some (.int (nI a_4)), some (.int (nI a_5)), some (.int (nI a_6)), o_7] (o.toList ++ [(.ref q_fs1_0), (.int (nI 1))]) h2 z2 c s) : ip sc call 129 MC MS Q 48 [some (.ref r_0), some (.int (nI a_1)), some (.int (nI a_2)), some (.int (nI a_3)), some (.int (nI a_4)), some (.int (nI a_5)), some (.int (nI a_6)), o_7] [] h z c s := by
  refine jp_con (pc2 := 49) (v := (.int (nI 1))) rfl rfl rfl ?_
  refine jp_load (pc2 := 50) (n := 0) rfl rfl rfl rfl ?_
  refine jp_getf (pc2 := 53) rfl rfl e2 e3 ?_
  refine jp_load (pc2 := 54) (n := 0) rfl rfl rfl rfl ?_
  exact jp_virt0 (pc2 := 57) (As := []) (rest := [(.ref q_fs1_0), (.int (nI 1))]) rfl rfl rfl (Nat.le_of_ble_eq_true rfl) e2 m4 m5 hc rfl K
theorem c129_57 {r_0 : Nat} {a_1 : Nat} {a_2 : Nat} {a_3 : Nat} {a_4 : Nat} {a_5 : Nat} {a_6 : Nat} {o_7 : Option Value} {sa_0 : Nat} {sr_1 : Nat} {sa_2 : Nat} {n1 : Nat} {f2 : Nat → Int32} {v6 : Nat} (e3 : h sr_1 = some (.inl (0, n1, .inl f2))) (b4 : (sa_2 + 36) + a_1 < n1) (c5 : n1 < 2147483648) (e7 : f2 ((sa_2 + 36) + a_1) = nI v6) (d8 : 1 ≤ v6) (K : ip sc call 129 MC MS Q 70 [some (.ref r_0), some (.int (nI a_1)), some (.int (nI a_2)), some (.int (nI a_3)), some (.int (nI a_4)), some (.int (nI a_5)), some (.int (nI a_6)), o_7] [(.int ((nI sa_0) <<< ((nI (v6 - 1)) &&& 31)))] h z c s) : ip sc call 129 MC MS Q 57 [some (.ref r_0), some (.int (nI a_1)), some (.int (nI a_2)), some (.int (nI a_3)), some (.int (nI a_4)), some (.int (nI a_5)), some (.int (nI a_6)), o_7] [(.int (nI sa_2)), (.ref sr_1), (.int (nI sa_0))] h z c s := by
  refine jp_con (pc2 := 59) (v := (.int (nI 36))) rfl rfl rfl ?_
  refine jp_bin (pc2 := 60) (v := nI (sa_2 + 36)) rfl rfl (congrArg some (nI_add _ _)) ?_
  refine jp_load (pc2 := 61) (n := 1) rfl rfl rfl rfl ?_
  refine jp_bin (pc2 := 62) (v := nI ((sa_2 + 36) + a_1)) rfl rfl (congrArg some (nI_add _ _)) ?_
  refine jp_iald (pc2 := 63) rfl rfl e3 (vp_in_nI b4 c5) ?_
  rw [(nI_clamp (Nat.lt_trans b4 c5))]
  rw [e7]
  refine jp_con (pc2 := 64) (v := (.int (nI 1))) rfl rfl rfl ?_
  refine jp_bin (pc2 := 65) (v := nI (v6 - 1)) rfl rfl (congrArg some (pk_sub d8)) ?_
  refine jp_bin (pc2 := 66) (v := (nI sa_0) <<< ((nI (v6 - 1)) &&& 31)) rfl rfl rfl ?_
  refine ip_goto rfl ?_
  exact K
theorem c129_69 {r_0 : Nat} {a_1 : Nat} {a_2 : Nat} {a_3 : Nat} {a_4 : Nat} {a_5 : Nat} {a_6 : Nat} {o_7 : Option Value}  (K : ip sc call 129 MC MS Q 70 [some (.ref r_0), some (.int (nI a_1)), some (.int (nI a_2)), some (.int (nI a_3)), some (.int (nI a_4)), some (.int (nI a_5)), some (.int (nI a_6)), o_7] [(.int (nI 1))] h z c s) : ip sc call 129 MC MS Q 69 [some (.ref r_0), some (.int (nI a_1)), some (.int (nI a_2)), some (.int (nI a_3)), some (.int (nI a_4)), some (.int (nI a_5)), some (.int (nI a_6)), o_7] [] h z c s := by
  refine jp_con (pc2 := 70) (v := (.int (nI 1))) rfl rfl rfl ?_
  exact K
theorem c129_70 {r_0 : Nat} {a_1 : Nat} {a_2 : Nat} {a_3 : Nat} {a_4 : Nat} {a_5 : Nat} {a_6 : Nat} {o_7 : Option Value} {sa_0 : Nat} {P : ipQ} (m1 : c ≤ MC) (m2 : s ≤ MS) (hc : call 95 [(.int (nI a_6)), (.int (nI sa_0))] h z 0 0 P) (K : ∀ (o : Option Value) (h2 : HP) (z2 : Nat), P o h2 z2 → ip sc call 129 MC MS Q 79 [some (.ref r_0), some (.int (nI a_1)), some (.int (nI a_2)), some (.int (nI a_3)), some (.int (nI a_4)), some (.int (nI a_5)), some (.int (nI a_6)), some (.int (nI sa_0))] (o.toList ++ []) h2 z2 c s) : ip sc call 129 MC MS Q 70 [some (.ref r_0), some (.int (nI a_1)), some (.int (nI a_2)), some (.int (nI a_3)), some (.int (nI a_4)), some (.int (nI a_5)), some (.int (nI a_6)), o_7] [(.int (nI sa_0))] h z c s := by
  refine jp_store (pc2 := 72) (n := 7) rfl rfl ⟨rfl, rfl⟩ rfl (Nat.le_of_ble_eq_true rfl) ?_
  refine jp_load (pc2 := 74) (n := 6) rfl rfl rfl rfl ?_
  refine jp_load (pc2 := 76) (n := 7) rfl rfl rfl rfl ?_
  exact jp_stat0 (pc2 := 79) (As := [(.int (nI a_6)), (.int (nI sa_0))]) (rest := []) rfl rfl rfl (Nat.le_of_ble_eq_true rfl) m1 m2 (by decide) hc rfl K
theorem c129_79 {r_0 : Nat} {a_1 : Nat} {a_2 : Nat} {a_3 : Nat} {a_4 : Nat} {a_5 : Nat} {a_6 : Nat} {o_7 : Option Value} {sa_0 : Nat} (c1 : sa_0 < 2147483648) (K1 : sa_0 = 0 → ip sc call 129 MC MS Q 100 [some (.ref r_0), some (.int (nI a_1)), some (.int (nI a_2)), some (.int (nI a_3)), some (.int (nI a_4)), some (.int (nI a_5)), some (.int (nI a_6)), o_7] [] h z c s) (K2 : ¬ (sa_0 = 0) → ip sc call 129 MC MS Q 82 [some (.ref r_0), some (.int (nI a_1)), some (.int (nI a_2)), some (.int (nI a_3)), some (.int (nI a_4)), some (.int (nI a_5)), some (.int (nI a_6)), o_7] [] h z c s) : ip sc call 129 MC MS Q 79 [some (.ref r_0), some (.int (nI a_1)), some (.int (nI a_2)), some (.int (nI a_3)), some (.int (nI a_4)), some (.int (nI a_5)), some (.int (nI a_6)), o_7] [(.int (nI sa_0))] h z c s := by
  exact jp_if0 (pc2 := 82) rfl rfl (fun q => K1 ((nI_eq c1 (by decide)).mp q)) (fun q => K2 (fun r => q ((nI_eq c1 (by decide)).mpr r)))
theorem c129_82 {r_0 : Nat} {a_1 : Nat} {a_2 : Nat} {a_3 : Nat} {a_4 : Nat} {a_5 : Nat} {a_6 : Nat} {o_7 : Option Value} {fs1 : List Value} {P : ipQ} (e2 : h r_0 = some (.inr (9, fs1))) (m3 : c ≤ MC) (m4 : s ≤ MS) (hc : call 94 [(.ref r_0)] h z 0 0 P) (K : ∀ (o : Option Value) (h2 : HP) (z2 : Nat), P o h2 z2 → ip sc call 129 MC MS Q 87 [some (.ref r_0), some (.int (nI a_1)), some (.int (nI a_2)), some (.int (nI a_3)), some (.int (nI a_4)), some (.int (nI a_5)), some (.int (nI a_6)), o_7] (o.toList ++ [(.ref r_0)]) h2 z2 c s) : ip sc call 129 MC MS Q 82 [some (.ref r_0), some (.int (nI a_1)), some (.int (nI a_2)), some (.int (nI a_3)), some (.int (nI a_4)), some (.int (nI a_5)), some (.int (nI a_6)), o_7] [] h z c s := by
  refine jp_load (pc2 := 83) (n := 0) rfl rfl rfl rfl ?_
  refine jp_load (pc2 := 84) (n := 0) rfl rfl rfl rfl ?_
  exact jp_virt0 (pc2 := 87) (As := []) (rest := [(.ref r_0)]) rfl rfl rfl (Nat.le_of_ble_eq_true rfl) e2 m3 m4 hc rfl K
theorem c129_87 {r_0 : Nat} {a_1 : Nat} {a_2 : Nat} {a_3 : Nat} {a_4 : Nat} {a_5 : Nat} {a_6 : Nat} {o_7 : Option Value} {sr_0 : Nat} {sa_1 : Nat} {fs1 : List Value} {P : ipQ} (e2 : h sr_0 = some (.inr (9, fs1))) (m3 : c ≤ MC) (m4 : s ≤ MS) (hc : call 106 [(.ref sr_0), (.int (nI sa_1)), (.int (nI a_1)), (.int (nI a_2)), (.int (nI a_3)), (.int (nI a_4)), (.int (nI a_5))] h z 0 0 P) (K : ∀ (o : Option Value) (h2 : HP) (z2 : Nat), P o h2 z2 → ip sc call 129 MC MS Q 97 [some (.ref r_0), some (.int (nI a_1)), some (.int (nI a_2)), some (.int (nI a_3)), some (.int (nI a_4)), some (.int (nI a_5)), some (.int (nI a_6)), o_7] (o.toList ++ []) h2 z2 c s) : ip sc call 129 MC MS Q 87 [some (.ref r_0), some (.int (nI a_1)), some (.int (nI a_2)), some (.int (nI a_3)), some (.int (nI a_4)), some (.int (nI a_5)), some (.int (nI a_6)), o_7] [(.int (nI sa_1)), (.ref sr_0)] h z c s := by
  refine jp_load (pc2 := 88) (n := 1) rfl rfl rfl rfl ?_
  refine jp_load (pc2 := 89) (n := 2) rfl rfl rfl rfl ?_
  refine jp_load (pc2 := 90) (n := 3) rfl rfl rfl rfl ?_
  refine jp_load (pc2 := 92) (n := 4) rfl rfl rfl rfl ?_
  refine jp_load (pc2 := 94) (n := 5) rfl rfl rfl rfl ?_
  exact jp_virt0 (pc2 := 97) (As := [(.int (nI sa_1)), (.int (nI a_1)), (.int (nI a_2)), (.int (nI a_3)), (.int (nI a_4)), (.int (nI a_5))]) (rest := []) rfl rfl rfl (Nat.le_of_ble_eq_true rfl) e2 m3 m4 hc rfl K
theorem c129_97 {r_0 : Nat} {a_1 : Nat} {a_2 : Nat} {a_3 : Nat} {a_4 : Nat} {a_5 : Nat} {a_6 : Nat} {o_7 : Option Value} {sa_0 : Nat} (c1 : sa_0 < 2147483648) (K1 : ¬ sa_0 = 0 → ip sc call 129 MC MS Q 102 [some (.ref r_0), some (.int (nI a_1)), some (.int (nI a_2)), some (.int (nI a_3)), some (.int (nI a_4)), some (.int (nI a_5)), some (.int (nI a_6)), o_7] [] h z c s) (K2 : ¬ (¬ sa_0 = 0) → ip sc call 129 MC MS Q 100 [some (.ref r_0), some (.int (nI a_1)), some (.int (nI a_2)), some (.int (nI a_3)), some (.int (nI a_4)), some (.int (nI a_5)), some (.int (nI a_6)), o_7] [] h z c s) : ip sc call 129 MC MS Q 97 [some (.ref r_0), some (.int (nI a_1)), some (.int (nI a_2)), some (.int (nI a_3)), some (.int (nI a_4)), some (.int (nI a_5)), some (.int (nI a_6)), o_7] [(.int (nI sa_0))] h z c s := by
  exact jp_if0 (pc2 := 100) rfl rfl (fun q => K1 ((not_congr (nI_eq c1 (by decide))).mp q)) (fun q => K2 (fun r => q ((not_congr (nI_eq c1 (by decide))).mpr r)))
theorem c129_100 {o_0 : Option Value} {o_1 : Option Value} {o_2 : Option Value} {o_3 : Option Value} {o_4 : Option Value} {o_5 : Option Value} {o_6 : Option Value} {o_7 : Option Value} (q1 : Q (some (.int ((-1)))) h z)  : ip sc call 129 MC MS Q 100 [o_0, o_1, o_2, o_3, o_4, o_5, o_6, o_7] [] h z c s := by
  refine jp_con (pc2 := 101) (v := (.int ((-1)))) rfl rfl rfl ?_
  exact ip_iret (st := []) rfl rfl rfl q1
theorem c129_102 {r_0 : Nat} {a_1 : Nat} {a_2 : Nat} {a_3 : Nat} {a_4 : Nat} {a_5 : Nat} {a_6 : Nat} {o_7 : Option Value} {fs1 : List Value} {P : ipQ} (e2 : h r_0 = some (.inr (9, fs1))) (m3 : c ≤ MC) (m4 : s ≤ MS) (hc : call 128 [(.ref r_0), (.int (nI a_1)), (.int (nI a_2)), (.int (nI a_3)), (.int (nI a_4)), (.int (nI a_5)), (.int (nI a_6))] h z 0 0 P) (K : ∀ (o : Option Value) (h2 : HP) (z2 : Nat), P o h2 z2 → ip sc call 129 MC MS Q 115 [some (.ref r_0), some (.int (nI a_1)), some (.int (nI a_2)), some (.int (nI a_3)), some (.int (nI a_4)), some (.int (nI a_5)), some (.int (nI a_6)), o_7] (o.toList ++ []) h2 z2 c s) : ip sc call 129 MC MS Q 102 [some (.ref r_0), some (.int (nI a_1)), some (.int (nI a_2)), some (.int (nI a_3)), some (.int (nI a_4)), some (.int (nI a_5)), some (.int (nI a_6)), o_7] [] h z c s := by
  refine jp_load (pc2 := 103) (n := 0) rfl rfl rfl rfl ?_
  refine jp_load (pc2 := 104) (n := 1) rfl rfl rfl rfl ?_
  refine jp_load (pc2 := 105) (n := 2) rfl rfl rfl rfl ?_
  refine jp_load (pc2 := 106) (n := 3) rfl rfl rfl rfl ?_
  refine jp_load (pc2 := 108) (n := 4) rfl rfl rfl rfl ?_
  refine jp_load (pc2 := 110) (n := 5) rfl rfl rfl rfl ?_
  refine jp_load (pc2 := 112) (n := 6) rfl rfl rfl rfl ?_
  exact jp_virt0 (pc2 := 115) (As := [(.int (nI a_1)), (.int (nI a_2)), (.int (nI a_3)), (.int (nI a_4)), (.int (nI a_5)), (.int (nI a_6))]) (rest := []) rfl rfl rfl (Nat.le_of_ble_eq_true rfl) e2 m3 m4 hc rfl K
theorem c129_115 {o_0 : Option Value} {o_1 : Option Value} {o_2 : Option Value} {o_3 : Option Value} {o_4 : Option Value} {o_5 : Option Value} {o_6 : Option Value} {o_7 : Option Value} {sa_0 : Nat} (q1 : Q (some (.int (nI sa_0))) h z)  : ip sc call 129 MC MS Q 115 [o_0, o_1, o_2, o_3, o_4, o_5, o_6, o_7] [(.int (nI sa_0))] h z c s := by
  exact ip_iret (st := []) rfl rfl rfl q1
theorem c130_0 {r_0 : Nat} {o_1 : Option Value} {fs1 : List Value} {P : ipQ} (e2 : h r_0 = some (.inr (9, fs1))) (m3 : c ≤ MC) (m4 : s ≤ MS) (hc : call 112 [(.ref r_0)] h z 0 0 P) (K : ∀ (o : Option Value) (h2 : HP) (z2 : Nat), P o h2 z2 → ip sc call 130 MC MS Q 6 [some (.ref r_0), some (.int (nI 0))] (o.toList ++ []) h2 z2 c s) : ip sc call 130 MC MS Q 0 [some (.ref r_0), o_1] [] h z c s := by
  refine jp_con (pc2 := 1) (v := (.int (nI 0))) rfl rfl rfl ?_
  refine jp_store (pc2 := 2) (n := 1) rfl rfl ⟨rfl, rfl⟩ rfl (Nat.le_of_ble_eq_true rfl) ?_
  refine jp_load (pc2 := 3) (n := 0) rfl rfl rfl rfl ?_
  exact jp_virt0 (pc2 := 6) (As := []) (rest := []) rfl rfl rfl (Nat.le_of_ble_eq_true rfl) e2 m3 m4 hc rfl K
theorem c130_6 {r_0 : Nat} {a_1 : Nat} {fs1 : List Value} {P : ipQ} (e2 : h r_0 = some (.inr (9, fs1))) (m3 : c ≤ MC) (m4 : s ≤ MS) (hc : call 94 [(.ref r_0)] h z 0 0 P) (K : ∀ (o : Option Value) (h2 : HP) (z2 : Nat), P o h2 z2 → ip sc call 130 MC MS Q 11 [some (.ref r_0), some (.int (nI a_1))] (o.toList ++ [(.ref r_0)]) h2 z2 c s) : ip sc call 130 MC MS Q 6 [some (.ref r_0), some (.int (nI a_1))] [] h z c s := by
  refine jp_load (pc2 := 7) (n := 0) rfl rfl rfl rfl ?_
  refine jp_load (pc2 := 8) (n := 0) rfl rfl rfl rfl ?_
  exact jp_virt0 (pc2 := 11) (As := []) (rest := [(.ref r_0)]) rfl rfl rfl (Nat.le_of_ble_eq_true rfl) e2 m3 m4 hc rfl K
theorem c130_11 {r_0 : Nat} {a_1 : Nat} {sr_0 : Nat} {sa_1 : Nat} {fs1 : List Value} {P : ipQ} (e2 : h sr_0 = some (.inr (9, fs1))) (m3 : c ≤ MC) (m4 : s ≤ MS) (hc : call 114 [(.ref sr_0), (.int (nI sa_1))] h z 0 0 P) (K : ∀ (o : Option Value) (h2 : HP) (z2 : Nat), P o h2 z2 → ip sc call 130 MC MS Q 14 [some (.ref r_0), some (.int (nI a_1))] (o.toList ++ []) h2 z2 c s) : ip sc call 130 MC MS Q 11 [some (.ref r_0), some (.int (nI a_1))] [(.int (nI sa_1)), (.ref sr_0)] h z c s := by
  exact jp_virt0 (pc2 := 14) (As := [(.int (nI sa_1))]) (rest := []) rfl rfl rfl (Nat.le_of_ble_eq_true rfl) e2 m3 m4 hc rfl K
theorem c130_14 {r_0 : Nat} {a_1 : Nat} {sa_0 : Nat} (c1 : sa_0 < 2147483648) (K1 : sa_0 = 0 → ip sc call 130 MC MS Q 23 [some (.ref r_0), some (.int (nI a_1))] [] h z c s) (K2 : ¬ (sa_0 = 0) → ip sc call 130 MC MS Q 17 [some (.ref r_0), some (.int (nI a_1))] [] h z c s) : ip sc call 130 MC MS Q 14 [some (.ref r_0), some (.int (nI a_1))] [(.int (nI sa_0))] h z c s := by
  exact jp_if0 (pc2 := 17) rfl rfl (fun q => K1 ((nI_eq c1 (by decide)).mp q)) (fun q => K2 (fun r => q ((nI_eq c1 (by decide)).mpr r)))
theorem c130_17 {r_0 : Nat} {a_1 : Nat}  (K : ip sc call 130 MC MS Q 6 [some (.ref r_0), some (.int (nI (a_1 + 1)))] [] h z c s) : ip sc call 130 MC MS Q 17 [some (.ref r_0), some (.int (nI a_1))] [] h z c s := by
  refine jp_iinc (pc2 := 20) (n := 1) (v := nI (a_1 + 1)) rfl rfl rfl (nI_add _ 1) rfl ?_
  refine ip_goto rfl ?_
  exact K
theorem c130_23 {o_0 : Option Value} {a_1 : Nat} (q1 : Q (some (.int (nI a_1))) h z)  : ip sc call 130 MC MS Q 23 [o_0, some (.int (nI a_1))] [] h z c s := by
  refine jp_load (pc2 := 24) (n := 1) rfl rfl rfl rfl ?_
  exact ip_iret (st := []) rfl rfl rfl q1
theorem c131_0 {r_0 : Nat} {a_1 : Nat} {o_2 : Option Value} {o_3 : Option Value} {fs1 : List Value} {P : ipQ} (e2 : h r_0 = some (.inr (9, fs1))) (m3 : c ≤ MC) (m4 : s ≤ MS) (hc : call 112 [(.ref r_0)] h z 0 0 P) (K : ∀ (o : Option Value) (h2 : HP) (z2 : Nat), P o h2 z2 → ip sc call 131 MC MS Q 4 [some (.ref r_0), some (.int (nI a_1)), o_2, o_3] (o.toList ++ []) h2 z2 c s) : ip sc call 131 MC MS Q 0 [some (.ref r_0), some (.int (nI a_1)), o_2, o_3] [] h z c s := by
  refine jp_load (pc2 := 1) (n := 0) rfl rfl rfl rfl ?_
  exact jp_virt0 (pc2 := 4) (As := []) (rest := []) rfl rfl rfl (Nat.le_of_ble_eq_true rfl) e2 m3 m4 hc rfl K
theorem c131_4 {r_0 : Nat} {a_1 : Nat} {o_2 : Option Value} {o_3 : Option Value} (c1 : a_1 < 2147483648) (K1 : a_1 < 0 → ip sc call 131 MC MS Q 12 [some (.ref r_0), some (.int (nI a_1)), o_2, o_3] [] h z c s) (K2 : ¬ (a_1 < 0) → ip sc call 131 MC MS Q 8 [some (.ref r_0), some (.int (nI a_1)), o_2, o_3] [] h z c s) : ip sc call 131 MC MS Q 4 [some (.ref r_0), some (.int (nI a_1)), o_2, o_3] [] h z c s := by
  refine jp_load (pc2 := 5) (n := 1) rfl rfl rfl rfl ?_
  exact jp_if0 (pc2 := 8) rfl rfl (fun q => K1 ((nI_ltI c1 (by decide)).mp q)) (fun q => K2 (fun r => q ((nI_ltI c1 (by decide)).mpr r)))
theorem c131_8 {r_0 : Nat} {a_1 : Nat} {o_2 : Option Value} {o_3 : Option Value}  (K : ip sc call 131 MC MS Q 13 [some (.ref r_0), some (.int (nI a_1)), o_2, o_3] [(.int (nI 1))] h z c s) : ip sc call 131 MC MS Q 8 [some (.ref r_0), some (.int (nI a_1)), o_2, o_3] [] h z c s := by
  refine jp_con (pc2 := 9) (v := (.int (nI 1))) rfl rfl rfl ?_
  refine ip_goto rfl ?_
  exact K
theorem c131_12 {r_0 : Nat} {a_1 : Nat} {o_2 : Option Value} {o_3 : Option Value}  (K : ip sc call 131 MC MS Q 13 [some (.ref r_0), some (.int (nI a_1)), o_2, o_3] [(.int (nI 0))] h z c s) : ip sc call 131 MC MS Q 12 [some (.ref r_0), some (.int (nI a_1)), o_2, o_3] [] h z c s := by
  refine jp_con (pc2 := 13) (v := (.int (nI 0))) rfl rfl rfl ?_
  exact K
theorem c131_13 {r_0 : Nat} {a_1 : Nat} {o_2 : Option Value} {o_3 : Option Value} {sa_0 : Nat}  (K : ip sc call 131 MC MS Q 16 [some (.ref r_0), some (.int (nI a_1)), some (.int (nI sa_0)), some (.int (nI 0))] [] h z c s) : ip sc call 131 MC MS Q 13 [some (.ref r_0), some (.int (nI a_1)), o_2, o_3] [(.int (nI sa_0))] h z c s := by
  refine jp_store (pc2 := 14) (n := 2) rfl rfl ⟨rfl, rfl⟩ rfl (Nat.le_of_ble_eq_true rfl) ?_
  refine jp_con (pc2 := 15) (v := (.int (nI 0))) rfl rfl rfl ?_
  refine jp_store (pc2 := 16) (n := 3) rfl rfl ⟨rfl, rfl⟩ rfl (Nat.le_of_ble_eq_true rfl) ?_
  exact K
theorem c131_16 {r_0 : Nat} {a_1 : Nat} {a_2 : Nat} {a_3 : Nat} (c1 : a_3 < 2147483648) (c2 : a_1 < 2147483648) (K1 : a_1 < a_3 → ip sc call 131 MC MS Q 40 [some (.ref r_0), some (.int (nI a_1)), some (.int (nI a_2)), some (.int (nI a_3))] [] h z c s) (K2 : ¬ (a_1 < a_3) → ip sc call 131 MC MS Q 21 [some (.ref r_0), some (.int (nI a_1)), some (.int (nI a_2)), some (.int (nI a_3))] [] h z c s) : ip sc call 131 MC MS Q 16 [some (.ref r_0), some (.int (nI a_1)), some (.int (nI a_2)), some (.int (nI a_3))] [] h z c s := by
  refine jp_load (pc2 := 17) (n := 3) rfl rfl rfl rfl ?_
  refine jp_load (pc2 := 18) (n := 1) rfl rfl rfl rfl ?_
  exact jp_icmp (pc2 := 21) rfl rfl (fun q => K1 ((nI_ltI c2 c1).mp q)) (fun q => K2 (fun r => q ((nI_ltI c2 c1).mpr r)))
theorem c131_21 {r_0 : Nat} {a_1 : Nat} {a_2 : Nat} {a_3 : Nat} (c1 : a_2 < 2147483648) (K1 : a_2 = 0 → ip sc call 131 MC MS Q 40 [some (.ref r_0), some (.int (nI a_1)), some (.int (nI a_2)), some (.int (nI a_3))] [] h z c s) (K2 : ¬ (a_2 = 0) → ip sc call 131 MC MS Q 25 [some (.ref r_0), some (.int (nI a_1)), some (.int (nI a_2)), some (.int (nI a_3))] [] h z c s) : ip sc call 131 MC MS Q 21 [some (.ref r_0), some (.int (nI a_1)), some (.int (nI a_2)), some (.int (nI a_3))] [] h z c s := by
  refine jp_load (pc2 := 22) (n := 2) rfl rfl rfl rfl ?_
  exact jp_if0 (pc2 := 25) rfl rfl (fun q => K1 ((nI_eq c1 (by decide)).mp q)) (fun q => K2 (fun r => q ((nI_eq c1 (by decide)).mpr r)))
theorem c131_25 {r_0 : Nat} {a_1 : Nat} {o_2 : Option Value} {a_3 : Nat} {fs1 : List Value} {P : ipQ} (e2 : h r_0 = some (.inr (9, fs1))) (m3 : c ≤ MC) (m4 : s ≤ MS) (hc : call 94 [(.ref r_0)] h z 0 0 P) (K : ∀ (o : Option Value) (h2 : HP) (z2 : Nat), P o h2 z2 → ip sc call 131 MC MS Q 30 [some (.ref r_0), some (.int (nI a_1)), o_2, some (.int (nI a_3))] (o.toList ++ [(.ref r_0)]) h2 z2 c s) : ip sc call 131 MC MS Q 25 [some (.ref r_0), some (.int (nI a_1)), o_2, some (.int (nI a_3))] [] h z c s := by
  refine jp_load (pc2 := 26) (n := 0) rfl rfl rfl rfl ?_
  refine jp_load (pc2 := 27) (n := 0) rfl rfl rfl rfl ?_
  exact jp_virt0 (pc2 := 30) (As := []) (rest := [(.ref r_0)]) rfl rfl rfl (Nat.le_of_ble_eq_true rfl) e2 m3 m4 hc rfl K
theorem c131_30 {r_0 : Nat} {a_1 : Nat} {o_2 : Option Value} {a_3 : Nat} {sr_0 : Nat} {sa_1 : Nat} {fs1 : List Value} {P : ipQ} (e2 : h sr_0 = some (.inr (9, fs1))) (m3 : c ≤ MC) (m4 : s ≤ MS) (hc : call 114 [(.ref sr_0), (.int (nI sa_1))] h z 0 0 P) (K : ∀ (o : Option Value) (h2 : HP) (z2 : Nat), P o h2 z2 → ip sc call 131 MC MS Q 33 [some (.ref r_0), some (.int (nI a_1)), o_2, some (.int (nI a_3))] (o.toList ++ []) h2 z2 c s) : ip sc call 131 MC MS Q 30 [some (.ref r_0), some (.int (nI a_1)), o_2, some (.int (nI a_3))] [(.int (nI sa_1)), (.ref sr_0)] h z c s := by
  exact jp_virt0 (pc2 := 33) (As := [(.int (nI sa_1))]) (rest := []) rfl rfl rfl (Nat.le_of_ble_eq_true rfl) e2 m3 m4 hc rfl K
theorem c131_33 {r_0 : Nat} {a_1 : Nat} {o_2 : Option Value} {a_3 : Nat} {sa_0 : Nat}  (K : ip sc call 131 MC MS Q 16 [some (.ref r_0), some (.int (nI a_1)), some (.int (nI sa_0)), some (.int (nI (a_3 + 1)))] [] h z c s) : ip sc call 131 MC MS Q 33 [some (.ref r_0), some (.int (nI a_1)), o_2, some (.int (nI a_3))] [(.int (nI sa_0))] h z c s := by
  refine jp_store (pc2 := 34) (n := 2) rfl rfl ⟨rfl, rfl⟩ rfl (Nat.le_of_ble_eq_true rfl) ?_
  refine jp_iinc (pc2 := 37) (n := 3) (v := nI (a_3 + 1)) rfl rfl rfl (nI_add _ 1) rfl ?_
  refine ip_goto rfl ?_
  exact K
theorem c131_40 {o_0 : Option Value} {o_1 : Option Value} {a_2 : Nat} {o_3 : Option Value} (t1 : narrow .boolean (.int (nI a_2)) = .int (nI a_2)) (q2 : Q (some (.int (nI a_2))) h z)  : ip sc call 131 MC MS Q 40 [o_0, o_1, some (.int (nI a_2)), o_3] [] h z c s := by
  refine jp_load (pc2 := 41) (n := 2) rfl rfl rfl rfl ?_
  exact ip_iret (st := []) rfl rfl t1 q2
theorem c132_0 {r_0 : Nat} {a_1 : Nat} {fs1 : List Value} {P : ipQ} (e2 : h r_0 = some (.inr (9, fs1))) (m3 : c ≤ MC) (m4 : s ≤ MS) (hc : call 131 [(.ref r_0), (.int (nI a_1))] h z 0 0 P) (K : ∀ (o : Option Value) (h2 : HP) (z2 : Nat), P o h2 z2 → ip sc call 132 MC MS Q 5 [some (.ref r_0), some (.int (nI a_1))] (o.toList ++ []) h2 z2 c s) : ip sc call 132 MC MS Q 0 [some (.ref r_0), some (.int (nI a_1))] [] h z c s := by
  refine jp_load (pc2 := 1) (n := 0) rfl rfl rfl rfl ?_
  refine jp_load (pc2 := 2) (n := 1) rfl rfl rfl rfl ?_
  exact jp_virt0 (pc2 := 5) (As := [(.int (nI a_1))]) (rest := []) rfl rfl rfl (Nat.le_of_ble_eq_true rfl) e2 m3 m4 hc rfl K
theorem c132_5 {r_0 : Nat} {o_1 : Option Value} {sa_0 : Nat} (c1 : sa_0 < 2147483648) (K1 : sa_0 = 0 → ip sc call 132 MC MS Q 39 [some (.ref r_0), o_1] [] h z c s) (K2 : ¬ (sa_0 = 0) → ip sc call 132 MC MS Q 8 [some (.ref r_0), o_1] [] h z c s) : ip sc call 132 MC MS Q 5 [some (.ref r_0), o_1] [(.int (nI sa_0))] h z c s := by
  exact jp_if0 (pc2 := 8) rfl rfl (fun q => K1 ((nI_eq c1 (by decide)).mp q)) (fun q => K2 (fun r => q ((nI_eq c1 (by decide)).mpr r)))
theorem c132_8 {r_0 : Nat} {o_1 : Option Value} {fs1 : List Value} {v_fs1_6 : Nat} {v_fs1_7 : Nat} {v_fs1_8 : Nat} {v_fs1_9 : Nat} {v_fs1_10 : Nat} {v_fs1_11 : Nat} {P : ipQ} (e2 : h r_0 = some (.inr (9, fs1))) (e3 : fs1[6]? = some (.int (nI v_fs1_6))) (e4 : fs1[7]? = some (.int (nI v_fs1_7))) (e5 : fs1[8]? = some (.int (nI v_fs1_8))) (e6 : fs1[9]? = some (.int (nI v_fs1_9))) (e7 : fs1[10]? = some (.int (nI v_fs1_10))) (e8 : fs1[11]? = some (.int (nI v_fs1_11))) (m9 : c ≤ MC) (m10 : s ≤ MS) (hc : call 128 [(.ref r_0), (.int (nI v_fs1_6)), (.int (nI v_fs1_7)), (.int (nI v_fs1_8)), (.int (nI v_fs1_9)), (.int (nI v_fs1_10)), (.int (nI v_fs1_11))] h z 0 0 P) (K : ∀ (o : Option Value) (h2 : HP) (z2 : Nat), P o h2 z2 → ip sc call 132 MC MS Q 36 [some (.ref r_0), o_1] (o.toList ++ []) h2 z2 c s) : ip sc call 132 MC MS Q 8 [some (.ref r_0), o_1] [] h z c s := by
  refine jp_load (pc2 := 9) (n := 0) rfl rfl rfl rfl ?_
  refine jp_load (pc2 := 10) (n := 0) rfl rfl rfl rfl ?_
  refine jp_getf (pc2 := 13) rfl rfl e2 e3 ?_
  refine jp_load (pc2 := 14) (n := 0) rfl rfl rfl rfl ?_
  refine jp_getf (pc2 := 17) rfl rfl e2 e4 ?_
  refine jp_load (pc2 := 18) (n := 0) rfl rfl rfl rfl ?_
  refine jp_getf (pc2 := 21) rfl rfl e2 e5 ?_
  refine jp_load (pc2 := 22) (n := 0) rfl rfl rfl rfl ?_
  refine jp_getf (pc2 := 25) rfl rfl e2 e6 ?_
  refine jp_load (pc2 := 26) (n := 0) rfl rfl rfl rfl ?_
  refine jp_getf (pc2 := 29) rfl rfl e2 e7 ?_
  refine jp_load (pc2 := 30) (n := 0) rfl rfl rfl rfl ?_
  refine jp_getf (pc2 := 33) rfl rfl e2 e8 ?_
  exact jp_virt0 (pc2 := 36) (As := [(.int (nI v_fs1_6)), (.int (nI v_fs1_7)), (.int (nI v_fs1_8)), (.int (nI v_fs1_9)), (.int (nI v_fs1_10)), (.int (nI v_fs1_11))]) (rest := []) rfl rfl rfl (Nat.le_of_ble_eq_true rfl) e2 m9 m10 hc rfl K
theorem c132_36 {o_0 : Option Value} {o_1 : Option Value} {sa_0 : Nat}  (K : ip sc call 132 MC MS Q 40 [o_0, o_1] [(.int (nI sa_0))] h z c s) : ip sc call 132 MC MS Q 36 [o_0, o_1] [(.int (nI sa_0))] h z c s := by
  refine ip_goto rfl ?_
  exact K
theorem c132_39 {o_0 : Option Value} {o_1 : Option Value}  (K : ip sc call 132 MC MS Q 40 [o_0, o_1] [(.int ((-1)))] h z c s) : ip sc call 132 MC MS Q 39 [o_0, o_1] [] h z c s := by
  refine jp_con (pc2 := 40) (v := (.int ((-1)))) rfl rfl rfl ?_
  exact K
theorem c132_40 {o_0 : Option Value} {o_1 : Option Value} {sa_0 : Nat} (q1 : Q (some (.int (nI sa_0))) h z)  : ip sc call 132 MC MS Q 40 [o_0, o_1] [(.int (nI sa_0))] h z c s := by
  exact ip_iret (st := []) rfl rfl rfl q1
theorem c133_0 {r_0 : Nat} {a_1 : Nat} {a_2 : Nat} {P : ipQ} (m1 : c ≤ MC) (m2 : s ≤ MS) (hc : call 95 [(.int (nI a_2)), (.int (nI 6))] h z 0 0 P) (K : ∀ (o : Option Value) (h2 : HP) (z2 : Nat), P o h2 z2 → ip sc call 133 MC MS Q 6 [some (.ref r_0), some (.int (nI a_1)), some (.int (nI a_2))] (o.toList ++ []) h2 z2 c s) : ip sc call 133 MC MS Q 0 [some (.ref r_0), some (.int (nI a_1)), some (.int (nI a_2))] [] h z c s := by
  refine jp_load (pc2 := 1) (n := 2) rfl rfl rfl rfl ?_
  refine jp_con (pc2 := 3) (v := (.int (nI 6))) rfl rfl rfl ?_
  exact jp_stat0 (pc2 := 6) (As := [(.int (nI a_2)), (.int (nI 6))]) (rest := []) rfl rfl rfl (Nat.le_of_ble_eq_true rfl) m1 m2 (by decide) hc rfl K
theorem c133_6 {r_0 : Nat} {a_1 : Nat} {a_2 : Nat} {sa_0 : Nat} (c1 : sa_0 < 2147483648) (K1 : sa_0 = 0 → ip sc call 133 MC MS Q 17 [some (.ref r_0), some (.int (nI a_1)), some (.int (nI a_2))] [] h z c s) (K2 : ¬ (sa_0 = 0) → ip sc call 133 MC MS Q 9 [some (.ref r_0), some (.int (nI a_1)), some (.int (nI a_2))] [] h z c s) : ip sc call 133 MC MS Q 6 [some (.ref r_0), some (.int (nI a_1)), some (.int (nI a_2))] [(.int (nI sa_0))] h z c s := by
  exact jp_if0 (pc2 := 9) rfl rfl (fun q => K1 ((nI_eq c1 (by decide)).mp q)) (fun q => K2 (fun r => q ((nI_eq c1 (by decide)).mpr r)))
theorem c133_9 {r_0 : Nat} {a_1 : Nat} {a_2 : Nat} {fs1 : List Value} {P : ipQ} (e2 : h r_0 = some (.inr (9, fs1))) (m3 : c ≤ MC) (m4 : s ≤ MS) (hc : call 131 [(.ref r_0), (.int (nI a_1))] h z 0 0 P) (K : ∀ (o : Option Value) (h2 : HP) (z2 : Nat), P o h2 z2 → ip sc call 133 MC MS Q 14 [some (.ref r_0), some (.int (nI a_1)), some (.int (nI a_2))] (o.toList ++ []) h2 z2 c s) : ip sc call 133 MC MS Q 9 [some (.ref r_0), some (.int (nI a_1)), some (.int (nI a_2))] [] h z c s := by
  refine jp_load (pc2 := 10) (n := 0) rfl rfl rfl rfl ?_
  refine jp_load (pc2 := 11) (n := 1) rfl rfl rfl rfl ?_
  exact jp_virt0 (pc2 := 14) (As := [(.int (nI a_1))]) (rest := []) rfl rfl rfl (Nat.le_of_ble_eq_true rfl) e2 m3 m4 hc rfl K
theorem c133_14 {r_0 : Nat} {o_1 : Option Value} {a_2 : Nat} {sa_0 : Nat} (c1 : sa_0 < 2147483648) (K1 : ¬ sa_0 = 0 → ip sc call 133 MC MS Q 19 [some (.ref r_0), o_1, some (.int (nI a_2))] [] h z c s) (K2 : ¬ (¬ sa_0 = 0) → ip sc call 133 MC MS Q 17 [some (.ref r_0), o_1, some (.int (nI a_2))] [] h z c s) : ip sc call 133 MC MS Q 14 [some (.ref r_0), o_1, some (.int (nI a_2))] [(.int (nI sa_0))] h z c s := by
  exact jp_if0 (pc2 := 17) rfl rfl (fun q => K1 ((not_congr (nI_eq c1 (by decide))).mp q)) (fun q => K2 (fun r => q ((not_congr (nI_eq c1 (by decide))).mpr r)))
theorem c133_17 {o_0 : Option Value} {o_1 : Option Value} {o_2 : Option Value} (q1 : Q (some (.int ((-1)))) h z)  : ip sc call 133 MC MS Q 17 [o_0, o_1, o_2] [] h z c s := by
  refine jp_con (pc2 := 18) (v := (.int ((-1)))) rfl rfl rfl ?_
  exact ip_iret (st := []) rfl rfl rfl q1
theorem c133_19 {r_0 : Nat} {o_1 : Option Value} {a_2 : Nat} {tgt : Nat} (t1 : ipTab 20 61 0 4 #[36, 41, 46, 51, 56] (nI a_2) = some tgt) (K : ip sc call 133 MC MS Q tgt [some (.ref r_0), o_1, some (.int (nI a_2))] [] h z c s) : ip sc call 133 MC MS Q 19 [some (.ref r_0), o_1, some (.int (nI a_2))] [] h z c s := by
  refine jp_load (pc2 := 20) (n := 2) rfl rfl rfl rfl ?_
  exact ip_tab rfl t1 K
theorem c133_56 {r_0 : Nat} {o_1 : Option Value} {o_2 : Option Value} {fs1 : List Value} {v_fs1_6 : Nat} (e2 : h r_0 = some (.inr (9, fs1))) (e3 : fs1[6]? = some (.int (nI v_fs1_6))) (q4 : Q (some (.int (nI v_fs1_6))) h z)  : ip sc call 133 MC MS Q 56 [some (.ref r_0), o_1, o_2] [] h z c s := by
  refine jp_load (pc2 := 57) (n := 0) rfl rfl rfl rfl ?_
  refine jp_getf (pc2 := 60) rfl rfl e2 e3 ?_
  exact ip_iret (st := []) rfl rfl rfl q4
theorem c133_61 {r_0 : Nat} {o_1 : Option Value} {o_2 : Option Value} {fs1 : List Value} {v_fs1_7 : Nat} (e2 : h r_0 = some (.inr (9, fs1))) (e3 : fs1[7]? = some (.int (nI v_fs1_7))) (q4 : Q (some (.int (nI v_fs1_7))) h z)  : ip sc call 133 MC MS Q 61 [some (.ref r_0), o_1, o_2] [] h z c s := by
  refine jp_load (pc2 := 62) (n := 0) rfl rfl rfl rfl ?_
  refine jp_getf (pc2 := 65) rfl rfl e2 e3 ?_
  exact ip_iret (st := []) rfl rfl rfl q4
theorem c133_66 {r_0 : Nat} {o_1 : Option Value} {o_2 : Option Value} {fs1 : List Value} {v_fs1_8 : Nat} (e2 : h r_0 = some (.inr (9, fs1))) (e3 : fs1[8]? = some (.int (nI v_fs1_8))) (q4 : Q (some (.int (nI v_fs1_8))) h z)  : ip sc call 133 MC MS Q 66 [some (.ref r_0), o_1, o_2] [] h z c s := by
  refine jp_load (pc2 := 67) (n := 0) rfl rfl rfl rfl ?_
  refine jp_getf (pc2 := 70) rfl rfl e2 e3 ?_
  exact ip_iret (st := []) rfl rfl rfl q4
theorem c133_71 {r_0 : Nat} {o_1 : Option Value} {o_2 : Option Value} {fs1 : List Value} {v_fs1_9 : Nat} (e2 : h r_0 = some (.inr (9, fs1))) (e3 : fs1[9]? = some (.int (nI v_fs1_9))) (q4 : Q (some (.int (nI v_fs1_9))) h z)  : ip sc call 133 MC MS Q 71 [some (.ref r_0), o_1, o_2] [] h z c s := by
  refine jp_load (pc2 := 72) (n := 0) rfl rfl rfl rfl ?_
  refine jp_getf (pc2 := 75) rfl rfl e2 e3 ?_
  exact ip_iret (st := []) rfl rfl rfl q4
theorem c133_76 {r_0 : Nat} {o_1 : Option Value} {o_2 : Option Value} {fs1 : List Value} {v_fs1_10 : Nat} (e2 : h r_0 = some (.inr (9, fs1))) (e3 : fs1[10]? = some (.int (nI v_fs1_10))) (q4 : Q (some (.int (nI v_fs1_10))) h z)  : ip sc call 133 MC MS Q 76 [some (.ref r_0), o_1, o_2] [] h z c s := by
  refine jp_load (pc2 := 77) (n := 0) rfl rfl rfl rfl ?_
  refine jp_getf (pc2 := 80) rfl rfl e2 e3 ?_
  exact ip_iret (st := []) rfl rfl rfl q4
theorem c133_81 {r_0 : Nat} {o_1 : Option Value} {o_2 : Option Value} {fs1 : List Value} {v_fs1_11 : Nat} (e2 : h r_0 = some (.inr (9, fs1))) (e3 : fs1[11]? = some (.int (nI v_fs1_11))) (q4 : Q (some (.int (nI v_fs1_11))) h z)  : ip sc call 133 MC MS Q 81 [some (.ref r_0), o_1, o_2] [] h z c s := by
  refine jp_load (pc2 := 82) (n := 0) rfl rfl rfl rfl ?_
  refine jp_getf (pc2 := 85) rfl rfl e2 e3 ?_
  exact ip_iret (st := []) rfl rfl rfl q4
theorem c134_0 {r_0 : Nat} {fs1 : List Value} {q_fs1_0 : Nat} {n4 : Nat} {f5 : Nat → Int32} {v9 : Nat} (e2 : h r_0 = some (.inr (9, fs1))) (e3 : fs1[0]? = some (.ref q_fs1_0)) (e6 : h q_fs1_0 = some (.inl (0, n4, .inl f5))) (b7 : 0 < n4) (c8 : n4 < 2147483648) (e10 : f5 0 = nI v9) (c11 : v9 < 2147483648) (K1 : ¬ v9 = 0 → ip sc call 134 MC MS Q 11 [some (.ref r_0)] [] h z c s) (K2 : ¬ (¬ v9 = 0) → ip sc call 134 MC MS Q 9 [some (.ref r_0)] [] h z c s) : ip sc call 134 MC MS Q 0 [some (.ref r_0)] [] h z c s := by
  refine jp_load (pc2 := 1) (n := 0) rfl rfl rfl rfl ?_
  refine jp_getf (pc2 := 4) rfl rfl e2 e3 ?_
  refine jp_con (pc2 := 5) (v := (.int (nI 0))) rfl rfl rfl ?_
  refine jp_iald (pc2 := 6) rfl rfl e6 (vp_in_nI b7 c8) ?_
  rw [(nI_clamp (Nat.lt_trans b7 c8))]
  rw [e10]
  exact jp_if0 (pc2 := 9) rfl rfl (fun q => K1 ((not_congr (nI_eq c11 (by decide))).mp q)) (fun q => K2 (fun r => q ((not_congr (nI_eq c11 (by decide))).mpr r)))
theorem c134_9 {o_0 : Option Value} (q1 : Q (some (.int ((-1)))) h z)  : ip sc call 134 MC MS Q 9 [o_0] [] h z c s := by
  refine jp_con (pc2 := 10) (v := (.int ((-1)))) rfl rfl rfl ?_
  exact ip_iret (st := []) rfl rfl rfl q1
theorem c134_11 {r_0 : Nat} {fs1 : List Value} {q_fs1_0 : Nat} {n4 : Nat} {f5 : Nat → Int32} {v9 : Nat} {g12 : Nat → Int32} {v15 : Nat} (e2 : h r_0 = some (.inr (9, fs1))) (e3 : fs1[0]? = some (.ref q_fs1_0)) (e6 : h q_fs1_0 = some (.inl (0, n4, .inl f5))) (b7 : 0 < n4) (c8 : n4 < 2147483648) (e10 : f5 0 = nI v9) (d11 : 1 ≤ v9) (d13 : upd f5 0 (nI (v9 - 1)) = g12) (n14 : r_0 ≠ q_fs1_0) (e16 : g12 0 = nI v15) (q17 : Q (some (.int (nI v15))) (hup h q_fs1_0 (.inl (0, n4, .inl g12))) z)  : ip sc call 134 MC MS Q 11 [some (.ref r_0)] [] h z c s := by
  refine jp_load (pc2 := 12) (n := 0) rfl rfl rfl rfl ?_
  refine jp_getf (pc2 := 15) rfl rfl e2 e3 ?_
  refine jp_con (pc2 := 16) (v := (.int (nI 0))) rfl rfl rfl ?_
  refine jp_dup2 (pc2 := 17) rfl rfl rfl rfl ?_
  refine jp_iald (pc2 := 18) rfl rfl e6 (vp_in_nI b7 c8) ?_
  rw [(nI_clamp (Nat.lt_trans b7 c8))]
  rw [e10]
  refine jp_con (pc2 := 19) (v := (.int (nI 1))) rfl rfl rfl ?_
  refine jp_bin (pc2 := 20) (v := nI (v9 - 1)) rfl rfl (congrArg some (pk_sub d11)) ?_
  refine jp_iast (pc2 := 21) rfl rfl e6 (vp_in_nI b7 c8) ?_
  rw [(nI_clamp (Nat.lt_trans b7 c8))]
  rw [d13]
  refine jp_load (pc2 := 22) (n := 0) rfl rfl rfl rfl ?_
  refine jp_getf (pc2 := 25) rfl rfl (hup_ne n14 e2) e3 ?_
  refine jp_con (pc2 := 26) (v := (.int (nI 0))) rfl rfl rfl ?_
  refine jp_iald (pc2 := 27) rfl rfl hup_eq (vp_in_nI b7 c8) ?_
  rw [(nI_clamp (Nat.lt_trans b7 c8))]
  rw [e16]
  exact ip_iret (st := []) rfl rfl rfl q17
theorem c135_0 {r_0 : Nat} {a_1 : Nat} {a_2 : Nat} {fs1 : List Value} {q_fs1_0 : Nat} {n4 : Nat} {f5 : Nat → Int32} {v9 : Nat} {P : ipQ} (e2 : h r_0 = some (.inr (9, fs1))) (e3 : fs1[0]? = some (.ref q_fs1_0)) (e6 : h q_fs1_0 = some (.inl (0, n4, .inl f5))) (b7 : 0 < n4) (c8 : n4 < 2147483648) (e10 : f5 0 = nI v9) (m11 : c ≤ MC) (m12 : s ≤ MS) (hc : call 95 [(.int (nI a_1)), (.int (nI v9))] h z 0 0 P) (K : ∀ (o : Option Value) (h2 : HP) (z2 : Nat), P o h2 z2 → ip sc call 135 MC MS Q 10 [some (.ref r_0), some (.int (nI a_1)), some (.int (nI a_2))] (o.toList ++ []) h2 z2 c s) : ip sc call 135 MC MS Q 0 [some (.ref r_0), some (.int (nI a_1)), some (.int (nI a_2))] [] h z c s := by
  refine jp_load (pc2 := 1) (n := 1) rfl rfl rfl rfl ?_
  refine jp_load (pc2 := 2) (n := 0) rfl rfl rfl rfl ?_
  refine jp_getf (pc2 := 5) rfl rfl e2 e3 ?_
  refine jp_con (pc2 := 6) (v := (.int (nI 0))) rfl rfl rfl ?_
  refine jp_iald (pc2 := 7) rfl rfl e6 (vp_in_nI b7 c8) ?_
  rw [(nI_clamp (Nat.lt_trans b7 c8))]
  rw [e10]
  exact jp_stat0 (pc2 := 10) (As := [(.int (nI a_1)), (.int (nI v9))]) (rest := []) rfl rfl rfl (Nat.le_of_ble_eq_true rfl) m11 m12 (by decide) hc rfl K
theorem c135_10 {r_0 : Nat} {a_1 : Nat} {a_2 : Nat} {sa_0 : Nat} (c1 : sa_0 < 2147483648) (K1 : sa_0 = 0 → ip sc call 135 MC MS Q 40 [some (.ref r_0), some (.int (nI a_1)), some (.int (nI a_2))] [] h z c s) (K2 : ¬ (sa_0 = 0) → ip sc call 135 MC MS Q 13 [some (.ref r_0), some (.int (nI a_1)), some (.int (nI a_2))] [] h z c s) : ip sc call 135 MC MS Q 10 [some (.ref r_0), some (.int (nI a_1)), some (.int (nI a_2))] [(.int (nI sa_0))] h z c s := by
  exact jp_if0 (pc2 := 13) rfl rfl (fun q => K1 ((nI_eq c1 (by decide)).mp q)) (fun q => K2 (fun r => q ((nI_eq c1 (by decide)).mpr r)))
theorem c135_13 {r_0 : Nat} {a_1 : Nat} {a_2 : Nat} {P : ipQ} (m1 : c ≤ MC) (m2 : s ≤ MS) (hc : call 95 [(.int (nI a_2)), (.int (nI 6))] h z 0 0 P) (K : ∀ (o : Option Value) (h2 : HP) (z2 : Nat), P o h2 z2 → ip sc call 135 MC MS Q 19 [some (.ref r_0), some (.int (nI a_1)), some (.int (nI a_2))] (o.toList ++ []) h2 z2 c s) : ip sc call 135 MC MS Q 13 [some (.ref r_0), some (.int (nI a_1)), some (.int (nI a_2))] [] h z c s := by
  refine jp_load (pc2 := 14) (n := 2) rfl rfl rfl rfl ?_
  refine jp_con (pc2 := 16) (v := (.int (nI 6))) rfl rfl rfl ?_
  exact jp_stat0 (pc2 := 19) (As := [(.int (nI a_2)), (.int (nI 6))]) (rest := []) rfl rfl rfl (Nat.le_of_ble_eq_true rfl) m1 m2 (by decide) hc rfl K
theorem c135_19 {r_0 : Nat} {a_1 : Nat} {a_2 : Nat} {sa_0 : Nat} (c1 : sa_0 < 2147483648) (K1 : sa_0 = 0 → ip sc call 135 MC MS Q 40 [some (.ref r_0), some (.int (nI a_1)), some (.int (nI a_2))] [] h z c s) (K2 : ¬ (sa_0 = 0) → ip sc call 135 MC MS Q 22 [some (.ref r_0), some (.int (nI a_1)), some (.int (nI a_2))] [] h z c s) : ip sc call 135 MC MS Q 19 [some (.ref r_0), some (.int (nI a_1)), some (.int (nI a_2))] [(.int (nI sa_0))] h z c s := by
  exact jp_if0 (pc2 := 22) rfl rfl (fun q => K1 ((nI_eq c1 (by decide)).mp q)) (fun q => K2 (fun r => q ((nI_eq c1 (by decide)).mpr r)))
theorem c135_22 {r_0 : Nat} {a_1 : Nat} {a_2 : Nat} {fs1 : List Value} {q_fs1_0 : Nat} {n4 : Nat} {f5 : Nat → Int32} {v9 : Nat} (e2 : h r_0 = some (.inr (9, fs1))) (e3 : fs1[0]? = some (.ref q_fs1_0)) (e6 : h q_fs1_0 = some (.inl (0, n4, .inl f5))) (b7 : (8020 + (6 * a_1)) + a_2 < n4) (c8 : n4 < 2147483648) (e10 : f5 ((8020 + (6 * a_1)) + a_2) = nI v9) (K : ip sc call 135 MC MS Q 41 [some (.ref r_0), some (.int (nI a_1)), some (.int (nI a_2))] [(.int (nI v9))] h z c s) : ip sc call 135 MC MS Q 22 [some (.ref r_0), some (.int (nI a_1)), some (.int (nI a_2))] [] h z c s := by
  refine jp_load (pc2 := 23) (n := 0) rfl rfl rfl rfl ?_
  refine jp_getf (pc2 := 26) rfl rfl e2 e3 ?_
  refine jp_con (pc2 := 29) (v := (.int (nI 8020))) rfl rfl rfl ?_
  refine jp_con (pc2 := 31) (v := (.int (nI 6))) rfl rfl rfl ?_
  refine jp_load (pc2 := 32) (n := 1) rfl rfl rfl rfl ?_
  refine jp_bin (pc2 := 33) (v := nI (6 * a_1)) rfl rfl (congrArg some (pk_mul _ _)) ?_
  refine jp_bin (pc2 := 34) (v := nI (8020 + (6 * a_1))) rfl rfl (congrArg some (nI_add _ _)) ?_
  refine jp_load (pc2 := 35) (n := 2) rfl rfl rfl rfl ?_
  refine jp_bin (pc2 := 36) (v := nI ((8020 + (6 * a_1)) + a_2)) rfl rfl (congrArg some (nI_add _ _)) ?_
  refine jp_iald (pc2 := 37) rfl rfl e6 (vp_in_nI b7 c8) ?_
  rw [(nI_clamp (Nat.lt_trans b7 c8))]
  rw [e10]
  refine ip_goto rfl ?_
  exact K
theorem c135_40 {o_0 : Option Value} {o_1 : Option Value} {o_2 : Option Value}  (K : ip sc call 135 MC MS Q 41 [o_0, o_1, o_2] [(.int ((-1)))] h z c s) : ip sc call 135 MC MS Q 40 [o_0, o_1, o_2] [] h z c s := by
  refine jp_con (pc2 := 41) (v := (.int ((-1)))) rfl rfl rfl ?_
  exact K
theorem c135_41 {o_0 : Option Value} {o_1 : Option Value} {o_2 : Option Value} {sa_0 : Nat} (q1 : Q (some (.int (nI sa_0))) h z)  : ip sc call 135 MC MS Q 41 [o_0, o_1, o_2] [(.int (nI sa_0))] h z c s := by
  exact ip_iret (st := []) rfl rfl rfl q1
set_option maxRecDepth 100000 in
theorem c136_0 {r_0 : Nat} {a_1 : Nat} {a_2 : Nat} {o_3 : Option Value} {o_4 : Option Value} {o_5 : Option Value} {o_6 : Option Value} {o_7 : Option Value} {o_8 : Option Value} {o_9 : Option Value} {o_10 : Option Value} {o_11 : Option Value} {fs1 : List Value} {P : ipQ} (e2 : h r_0 = some (.inr (9, fs1))) (m3 : c ≤ MC) (m4 : s ≤ MS) (hc : call 107 [(.ref r_0), (.int (nI a_2))] h z 0 0 P) (K : ∀ (o : Option Value) (h2 : HP) (z2 : Nat), P o h2 z2 → ip sc call 136 MC MS Q 5 [some (.ref r_0), some (.int (nI a_1)), some (.int (nI a_2)), o_3, o_4, o_5, o_6, o_7, o_8, o_9, o_10, o_11] (o.toList ++ []) h2 z2 c s) : ip sc call 136 MC MS Q 0 [some (.ref r_0), some (.int (nI a_1)), some (.int (nI a_2)), o_3, o_4, o_5, o_6, o_7, o_8, o_9, o_10, o_11] [] h z c s := by
  refine jp_load (pc2 := 1) (n := 0) rfl rfl rfl rfl ?_
  refine jp_load (pc2 := 2) (n := 2) rfl rfl rfl rfl ?_
  exact jp_virt0 (pc2 := 5) (As := [(.int (nI a_2))]) (rest := []) rfl rfl rfl (Nat.le_of_ble_eq_true rfl) e2 m3 m4 hc rfl K
set_option maxRecDepth 100000 in
theorem c136_5 {r_0 : Nat} {a_1 : Nat} {a_2 : Nat} {o_3 : Option Value} {o_4 : Option Value} {o_5 : Option Value} {o_6 : Option Value} {o_7 : Option Value} {o_8 : Option Value} {o_9 : Option Value} {o_10 : Option Value} {o_11 : Option Value}  (K : ip sc call 136 MC MS Q 7 [some (.ref r_0), some (.int (nI a_1)), some (.int (nI a_2)), some (.int (nI 0)), o_4, o_5, o_6, o_7, o_8, o_9, o_10, o_11] [] h z c s) : ip sc call 136 MC MS Q 5 [some (.ref r_0), some (.int (nI a_1)), some (.int (nI a_2)), o_3, o_4, o_5, o_6, o_7, o_8, o_9, o_10, o_11] [] h z c s := by
  refine jp_con (pc2 := 6) (v := (.int (nI 0))) rfl rfl rfl ?_
  refine jp_store (pc2 := 7) (n := 3) rfl rfl ⟨rfl, rfl⟩ rfl (Nat.le_of_ble_eq_true rfl) ?_
  exact K
set_option maxRecDepth 100000 in
theorem c136_7 {r_0 : Nat} {a_1 : Nat} {a_2 : Nat} {a_3 : Nat} {o_4 : Option Value} {o_5 : Option Value} {o_6 : Option Value} {o_7 : Option Value} {o_8 : Option Value} {o_9 : Option Value} {o_10 : Option Value} {o_11 : Option Value} {fs1 : List Value} {q_fs1_0 : Nat} {n4 : Nat} {f5 : Nat → Int32} {v9 : Nat} (e2 : h r_0 = some (.inr (9, fs1))) (e3 : fs1[0]? = some (.ref q_fs1_0)) (e6 : h q_fs1_0 = some (.inl (0, n4, .inl f5))) (b7 : a_1 + 0 < n4) (c8 : n4 < 2147483648) (e10 : f5 (a_1 + 0) = nI v9) (c11 : a_3 < 2147483648) (c12 : v9 < 2147483648) (K1 : v9 ≤ a_3 → ip sc call 136 MC MS Q 32 [some (.ref r_0), some (.int (nI a_1)), some (.int (nI a_2)), some (.int (nI a_3)), o_4, o_5, o_6, o_7, o_8, o_9, o_10, o_11] [] h z c s) (K2 : ¬ (v9 ≤ a_3) → ip sc call 136 MC MS Q 19 [some (.ref r_0), some (.int (nI a_1)), some (.int (nI a_2)), some (.int (nI a_3)), o_4, o_5, o_6, o_7, o_8, o_9, o_10, o_11] [] h z c s) : ip sc call 136 MC MS Q 7 [some (.ref r_0), some (.int (nI a_1)), some (.int (nI a_2)), some (.int (nI a_3)), o_4, o_5, o_6, o_7, o_8, o_9, o_10, o_11] [] h z c s := by
  refine jp_load (pc2 := 8) (n := 3) rfl rfl rfl rfl ?_
  refine jp_load (pc2 := 9) (n := 0) rfl rfl rfl rfl ?_
  refine jp_getf (pc2 := 12) rfl rfl e2 e3 ?_
  refine jp_load (pc2 := 13) (n := 1) rfl rfl rfl rfl ?_
  refine jp_con (pc2 := 14) (v := (.int (nI 0))) rfl rfl rfl ?_
  refine jp_bin (pc2 := 15) (v := nI (a_1 + 0)) rfl rfl (congrArg some (nI_add _ _)) ?_
  refine jp_iald (pc2 := 16) rfl rfl e6 (vp_in_nI b7 c8) ?_
  rw [(nI_clamp (Nat.lt_trans b7 c8))]
  rw [e10]
  exact jp_icmp (pc2 := 19) rfl rfl (fun q => K1 ((nI_leI c12 c11).mp q)) (fun q => K2 (fun r => q ((nI_leI c12 c11).mpr r)))
set_option maxRecDepth 100000 in
theorem c136_19 {r_0 : Nat} {a_1 : Nat} {a_2 : Nat} {a_3 : Nat} {o_4 : Option Value} {o_5 : Option Value} {o_6 : Option Value} {o_7 : Option Value} {o_8 : Option Value} {o_9 : Option Value} {o_10 : Option Value} {o_11 : Option Value} {fs1 : List Value} {q_fs1_12 : Nat} {n4 : Nat} {f5 : Nat → Int32} {g9 : Nat → Int32} (e2 : h r_0 = some (.inr (9, fs1))) (e3 : fs1[12]? = some (.ref q_fs1_12)) (e6 : h q_fs1_12 = some (.inl (0, n4, .inl f5))) (b7 : a_3 < n4) (c8 : n4 < 2147483648) (d10 : upd f5 a_3 ((-1)) = g9) (K : ip sc call 136 MC MS Q 7 [some (.ref r_0), some (.int (nI a_1)), some (.int (nI a_2)), some (.int (nI (a_3 + 1))), o_4, o_5, o_6, o_7, o_8, o_9, o_10, o_11] [] (hup h q_fs1_12 (.inl (0, n4, .inl g9))) z c s) : ip sc call 136 MC MS Q 19 [some (.ref r_0), some (.int (nI a_1)), some (.int (nI a_2)), some (.int (nI a_3)), o_4, o_5, o_6, o_7, o_8, o_9, o_10, o_11] [] h z c s := by
  refine jp_load (pc2 := 20) (n := 0) rfl rfl rfl rfl ?_
  refine jp_getf (pc2 := 23) rfl rfl e2 e3 ?_
  refine jp_load (pc2 := 24) (n := 3) rfl rfl rfl rfl ?_
  refine jp_con (pc2 := 25) (v := (.int ((-1)))) rfl rfl rfl ?_
  refine jp_iast (pc2 := 26) rfl rfl e6 (vp_in_nI b7 c8) ?_
  rw [(nI_clamp (Nat.lt_trans b7 c8))]
  rw [d10]
  refine jp_iinc (pc2 := 29) (n := 3) (v := nI (a_3 + 1)) rfl rfl rfl (nI_add _ 1) rfl ?_
  refine ip_goto rfl ?_
  exact K
set_option maxRecDepth 100000 in
theorem c136_32 {r_0 : Nat} {a_1 : Nat} {a_2 : Nat} {o_3 : Option Value} {o_4 : Option Value} {o_5 : Option Value} {o_6 : Option Value} {o_7 : Option Value} {o_8 : Option Value} {o_9 : Option Value} {o_10 : Option Value} {o_11 : Option Value}  (K : ip sc call 136 MC MS Q 44 [some (.ref r_0), some (.int (nI a_1)), some (.int (nI a_2)), some (.int (nI 0)), some (.int (nI (a_1 + 132))), some (.int (nI 0)), o_6, o_7, o_8, o_9, o_10, o_11] [] h z c s) : ip sc call 136 MC MS Q 32 [some (.ref r_0), some (.int (nI a_1)), some (.int (nI a_2)), o_3, o_4, o_5, o_6, o_7, o_8, o_9, o_10, o_11] [] h z c s := by
  refine jp_con (pc2 := 33) (v := (.int (nI 0))) rfl rfl rfl ?_
  refine jp_store (pc2 := 34) (n := 3) rfl rfl ⟨rfl, rfl⟩ rfl (Nat.le_of_ble_eq_true rfl) ?_
  refine jp_load (pc2 := 35) (n := 1) rfl rfl rfl rfl ?_
  refine jp_con (pc2 := 38) (v := (.int (nI 132))) rfl rfl rfl ?_
  refine jp_bin (pc2 := 39) (v := nI (a_1 + 132)) rfl rfl (congrArg some (nI_add _ _)) ?_
  refine jp_store (pc2 := 41) (n := 4) rfl rfl ⟨rfl, rfl⟩ rfl (Nat.le_of_ble_eq_true rfl) ?_
  refine jp_con (pc2 := 42) (v := (.int (nI 0))) rfl rfl rfl ?_
  refine jp_store (pc2 := 44) (n := 5) rfl rfl ⟨rfl, rfl⟩ rfl (Nat.le_of_ble_eq_true rfl) ?_
  exact K
set_option maxRecDepth 100000 in
theorem c136_44 {r_0 : Nat} {a_1 : Nat} {a_2 : Nat} {a_3 : Nat} {a_4 : Nat} {a_5 : Nat} {o_6 : Option Value} {o_7 : Option Value} {o_8 : Option Value} {o_9 : Option Value} {o_10 : Option Value} {o_11 : Option Value} {fs1 : List Value} {q_fs1_0 : Nat} {n4 : Nat} {f5 : Nat → Int32} {v9 : Nat} (e2 : h r_0 = some (.inr (9, fs1))) (e3 : fs1[0]? = some (.ref q_fs1_0)) (e6 : h q_fs1_0 = some (.inl (0, n4, .inl f5))) (b7 : a_1 + 1 < n4) (c8 : n4 < 2147483648) (e10 : f5 (a_1 + 1) = nI v9) (c11 : a_5 < 2147483648) (c12 : v9 < 2147483648) (K1 : v9 ≤ a_5 → ip sc call 136 MC MS Q 265 [some (.ref r_0), some (.int (nI a_1)), some (.int (nI a_2)), some (.int (nI a_3)), some (.int (nI a_4)), some (.int (nI a_5)), o_6, o_7, o_8, o_9, o_10, o_11] [] h z c s) (K2 : ¬ (v9 ≤ a_5) → ip sc call 136 MC MS Q 57 [some (.ref r_0), some (.int (nI a_1)), some (.int (nI a_2)), some (.int (nI a_3)), some (.int (nI a_4)), some (.int (nI a_5)), o_6, o_7, o_8, o_9, o_10, o_11] [] h z c s) : ip sc call 136 MC MS Q 44 [some (.ref r_0), some (.int (nI a_1)), some (.int (nI a_2)), some (.int (nI a_3)), some (.int (nI a_4)), some (.int (nI a_5)), o_6, o_7, o_8, o_9, o_10, o_11] [] h z c s := by
  refine jp_load (pc2 := 46) (n := 5) rfl rfl rfl rfl ?_
  refine jp_load (pc2 := 47) (n := 0) rfl rfl rfl rfl ?_
  refine jp_getf (pc2 := 50) rfl rfl e2 e3 ?_
  refine jp_load (pc2 := 51) (n := 1) rfl rfl rfl rfl ?_
  refine jp_con (pc2 := 52) (v := (.int (nI 1))) rfl rfl rfl ?_
  refine jp_bin (pc2 := 53) (v := nI (a_1 + 1)) rfl rfl (congrArg some (nI_add _ _)) ?_
  refine jp_iald (pc2 := 54) rfl rfl e6 (vp_in_nI b7 c8) ?_
  rw [(nI_clamp (Nat.lt_trans b7 c8))]
  rw [e10]
  exact jp_icmp (pc2 := 57) rfl rfl (fun q => K1 ((nI_leI c12 c11).mp q)) (fun q => K2 (fun r => q ((nI_leI c12 c11).mpr r)))
set_option maxRecDepth 100000 in
theorem c136_57 {r_0 : Nat} {a_1 : Nat} {a_2 : Nat} {a_3 : Nat} {a_4 : Nat} {a_5 : Nat} {o_6 : Option Value} {o_7 : Option Value} {o_8 : Option Value} {o_9 : Option Value} {o_10 : Option Value} {o_11 : Option Value}  (K : ip sc call 136 MC MS Q 63 [some (.ref r_0), some (.int (nI a_1)), some (.int (nI a_2)), some (.int (nI a_3)), some (.int (nI a_4)), some (.int (nI a_5)), some (.int (nI 0)), some (.int (nI 0)), o_8, o_9, o_10, o_11] [] h z c s) : ip sc call 136 MC MS Q 57 [some (.ref r_0), some (.int (nI a_1)), some (.int (nI a_2)), some (.int (nI a_3)), some (.int (nI a_4)), some (.int (nI a_5)), o_6, o_7, o_8, o_9, o_10, o_11] [] h z c s := by
  refine jp_con (pc2 := 58) (v := (.int (nI 0))) rfl rfl rfl ?_
  refine jp_store (pc2 := 60) (n := 6) rfl rfl ⟨rfl, rfl⟩ rfl (Nat.le_of_ble_eq_true rfl) ?_
  refine jp_con (pc2 := 61) (v := (.int (nI 0))) rfl rfl rfl ?_
  refine jp_store (pc2 := 63) (n := 7) rfl rfl ⟨rfl, rfl⟩ rfl (Nat.le_of_ble_eq_true rfl) ?_
  exact K
set_option maxRecDepth 100000 in
theorem c136_63 {r_0 : Nat} {a_1 : Nat} {a_2 : Nat} {a_3 : Nat} {a_4 : Nat} {a_5 : Nat} {a_6 : Nat} {a_7 : Nat} {o_8 : Option Value} {o_9 : Option Value} {o_10 : Option Value} {o_11 : Option Value} {fs1 : List Value} {q_fs1_0 : Nat} {n4 : Nat} {f5 : Nat → Int32} {v9 : Nat} (e2 : h r_0 = some (.inr (9, fs1))) (e3 : fs1[0]? = some (.ref q_fs1_0)) (e6 : h q_fs1_0 = some (.inl (0, n4, .inl f5))) (b7 : (a_1 + 36) + a_5 < n4) (c8 : n4 < 2147483648) (e10 : f5 ((a_1 + 36) + a_5) = nI v9) (c11 : a_7 < 2147483648) (c12 : v9 < 2147483648) (K1 : v9 ≤ a_7 → ip sc call 136 MC MS Q 259 [some (.ref r_0), some (.int (nI a_1)), some (.int (nI a_2)), some (.int (nI a_3)), some (.int (nI a_4)), some (.int (nI a_5)), some (.int (nI a_6)), some (.int (nI a_7)), o_8, o_9, o_10, o_11] [] h z c s) (K2 : ¬ (v9 ≤ a_7) → ip sc call 136 MC MS Q 80 [some (.ref r_0), some (.int (nI a_1)), some (.int (nI a_2)), some (.int (nI a_3)), some (.int (nI a_4)), some (.int (nI a_5)), some (.int (nI a_6)), some (.int (nI a_7)), o_8, o_9, o_10, o_11] [] h z c s) : ip sc call 136 MC MS Q 63 [some (.ref r_0), some (.int (nI a_1)), some (.int (nI a_2)), some (.int (nI a_3)), some (.int (nI a_4)), some (.int (nI a_5)), some (.int (nI a_6)), some (.int (nI a_7)), o_8, o_9, o_10, o_11] [] h z c s := by
  refine jp_load (pc2 := 65) (n := 7) rfl rfl rfl rfl ?_
  refine jp_load (pc2 := 66) (n := 0) rfl rfl rfl rfl ?_
  refine jp_getf (pc2 := 69) rfl rfl e2 e3 ?_
  refine jp_load (pc2 := 70) (n := 1) rfl rfl rfl rfl ?_
  refine jp_con (pc2 := 72) (v := (.int (nI 36))) rfl rfl rfl ?_
  refine jp_bin (pc2 := 73) (v := nI (a_1 + 36)) rfl rfl (congrArg some (nI_add _ _)) ?_
  refine jp_load (pc2 := 75) (n := 5) rfl rfl rfl rfl ?_
  refine jp_bin (pc2 := 76) (v := nI ((a_1 + 36) + a_5)) rfl rfl (congrArg some (nI_add _ _)) ?_
  refine jp_iald (pc2 := 77) rfl rfl e6 (vp_in_nI b7 c8) ?_
  rw [(nI_clamp (Nat.lt_trans b7 c8))]
  rw [e10]
  exact jp_icmp (pc2 := 80) rfl rfl (fun q => K1 ((nI_leI c12 c11).mp q)) (fun q => K2 (fun r => q ((nI_leI c12 c11).mpr r)))
set_option maxRecDepth 100000 in
theorem c136_80 {r_0 : Nat} {a_1 : Nat} {a_2 : Nat} {a_3 : Nat} {a_4 : Nat} {a_5 : Nat} {a_6 : Nat} {a_7 : Nat} {o_8 : Option Value} {o_9 : Option Value} {o_10 : Option Value} {o_11 : Option Value} {fs1 : List Value} {q_fs1_0 : Nat} {n4 : Nat} {f5 : Nat → Int32} {v9 : Nat} (e2 : h r_0 = some (.inr (9, fs1))) (e3 : fs1[0]? = some (.ref q_fs1_0)) (e6 : h q_fs1_0 = some (.inl (0, n4, .inl f5))) (b7 : (a_1 + 68) + a_3 < n4) (c8 : n4 < 2147483648) (e10 : f5 ((a_1 + 68) + a_3) = nI v9) (K : ip sc call 136 MC MS Q 99 [some (.ref r_0), some (.int (nI a_1)), some (.int (nI a_2)), some (.int (nI a_3)), some (.int (nI a_4)), some (.int (nI a_5)), some (.int (nI a_6)), some (.int (nI a_7)), some (.int (nI 0)), some (.int (nI v9)), some (.int (nI 0)), o_11] [] h z c s) : ip sc call 136 MC MS Q 80 [some (.ref r_0), some (.int (nI a_1)), some (.int (nI a_2)), some (.int (nI a_3)), some (.int (nI a_4)), some (.int (nI a_5)), some (.int (nI a_6)), some (.int (nI a_7)), o_8, o_9, o_10, o_11] [] h z c s := by
  refine jp_con (pc2 := 81) (v := (.int (nI 0))) rfl rfl rfl ?_
  refine jp_store (pc2 := 83) (n := 8) rfl rfl ⟨rfl, rfl⟩ rfl (Nat.le_of_ble_eq_true rfl) ?_
  refine jp_load (pc2 := 84) (n := 0) rfl rfl rfl rfl ?_
  refine jp_getf (pc2 := 87) rfl rfl e2 e3 ?_
  refine jp_load (pc2 := 88) (n := 1) rfl rfl rfl rfl ?_
  refine jp_con (pc2 := 90) (v := (.int (nI 68))) rfl rfl rfl ?_
  refine jp_bin (pc2 := 91) (v := nI (a_1 + 68)) rfl rfl (congrArg some (nI_add _ _)) ?_
  refine jp_load (pc2 := 92) (n := 3) rfl rfl rfl rfl ?_
  refine jp_bin (pc2 := 93) (v := nI ((a_1 + 68) + a_3)) rfl rfl (congrArg some (nI_add _ _)) ?_
  refine jp_iald (pc2 := 94) rfl rfl e6 (vp_in_nI b7 c8) ?_
  rw [(nI_clamp (Nat.lt_trans b7 c8))]
  rw [e10]
  refine jp_store (pc2 := 96) (n := 9) rfl rfl ⟨rfl, rfl⟩ rfl (Nat.le_of_ble_eq_true rfl) ?_
  refine jp_con (pc2 := 97) (v := (.int (nI 0))) rfl rfl rfl ?_
  refine jp_store (pc2 := 99) (n := 10) rfl rfl ⟨rfl, rfl⟩ rfl (Nat.le_of_ble_eq_true rfl) ?_
  exact K
set_option maxRecDepth 100000 in
theorem c136_99 {r_0 : Nat} {a_1 : Nat} {a_2 : Nat} {a_3 : Nat} {a_4 : Nat} {a_5 : Nat} {a_6 : Nat} {a_7 : Nat} {a_8 : Nat} {a_9 : Nat} {a_10 : Nat} {o_11 : Option Value} (c1 : a_10 < 2147483648) (c2 : a_9 < 2147483648) (K1 : a_9 ≤ a_10 → ip sc call 136 MC MS Q 243 [some (.ref r_0), some (.int (nI a_1)), some (.int (nI a_2)), some (.int (nI a_3)), some (.int (nI a_4)), some (.int (nI a_5)), some (.int (nI a_6)), some (.int (nI a_7)), some (.int (nI a_8)), some (.int (nI a_9)), some (.int (nI a_10)), o_11] [] h z c s) (K2 : ¬ (a_9 ≤ a_10) → ip sc call 136 MC MS Q 106 [some (.ref r_0), some (.int (nI a_1)), some (.int (nI a_2)), some (.int (nI a_3)), some (.int (nI a_4)), some (.int (nI a_5)), some (.int (nI a_6)), some (.int (nI a_7)), some (.int (nI a_8)), some (.int (nI a_9)), some (.int (nI a_10)), o_11] [] h z c s) : ip sc call 136 MC MS Q 99 [some (.ref r_0), some (.int (nI a_1)), some (.int (nI a_2)), some (.int (nI a_3)), some (.int (nI a_4)), some (.int (nI a_5)), some (.int (nI a_6)), some (.int (nI a_7)), some (.int (nI a_8)), some (.int (nI a_9)), some (.int (nI a_10)), o_11] [] h z c s := by
  refine jp_load (pc2 := 101) (n := 10) rfl rfl rfl rfl ?_
  refine jp_load (pc2 := 103) (n := 9) rfl rfl rfl rfl ?_
  exact jp_icmp (pc2 := 106) rfl rfl (fun q => K1 ((nI_leI c2 c1).mp q)) (fun q => K2 (fun r => q ((nI_leI c2 c1).mpr r)))
set_option maxRecDepth 100000 in
theorem c136_106 {r_0 : Nat} {a_1 : Nat} {a_2 : Nat} {a_3 : Nat} {a_4 : Nat} {a_5 : Nat} {a_6 : Nat} {a_7 : Nat} {a_8 : Nat} {a_9 : Nat} {a_10 : Nat} {o_11 : Option Value} {fs1 : List Value} {q_fs1_0 : Nat} {n4 : Nat} {f5 : Nat → Int32} {v9 : Nat} {v12 : Nat} (e2 : h r_0 = some (.inr (9, fs1))) (e3 : fs1[0]? = some (.ref q_fs1_0)) (e6 : h q_fs1_0 = some (.inl (0, n4, .inl f5))) (b7 : a_4 + a_10 < n4) (c8 : n4 < 2147483648) (e10 : f5 (a_4 + a_10) = nI v9) (b11 : (a_1 + 4) + v9 < n4) (e13 : f5 ((a_1 + 4) + v9) = nI v12) (c14 : v12 < 2147483648) (K1 : ¬ v12 = 0 → ip sc call 136 MC MS Q 135 [some (.ref r_0), some (.int (nI a_1)), some (.int (nI a_2)), some (.int (nI a_3)), some (.int (nI a_4)), some (.int (nI a_5)), some (.int (nI a_6)), some (.int (nI a_7)), some (.int (nI a_8)), some (.int (nI a_9)), some (.int (nI a_10)), some (.int (nI v9))] [] h z c s) (K2 : ¬ (¬ v12 = 0) → ip sc call 136 MC MS Q 132 [some (.ref r_0), some (.int (nI a_1)), some (.int (nI a_2)), some (.int (nI a_3)), some (.int (nI a_4)), some (.int (nI a_5)), some (.int (nI a_6)), some (.int (nI a_7)), some (.int (nI a_8)), some (.int (nI a_9)), some (.int (nI a_10)), some (.int (nI v9))] [] h z c s) : ip sc call 136 MC MS Q 106 [some (.ref r_0), some (.int (nI a_1)), some (.int (nI a_2)), some (.int (nI a_3)), some (.int (nI a_4)), some (.int (nI a_5)), some (.int (nI a_6)), some (.int (nI a_7)), some (.int (nI a_8)), some (.int (nI a_9)), some (.int (nI a_10)), o_11] [] h z c s := by
  refine jp_load (pc2 := 107) (n := 0) rfl rfl rfl rfl ?_
  refine jp_getf (pc2 := 110) rfl rfl e2 e3 ?_
  refine jp_load (pc2 := 112) (n := 4) rfl rfl rfl rfl ?_
  refine jp_load (pc2 := 114) (n := 10) rfl rfl rfl rfl ?_
  refine jp_bin (pc2 := 115) (v := nI (a_4 + a_10)) rfl rfl (congrArg some (nI_add _ _)) ?_
  refine jp_iald (pc2 := 116) rfl rfl e6 (vp_in_nI b7 c8) ?_
  rw [(nI_clamp (Nat.lt_trans b7 c8))]
  rw [e10]
  refine jp_store (pc2 := 118) (n := 11) rfl rfl ⟨rfl, rfl⟩ rfl (Nat.le_of_ble_eq_true rfl) ?_
  refine jp_load (pc2 := 119) (n := 0) rfl rfl rfl rfl ?_
  refine jp_getf (pc2 := 122) rfl rfl e2 e3 ?_
  refine jp_load (pc2 := 123) (n := 1) rfl rfl rfl rfl ?_
  refine jp_con (pc2 := 124) (v := (.int (nI 4))) rfl rfl rfl ?_
  refine jp_bin (pc2 := 125) (v := nI (a_1 + 4)) rfl rfl (congrArg some (nI_add _ _)) ?_
  refine jp_load (pc2 := 127) (n := 11) rfl rfl rfl rfl ?_
  refine jp_bin (pc2 := 128) (v := nI ((a_1 + 4) + v9)) rfl rfl (congrArg some (nI_add _ _)) ?_
  refine jp_iald (pc2 := 129) rfl rfl e6 (vp_in_nI b11 c8) ?_
  rw [(nI_clamp (Nat.lt_trans b11 c8))]
  rw [e13]
  exact jp_if0 (pc2 := 132) rfl rfl (fun q => K1 ((not_congr (nI_eq c14 (by decide))).mp q)) (fun q => K2 (fun r => q ((not_congr (nI_eq c14 (by decide))).mpr r)))
set_option maxRecDepth 100000 in
theorem c136_132 {r_0 : Nat} {a_1 : Nat} {a_2 : Nat} {a_3 : Nat} {a_4 : Nat} {a_5 : Nat} {a_6 : Nat} {a_7 : Nat} {a_8 : Nat} {a_9 : Nat} {a_10 : Nat} {o_11 : Option Value}  (K : ip sc call 136 MC MS Q 237 [some (.ref r_0), some (.int (nI a_1)), some (.int (nI a_2)), some (.int (nI a_3)), some (.int (nI a_4)), some (.int (nI a_5)), some (.int (nI a_6)), some (.int (nI a_7)), some (.int (nI a_8)), some (.int (nI a_9)), some (.int (nI a_10)), o_11] [] h z c s) : ip sc call 136 MC MS Q 132 [some (.ref r_0), some (.int (nI a_1)), some (.int (nI a_2)), some (.int (nI a_3)), some (.int (nI a_4)), some (.int (nI a_5)), some (.int (nI a_6)), some (.int (nI a_7)), some (.int (nI a_8)), some (.int (nI a_9)), some (.int (nI a_10)), o_11] [] h z c s := by
  refine ip_goto rfl ?_
  exact K
set_option maxRecDepth 100000 in
theorem c136_135 {r_0 : Nat} {a_1 : Nat} {a_2 : Nat} {a_3 : Nat} {a_4 : Nat} {a_5 : Nat} {a_6 : Nat} {a_7 : Nat} {a_8 : Nat} {a_9 : Nat} {a_10 : Nat} {a_11 : Nat} (c1 : a_6 < 2147483648) (K1 : ¬ a_6 = 0 → ip sc call 136 MC MS Q 145 [some (.ref r_0), some (.int (nI a_1)), some (.int (nI a_2)), some (.int (nI a_3)), some (.int (nI a_4)), some (.int (nI a_5)), some (.int (nI a_6)), some (.int (nI a_7)), some (.int (nI a_8)), some (.int (nI a_9)), some (.int (nI a_10)), some (.int (nI a_11))] [] h z c s) (K2 : ¬ (¬ a_6 = 0) → ip sc call 136 MC MS Q 140 [some (.ref r_0), some (.int (nI a_1)), some (.int (nI a_2)), some (.int (nI a_3)), some (.int (nI a_4)), some (.int (nI a_5)), some (.int (nI a_6)), some (.int (nI a_7)), some (.int (nI a_8)), some (.int (nI a_9)), some (.int (nI a_10)), some (.int (nI a_11))] [] h z c s) : ip sc call 136 MC MS Q 135 [some (.ref r_0), some (.int (nI a_1)), some (.int (nI a_2)), some (.int (nI a_3)), some (.int (nI a_4)), some (.int (nI a_5)), some (.int (nI a_6)), some (.int (nI a_7)), some (.int (nI a_8)), some (.int (nI a_9)), some (.int (nI a_10)), some (.int (nI a_11))] [] h z c s := by
  refine jp_load (pc2 := 137) (n := 6) rfl rfl rfl rfl ?_
  exact jp_if0 (pc2 := 140) rfl rfl (fun q => K1 ((not_congr (nI_eq c1 (by decide))).mp q)) (fun q => K2 (fun r => q ((not_congr (nI_eq c1 (by decide))).mpr r)))
set_option maxRecDepth 100000 in
theorem c136_140 {r_0 : Nat} {a_1 : Nat} {a_2 : Nat} {a_3 : Nat} {a_4 : Nat} {a_5 : Nat} {o_6 : Option Value} {a_7 : Nat} {a_8 : Nat} {a_9 : Nat} {a_10 : Nat} {a_11 : Nat} {fs1 : List Value} {P : ipQ} (e2 : h r_0 = some (.inr (9, fs1))) (m3 : c ≤ MC) (m4 : s ≤ MS) (hc : call 100 [(.ref r_0), (.int (nI a_2))] h z 0 0 P) (K : ∀ (o : Option Value) (h2 : HP) (z2 : Nat), P o h2 z2 → ip sc call 136 MC MS Q 145 [some (.ref r_0), some (.int (nI a_1)), some (.int (nI a_2)), some (.int (nI a_3)), some (.int (nI a_4)), some (.int (nI a_5)), o_6, some (.int (nI a_7)), some (.int (nI a_8)), some (.int (nI a_9)), some (.int (nI a_10)), some (.int (nI a_11))] (o.toList ++ []) h2 z2 c s) : ip sc call 136 MC MS Q 140 [some (.ref r_0), some (.int (nI a_1)), some (.int (nI a_2)), some (.int (nI a_3)), some (.int (nI a_4)), some (.int (nI a_5)), o_6, some (.int (nI a_7)), some (.int (nI a_8)), some (.int (nI a_9)), some (.int (nI a_10)), some (.int (nI a_11))] [] h z c s := by
  refine jp_load (pc2 := 141) (n := 0) rfl rfl rfl rfl ?_
  refine jp_load (pc2 := 142) (n := 2) rfl rfl rfl rfl ?_
  exact jp_virt0 (pc2 := 145) (As := [(.int (nI a_2))]) (rest := []) rfl rfl rfl (Nat.le_of_ble_eq_true rfl) e2 m3 m4 hc rfl K
set_option maxRecDepth 100000 in
theorem c136_145 {r_0 : Nat} {a_1 : Nat} {a_2 : Nat} {a_3 : Nat} {a_4 : Nat} {a_5 : Nat} {o_6 : Option Value} {a_7 : Nat} {a_8 : Nat} {a_9 : Nat} {a_10 : Nat} {a_11 : Nat} (c1 : a_8 < 2147483648) (K1 : ¬ a_8 = 0 → ip sc call 136 MC MS Q 155 [some (.ref r_0), some (.int (nI a_1)), some (.int (nI a_2)), some (.int (nI a_3)), some (.int (nI a_4)), some (.int (nI a_5)), o_6, some (.int (nI a_7)), some (.int (nI a_8)), some (.int (nI a_9)), some (.int (nI a_10)), some (.int (nI a_11))] [] h z c s) (K2 : ¬ (¬ a_8 = 0) → ip sc call 136 MC MS Q 150 [some (.ref r_0), some (.int (nI a_1)), some (.int (nI a_2)), some (.int (nI a_3)), some (.int (nI a_4)), some (.int (nI a_5)), o_6, some (.int (nI a_7)), some (.int (nI a_8)), some (.int (nI a_9)), some (.int (nI a_10)), some (.int (nI a_11))] [] h z c s) : ip sc call 136 MC MS Q 145 [some (.ref r_0), some (.int (nI a_1)), some (.int (nI a_2)), some (.int (nI a_3)), some (.int (nI a_4)), some (.int (nI a_5)), o_6, some (.int (nI a_7)), some (.int (nI a_8)), some (.int (nI a_9)), some (.int (nI a_10)), some (.int (nI a_11))] [] h z c s := by
  refine jp_load (pc2 := 147) (n := 8) rfl rfl rfl rfl ?_
  exact jp_if0 (pc2 := 150) rfl rfl (fun q => K1 ((not_congr (nI_eq c1 (by decide))).mp q)) (fun q => K2 (fun r => q ((not_congr (nI_eq c1 (by decide))).mpr r)))
set_option maxRecDepth 100000 in
theorem c136_150 {r_0 : Nat} {a_1 : Nat} {a_2 : Nat} {a_3 : Nat} {a_4 : Nat} {a_5 : Nat} {o_6 : Option Value} {a_7 : Nat} {o_8 : Option Value} {a_9 : Nat} {a_10 : Nat} {a_11 : Nat} {fs1 : List Value} {P : ipQ} (e2 : h r_0 = some (.inr (9, fs1))) (m3 : c ≤ MC) (m4 : s ≤ MS) (hc : call 99 [(.ref r_0), (.int (nI a_2))] h z 0 0 P) (K : ∀ (o : Option Value) (h2 : HP) (z2 : Nat), P o h2 z2 → ip sc call 136 MC MS Q 155 [some (.ref r_0), some (.int (nI a_1)), some (.int (nI a_2)), some (.int (nI a_3)), some (.int (nI a_4)), some (.int (nI a_5)), o_6, some (.int (nI a_7)), o_8, some (.int (nI a_9)), some (.int (nI a_10)), some (.int (nI a_11))] (o.toList ++ []) h2 z2 c s) : ip sc call 136 MC MS Q 150 [some (.ref r_0), some (.int (nI a_1)), some (.int (nI a_2)), some (.int (nI a_3)), some (.int (nI a_4)), some (.int (nI a_5)), o_6, some (.int (nI a_7)), o_8, some (.int (nI a_9)), some (.int (nI a_10)), some (.int (nI a_11))] [] h z c s := by
  refine jp_load (pc2 := 151) (n := 0) rfl rfl rfl rfl ?_
  refine jp_load (pc2 := 152) (n := 2) rfl rfl rfl rfl ?_
  exact jp_virt0 (pc2 := 155) (As := [(.int (nI a_2))]) (rest := []) rfl rfl rfl (Nat.le_of_ble_eq_true rfl) e2 m3 m4 hc rfl K
set_option maxRecDepth 100000 in
theorem c136_155 {r_0 : Nat} {a_1 : Nat} {a_2 : Nat} {a_3 : Nat} {a_4 : Nat} {a_5 : Nat} {o_6 : Option Value} {a_7 : Nat} {o_8 : Option Value} {a_9 : Nat} {a_10 : Nat} {a_11 : Nat} {fs1 : List Value} {q_fs1_12 : Nat} {n4 : Nat} {f5 : Nat → Int32} {v9 : Nat} (e2 : h r_0 = some (.inr (9, fs1))) (e3 : fs1[12]? = some (.ref q_fs1_12)) (e6 : h q_fs1_12 = some (.inl (0, n4, .inl f5))) (b7 : a_11 < n4) (c8 : n4 < 2147483648) (e10 : f5 a_11 = nI v9) (c11 : v9 < 2147483648) (K1 : 0 ≤ v9 → ip sc call 136 MC MS Q 225 [some (.ref r_0), some (.int (nI a_1)), some (.int (nI a_2)), some (.int (nI a_3)), some (.int (nI a_4)), some (.int (nI a_5)), some (.int (nI 1)), some (.int (nI a_7)), some (.int (nI 1)), some (.int (nI a_9)), some (.int (nI a_10)), some (.int (nI a_11))] [] h z c s) (K2 : ¬ (0 ≤ v9) → ip sc call 136 MC MS Q 171 [some (.ref r_0), some (.int (nI a_1)), some (.int (nI a_2)), some (.int (nI a_3)), some (.int (nI a_4)), some (.int (nI a_5)), some (.int (nI 1)), some (.int (nI a_7)), some (.int (nI 1)), some (.int (nI a_9)), some (.int (nI a_10)), some (.int (nI a_11))] [] h z c s) : ip sc call 136 MC MS Q 155 [some (.ref r_0), some (.int (nI a_1)), some (.int (nI a_2)), some (.int (nI a_3)), some (.int (nI a_4)), some (.int (nI a_5)), o_6, some (.int (nI a_7)), o_8, some (.int (nI a_9)), some (.int (nI a_10)), some (.int (nI a_11))] [] h z c s := by
  refine jp_con (pc2 := 156) (v := (.int (nI 1))) rfl rfl rfl ?_
  refine jp_store (pc2 := 158) (n := 6) rfl rfl ⟨rfl, rfl⟩ rfl (Nat.le_of_ble_eq_true rfl) ?_
  refine jp_con (pc2 := 159) (v := (.int (nI 1))) rfl rfl rfl ?_
  refine jp_store (pc2 := 161) (n := 8) rfl rfl ⟨rfl, rfl⟩ rfl (Nat.le_of_ble_eq_true rfl) ?_
  refine jp_load (pc2 := 162) (n := 0) rfl rfl rfl rfl ?_
  refine jp_getf (pc2 := 165) rfl rfl e2 e3 ?_
  refine jp_load (pc2 := 167) (n := 11) rfl rfl rfl rfl ?_
  refine jp_iald (pc2 := 168) rfl rfl e6 (vp_in_nI b7 c8) ?_
  rw [(nI_clamp (Nat.lt_trans b7 c8))]
  rw [e10]
  exact jp_if0 (pc2 := 171) rfl rfl (fun q => K1 ((nI_leI (by decide) c11).mp q)) (fun q => K2 (fun r => q ((nI_leI (by decide) c11).mpr r)))
set_option maxRecDepth 100000 in
theorem c136_171 {r_0 : Nat} {a_1 : Nat} {a_2 : Nat} {a_3 : Nat} {a_4 : Nat} {a_5 : Nat} {a_6 : Nat} {a_7 : Nat} {a_8 : Nat} {a_9 : Nat} {a_10 : Nat} {a_11 : Nat} {fs1 : List Value} {q_fs1_12 : Nat} {q_fs1_0 : Nat} {n5 : Nat} {f6 : Nat → Int32} {v10 : Nat} {n12 : Nat} {f13 : Nat → Int32} {g17 : Nat → Int32} {v20 : Nat} {v24 : Nat} {g27 : Nat → Int32} {v30 : Nat} {g32 : Nat → Int32} (e2 : h r_0 = some (.inr (9, fs1))) (e3 : fs1[12]? = some (.ref q_fs1_12)) (e4 : fs1[0]? = some (.ref q_fs1_0)) (e7 : h q_fs1_0 = some (.inl (0, n5, .inl f6))) (b8 : a_2 + 0 < n5) (c9 : n5 < 2147483648) (e11 : f6 (a_2 + 0) = nI v10) (e14 : h q_fs1_12 = some (.inl (0, n12, .inl f13))) (b15 : a_11 < n12) (c16 : n12 < 2147483648) (d18 : upd f13 a_11 (nI v10) = g17) (n19 : r_0 ≠ q_fs1_12) (e21 : g17 a_11 = nI v20) (n22 : q_fs1_0 ≠ q_fs1_12) (b23 : (a_1 + 4) + a_11 < n5) (e25 : f6 ((a_1 + 4) + a_11) = nI v24) (b26 : (a_2 + 4) + v20 < n5) (d28 : upd f6 ((a_2 + 4) + v20) (nI v24) = g27) (n29 : r_0 ≠ q_fs1_0) (e31 : g27 (a_2 + 0) = nI v30) (d33 : upd g27 (a_2 + 0) (nI (v30 + 1)) = g32) (K : ip sc call 136 MC MS Q 225 [some (.ref r_0), some (.int (nI a_1)), some (.int (nI a_2)), some (.int (nI a_3)), some (.int (nI a_4)), some (.int (nI a_5)), some (.int (nI a_6)), some (.int (nI a_7)), some (.int (nI a_8)), some (.int (nI a_9)), some (.int (nI a_10)), some (.int (nI a_11))] [] (hup (hup h q_fs1_12 (.inl (0, n12, .inl g17))) q_fs1_0 (.inl (0, n5, .inl g32))) z c s) : ip sc call 136 MC MS Q 171 [some (.ref r_0), some (.int (nI a_1)), some (.int (nI a_2)), some (.int (nI a_3)), some (.int (nI a_4)), some (.int (nI a_5)), some (.int (nI a_6)), some (.int (nI a_7)), some (.int (nI a_8)), some (.int (nI a_9)), some (.int (nI a_10)), some (.int (nI a_11))] [] h z c s := by
  refine jp_load (pc2 := 172) (n := 0) rfl rfl rfl rfl ?_
  refine jp_getf (pc2 := 175) rfl rfl e2 e3 ?_
  refine jp_load (pc2 := 177) (n := 11) rfl rfl rfl rfl ?_
  refine jp_load (pc2 := 178) (n := 0) rfl rfl rfl rfl ?_
  refine jp_getf (pc2 := 181) rfl rfl e2 e4 ?_
  refine jp_load (pc2 := 182) (n := 2) rfl rfl rfl rfl ?_
  refine jp_con (pc2 := 183) (v := (.int (nI 0))) rfl rfl rfl ?_
  refine jp_bin (pc2 := 184) (v := nI (a_2 + 0)) rfl rfl (congrArg some (nI_add _ _)) ?_
  refine jp_iald (pc2 := 185) rfl rfl e7 (vp_in_nI b8 c9) ?_
  rw [(nI_clamp (Nat.lt_trans b8 c9))]
  rw [e11]
  refine jp_iast (pc2 := 186) rfl rfl e14 (vp_in_nI b15 c16) ?_
  rw [(nI_clamp (Nat.lt_trans b15 c16))]
  rw [d18]
  refine jp_load (pc2 := 187) (n := 0) rfl rfl rfl rfl ?_
  refine jp_getf (pc2 := 190) rfl rfl (hup_ne n19 e2) e4 ?_
  refine jp_load (pc2 := 191) (n := 2) rfl rfl rfl rfl ?_
  refine jp_con (pc2 := 192) (v := (.int (nI 4))) rfl rfl rfl ?_
  refine jp_bin (pc2 := 193) (v := nI (a_2 + 4)) rfl rfl (congrArg some (nI_add _ _)) ?_
  refine jp_load (pc2 := 194) (n := 0) rfl rfl rfl rfl ?_
  refine jp_getf (pc2 := 197) rfl rfl (hup_ne n19 e2) e3 ?_
  refine jp_load (pc2 := 199) (n := 11) rfl rfl rfl rfl ?_
  refine jp_iald (pc2 := 200) rfl rfl hup_eq (vp_in_nI b15 c16) ?_
  rw [(nI_clamp (Nat.lt_trans b15 c16))]
  rw [e21]
  refine jp_bin (pc2 := 201) (v := nI ((a_2 + 4) + v20)) rfl rfl (congrArg some (nI_add _ _)) ?_
  refine jp_load (pc2 := 202) (n := 0) rfl rfl rfl rfl ?_
  refine jp_getf (pc2 := 205) rfl rfl (hup_ne n19 e2) e4 ?_
  refine jp_load (pc2 := 206) (n := 1) rfl rfl rfl rfl ?_
  refine jp_con (pc2 := 207) (v := (.int (nI 4))) rfl rfl rfl ?_
  refine jp_bin (pc2 := 208) (v := nI (a_1 + 4)) rfl rfl (congrArg some (nI_add _ _)) ?_
  refine jp_load (pc2 := 210) (n := 11) rfl rfl rfl rfl ?_
  refine jp_bin (pc2 := 211) (v := nI ((a_1 + 4) + a_11)) rfl rfl (congrArg some (nI_add _ _)) ?_
  refine jp_iald (pc2 := 212) rfl rfl (hup_ne n22 e7) (vp_in_nI b23 c9) ?_
  rw [(nI_clamp (Nat.lt_trans b23 c9))]
  rw [e25]
  refine jp_iast (pc2 := 213) rfl rfl (hup_ne n22 e7) (vp_in_nI b26 c9) ?_
  rw [(nI_clamp (Nat.lt_trans b26 c9))]
  rw [d28]
  refine jp_load (pc2 := 214) (n := 0) rfl rfl rfl rfl ?_
  refine jp_getf (pc2 := 217) rfl rfl (hup_ne n29 (hup_ne n19 e2)) e4 ?_
  refine jp_load (pc2 := 218) (n := 2) rfl rfl rfl rfl ?_
  refine jp_con (pc2 := 219) (v := (.int (nI 0))) rfl rfl rfl ?_
  refine jp_bin (pc2 := 220) (v := nI (a_2 + 0)) rfl rfl (congrArg some (nI_add _ _)) ?_
  refine jp_dup2 (pc2 := 221) rfl rfl rfl rfl ?_
  refine jp_iald (pc2 := 222) rfl rfl hup_eq (vp_in_nI b8 c9) ?_
  rw [(nI_clamp (Nat.lt_trans b8 c9))]
  rw [e31]
  refine jp_con (pc2 := 223) (v := (.int (nI 1))) rfl rfl rfl ?_
  refine jp_bin (pc2 := 224) (v := nI (v30 + 1)) rfl rfl (congrArg some (nI_add _ _)) ?_
  refine jp_iast (pc2 := 225) rfl rfl hup_eq (vp_in_nI b8 c9) ?_
  rw [(nI_clamp (Nat.lt_trans b8 c9))]
  rw [d33]
  rw [hup_hup]
  exact K
set_option maxRecDepth 100000 in
theorem c136_225 {r_0 : Nat} {a_1 : Nat} {a_2 : Nat} {a_3 : Nat} {a_4 : Nat} {a_5 : Nat} {a_6 : Nat} {a_7 : Nat} {a_8 : Nat} {a_9 : Nat} {a_10 : Nat} {a_11 : Nat} {fs1 : List Value} {q_fs1_12 : Nat} {n4 : Nat} {f5 : Nat → Int32} {v9 : Nat} {P : ipQ} (e2 : h r_0 = some (.inr (9, fs1))) (e3 : fs1[12]? = some (.ref q_fs1_12)) (e6 : h q_fs1_12 = some (.inl (0, n4, .inl f5))) (b7 : a_11 < n4) (c8 : n4 < 2147483648) (e10 : f5 a_11 = nI v9) (m11 : c ≤ MC) (m12 : s ≤ MS) (hc : call 101 [(.ref r_0), (.int (nI a_2)), (.int (nI v9))] h z 0 0 P) (K : ∀ (o : Option Value) (h2 : HP) (z2 : Nat), P o h2 z2 → ip sc call 136 MC MS Q 237 [some (.ref r_0), some (.int (nI a_1)), some (.int (nI a_2)), some (.int (nI a_3)), some (.int (nI a_4)), some (.int (nI a_5)), some (.int (nI a_6)), some (.int (nI a_7)), some (.int (nI a_8)), some (.int (nI a_9)), some (.int (nI a_10)), some (.int (nI a_11))] (o.toList ++ []) h2 z2 c s) : ip sc call 136 MC MS Q 225 [some (.ref r_0), some (.int (nI a_1)), some (.int (nI a_2)), some (.int (nI a_3)), some (.int (nI a_4)), some (.int (nI a_5)), some (.int (nI a_6)), some (.int (nI a_7)), some (.int (nI a_8)), some (.int (nI a_9)), some (.int (nI a_10)), some (.int (nI a_11))] [] h z c s := by
  refine jp_load (pc2 := 226) (n := 0) rfl rfl rfl rfl ?_
  refine jp_load (pc2 := 227) (n := 2) rfl rfl rfl rfl ?_
  refine jp_load (pc2 := 228) (n := 0) rfl rfl rfl rfl ?_
  refine jp_getf (pc2 := 231) rfl rfl e2 e3 ?_
  refine jp_load (pc2 := 233) (n := 11) rfl rfl rfl rfl ?_
  refine jp_iald (pc2 := 234) rfl rfl e6 (vp_in_nI b7 c8) ?_
  rw [(nI_clamp (Nat.lt_trans b7 c8))]
  rw [e10]
  exact jp_virt0 (pc2 := 237) (As := [(.int (nI a_2)), (.int (nI v9))]) (rest := []) rfl rfl rfl (Nat.le_of_ble_eq_true rfl) e2 m11 m12 hc rfl K
set_option maxRecDepth 100000 in
theorem c136_237 {r_0 : Nat} {a_1 : Nat} {a_2 : Nat} {a_3 : Nat} {a_4 : Nat} {a_5 : Nat} {a_6 : Nat} {a_7 : Nat} {a_8 : Nat} {a_9 : Nat} {a_10 : Nat} {o_11 : Option Value}  (K : ip sc call 136 MC MS Q 99 [some (.ref r_0), some (.int (nI a_1)), some (.int (nI a_2)), some (.int (nI a_3)), some (.int (nI a_4)), some (.int (nI a_5)), some (.int (nI a_6)), some (.int (nI a_7)), some (.int (nI a_8)), some (.int (nI a_9)), some (.int (nI (a_10 + 1))), o_11] [] h z c s) : ip sc call 136 MC MS Q 237 [some (.ref r_0), some (.int (nI a_1)), some (.int (nI a_2)), some (.int (nI a_3)), some (.int (nI a_4)), some (.int (nI a_5)), some (.int (nI a_6)), some (.int (nI a_7)), some (.int (nI a_8)), some (.int (nI a_9)), some (.int (nI a_10)), o_11] [] h z c s := by
  refine jp_iinc (pc2 := 240) (n := 10) (v := nI (a_10 + 1)) rfl rfl rfl (nI_add _ 1) rfl ?_
  refine ip_goto rfl ?_
  exact K
set_option maxRecDepth 100000 in
theorem c136_243 {r_0 : Nat} {a_1 : Nat} {a_2 : Nat} {a_3 : Nat} {a_4 : Nat} {a_5 : Nat} {a_6 : Nat} {a_7 : Nat} {o_8 : Option Value} {a_9 : Nat} {o_10 : Option Value} {o_11 : Option Value}  (K : ip sc call 136 MC MS Q 63 [some (.ref r_0), some (.int (nI a_1)), some (.int (nI a_2)), some (.int (nI (a_3 + 1))), some (.int (nI (a_4 + a_9))), some (.int (nI a_5)), some (.int (nI a_6)), some (.int (nI (a_7 + 1))), o_8, some (.int (nI a_9)), o_10, o_11] [] h z c s) : ip sc call 136 MC MS Q 243 [some (.ref r_0), some (.int (nI a_1)), some (.int (nI a_2)), some (.int (nI a_3)), some (.int (nI a_4)), some (.int (nI a_5)), some (.int (nI a_6)), some (.int (nI a_7)), o_8, some (.int (nI a_9)), o_10, o_11] [] h z c s := by
  refine jp_load (pc2 := 245) (n := 4) rfl rfl rfl rfl ?_
  refine jp_load (pc2 := 247) (n := 9) rfl rfl rfl rfl ?_
  refine jp_bin (pc2 := 248) (v := nI (a_4 + a_9)) rfl rfl (congrArg some (nI_add _ _)) ?_
  refine jp_store (pc2 := 250) (n := 4) rfl rfl ⟨rfl, rfl⟩ rfl (Nat.le_of_ble_eq_true rfl) ?_
  refine jp_iinc (pc2 := 253) (n := 3) (v := nI (a_3 + 1)) rfl rfl rfl (nI_add _ 1) rfl ?_
  refine jp_iinc (pc2 := 256) (n := 7) (v := nI (a_7 + 1)) rfl rfl rfl (nI_add _ 1) rfl ?_
  refine ip_goto rfl ?_
  exact K
set_option maxRecDepth 100000 in
theorem c136_259 {r_0 : Nat} {a_1 : Nat} {a_2 : Nat} {a_3 : Nat} {a_4 : Nat} {a_5 : Nat} {o_6 : Option Value} {o_7 : Option Value} {o_8 : Option Value} {o_9 : Option Value} {o_10 : Option Value} {o_11 : Option Value}  (K : ip sc call 136 MC MS Q 44 [some (.ref r_0), some (.int (nI a_1)), some (.int (nI a_2)), some (.int (nI a_3)), some (.int (nI a_4)), some (.int (nI (a_5 + 1))), o_6, o_7, o_8, o_9, o_10, o_11] [] h z c s) : ip sc call 136 MC MS Q 259 [some (.ref r_0), some (.int (nI a_1)), some (.int (nI a_2)), some (.int (nI a_3)), some (.int (nI a_4)), some (.int (nI a_5)), o_6, o_7, o_8, o_9, o_10, o_11] [] h z c s := by
  refine jp_iinc (pc2 := 262) (n := 5) (v := nI (a_5 + 1)) rfl rfl rfl (nI_add _ 1) rfl ?_
  refine ip_goto rfl ?_
  exact K
set_option maxRecDepth 100000 in
theorem c136_265 {o_0 : Option Value} {o_1 : Option Value} {o_2 : Option Value} {o_3 : Option Value} {o_4 : Option Value} {o_5 : Option Value} {o_6 : Option Value} {o_7 : Option Value} {o_8 : Option Value} {o_9 : Option Value} {o_10 : Option Value} {o_11 : Option Value} (q1 : Q none h z)  : ip sc call 136 MC MS Q 265 [o_0, o_1, o_2, o_3, o_4, o_5, o_6, o_7, o_8, o_9, o_10, o_11] [] h z c s := by
  exact ip_vret (st := []) rfl rfl q1
theorem c137_0 {r_0 : Nat} {a_1 : Nat} {o_2 : Option Value} {o_3 : Option Value} {o_4 : Option Value} {o_5 : Option Value} {o_6 : Option Value} {o_7 : Option Value} {o_8 : Option Value} {o_9 : Option Value}  (K : ip sc call 137 MC MS Q 2 [some (.ref r_0), some (.int (nI a_1)), some (.int (nI 0)), o_3, o_4, o_5, o_6, o_7, o_8, o_9] [] h z c s) : ip sc call 137 MC MS Q 0 [some (.ref r_0), some (.int (nI a_1)), o_2, o_3, o_4, o_5, o_6, o_7, o_8, o_9] [] h z c s := by
  refine jp_con (pc2 := 1) (v := (.int (nI 0))) rfl rfl rfl ?_
  refine jp_store (pc2 := 2) (n := 2) rfl rfl ⟨rfl, rfl⟩ rfl (Nat.le_of_ble_eq_true rfl) ?_
  exact K
theorem c137_2 {r_0 : Nat} {a_1 : Nat} {a_2 : Nat} {o_3 : Option Value} {o_4 : Option Value} {o_5 : Option Value} {o_6 : Option Value} {o_7 : Option Value} {o_8 : Option Value} {o_9 : Option Value} {fs1 : List Value} {q_fs1_0 : Nat} {n4 : Nat} {f5 : Nat → Int32} {v9 : Nat} (e2 : h r_0 = some (.inr (9, fs1))) (e3 : fs1[0]? = some (.ref q_fs1_0)) (e6 : h q_fs1_0 = some (.inl (0, n4, .inl f5))) (b7 : a_1 + 1 < n4) (c8 : n4 < 2147483648) (e10 : f5 (a_1 + 1) = nI v9) (c11 : a_2 < 2147483648) (c12 : v9 < 2147483648) (K1 : v9 ≤ a_2 → ip sc call 137 MC MS Q 27 [some (.ref r_0), some (.int (nI a_1)), some (.int (nI a_2)), o_3, o_4, o_5, o_6, o_7, o_8, o_9] [] h z c s) (K2 : ¬ (v9 ≤ a_2) → ip sc call 137 MC MS Q 14 [some (.ref r_0), some (.int (nI a_1)), some (.int (nI a_2)), o_3, o_4, o_5, o_6, o_7, o_8, o_9] [] h z c s) : ip sc call 137 MC MS Q 2 [some (.ref r_0), some (.int (nI a_1)), some (.int (nI a_2)), o_3, o_4, o_5, o_6, o_7, o_8, o_9] [] h z c s := by
  refine jp_load (pc2 := 3) (n := 2) rfl rfl rfl rfl ?_
  refine jp_load (pc2 := 4) (n := 0) rfl rfl rfl rfl ?_
  refine jp_getf (pc2 := 7) rfl rfl e2 e3 ?_
  refine jp_load (pc2 := 8) (n := 1) rfl rfl rfl rfl ?_
  refine jp_con (pc2 := 9) (v := (.int (nI 1))) rfl rfl rfl ?_
  refine jp_bin (pc2 := 10) (v := nI (a_1 + 1)) rfl rfl (congrArg some (nI_add _ _)) ?_
  refine jp_iald (pc2 := 11) rfl rfl e6 (vp_in_nI b7 c8) ?_
  rw [(nI_clamp (Nat.lt_trans b7 c8))]
  rw [e10]
  exact jp_icmp (pc2 := 14) rfl rfl (fun q => K1 ((nI_leI c12 c11).mp q)) (fun q => K2 (fun r => q ((nI_leI c12 c11).mpr r)))
theorem c137_14 {r_0 : Nat} {a_1 : Nat} {a_2 : Nat} {o_3 : Option Value} {o_4 : Option Value} {o_5 : Option Value} {o_6 : Option Value} {o_7 : Option Value} {o_8 : Option Value} {o_9 : Option Value} {fs1 : List Value} {q_fs1_13 : Nat} {n4 : Nat} {f5 : Nat → Int32} {g9 : Nat → Int32} (e2 : h r_0 = some (.inr (9, fs1))) (e3 : fs1[13]? = some (.ref q_fs1_13)) (e6 : h q_fs1_13 = some (.inl (0, n4, .inl f5))) (b7 : a_2 < n4) (c8 : n4 < 2147483648) (d10 : upd f5 a_2 (nI a_2) = g9) (K : ip sc call 137 MC MS Q 2 [some (.ref r_0), some (.int (nI a_1)), some (.int (nI (a_2 + 1))), o_3, o_4, o_5, o_6, o_7, o_8, o_9] [] (hup h q_fs1_13 (.inl (0, n4, .inl g9))) z c s) : ip sc call 137 MC MS Q 14 [some (.ref r_0), some (.int (nI a_1)), some (.int (nI a_2)), o_3, o_4, o_5, o_6, o_7, o_8, o_9] [] h z c s := by
  refine jp_load (pc2 := 15) (n := 0) rfl rfl rfl rfl ?_
  refine jp_getf (pc2 := 18) rfl rfl e2 e3 ?_
  refine jp_load (pc2 := 19) (n := 2) rfl rfl rfl rfl ?_
  refine jp_load (pc2 := 20) (n := 2) rfl rfl rfl rfl ?_
  refine jp_iast (pc2 := 21) rfl rfl e6 (vp_in_nI b7 c8) ?_
  rw [(nI_clamp (Nat.lt_trans b7 c8))]
  rw [d10]
  refine jp_iinc (pc2 := 24) (n := 2) (v := nI (a_2 + 1)) rfl rfl rfl (nI_add _ 1) rfl ?_
  refine ip_goto rfl ?_
  exact K
theorem c137_27 {r_0 : Nat} {a_1 : Nat} {o_2 : Option Value} {o_3 : Option Value} {o_4 : Option Value} {o_5 : Option Value} {o_6 : Option Value} {o_7 : Option Value} {o_8 : Option Value} {o_9 : Option Value}  (K : ip sc call 137 MC MS Q 29 [some (.ref r_0), some (.int (nI a_1)), some (.int (nI 0)), o_3, o_4, o_5, o_6, o_7, o_8, o_9] [] h z c s) : ip sc call 137 MC MS Q 27 [some (.ref r_0), some (.int (nI a_1)), o_2, o_3, o_4, o_5, o_6, o_7, o_8, o_9] [] h z c s := by
  refine jp_con (pc2 := 28) (v := (.int (nI 0))) rfl rfl rfl ?_
  refine jp_store (pc2 := 29) (n := 2) rfl rfl ⟨rfl, rfl⟩ rfl (Nat.le_of_ble_eq_true rfl) ?_
  exact K
theorem c137_29 {r_0 : Nat} {a_1 : Nat} {a_2 : Nat} {o_3 : Option Value} {o_4 : Option Value} {o_5 : Option Value} {o_6 : Option Value} {o_7 : Option Value} {o_8 : Option Value} {o_9 : Option Value} {fs1 : List Value} {q_fs1_0 : Nat} {n4 : Nat} {f5 : Nat → Int32} {v9 : Nat} (e2 : h r_0 = some (.inr (9, fs1))) (e3 : fs1[0]? = some (.ref q_fs1_0)) (e6 : h q_fs1_0 = some (.inl (0, n4, .inl f5))) (b7 : a_1 + 0 < n4) (c8 : n4 < 2147483648) (e10 : f5 (a_1 + 0) = nI v9) (c11 : a_2 < 2147483648) (c12 : v9 < 2147483648) (K1 : v9 ≤ a_2 → ip sc call 137 MC MS Q 211 [some (.ref r_0), some (.int (nI a_1)), some (.int (nI a_2)), o_3, o_4, o_5, o_6, o_7, o_8, o_9] [] h z c s) (K2 : ¬ (v9 ≤ a_2) → ip sc call 137 MC MS Q 41 [some (.ref r_0), some (.int (nI a_1)), some (.int (nI a_2)), o_3, o_4, o_5, o_6, o_7, o_8, o_9] [] h z c s) : ip sc call 137 MC MS Q 29 [some (.ref r_0), some (.int (nI a_1)), some (.int (nI a_2)), o_3, o_4, o_5, o_6, o_7, o_8, o_9] [] h z c s := by
  refine jp_load (pc2 := 30) (n := 2) rfl rfl rfl rfl ?_
  refine jp_load (pc2 := 31) (n := 0) rfl rfl rfl rfl ?_
  refine jp_getf (pc2 := 34) rfl rfl e2 e3 ?_
  refine jp_load (pc2 := 35) (n := 1) rfl rfl rfl rfl ?_
  refine jp_con (pc2 := 36) (v := (.int (nI 0))) rfl rfl rfl ?_
  refine jp_bin (pc2 := 37) (v := nI (a_1 + 0)) rfl rfl (congrArg some (nI_add _ _)) ?_
  refine jp_iald (pc2 := 38) rfl rfl e6 (vp_in_nI b7 c8) ?_
  rw [(nI_clamp (Nat.lt_trans b7 c8))]
  rw [e10]
  exact jp_icmp (pc2 := 41) rfl rfl (fun q => K1 ((nI_leI c12 c11).mp q)) (fun q => K2 (fun r => q ((nI_leI c12 c11).mpr r)))
theorem c137_41 {r_0 : Nat} {a_1 : Nat} {a_2 : Nat} {o_3 : Option Value} {o_4 : Option Value} {o_5 : Option Value} {o_6 : Option Value} {o_7 : Option Value} {o_8 : Option Value} {o_9 : Option Value}  (K : ip sc call 137 MC MS Q 56 [some (.ref r_0), some (.int (nI a_1)), some (.int (nI a_2)), some (.int ((-1))), some (.int (nI 0)), some (.int (nI (a_1 + 132))), some (.int (nI 0)), o_7, o_8, o_9] [] h z c s) : ip sc call 137 MC MS Q 41 [some (.ref r_0), some (.int (nI a_1)), some (.int (nI a_2)), o_3, o_4, o_5, o_6, o_7, o_8, o_9] [] h z c s := by
  refine jp_con (pc2 := 42) (v := (.int ((-1)))) rfl rfl rfl ?_
  refine jp_store (pc2 := 43) (n := 3) rfl rfl ⟨rfl, rfl⟩ rfl (Nat.le_of_ble_eq_true rfl) ?_
  refine jp_con (pc2 := 44) (v := (.int (nI 0))) rfl rfl rfl ?_
  refine jp_store (pc2 := 46) (n := 4) rfl rfl ⟨rfl, rfl⟩ rfl (Nat.le_of_ble_eq_true rfl) ?_
  refine jp_load (pc2 := 47) (n := 1) rfl rfl rfl rfl ?_
  refine jp_con (pc2 := 50) (v := (.int (nI 132))) rfl rfl rfl ?_
  refine jp_bin (pc2 := 51) (v := nI (a_1 + 132)) rfl rfl (congrArg some (nI_add _ _)) ?_
  refine jp_store (pc2 := 53) (n := 5) rfl rfl ⟨rfl, rfl⟩ rfl (Nat.le_of_ble_eq_true rfl) ?_
  refine jp_con (pc2 := 54) (v := (.int (nI 0))) rfl rfl rfl ?_
  refine jp_store (pc2 := 56) (n := 6) rfl rfl ⟨rfl, rfl⟩ rfl (Nat.le_of_ble_eq_true rfl) ?_
  exact K
theorem c137_56 {r_0 : Nat} {a_1 : Nat} {a_2 : Nat} {a_3 : Nat} {a_4 : Nat} {a_5 : Nat} {a_6 : Nat} {o_7 : Option Value} {o_8 : Option Value} {o_9 : Option Value} {fs1 : List Value} {q_fs1_0 : Nat} {n4 : Nat} {f5 : Nat → Int32} {v9 : Nat} (e2 : h r_0 = some (.inr (9, fs1))) (e3 : fs1[0]? = some (.ref q_fs1_0)) (e6 : h q_fs1_0 = some (.inl (0, n4, .inl f5))) (b7 : a_1 + 1 < n4) (c8 : n4 < 2147483648) (e10 : f5 (a_1 + 1) = nI v9) (c11 : a_6 < 2147483648) (c12 : v9 < 2147483648) (K1 : v9 ≤ a_6 → ip sc call 137 MC MS Q 205 [some (.ref r_0), some (.int (nI a_1)), some (.int (nI a_2)), some (.int (nI a_3)), some (.int (nI a_4)), some (.int (nI a_5)), some (.int (nI a_6)), o_7, o_8, o_9] [] h z c s) (K2 : ¬ (v9 ≤ a_6) → ip sc call 137 MC MS Q 69 [some (.ref r_0), some (.int (nI a_1)), some (.int (nI a_2)), some (.int (nI a_3)), some (.int (nI a_4)), some (.int (nI a_5)), some (.int (nI a_6)), o_7, o_8, o_9] [] h z c s) : ip sc call 137 MC MS Q 56 [some (.ref r_0), some (.int (nI a_1)), some (.int (nI a_2)), some (.int (nI a_3)), some (.int (nI a_4)), some (.int (nI a_5)), some (.int (nI a_6)), o_7, o_8, o_9] [] h z c s := by
  refine jp_load (pc2 := 58) (n := 6) rfl rfl rfl rfl ?_
  refine jp_load (pc2 := 59) (n := 0) rfl rfl rfl rfl ?_
  refine jp_getf (pc2 := 62) rfl rfl e2 e3 ?_
  refine jp_load (pc2 := 63) (n := 1) rfl rfl rfl rfl ?_
  refine jp_con (pc2 := 64) (v := (.int (nI 1))) rfl rfl rfl ?_
  refine jp_bin (pc2 := 65) (v := nI (a_1 + 1)) rfl rfl (congrArg some (nI_add _ _)) ?_
  refine jp_iald (pc2 := 66) rfl rfl e6 (vp_in_nI b7 c8) ?_
  rw [(nI_clamp (Nat.lt_trans b7 c8))]
  rw [e10]
  exact jp_icmp (pc2 := 69) rfl rfl (fun q => K1 ((nI_leI c12 c11).mp q)) (fun q => K2 (fun r => q ((nI_leI c12 c11).mpr r)))
theorem c137_69 {r_0 : Nat} {a_1 : Nat} {a_2 : Nat} {a_3 : Nat} {a_4 : Nat} {a_5 : Nat} {a_6 : Nat} {o_7 : Option Value} {o_8 : Option Value} {o_9 : Option Value}  (K : ip sc call 137 MC MS Q 75 [some (.ref r_0), some (.int (nI a_1)), some (.int (nI a_2)), some (.int (nI a_3)), some (.int (nI a_4)), some (.int (nI a_5)), some (.int (nI a_6)), some (.int (nI 0)), some (.int (nI 0)), o_9] [] h z c s) : ip sc call 137 MC MS Q 69 [some (.ref r_0), some (.int (nI a_1)), some (.int (nI a_2)), some (.int (nI a_3)), some (.int (nI a_4)), some (.int (nI a_5)), some (.int (nI a_6)), o_7, o_8, o_9] [] h z c s := by
  refine jp_con (pc2 := 70) (v := (.int (nI 0))) rfl rfl rfl ?_
  refine jp_store (pc2 := 72) (n := 7) rfl rfl ⟨rfl, rfl⟩ rfl (Nat.le_of_ble_eq_true rfl) ?_
  refine jp_con (pc2 := 73) (v := (.int (nI 0))) rfl rfl rfl ?_
  refine jp_store (pc2 := 75) (n := 8) rfl rfl ⟨rfl, rfl⟩ rfl (Nat.le_of_ble_eq_true rfl) ?_
  exact K
theorem c137_75 {r_0 : Nat} {a_1 : Nat} {a_2 : Nat} {a_3 : Nat} {a_4 : Nat} {a_5 : Nat} {a_6 : Nat} {a_7 : Nat} {a_8 : Nat} {o_9 : Option Value} {fs1 : List Value} {q_fs1_0 : Nat} {n4 : Nat} {f5 : Nat → Int32} {v9 : Nat} (e2 : h r_0 = some (.inr (9, fs1))) (e3 : fs1[0]? = some (.ref q_fs1_0)) (e6 : h q_fs1_0 = some (.inl (0, n4, .inl f5))) (b7 : (a_1 + 36) + a_6 < n4) (c8 : n4 < 2147483648) (e10 : f5 ((a_1 + 36) + a_6) = nI v9) (c11 : a_8 < 2147483648) (c12 : v9 < 2147483648) (K1 : v9 ≤ a_8 → ip sc call 137 MC MS Q 170 [some (.ref r_0), some (.int (nI a_1)), some (.int (nI a_2)), some (.int (nI a_3)), some (.int (nI a_4)), some (.int (nI a_5)), some (.int (nI a_6)), some (.int (nI a_7)), some (.int (nI a_8)), o_9] [] h z c s) (K2 : ¬ (v9 ≤ a_8) → ip sc call 137 MC MS Q 92 [some (.ref r_0), some (.int (nI a_1)), some (.int (nI a_2)), some (.int (nI a_3)), some (.int (nI a_4)), some (.int (nI a_5)), some (.int (nI a_6)), some (.int (nI a_7)), some (.int (nI a_8)), o_9] [] h z c s) : ip sc call 137 MC MS Q 75 [some (.ref r_0), some (.int (nI a_1)), some (.int (nI a_2)), some (.int (nI a_3)), some (.int (nI a_4)), some (.int (nI a_5)), some (.int (nI a_6)), some (.int (nI a_7)), some (.int (nI a_8)), o_9] [] h z c s := by
  refine jp_load (pc2 := 77) (n := 8) rfl rfl rfl rfl ?_
  refine jp_load (pc2 := 78) (n := 0) rfl rfl rfl rfl ?_
  refine jp_getf (pc2 := 81) rfl rfl e2 e3 ?_
  refine jp_load (pc2 := 82) (n := 1) rfl rfl rfl rfl ?_
  refine jp_con (pc2 := 84) (v := (.int (nI 36))) rfl rfl rfl ?_
  refine jp_bin (pc2 := 85) (v := nI (a_1 + 36)) rfl rfl (congrArg some (nI_add _ _)) ?_
  refine jp_load (pc2 := 87) (n := 6) rfl rfl rfl rfl ?_
  refine jp_bin (pc2 := 88) (v := nI ((a_1 + 36) + a_6)) rfl rfl (congrArg some (nI_add _ _)) ?_
  refine jp_iald (pc2 := 89) rfl rfl e6 (vp_in_nI b7 c8) ?_
  rw [(nI_clamp (Nat.lt_trans b7 c8))]
  rw [e10]
  exact jp_icmp (pc2 := 92) rfl rfl (fun q => K1 ((nI_leI c12 c11).mp q)) (fun q => K2 (fun r => q ((nI_leI c12 c11).mpr r)))
theorem c137_92 {r_0 : Nat} {a_1 : Nat} {a_2 : Nat} {a_3 : Nat} {a_4 : Nat} {a_5 : Nat} {a_6 : Nat} {a_7 : Nat} {a_8 : Nat} {o_9 : Option Value}  (K : ip sc call 137 MC MS Q 95 [some (.ref r_0), some (.int (nI a_1)), some (.int (nI a_2)), some (.int (nI a_3)), some (.int (nI a_4)), some (.int (nI a_5)), some (.int (nI a_6)), some (.int (nI a_7)), some (.int (nI a_8)), some (.int (nI 0))] [] h z c s) : ip sc call 137 MC MS Q 92 [some (.ref r_0), some (.int (nI a_1)), some (.int (nI a_2)), some (.int (nI a_3)), some (.int (nI a_4)), some (.int (nI a_5)), some (.int (nI a_6)), some (.int (nI a_7)), some (.int (nI a_8)), o_9] [] h z c s := by
  refine jp_con (pc2 := 93) (v := (.int (nI 0))) rfl rfl rfl ?_
  refine jp_store (pc2 := 95) (n := 9) rfl rfl ⟨rfl, rfl⟩ rfl (Nat.le_of_ble_eq_true rfl) ?_
  exact K
theorem c137_95 {r_0 : Nat} {a_1 : Nat} {a_2 : Nat} {a_3 : Nat} {a_4 : Nat} {a_5 : Nat} {a_6 : Nat} {a_7 : Nat} {a_8 : Nat} {a_9 : Nat} {fs1 : List Value} {q_fs1_0 : Nat} {n4 : Nat} {f5 : Nat → Int32} {v9 : Nat} (e2 : h r_0 = some (.inr (9, fs1))) (e3 : fs1[0]? = some (.ref q_fs1_0)) (e6 : h q_fs1_0 = some (.inl (0, n4, .inl f5))) (b7 : (a_1 + 68) + a_4 < n4) (c8 : n4 < 2147483648) (e10 : f5 ((a_1 + 68) + a_4) = nI v9) (c11 : a_9 < 2147483648) (c12 : v9 < 2147483648) (K1 : v9 ≤ a_9 → ip sc call 137 MC MS Q 144 [some (.ref r_0), some (.int (nI a_1)), some (.int (nI a_2)), some (.int (nI a_3)), some (.int (nI a_4)), some (.int (nI a_5)), some (.int (nI a_6)), some (.int (nI a_7)), some (.int (nI a_8)), some (.int (nI a_9))] [] h z c s) (K2 : ¬ (v9 ≤ a_9) → ip sc call 137 MC MS Q 112 [some (.ref r_0), some (.int (nI a_1)), some (.int (nI a_2)), some (.int (nI a_3)), some (.int (nI a_4)), some (.int (nI a_5)), some (.int (nI a_6)), some (.int (nI a_7)), some (.int (nI a_8)), some (.int (nI a_9))] [] h z c s) : ip sc call 137 MC MS Q 95 [some (.ref r_0), some (.int (nI a_1)), some (.int (nI a_2)), some (.int (nI a_3)), some (.int (nI a_4)), some (.int (nI a_5)), some (.int (nI a_6)), some (.int (nI a_7)), some (.int (nI a_8)), some (.int (nI a_9))] [] h z c s := by
  refine jp_load (pc2 := 97) (n := 9) rfl rfl rfl rfl ?_
  refine jp_load (pc2 := 98) (n := 0) rfl rfl rfl rfl ?_
  refine jp_getf (pc2 := 101) rfl rfl e2 e3 ?_
  refine jp_load (pc2 := 102) (n := 1) rfl rfl rfl rfl ?_
  refine jp_con (pc2 := 104) (v := (.int (nI 68))) rfl rfl rfl ?_
  refine jp_bin (pc2 := 105) (v := nI (a_1 + 68)) rfl rfl (congrArg some (nI_add _ _)) ?_
  refine jp_load (pc2 := 107) (n := 4) rfl rfl rfl rfl ?_
  refine jp_bin (pc2 := 108) (v := nI ((a_1 + 68) + a_4)) rfl rfl (congrArg some (nI_add _ _)) ?_
  refine jp_iald (pc2 := 109) rfl rfl e6 (vp_in_nI b7 c8) ?_
  rw [(nI_clamp (Nat.lt_trans b7 c8))]
  rw [e10]
  exact jp_icmp (pc2 := 112) rfl rfl (fun q => K1 ((nI_leI c12 c11).mp q)) (fun q => K2 (fun r => q ((nI_leI c12 c11).mpr r)))
theorem c137_112 {r_0 : Nat} {a_1 : Nat} {a_2 : Nat} {a_3 : Nat} {a_4 : Nat} {a_5 : Nat} {a_6 : Nat} {a_7 : Nat} {a_8 : Nat} {a_9 : Nat} (c1 : a_7 < 2147483648) (K1 : ¬ a_7 = 0 → ip sc call 137 MC MS Q 131 [some (.ref r_0), some (.int (nI a_1)), some (.int (nI a_2)), some (.int (nI a_3)), some (.int (nI a_4)), some (.int (nI a_5)), some (.int (nI a_6)), some (.int (nI a_7)), some (.int (nI a_8)), some (.int (nI a_9))] [] h z c s) (K2 : ¬ (¬ a_7 = 0) → ip sc call 137 MC MS Q 117 [some (.ref r_0), some (.int (nI a_1)), some (.int (nI a_2)), some (.int (nI a_3)), some (.int (nI a_4)), some (.int (nI a_5)), some (.int (nI a_6)), some (.int (nI a_7)), some (.int (nI a_8)), some (.int (nI a_9))] [] h z c s) : ip sc call 137 MC MS Q 112 [some (.ref r_0), some (.int (nI a_1)), some (.int (nI a_2)), some (.int (nI a_3)), some (.int (nI a_4)), some (.int (nI a_5)), some (.int (nI a_6)), some (.int (nI a_7)), some (.int (nI a_8)), some (.int (nI a_9))] [] h z c s := by
  refine jp_load (pc2 := 114) (n := 7) rfl rfl rfl rfl ?_
  exact jp_if0 (pc2 := 117) rfl rfl (fun q => K1 ((not_congr (nI_eq c1 (by decide))).mp q)) (fun q => K2 (fun r => q ((not_congr (nI_eq c1 (by decide))).mpr r)))
theorem c137_117 {r_0 : Nat} {a_1 : Nat} {a_2 : Nat} {a_3 : Nat} {a_4 : Nat} {a_5 : Nat} {a_6 : Nat} {o_7 : Option Value} {a_8 : Nat} {a_9 : Nat} {fs1 : List Value} {q_fs1_0 : Nat} {n4 : Nat} {f5 : Nat → Int32} {v9 : Nat} (e2 : h r_0 = some (.inr (9, fs1))) (e3 : fs1[0]? = some (.ref q_fs1_0)) (e6 : h q_fs1_0 = some (.inl (0, n4, .inl f5))) (b7 : a_5 + a_9 < n4) (c8 : n4 < 2147483648) (e10 : f5 (a_5 + a_9) = nI v9) (c11 : v9 < 2147483648) (c12 : a_2 < 2147483648) (K1 : ¬ v9 = a_2 → ip sc call 137 MC MS Q 135 [some (.ref r_0), some (.int (nI a_1)), some (.int (nI a_2)), some (.int (nI a_3)), some (.int (nI a_4)), some (.int (nI a_5)), some (.int (nI a_6)), o_7, some (.int (nI a_8)), some (.int (nI a_9))] [] h z c s) (K2 : ¬ (¬ v9 = a_2) → ip sc call 137 MC MS Q 131 [some (.ref r_0), some (.int (nI a_1)), some (.int (nI a_2)), some (.int (nI a_3)), some (.int (nI a_4)), some (.int (nI a_5)), some (.int (nI a_6)), o_7, some (.int (nI a_8)), some (.int (nI a_9))] [] h z c s) : ip sc call 137 MC MS Q 117 [some (.ref r_0), some (.int (nI a_1)), some (.int (nI a_2)), some (.int (nI a_3)), some (.int (nI a_4)), some (.int (nI a_5)), some (.int (nI a_6)), o_7, some (.int (nI a_8)), some (.int (nI a_9))] [] h z c s := by
  refine jp_load (pc2 := 118) (n := 0) rfl rfl rfl rfl ?_
  refine jp_getf (pc2 := 121) rfl rfl e2 e3 ?_
  refine jp_load (pc2 := 123) (n := 5) rfl rfl rfl rfl ?_
  refine jp_load (pc2 := 125) (n := 9) rfl rfl rfl rfl ?_
  refine jp_bin (pc2 := 126) (v := nI (a_5 + a_9)) rfl rfl (congrArg some (nI_add _ _)) ?_
  refine jp_iald (pc2 := 127) rfl rfl e6 (vp_in_nI b7 c8) ?_
  rw [(nI_clamp (Nat.lt_trans b7 c8))]
  rw [e10]
  refine jp_load (pc2 := 128) (n := 2) rfl rfl rfl rfl ?_
  exact jp_icmp (pc2 := 131) rfl rfl (fun q => K1 ((not_congr (nI_eq c11 c12)).mp q)) (fun q => K2 (fun r => q ((not_congr (nI_eq c11 c12)).mpr r)))
theorem c137_131 {r_0 : Nat} {a_1 : Nat} {a_2 : Nat} {a_3 : Nat} {a_4 : Nat} {a_5 : Nat} {a_6 : Nat} {o_7 : Option Value} {a_8 : Nat} {a_9 : Nat}  (K : ip sc call 137 MC MS Q 136 [some (.ref r_0), some (.int (nI a_1)), some (.int (nI a_2)), some (.int (nI a_3)), some (.int (nI a_4)), some (.int (nI a_5)), some (.int (nI a_6)), o_7, some (.int (nI a_8)), some (.int (nI a_9))] [(.int (nI 1))] h z c s) : ip sc call 137 MC MS Q 131 [some (.ref r_0), some (.int (nI a_1)), some (.int (nI a_2)), some (.int (nI a_3)), some (.int (nI a_4)), some (.int (nI a_5)), some (.int (nI a_6)), o_7, some (.int (nI a_8)), some (.int (nI a_9))] [] h z c s := by
  refine jp_con (pc2 := 132) (v := (.int (nI 1))) rfl rfl rfl ?_
  refine ip_goto rfl ?_
  exact K
theorem c137_135 {r_0 : Nat} {a_1 : Nat} {a_2 : Nat} {a_3 : Nat} {a_4 : Nat} {a_5 : Nat} {a_6 : Nat} {o_7 : Option Value} {a_8 : Nat} {a_9 : Nat}  (K : ip sc call 137 MC MS Q 136 [some (.ref r_0), some (.int (nI a_1)), some (.int (nI a_2)), some (.int (nI a_3)), some (.int (nI a_4)), some (.int (nI a_5)), some (.int (nI a_6)), o_7, some (.int (nI a_8)), some (.int (nI a_9))] [(.int (nI 0))] h z c s) : ip sc call 137 MC MS Q 135 [some (.ref r_0), some (.int (nI a_1)), some (.int (nI a_2)), some (.int (nI a_3)), some (.int (nI a_4)), some (.int (nI a_5)), some (.int (nI a_6)), o_7, some (.int (nI a_8)), some (.int (nI a_9))] [] h z c s := by
  refine jp_con (pc2 := 136) (v := (.int (nI 0))) rfl rfl rfl ?_
  exact K
theorem c137_136 {r_0 : Nat} {a_1 : Nat} {a_2 : Nat} {a_3 : Nat} {a_4 : Nat} {a_5 : Nat} {a_6 : Nat} {o_7 : Option Value} {a_8 : Nat} {a_9 : Nat} {sa_0 : Nat}  (K : ip sc call 137 MC MS Q 95 [some (.ref r_0), some (.int (nI a_1)), some (.int (nI a_2)), some (.int (nI a_3)), some (.int (nI a_4)), some (.int (nI a_5)), some (.int (nI a_6)), some (.int (nI sa_0)), some (.int (nI a_8)), some (.int (nI (a_9 + 1)))] [] h z c s) : ip sc call 137 MC MS Q 136 [some (.ref r_0), some (.int (nI a_1)), some (.int (nI a_2)), some (.int (nI a_3)), some (.int (nI a_4)), some (.int (nI a_5)), some (.int (nI a_6)), o_7, some (.int (nI a_8)), some (.int (nI a_9))] [(.int (nI sa_0))] h z c s := by
  refine jp_store (pc2 := 138) (n := 7) rfl rfl ⟨rfl, rfl⟩ rfl (Nat.le_of_ble_eq_true rfl) ?_
  refine jp_iinc (pc2 := 141) (n := 9) (v := nI (a_9 + 1)) rfl rfl rfl (nI_add _ 1) rfl ?_
  refine ip_goto rfl ?_
  exact K
theorem c137_144 {r_0 : Nat} {a_1 : Nat} {a_2 : Nat} {a_3 : Nat} {a_4 : Nat} {a_5 : Nat} {a_6 : Nat} {a_7 : Nat} {a_8 : Nat} {o_9 : Option Value} {fs1 : List Value} {q_fs1_0 : Nat} {n4 : Nat} {f5 : Nat → Int32} {v9 : Nat} (e2 : h r_0 = some (.inr (9, fs1))) (e3 : fs1[0]? = some (.ref q_fs1_0)) (e6 : h q_fs1_0 = some (.inl (0, n4, .inl f5))) (b7 : (a_1 + 68) + a_4 < n4) (c8 : n4 < 2147483648) (e10 : f5 ((a_1 + 68) + a_4) = nI v9) (K : ip sc call 137 MC MS Q 75 [some (.ref r_0), some (.int (nI a_1)), some (.int (nI a_2)), some (.int (nI a_3)), some (.int (nI (a_4 + 1))), some (.int (nI (a_5 + v9))), some (.int (nI a_6)), some (.int (nI a_7)), some (.int (nI (a_8 + 1))), o_9] [] h z c s) : ip sc call 137 MC MS Q 144 [some (.ref r_0), some (.int (nI a_1)), some (.int (nI a_2)), some (.int (nI a_3)), some (.int (nI a_4)), some (.int (nI a_5)), some (.int (nI a_6)), some (.int (nI a_7)), some (.int (nI a_8)), o_9] [] h z c s := by
  refine jp_load (pc2 := 146) (n := 5) rfl rfl rfl rfl ?_
  refine jp_load (pc2 := 147) (n := 0) rfl rfl rfl rfl ?_
  refine jp_getf (pc2 := 150) rfl rfl e2 e3 ?_
  refine jp_load (pc2 := 151) (n := 1) rfl rfl rfl rfl ?_
  refine jp_con (pc2 := 153) (v := (.int (nI 68))) rfl rfl rfl ?_
  refine jp_bin (pc2 := 154) (v := nI (a_1 + 68)) rfl rfl (congrArg some (nI_add _ _)) ?_
  refine jp_load (pc2 := 156) (n := 4) rfl rfl rfl rfl ?_
  refine jp_bin (pc2 := 157) (v := nI ((a_1 + 68) + a_4)) rfl rfl (congrArg some (nI_add _ _)) ?_
  refine jp_iald (pc2 := 158) rfl rfl e6 (vp_in_nI b7 c8) ?_
  rw [(nI_clamp (Nat.lt_trans b7 c8))]
  rw [e10]
  refine jp_bin (pc2 := 159) (v := nI (a_5 + v9)) rfl rfl (congrArg some (nI_add _ _)) ?_
  refine jp_store (pc2 := 161) (n := 5) rfl rfl ⟨rfl, rfl⟩ rfl (Nat.le_of_ble_eq_true rfl) ?_
  refine jp_iinc (pc2 := 164) (n := 4) (v := nI (a_4 + 1)) rfl rfl rfl (nI_add _ 1) rfl ?_
  refine jp_iinc (pc2 := 167) (n := 8) (v := nI (a_8 + 1)) rfl rfl rfl (nI_add _ 1) rfl ?_
  refine ip_goto rfl ?_
  exact K
theorem c137_170 {r_0 : Nat} {a_1 : Nat} {a_2 : Nat} {a_3 : Nat} {a_4 : Nat} {a_5 : Nat} {a_6 : Nat} {a_7 : Nat} {o_8 : Option Value} {o_9 : Option Value} (c1 : a_7 < 2147483648) (K1 : a_7 = 0 → ip sc call 137 MC MS Q 187 [some (.ref r_0), some (.int (nI a_1)), some (.int (nI a_2)), some (.int (nI a_3)), some (.int (nI a_4)), some (.int (nI a_5)), some (.int (nI a_6)), some (.int (nI a_7)), o_8, o_9] [] h z c s) (K2 : ¬ (a_7 = 0) → ip sc call 137 MC MS Q 175 [some (.ref r_0), some (.int (nI a_1)), some (.int (nI a_2)), some (.int (nI a_3)), some (.int (nI a_4)), some (.int (nI a_5)), some (.int (nI a_6)), some (.int (nI a_7)), o_8, o_9] [] h z c s) : ip sc call 137 MC MS Q 170 [some (.ref r_0), some (.int (nI a_1)), some (.int (nI a_2)), some (.int (nI a_3)), some (.int (nI a_4)), some (.int (nI a_5)), some (.int (nI a_6)), some (.int (nI a_7)), o_8, o_9] [] h z c s := by
  refine jp_load (pc2 := 172) (n := 7) rfl rfl rfl rfl ?_
  exact jp_if0 (pc2 := 175) rfl rfl (fun q => K1 ((nI_eq c1 (by decide)).mp q)) (fun q => K2 (fun r => q ((nI_eq c1 (by decide)).mpr r)))
theorem c137_175 {r_0 : Nat} {a_1 : Nat} {a_2 : Nat} {a_3 : Nat} {a_4 : Nat} {a_5 : Nat} {a_6 : Nat} {a_7 : Nat} {o_8 : Option Value} {o_9 : Option Value} (c1 : a_3 < 2147483648) (K1 : a_3 < 0 → ip sc call 137 MC MS Q 187 [some (.ref r_0), some (.int (nI a_1)), some (.int (nI a_2)), some (.int (nI a_3)), some (.int (nI a_4)), some (.int (nI a_5)), some (.int (nI a_6)), some (.int (nI a_7)), o_8, o_9] [] h z c s) (K2 : ¬ (a_3 < 0) → ip sc call 137 MC MS Q 179 [some (.ref r_0), some (.int (nI a_1)), some (.int (nI a_2)), some (.int (nI a_3)), some (.int (nI a_4)), some (.int (nI a_5)), some (.int (nI a_6)), some (.int (nI a_7)), o_8, o_9] [] h z c s) : ip sc call 137 MC MS Q 175 [some (.ref r_0), some (.int (nI a_1)), some (.int (nI a_2)), some (.int (nI a_3)), some (.int (nI a_4)), some (.int (nI a_5)), some (.int (nI a_6)), some (.int (nI a_7)), o_8, o_9] [] h z c s := by
  refine jp_load (pc2 := 176) (n := 3) rfl rfl rfl rfl ?_
  exact jp_if0 (pc2 := 179) rfl rfl (fun q => K1 ((nI_ltI c1 (by decide)).mp q)) (fun q => K2 (fun r => q ((nI_ltI c1 (by decide)).mpr r)))
theorem c137_179 {r_0 : Nat} {a_1 : Nat} {a_2 : Nat} {a_3 : Nat} {a_4 : Nat} {a_5 : Nat} {a_6 : Nat} {a_7 : Nat} {o_8 : Option Value} {o_9 : Option Value} {fs1 : List Value} {P : ipQ} (e2 : h r_0 = some (.inr (9, fs1))) (m3 : c ≤ MC) (m4 : s ≤ MS) (hc : call 138 [(.ref r_0), (.int (nI a_1)), (.int (nI a_3)), (.int (nI a_6))] h z 0 0 P) (K : ∀ (o : Option Value) (h2 : HP) (z2 : Nat), P o h2 z2 → ip sc call 137 MC MS Q 187 [some (.ref r_0), some (.int (nI a_1)), some (.int (nI a_2)), some (.int (nI a_3)), some (.int (nI a_4)), some (.int (nI a_5)), some (.int (nI a_6)), some (.int (nI a_7)), o_8, o_9] (o.toList ++ []) h2 z2 c s) : ip sc call 137 MC MS Q 179 [some (.ref r_0), some (.int (nI a_1)), some (.int (nI a_2)), some (.int (nI a_3)), some (.int (nI a_4)), some (.int (nI a_5)), some (.int (nI a_6)), some (.int (nI a_7)), o_8, o_9] [] h z c s := by
  refine jp_load (pc2 := 180) (n := 0) rfl rfl rfl rfl ?_
  refine jp_load (pc2 := 181) (n := 1) rfl rfl rfl rfl ?_
  refine jp_load (pc2 := 182) (n := 3) rfl rfl rfl rfl ?_
  refine jp_load (pc2 := 184) (n := 6) rfl rfl rfl rfl ?_
  exact jp_virt0 (pc2 := 187) (As := [(.int (nI a_1)), (.int (nI a_3)), (.int (nI a_6))]) (rest := []) rfl rfl rfl (Nat.le_of_ble_eq_true rfl) e2 m3 m4 hc rfl K
theorem c137_187 {r_0 : Nat} {a_1 : Nat} {a_2 : Nat} {a_3 : Nat} {a_4 : Nat} {a_5 : Nat} {a_6 : Nat} {a_7 : Nat} {o_8 : Option Value} {o_9 : Option Value} (c1 : a_7 < 2147483648) (K1 : a_7 = 0 → ip sc call 137 MC MS Q 199 [some (.ref r_0), some (.int (nI a_1)), some (.int (nI a_2)), some (.int (nI a_3)), some (.int (nI a_4)), some (.int (nI a_5)), some (.int (nI a_6)), some (.int (nI a_7)), o_8, o_9] [] h z c s) (K2 : ¬ (a_7 = 0) → ip sc call 137 MC MS Q 192 [some (.ref r_0), some (.int (nI a_1)), some (.int (nI a_2)), some (.int (nI a_3)), some (.int (nI a_4)), some (.int (nI a_5)), some (.int (nI a_6)), some (.int (nI a_7)), o_8, o_9] [] h z c s) : ip sc call 137 MC MS Q 187 [some (.ref r_0), some (.int (nI a_1)), some (.int (nI a_2)), some (.int (nI a_3)), some (.int (nI a_4)), some (.int (nI a_5)), some (.int (nI a_6)), some (.int (nI a_7)), o_8, o_9] [] h z c s := by
  refine jp_load (pc2 := 189) (n := 7) rfl rfl rfl rfl ?_
  exact jp_if0 (pc2 := 192) rfl rfl (fun q => K1 ((nI_eq c1 (by decide)).mp q)) (fun q => K2 (fun r => q ((nI_eq c1 (by decide)).mpr r)))
theorem c137_192 {r_0 : Nat} {a_1 : Nat} {a_2 : Nat} {a_3 : Nat} {a_4 : Nat} {a_5 : Nat} {a_6 : Nat} {o_7 : Option Value} {o_8 : Option Value} {o_9 : Option Value} (c1 : a_3 < 2147483648) (K1 : 0 ≤ a_3 → ip sc call 137 MC MS Q 199 [some (.ref r_0), some (.int (nI a_1)), some (.int (nI a_2)), some (.int (nI a_3)), some (.int (nI a_4)), some (.int (nI a_5)), some (.int (nI a_6)), o_7, o_8, o_9] [] h z c s) (K2 : ¬ (0 ≤ a_3) → ip sc call 137 MC MS Q 196 [some (.ref r_0), some (.int (nI a_1)), some (.int (nI a_2)), some (.int (nI a_3)), some (.int (nI a_4)), some (.int (nI a_5)), some (.int (nI a_6)), o_7, o_8, o_9] [] h z c s) : ip sc call 137 MC MS Q 192 [some (.ref r_0), some (.int (nI a_1)), some (.int (nI a_2)), some (.int (nI a_3)), some (.int (nI a_4)), some (.int (nI a_5)), some (.int (nI a_6)), o_7, o_8, o_9] [] h z c s := by
  refine jp_load (pc2 := 193) (n := 3) rfl rfl rfl rfl ?_
  exact jp_if0 (pc2 := 196) rfl rfl (fun q => K1 ((nI_leI (by decide) c1).mp q)) (fun q => K2 (fun r => q ((nI_leI (by decide) c1).mpr r)))
theorem c137_196 {r_0 : Nat} {a_1 : Nat} {a_2 : Nat} {o_3 : Option Value} {a_4 : Nat} {a_5 : Nat} {a_6 : Nat} {o_7 : Option Value} {o_8 : Option Value} {o_9 : Option Value}  (K : ip sc call 137 MC MS Q 199 [some (.ref r_0), some (.int (nI a_1)), some (.int (nI a_2)), some (.int (nI a_6)), some (.int (nI a_4)), some (.int (nI a_5)), some (.int (nI a_6)), o_7, o_8, o_9] [] h z c s) : ip sc call 137 MC MS Q 196 [some (.ref r_0), some (.int (nI a_1)), some (.int (nI a_2)), o_3, some (.int (nI a_4)), some (.int (nI a_5)), some (.int (nI a_6)), o_7, o_8, o_9] [] h z c s := by
  refine jp_load (pc2 := 198) (n := 6) rfl rfl rfl rfl ?_
  refine jp_store (pc2 := 199) (n := 3) rfl rfl ⟨rfl, rfl⟩ rfl (Nat.le_of_ble_eq_true rfl) ?_
  exact K
theorem c137_199 {r_0 : Nat} {a_1 : Nat} {a_2 : Nat} {a_3 : Nat} {a_4 : Nat} {a_5 : Nat} {a_6 : Nat} {o_7 : Option Value} {o_8 : Option Value} {o_9 : Option Value}  (K : ip sc call 137 MC MS Q 56 [some (.ref r_0), some (.int (nI a_1)), some (.int (nI a_2)), some (.int (nI a_3)), some (.int (nI a_4)), some (.int (nI a_5)), some (.int (nI (a_6 + 1))), o_7, o_8, o_9] [] h z c s) : ip sc call 137 MC MS Q 199 [some (.ref r_0), some (.int (nI a_1)), some (.int (nI a_2)), some (.int (nI a_3)), some (.int (nI a_4)), some (.int (nI a_5)), some (.int (nI a_6)), o_7, o_8, o_9] [] h z c s := by
  refine jp_iinc (pc2 := 202) (n := 6) (v := nI (a_6 + 1)) rfl rfl rfl (nI_add _ 1) rfl ?_
  refine ip_goto rfl ?_
  exact K
theorem c137_205 {r_0 : Nat} {a_1 : Nat} {a_2 : Nat} {o_3 : Option Value} {o_4 : Option Value} {o_5 : Option Value} {o_6 : Option Value} {o_7 : Option Value} {o_8 : Option Value} {o_9 : Option Value}  (K : ip sc call 137 MC MS Q 29 [some (.ref r_0), some (.int (nI a_1)), some (.int (nI (a_2 + 1))), o_3, o_4, o_5, o_6, o_7, o_8, o_9] [] h z c s) : ip sc call 137 MC MS Q 205 [some (.ref r_0), some (.int (nI a_1)), some (.int (nI a_2)), o_3, o_4, o_5, o_6, o_7, o_8, o_9] [] h z c s := by
  refine jp_iinc (pc2 := 208) (n := 2) (v := nI (a_2 + 1)) rfl rfl rfl (nI_add _ 1) rfl ?_
  refine ip_goto rfl ?_
  exact K
theorem c137_211 {o_0 : Option Value} {o_1 : Option Value} {o_2 : Option Value} {o_3 : Option Value} {o_4 : Option Value} {o_5 : Option Value} {o_6 : Option Value} {o_7 : Option Value} {o_8 : Option Value} {o_9 : Option Value} (q1 : Q none h z)  : ip sc call 137 MC MS Q 211 [o_0, o_1, o_2, o_3, o_4, o_5, o_6, o_7, o_8, o_9] [] h z c s := by
  exact ip_vret (st := []) rfl rfl q1
theorem c138_0 {r_0 : Nat} {a_1 : Nat} {a_2 : Nat} {a_3 : Nat} {o_4 : Option Value} {o_5 : Option Value} {o_6 : Option Value} {fs1 : List Value} {q_fs1_13 : Nat} {n4 : Nat} {f5 : Nat → Int32} {v9 : Nat} {v12 : Nat} (e2 : h r_0 = some (.inr (9, fs1))) (e3 : fs1[13]? = some (.ref q_fs1_13)) (e6 : h q_fs1_13 = some (.inl (0, n4, .inl f5))) (b7 : a_2 < n4) (c8 : n4 < 2147483648) (e10 : f5 a_2 = nI v9) (b11 : a_3 < n4) (e13 : f5 a_3 = nI v12) (c14 : v9 < 2147483648) (c15 : v12 < 2147483648) (K1 : v12 ≤ v9 → ip sc call 138 MC MS Q 24 [some (.ref r_0), some (.int (nI a_1)), some (.int (nI a_2)), some (.int (nI a_3)), o_4, o_5, o_6] [] h z c s) (K2 : ¬ (v12 ≤ v9) → ip sc call 138 MC MS Q 15 [some (.ref r_0), some (.int (nI a_1)), some (.int (nI a_2)), some (.int (nI a_3)), o_4, o_5, o_6] [] h z c s) : ip sc call 138 MC MS Q 0 [some (.ref r_0), some (.int (nI a_1)), some (.int (nI a_2)), some (.int (nI a_3)), o_4, o_5, o_6] [] h z c s := by
  refine jp_load (pc2 := 1) (n := 0) rfl rfl rfl rfl ?_
  refine jp_getf (pc2 := 4) rfl rfl e2 e3 ?_
  refine jp_load (pc2 := 5) (n := 2) rfl rfl rfl rfl ?_
  refine jp_iald (pc2 := 6) rfl rfl e6 (vp_in_nI b7 c8) ?_
  rw [(nI_clamp (Nat.lt_trans b7 c8))]
  rw [e10]
  refine jp_load (pc2 := 7) (n := 0) rfl rfl rfl rfl ?_
  refine jp_getf (pc2 := 10) rfl rfl e2 e3 ?_
  refine jp_load (pc2 := 11) (n := 3) rfl rfl rfl rfl ?_
  refine jp_iald (pc2 := 12) rfl rfl e6 (vp_in_nI b11 c8) ?_
  rw [(nI_clamp (Nat.lt_trans b11 c8))]
  rw [e13]
  exact jp_icmp (pc2 := 15) rfl rfl (fun q => K1 ((nI_leI c15 c14).mp q)) (fun q => K2 (fun r => q ((nI_leI c15 c14).mpr r)))
theorem c138_15 {r_0 : Nat} {a_1 : Nat} {a_2 : Nat} {a_3 : Nat} {o_4 : Option Value} {o_5 : Option Value} {o_6 : Option Value} {fs1 : List Value} {q_fs1_13 : Nat} {n4 : Nat} {f5 : Nat → Int32} {v9 : Nat} (e2 : h r_0 = some (.inr (9, fs1))) (e3 : fs1[13]? = some (.ref q_fs1_13)) (e6 : h q_fs1_13 = some (.inl (0, n4, .inl f5))) (b7 : a_2 < n4) (c8 : n4 < 2147483648) (e10 : f5 a_2 = nI v9) (K : ip sc call 138 MC MS Q 30 [some (.ref r_0), some (.int (nI a_1)), some (.int (nI a_2)), some (.int (nI a_3)), o_4, o_5, o_6] [(.int (nI v9))] h z c s) : ip sc call 138 MC MS Q 15 [some (.ref r_0), some (.int (nI a_1)), some (.int (nI a_2)), some (.int (nI a_3)), o_4, o_5, o_6] [] h z c s := by
  refine jp_load (pc2 := 16) (n := 0) rfl rfl rfl rfl ?_
  refine jp_getf (pc2 := 19) rfl rfl e2 e3 ?_
  refine jp_load (pc2 := 20) (n := 2) rfl rfl rfl rfl ?_
  refine jp_iald (pc2 := 21) rfl rfl e6 (vp_in_nI b7 c8) ?_
  rw [(nI_clamp (Nat.lt_trans b7 c8))]
  rw [e10]
  refine ip_goto rfl ?_
  exact K
theorem c138_24 {r_0 : Nat} {a_1 : Nat} {a_2 : Nat} {a_3 : Nat} {o_4 : Option Value} {o_5 : Option Value} {o_6 : Option Value} {fs1 : List Value} {q_fs1_13 : Nat} {n4 : Nat} {f5 : Nat → Int32} {v9 : Nat} (e2 : h r_0 = some (.inr (9, fs1))) (e3 : fs1[13]? = some (.ref q_fs1_13)) (e6 : h q_fs1_13 = some (.inl (0, n4, .inl f5))) (b7 : a_3 < n4) (c8 : n4 < 2147483648) (e10 : f5 a_3 = nI v9) (K : ip sc call 138 MC MS Q 30 [some (.ref r_0), some (.int (nI a_1)), some (.int (nI a_2)), some (.int (nI a_3)), o_4, o_5, o_6] [(.int (nI v9))] h z c s) : ip sc call 138 MC MS Q 24 [some (.ref r_0), some (.int (nI a_1)), some (.int (nI a_2)), some (.int (nI a_3)), o_4, o_5, o_6] [] h z c s := by
  refine jp_load (pc2 := 25) (n := 0) rfl rfl rfl rfl ?_
  refine jp_getf (pc2 := 28) rfl rfl e2 e3 ?_
  refine jp_load (pc2 := 29) (n := 3) rfl rfl rfl rfl ?_
  refine jp_iald (pc2 := 30) rfl rfl e6 (vp_in_nI b7 c8) ?_
  rw [(nI_clamp (Nat.lt_trans b7 c8))]
  rw [e10]
  exact K
theorem c138_30 {r_0 : Nat} {a_1 : Nat} {a_2 : Nat} {a_3 : Nat} {o_4 : Option Value} {o_5 : Option Value} {o_6 : Option Value} {sa_0 : Nat} {fs1 : List Value} {q_fs1_13 : Nat} {n4 : Nat} {f5 : Nat → Int32} {v9 : Nat} {v12 : Nat} (e2 : h r_0 = some (.inr (9, fs1))) (e3 : fs1[13]? = some (.ref q_fs1_13)) (e6 : h q_fs1_13 = some (.inl (0, n4, .inl f5))) (b7 : a_2 < n4) (c8 : n4 < 2147483648) (e10 : f5 a_2 = nI v9) (b11 : a_3 < n4) (e13 : f5 a_3 = nI v12) (c14 : v9 < 2147483648) (c15 : v12 < 2147483648) (K1 : v12 ≤ v9 → ip sc call 138 MC MS Q 56 [some (.ref r_0), some (.int (nI a_1)), some (.int (nI a_2)), some (.int (nI a_3)), some (.int (nI sa_0)), o_5, o_6] [] h z c s) (K2 : ¬ (v12 ≤ v9) → ip sc call 138 MC MS Q 47 [some (.ref r_0), some (.int (nI a_1)), some (.int (nI a_2)), some (.int (nI a_3)), some (.int (nI sa_0)), o_5, o_6] [] h z c s) : ip sc call 138 MC MS Q 30 [some (.ref r_0), some (.int (nI a_1)), some (.int (nI a_2)), some (.int (nI a_3)), o_4, o_5, o_6] [(.int (nI sa_0))] h z c s := by
  refine jp_store (pc2 := 32) (n := 4) rfl rfl ⟨rfl, rfl⟩ rfl (Nat.le_of_ble_eq_true rfl) ?_
  refine jp_load (pc2 := 33) (n := 0) rfl rfl rfl rfl ?_
  refine jp_getf (pc2 := 36) rfl rfl e2 e3 ?_
  refine jp_load (pc2 := 37) (n := 2) rfl rfl rfl rfl ?_
  refine jp_iald (pc2 := 38) rfl rfl e6 (vp_in_nI b7 c8) ?_
  rw [(nI_clamp (Nat.lt_trans b7 c8))]
  rw [e10]
  refine jp_load (pc2 := 39) (n := 0) rfl rfl rfl rfl ?_
  refine jp_getf (pc2 := 42) rfl rfl e2 e3 ?_
  refine jp_load (pc2 := 43) (n := 3) rfl rfl rfl rfl ?_
  refine jp_iald (pc2 := 44) rfl rfl e6 (vp_in_nI b11 c8) ?_
  rw [(nI_clamp (Nat.lt_trans b11 c8))]
  rw [e13]
  exact jp_icmp (pc2 := 47) rfl rfl (fun q => K1 ((nI_leI c15 c14).mp q)) (fun q => K2 (fun r => q ((nI_leI c15 c14).mpr r)))
theorem c138_47 {r_0 : Nat} {a_1 : Nat} {o_2 : Option Value} {a_3 : Nat} {a_4 : Nat} {o_5 : Option Value} {o_6 : Option Value} {fs1 : List Value} {q_fs1_13 : Nat} {n4 : Nat} {f5 : Nat → Int32} {v9 : Nat} (e2 : h r_0 = some (.inr (9, fs1))) (e3 : fs1[13]? = some (.ref q_fs1_13)) (e6 : h q_fs1_13 = some (.inl (0, n4, .inl f5))) (b7 : a_3 < n4) (c8 : n4 < 2147483648) (e10 : f5 a_3 = nI v9) (K : ip sc call 138 MC MS Q 62 [some (.ref r_0), some (.int (nI a_1)), o_2, some (.int (nI a_3)), some (.int (nI a_4)), o_5, o_6] [(.int (nI v9))] h z c s) : ip sc call 138 MC MS Q 47 [some (.ref r_0), some (.int (nI a_1)), o_2, some (.int (nI a_3)), some (.int (nI a_4)), o_5, o_6] [] h z c s := by
  refine jp_load (pc2 := 48) (n := 0) rfl rfl rfl rfl ?_
  refine jp_getf (pc2 := 51) rfl rfl e2 e3 ?_
  refine jp_load (pc2 := 52) (n := 3) rfl rfl rfl rfl ?_
  refine jp_iald (pc2 := 53) rfl rfl e6 (vp_in_nI b7 c8) ?_
  rw [(nI_clamp (Nat.lt_trans b7 c8))]
  rw [e10]
  refine ip_goto rfl ?_
  exact K
theorem c138_56 {r_0 : Nat} {a_1 : Nat} {a_2 : Nat} {o_3 : Option Value} {a_4 : Nat} {o_5 : Option Value} {o_6 : Option Value} {fs1 : List Value} {q_fs1_13 : Nat} {n4 : Nat} {f5 : Nat → Int32} {v9 : Nat} (e2 : h r_0 = some (.inr (9, fs1))) (e3 : fs1[13]? = some (.ref q_fs1_13)) (e6 : h q_fs1_13 = some (.inl (0, n4, .inl f5))) (b7 : a_2 < n4) (c8 : n4 < 2147483648) (e10 : f5 a_2 = nI v9) (K : ip sc call 138 MC MS Q 62 [some (.ref r_0), some (.int (nI a_1)), some (.int (nI a_2)), o_3, some (.int (nI a_4)), o_5, o_6] [(.int (nI v9))] h z c s) : ip sc call 138 MC MS Q 56 [some (.ref r_0), some (.int (nI a_1)), some (.int (nI a_2)), o_3, some (.int (nI a_4)), o_5, o_6] [] h z c s := by
  refine jp_load (pc2 := 57) (n := 0) rfl rfl rfl rfl ?_
  refine jp_getf (pc2 := 60) rfl rfl e2 e3 ?_
  refine jp_load (pc2 := 61) (n := 2) rfl rfl rfl rfl ?_
  refine jp_iald (pc2 := 62) rfl rfl e6 (vp_in_nI b7 c8) ?_
  rw [(nI_clamp (Nat.lt_trans b7 c8))]
  rw [e10]
  exact K
theorem c138_62 {r_0 : Nat} {a_1 : Nat} {o_2 : Option Value} {o_3 : Option Value} {a_4 : Nat} {o_5 : Option Value} {o_6 : Option Value} {sa_0 : Nat}  (K : ip sc call 138 MC MS Q 67 [some (.ref r_0), some (.int (nI a_1)), o_2, o_3, some (.int (nI a_4)), some (.int (nI sa_0)), some (.int (nI 0))] [] h z c s) : ip sc call 138 MC MS Q 62 [some (.ref r_0), some (.int (nI a_1)), o_2, o_3, some (.int (nI a_4)), o_5, o_6] [(.int (nI sa_0))] h z c s := by
  refine jp_store (pc2 := 64) (n := 5) rfl rfl ⟨rfl, rfl⟩ rfl (Nat.le_of_ble_eq_true rfl) ?_
  refine jp_con (pc2 := 65) (v := (.int (nI 0))) rfl rfl rfl ?_
  refine jp_store (pc2 := 67) (n := 6) rfl rfl ⟨rfl, rfl⟩ rfl (Nat.le_of_ble_eq_true rfl) ?_
  exact K
theorem c138_67 {r_0 : Nat} {a_1 : Nat} {o_2 : Option Value} {o_3 : Option Value} {a_4 : Nat} {a_5 : Nat} {a_6 : Nat} {fs1 : List Value} {q_fs1_0 : Nat} {n4 : Nat} {f5 : Nat → Int32} {v9 : Nat} (e2 : h r_0 = some (.inr (9, fs1))) (e3 : fs1[0]? = some (.ref q_fs1_0)) (e6 : h q_fs1_0 = some (.inl (0, n4, .inl f5))) (b7 : a_1 + 1 < n4) (c8 : n4 < 2147483648) (e10 : f5 (a_1 + 1) = nI v9) (c11 : a_6 < 2147483648) (c12 : v9 < 2147483648) (K1 : v9 ≤ a_6 → ip sc call 138 MC MS Q 107 [some (.ref r_0), some (.int (nI a_1)), o_2, o_3, some (.int (nI a_4)), some (.int (nI a_5)), some (.int (nI a_6))] [] h z c s) (K2 : ¬ (v9 ≤ a_6) → ip sc call 138 MC MS Q 80 [some (.ref r_0), some (.int (nI a_1)), o_2, o_3, some (.int (nI a_4)), some (.int (nI a_5)), some (.int (nI a_6))] [] h z c s) : ip sc call 138 MC MS Q 67 [some (.ref r_0), some (.int (nI a_1)), o_2, o_3, some (.int (nI a_4)), some (.int (nI a_5)), some (.int (nI a_6))] [] h z c s := by
  refine jp_load (pc2 := 69) (n := 6) rfl rfl rfl rfl ?_
  refine jp_load (pc2 := 70) (n := 0) rfl rfl rfl rfl ?_
  refine jp_getf (pc2 := 73) rfl rfl e2 e3 ?_
  refine jp_load (pc2 := 74) (n := 1) rfl rfl rfl rfl ?_
  refine jp_con (pc2 := 75) (v := (.int (nI 1))) rfl rfl rfl ?_
  refine jp_bin (pc2 := 76) (v := nI (a_1 + 1)) rfl rfl (congrArg some (nI_add _ _)) ?_
  refine jp_iald (pc2 := 77) rfl rfl e6 (vp_in_nI b7 c8) ?_
  rw [(nI_clamp (Nat.lt_trans b7 c8))]
  rw [e10]
  exact jp_icmp (pc2 := 80) rfl rfl (fun q => K1 ((nI_leI c12 c11).mp q)) (fun q => K2 (fun r => q ((nI_leI c12 c11).mpr r)))
theorem c138_80 {r_0 : Nat} {a_1 : Nat} {o_2 : Option Value} {o_3 : Option Value} {a_4 : Nat} {a_5 : Nat} {a_6 : Nat} {fs1 : List Value} {q_fs1_13 : Nat} {n4 : Nat} {f5 : Nat → Int32} {v9 : Nat} (e2 : h r_0 = some (.inr (9, fs1))) (e3 : fs1[13]? = some (.ref q_fs1_13)) (e6 : h q_fs1_13 = some (.inl (0, n4, .inl f5))) (b7 : a_6 < n4) (c8 : n4 < 2147483648) (e10 : f5 a_6 = nI v9) (c11 : v9 < 2147483648) (c12 : a_5 < 2147483648) (K1 : ¬ v9 = a_5 → ip sc call 138 MC MS Q 101 [some (.ref r_0), some (.int (nI a_1)), o_2, o_3, some (.int (nI a_4)), some (.int (nI a_5)), some (.int (nI a_6))] [] h z c s) (K2 : ¬ (¬ v9 = a_5) → ip sc call 138 MC MS Q 92 [some (.ref r_0), some (.int (nI a_1)), o_2, o_3, some (.int (nI a_4)), some (.int (nI a_5)), some (.int (nI a_6))] [] h z c s) : ip sc call 138 MC MS Q 80 [some (.ref r_0), some (.int (nI a_1)), o_2, o_3, some (.int (nI a_4)), some (.int (nI a_5)), some (.int (nI a_6))] [] h z c s := by
  refine jp_load (pc2 := 81) (n := 0) rfl rfl rfl rfl ?_
  refine jp_getf (pc2 := 84) rfl rfl e2 e3 ?_
  refine jp_load (pc2 := 86) (n := 6) rfl rfl rfl rfl ?_
  refine jp_iald (pc2 := 87) rfl rfl e6 (vp_in_nI b7 c8) ?_
  rw [(nI_clamp (Nat.lt_trans b7 c8))]
  rw [e10]
  refine jp_load (pc2 := 89) (n := 5) rfl rfl rfl rfl ?_
  exact jp_icmp (pc2 := 92) rfl rfl (fun q => K1 ((not_congr (nI_eq c11 c12)).mp q)) (fun q => K2 (fun r => q ((not_congr (nI_eq c11 c12)).mpr r)))
theorem c138_92 {r_0 : Nat} {a_1 : Nat} {o_2 : Option Value} {o_3 : Option Value} {a_4 : Nat} {a_5 : Nat} {a_6 : Nat} {fs1 : List Value} {q_fs1_13 : Nat} {n4 : Nat} {f5 : Nat → Int32} {g9 : Nat → Int32} (e2 : h r_0 = some (.inr (9, fs1))) (e3 : fs1[13]? = some (.ref q_fs1_13)) (e6 : h q_fs1_13 = some (.inl (0, n4, .inl f5))) (b7 : a_6 < n4) (c8 : n4 < 2147483648) (d10 : upd f5 a_6 (nI a_4) = g9) (K : ip sc call 138 MC MS Q 101 [some (.ref r_0), some (.int (nI a_1)), o_2, o_3, some (.int (nI a_4)), some (.int (nI a_5)), some (.int (nI a_6))] [] (hup h q_fs1_13 (.inl (0, n4, .inl g9))) z c s) : ip sc call 138 MC MS Q 92 [some (.ref r_0), some (.int (nI a_1)), o_2, o_3, some (.int (nI a_4)), some (.int (nI a_5)), some (.int (nI a_6))] [] h z c s := by
  refine jp_load (pc2 := 93) (n := 0) rfl rfl rfl rfl ?_
  refine jp_getf (pc2 := 96) rfl rfl e2 e3 ?_
  refine jp_load (pc2 := 98) (n := 6) rfl rfl rfl rfl ?_
  refine jp_load (pc2 := 100) (n := 4) rfl rfl rfl rfl ?_
  refine jp_iast (pc2 := 101) rfl rfl e6 (vp_in_nI b7 c8) ?_
  rw [(nI_clamp (Nat.lt_trans b7 c8))]
  rw [d10]
  exact K
theorem c138_101 {r_0 : Nat} {a_1 : Nat} {o_2 : Option Value} {o_3 : Option Value} {a_4 : Nat} {a_5 : Nat} {a_6 : Nat}  (K : ip sc call 138 MC MS Q 67 [some (.ref r_0), some (.int (nI a_1)), o_2, o_3, some (.int (nI a_4)), some (.int (nI a_5)), some (.int (nI (a_6 + 1)))] [] h z c s) : ip sc call 138 MC MS Q 101 [some (.ref r_0), some (.int (nI a_1)), o_2, o_3, some (.int (nI a_4)), some (.int (nI a_5)), some (.int (nI a_6))] [] h z c s := by
  refine jp_iinc (pc2 := 104) (n := 6) (v := nI (a_6 + 1)) rfl rfl rfl (nI_add _ 1) rfl ?_
  refine ip_goto rfl ?_
  exact K
theorem c138_107 {o_0 : Option Value} {o_1 : Option Value} {o_2 : Option Value} {o_3 : Option Value} {o_4 : Option Value} {o_5 : Option Value} {o_6 : Option Value} (q1 : Q none h z)  : ip sc call 138 MC MS Q 107 [o_0, o_1, o_2, o_3, o_4, o_5, o_6] [] h z c s := by
  exact ip_vret (st := []) rfl rfl q1
set_option maxRecDepth 100000 in
theorem c139_0 {r_0 : Nat} {a_1 : Nat} {a_2 : Nat} {a_3 : Nat} {o_4 : Option Value} {o_5 : Option Value} {o_6 : Option Value} {o_7 : Option Value} {o_8 : Option Value} {o_9 : Option Value} {o_10 : Option Value} {fs1 : List Value} {P : ipQ} (e2 : h r_0 = some (.inr (9, fs1))) (m3 : c ≤ MC) (m4 : s ≤ MS) (hc : call 107 [(.ref r_0), (.int (nI a_2))] h z 0 0 P) (K : ∀ (o : Option Value) (h2 : HP) (z2 : Nat), P o h2 z2 → ip sc call 139 MC MS Q 5 [some (.ref r_0), some (.int (nI a_1)), some (.int (nI a_2)), some (.int (nI a_3)), o_4, o_5, o_6, o_7, o_8, o_9, o_10] (o.toList ++ []) h2 z2 c s) : ip sc call 139 MC MS Q 0 [some (.ref r_0), some (.int (nI a_1)), some (.int (nI a_2)), some (.int (nI a_3)), o_4, o_5, o_6, o_7, o_8, o_9, o_10] [] h z c s := by
  refine jp_load (pc2 := 1) (n := 0) rfl rfl rfl rfl ?_
  refine jp_load (pc2 := 2) (n := 2) rfl rfl rfl rfl ?_
  exact jp_virt0 (pc2 := 5) (As := [(.int (nI a_2))]) (rest := []) rfl rfl rfl (Nat.le_of_ble_eq_true rfl) e2 m3 m4 hc rfl K
set_option maxRecDepth 100000 in
theorem c139_5 {r_0 : Nat} {a_1 : Nat} {a_2 : Nat} {a_3 : Nat} {o_4 : Option Value} {o_5 : Option Value} {o_6 : Option Value} {o_7 : Option Value} {o_8 : Option Value} {o_9 : Option Value} {o_10 : Option Value}  (K : ip sc call 139 MC MS Q 8 [some (.ref r_0), some (.int (nI a_1)), some (.int (nI a_2)), some (.int (nI a_3)), some (.int (nI 0)), o_5, o_6, o_7, o_8, o_9, o_10] [] h z c s) : ip sc call 139 MC MS Q 5 [some (.ref r_0), some (.int (nI a_1)), some (.int (nI a_2)), some (.int (nI a_3)), o_4, o_5, o_6, o_7, o_8, o_9, o_10] [] h z c s := by
  refine jp_con (pc2 := 6) (v := (.int (nI 0))) rfl rfl rfl ?_
  refine jp_store (pc2 := 8) (n := 4) rfl rfl ⟨rfl, rfl⟩ rfl (Nat.le_of_ble_eq_true rfl) ?_
  exact K
set_option maxRecDepth 100000 in
theorem c139_8 {r_0 : Nat} {a_1 : Nat} {a_2 : Nat} {a_3 : Nat} {a_4 : Nat} {o_5 : Option Value} {o_6 : Option Value} {o_7 : Option Value} {o_8 : Option Value} {o_9 : Option Value} {o_10 : Option Value} {fs1 : List Value} {q_fs1_0 : Nat} {n4 : Nat} {f5 : Nat → Int32} {v9 : Nat} (e2 : h r_0 = some (.inr (9, fs1))) (e3 : fs1[0]? = some (.ref q_fs1_0)) (e6 : h q_fs1_0 = some (.inl (0, n4, .inl f5))) (b7 : a_1 + 0 < n4) (c8 : n4 < 2147483648) (e10 : f5 (a_1 + 0) = nI v9) (c11 : a_4 < 2147483648) (c12 : v9 < 2147483648) (K1 : v9 ≤ a_4 → ip sc call 139 MC MS Q 35 [some (.ref r_0), some (.int (nI a_1)), some (.int (nI a_2)), some (.int (nI a_3)), some (.int (nI a_4)), o_5, o_6, o_7, o_8, o_9, o_10] [] h z c s) (K2 : ¬ (v9 ≤ a_4) → ip sc call 139 MC MS Q 21 [some (.ref r_0), some (.int (nI a_1)), some (.int (nI a_2)), some (.int (nI a_3)), some (.int (nI a_4)), o_5, o_6, o_7, o_8, o_9, o_10] [] h z c s) : ip sc call 139 MC MS Q 8 [some (.ref r_0), some (.int (nI a_1)), some (.int (nI a_2)), some (.int (nI a_3)), some (.int (nI a_4)), o_5, o_6, o_7, o_8, o_9, o_10] [] h z c s := by
  refine jp_load (pc2 := 10) (n := 4) rfl rfl rfl rfl ?_
  refine jp_load (pc2 := 11) (n := 0) rfl rfl rfl rfl ?_
  refine jp_getf (pc2 := 14) rfl rfl e2 e3 ?_
  refine jp_load (pc2 := 15) (n := 1) rfl rfl rfl rfl ?_
  refine jp_con (pc2 := 16) (v := (.int (nI 0))) rfl rfl rfl ?_
  refine jp_bin (pc2 := 17) (v := nI (a_1 + 0)) rfl rfl (congrArg some (nI_add _ _)) ?_
  refine jp_iald (pc2 := 18) rfl rfl e6 (vp_in_nI b7 c8) ?_
  rw [(nI_clamp (Nat.lt_trans b7 c8))]
  rw [e10]
  exact jp_icmp (pc2 := 21) rfl rfl (fun q => K1 ((nI_leI c12 c11).mp q)) (fun q => K2 (fun r => q ((nI_leI c12 c11).mpr r)))
set_option maxRecDepth 100000 in
theorem c139_21 {r_0 : Nat} {a_1 : Nat} {a_2 : Nat} {a_3 : Nat} {a_4 : Nat} {o_5 : Option Value} {o_6 : Option Value} {o_7 : Option Value} {o_8 : Option Value} {o_9 : Option Value} {o_10 : Option Value} {fs1 : List Value} {q_fs1_12 : Nat} {n4 : Nat} {f5 : Nat → Int32} {g9 : Nat → Int32} (e2 : h r_0 = some (.inr (9, fs1))) (e3 : fs1[12]? = some (.ref q_fs1_12)) (e6 : h q_fs1_12 = some (.inl (0, n4, .inl f5))) (b7 : a_4 < n4) (c8 : n4 < 2147483648) (d10 : upd f5 a_4 ((-1)) = g9) (K : ip sc call 139 MC MS Q 8 [some (.ref r_0), some (.int (nI a_1)), some (.int (nI a_2)), some (.int (nI a_3)), some (.int (nI (a_4 + 1))), o_5, o_6, o_7, o_8, o_9, o_10] [] (hup h q_fs1_12 (.inl (0, n4, .inl g9))) z c s) : ip sc call 139 MC MS Q 21 [some (.ref r_0), some (.int (nI a_1)), some (.int (nI a_2)), some (.int (nI a_3)), some (.int (nI a_4)), o_5, o_6, o_7, o_8, o_9, o_10] [] h z c s := by
  refine jp_load (pc2 := 22) (n := 0) rfl rfl rfl rfl ?_
  refine jp_getf (pc2 := 25) rfl rfl e2 e3 ?_
  refine jp_load (pc2 := 27) (n := 4) rfl rfl rfl rfl ?_
  refine jp_con (pc2 := 28) (v := (.int ((-1)))) rfl rfl rfl ?_
  refine jp_iast (pc2 := 29) rfl rfl e6 (vp_in_nI b7 c8) ?_
  rw [(nI_clamp (Nat.lt_trans b7 c8))]
  rw [d10]
  refine jp_iinc (pc2 := 32) (n := 4) (v := nI (a_4 + 1)) rfl rfl rfl (nI_add _ 1) rfl ?_
  refine ip_goto rfl ?_
  exact K
set_option maxRecDepth 100000 in
theorem c139_35 {r_0 : Nat} {a_1 : Nat} {a_2 : Nat} {a_3 : Nat} {o_4 : Option Value} {o_5 : Option Value} {o_6 : Option Value} {o_7 : Option Value} {o_8 : Option Value} {o_9 : Option Value} {o_10 : Option Value}  (K : ip sc call 139 MC MS Q 48 [some (.ref r_0), some (.int (nI a_1)), some (.int (nI a_2)), some (.int (nI a_3)), some (.int (nI 0)), some (.int (nI (a_1 + 132))), some (.int (nI 0)), o_7, o_8, o_9, o_10] [] h z c s) : ip sc call 139 MC MS Q 35 [some (.ref r_0), some (.int (nI a_1)), some (.int (nI a_2)), some (.int (nI a_3)), o_4, o_5, o_6, o_7, o_8, o_9, o_10] [] h z c s := by
  refine jp_con (pc2 := 36) (v := (.int (nI 0))) rfl rfl rfl ?_
  refine jp_store (pc2 := 38) (n := 4) rfl rfl ⟨rfl, rfl⟩ rfl (Nat.le_of_ble_eq_true rfl) ?_
  refine jp_load (pc2 := 39) (n := 1) rfl rfl rfl rfl ?_
  refine jp_con (pc2 := 42) (v := (.int (nI 132))) rfl rfl rfl ?_
  refine jp_bin (pc2 := 43) (v := nI (a_1 + 132)) rfl rfl (congrArg some (nI_add _ _)) ?_
  refine jp_store (pc2 := 45) (n := 5) rfl rfl ⟨rfl, rfl⟩ rfl (Nat.le_of_ble_eq_true rfl) ?_
  refine jp_con (pc2 := 46) (v := (.int (nI 0))) rfl rfl rfl ?_
  refine jp_store (pc2 := 48) (n := 6) rfl rfl ⟨rfl, rfl⟩ rfl (Nat.le_of_ble_eq_true rfl) ?_
  exact K
set_option maxRecDepth 100000 in
theorem c139_48 {r_0 : Nat} {a_1 : Nat} {a_2 : Nat} {a_3 : Nat} {a_4 : Nat} {a_5 : Nat} {a_6 : Nat} {o_7 : Option Value} {o_8 : Option Value} {o_9 : Option Value} {o_10 : Option Value} {fs1 : List Value} {q_fs1_0 : Nat} {n4 : Nat} {f5 : Nat → Int32} {v9 : Nat} (e2 : h r_0 = some (.inr (9, fs1))) (e3 : fs1[0]? = some (.ref q_fs1_0)) (e6 : h q_fs1_0 = some (.inl (0, n4, .inl f5))) (b7 : a_1 + 1 < n4) (c8 : n4 < 2147483648) (e10 : f5 (a_1 + 1) = nI v9) (c11 : a_6 < 2147483648) (c12 : v9 < 2147483648) (K1 : v9 ≤ a_6 → ip sc call 139 MC MS Q 264 [some (.ref r_0), some (.int (nI a_1)), some (.int (nI a_2)), some (.int (nI a_3)), some (.int (nI a_4)), some (.int (nI a_5)), some (.int (nI a_6)), o_7, o_8, o_9, o_10] [] h z c s) (K2 : ¬ (v9 ≤ a_6) → ip sc call 139 MC MS Q 61 [some (.ref r_0), some (.int (nI a_1)), some (.int (nI a_2)), some (.int (nI a_3)), some (.int (nI a_4)), some (.int (nI a_5)), some (.int (nI a_6)), o_7, o_8, o_9, o_10] [] h z c s) : ip sc call 139 MC MS Q 48 [some (.ref r_0), some (.int (nI a_1)), some (.int (nI a_2)), some (.int (nI a_3)), some (.int (nI a_4)), some (.int (nI a_5)), some (.int (nI a_6)), o_7, o_8, o_9, o_10] [] h z c s := by
  refine jp_load (pc2 := 50) (n := 6) rfl rfl rfl rfl ?_
  refine jp_load (pc2 := 51) (n := 0) rfl rfl rfl rfl ?_
  refine jp_getf (pc2 := 54) rfl rfl e2 e3 ?_
  refine jp_load (pc2 := 55) (n := 1) rfl rfl rfl rfl ?_
  refine jp_con (pc2 := 56) (v := (.int (nI 1))) rfl rfl rfl ?_
  refine jp_bin (pc2 := 57) (v := nI (a_1 + 1)) rfl rfl (congrArg some (nI_add _ _)) ?_
  refine jp_iald (pc2 := 58) rfl rfl e6 (vp_in_nI b7 c8) ?_
  rw [(nI_clamp (Nat.lt_trans b7 c8))]
  rw [e10]
  exact jp_icmp (pc2 := 61) rfl rfl (fun q => K1 ((nI_leI c12 c11).mp q)) (fun q => K2 (fun r => q ((nI_leI c12 c11).mpr r)))
set_option maxRecDepth 100000 in
theorem c139_61 {r_0 : Nat} {a_1 : Nat} {a_2 : Nat} {a_3 : Nat} {a_4 : Nat} {a_5 : Nat} {a_6 : Nat} {o_7 : Option Value} {o_8 : Option Value} {o_9 : Option Value} {o_10 : Option Value} {fs1 : List Value} {q_fs1_13 : Nat} {n4 : Nat} {f5 : Nat → Int32} {v9 : Nat} (e2 : h r_0 = some (.inr (9, fs1))) (e3 : fs1[13]? = some (.ref q_fs1_13)) (e6 : h q_fs1_13 = some (.inl (0, n4, .inl f5))) (b7 : a_6 < n4) (c8 : n4 < 2147483648) (e10 : f5 a_6 = nI v9) (c11 : v9 < 2147483648) (c12 : a_3 < 2147483648) (K1 : ¬ v9 = a_3 → ip sc call 139 MC MS Q 77 [some (.ref r_0), some (.int (nI a_1)), some (.int (nI a_2)), some (.int (nI a_3)), some (.int (nI a_4)), some (.int (nI a_5)), some (.int (nI a_6)), o_7, o_8, o_9, o_10] [] h z c s) (K2 : ¬ (¬ v9 = a_3) → ip sc call 139 MC MS Q 72 [some (.ref r_0), some (.int (nI a_1)), some (.int (nI a_2)), some (.int (nI a_3)), some (.int (nI a_4)), some (.int (nI a_5)), some (.int (nI a_6)), o_7, o_8, o_9, o_10] [] h z c s) : ip sc call 139 MC MS Q 61 [some (.ref r_0), some (.int (nI a_1)), some (.int (nI a_2)), some (.int (nI a_3)), some (.int (nI a_4)), some (.int (nI a_5)), some (.int (nI a_6)), o_7, o_8, o_9, o_10] [] h z c s := by
  refine jp_load (pc2 := 62) (n := 0) rfl rfl rfl rfl ?_
  refine jp_getf (pc2 := 65) rfl rfl e2 e3 ?_
  refine jp_load (pc2 := 67) (n := 6) rfl rfl rfl rfl ?_
  refine jp_iald (pc2 := 68) rfl rfl e6 (vp_in_nI b7 c8) ?_
  rw [(nI_clamp (Nat.lt_trans b7 c8))]
  rw [e10]
  refine jp_load (pc2 := 69) (n := 3) rfl rfl rfl rfl ?_
  exact jp_icmp (pc2 := 72) rfl rfl (fun q => K1 ((not_congr (nI_eq c11 c12)).mp q)) (fun q => K2 (fun r => q ((not_congr (nI_eq c11 c12)).mpr r)))
set_option maxRecDepth 100000 in
theorem c139_72 {r_0 : Nat} {a_1 : Nat} {a_2 : Nat} {a_3 : Nat} {a_4 : Nat} {a_5 : Nat} {a_6 : Nat} {o_7 : Option Value} {o_8 : Option Value} {o_9 : Option Value} {o_10 : Option Value} {fs1 : List Value} {P : ipQ} (e2 : h r_0 = some (.inr (9, fs1))) (m3 : c ≤ MC) (m4 : s ≤ MS) (hc : call 100 [(.ref r_0), (.int (nI a_2))] h z 0 0 P) (K : ∀ (o : Option Value) (h2 : HP) (z2 : Nat), P o h2 z2 → ip sc call 139 MC MS Q 77 [some (.ref r_0), some (.int (nI a_1)), some (.int (nI a_2)), some (.int (nI a_3)), some (.int (nI a_4)), some (.int (nI a_5)), some (.int (nI a_6)), o_7, o_8, o_9, o_10] (o.toList ++ []) h2 z2 c s) : ip sc call 139 MC MS Q 72 [some (.ref r_0), some (.int (nI a_1)), some (.int (nI a_2)), some (.int (nI a_3)), some (.int (nI a_4)), some (.int (nI a_5)), some (.int (nI a_6)), o_7, o_8, o_9, o_10] [] h z c s := by
  refine jp_load (pc2 := 73) (n := 0) rfl rfl rfl rfl ?_
  refine jp_load (pc2 := 74) (n := 2) rfl rfl rfl rfl ?_
  exact jp_virt0 (pc2 := 77) (As := [(.int (nI a_2))]) (rest := []) rfl rfl rfl (Nat.le_of_ble_eq_true rfl) e2 m3 m4 hc rfl K
set_option maxRecDepth 100000 in
theorem c139_77 {r_0 : Nat} {a_1 : Nat} {a_2 : Nat} {a_3 : Nat} {a_4 : Nat} {a_5 : Nat} {a_6 : Nat} {o_7 : Option Value} {o_8 : Option Value} {o_9 : Option Value} {o_10 : Option Value}  (K : ip sc call 139 MC MS Q 80 [some (.ref r_0), some (.int (nI a_1)), some (.int (nI a_2)), some (.int (nI a_3)), some (.int (nI a_4)), some (.int (nI a_5)), some (.int (nI a_6)), some (.int (nI 0)), o_8, o_9, o_10] [] h z c s) : ip sc call 139 MC MS Q 77 [some (.ref r_0), some (.int (nI a_1)), some (.int (nI a_2)), some (.int (nI a_3)), some (.int (nI a_4)), some (.int (nI a_5)), some (.int (nI a_6)), o_7, o_8, o_9, o_10] [] h z c s := by
  refine jp_con (pc2 := 78) (v := (.int (nI 0))) rfl rfl rfl ?_
  refine jp_store (pc2 := 80) (n := 7) rfl rfl ⟨rfl, rfl⟩ rfl (Nat.le_of_ble_eq_true rfl) ?_
  exact K
set_option maxRecDepth 100000 in
theorem c139_80 {r_0 : Nat} {a_1 : Nat} {a_2 : Nat} {a_3 : Nat} {a_4 : Nat} {a_5 : Nat} {a_6 : Nat} {a_7 : Nat} {o_8 : Option Value} {o_9 : Option Value} {o_10 : Option Value} {fs1 : List Value} {q_fs1_0 : Nat} {n4 : Nat} {f5 : Nat → Int32} {v9 : Nat} (e2 : h r_0 = some (.inr (9, fs1))) (e3 : fs1[0]? = some (.ref q_fs1_0)) (e6 : h q_fs1_0 = some (.inl (0, n4, .inl f5))) (b7 : (a_1 + 36) + a_6 < n4) (c8 : n4 < 2147483648) (e10 : f5 ((a_1 + 36) + a_6) = nI v9) (c11 : a_7 < 2147483648) (c12 : v9 < 2147483648) (K1 : v9 ≤ a_7 → ip sc call 139 MC MS Q 258 [some (.ref r_0), some (.int (nI a_1)), some (.int (nI a_2)), some (.int (nI a_3)), some (.int (nI a_4)), some (.int (nI a_5)), some (.int (nI a_6)), some (.int (nI a_7)), o_8, o_9, o_10] [] h z c s) (K2 : ¬ (v9 ≤ a_7) → ip sc call 139 MC MS Q 97 [some (.ref r_0), some (.int (nI a_1)), some (.int (nI a_2)), some (.int (nI a_3)), some (.int (nI a_4)), some (.int (nI a_5)), some (.int (nI a_6)), some (.int (nI a_7)), o_8, o_9, o_10] [] h z c s) : ip sc call 139 MC MS Q 80 [some (.ref r_0), some (.int (nI a_1)), some (.int (nI a_2)), some (.int (nI a_3)), some (.int (nI a_4)), some (.int (nI a_5)), some (.int (nI a_6)), some (.int (nI a_7)), o_8, o_9, o_10] [] h z c s := by
  refine jp_load (pc2 := 82) (n := 7) rfl rfl rfl rfl ?_
  refine jp_load (pc2 := 83) (n := 0) rfl rfl rfl rfl ?_
  refine jp_getf (pc2 := 86) rfl rfl e2 e3 ?_
  refine jp_load (pc2 := 87) (n := 1) rfl rfl rfl rfl ?_
  refine jp_con (pc2 := 89) (v := (.int (nI 36))) rfl rfl rfl ?_
  refine jp_bin (pc2 := 90) (v := nI (a_1 + 36)) rfl rfl (congrArg some (nI_add _ _)) ?_
  refine jp_load (pc2 := 92) (n := 6) rfl rfl rfl rfl ?_
  refine jp_bin (pc2 := 93) (v := nI ((a_1 + 36) + a_6)) rfl rfl (congrArg some (nI_add _ _)) ?_
  refine jp_iald (pc2 := 94) rfl rfl e6 (vp_in_nI b7 c8) ?_
  rw [(nI_clamp (Nat.lt_trans b7 c8))]
  rw [e10]
  exact jp_icmp (pc2 := 97) rfl rfl (fun q => K1 ((nI_leI c12 c11).mp q)) (fun q => K2 (fun r => q ((nI_leI c12 c11).mpr r)))
set_option maxRecDepth 100000 in
theorem c139_97 {r_0 : Nat} {a_1 : Nat} {a_2 : Nat} {a_3 : Nat} {a_4 : Nat} {a_5 : Nat} {a_6 : Nat} {a_7 : Nat} {o_8 : Option Value} {o_9 : Option Value} {o_10 : Option Value} {fs1 : List Value} {q_fs1_0 : Nat} {n4 : Nat} {f5 : Nat → Int32} {v9 : Nat} {q_fs1_13 : Nat} {n12 : Nat} {f13 : Nat → Int32} {v17 : Nat} (e2 : h r_0 = some (.inr (9, fs1))) (e3 : fs1[0]? = some (.ref q_fs1_0)) (e6 : h q_fs1_0 = some (.inl (0, n4, .inl f5))) (b7 : (a_1 + 68) + a_4 < n4) (c8 : n4 < 2147483648) (e10 : f5 ((a_1 + 68) + a_4) = nI v9) (e11 : fs1[13]? = some (.ref q_fs1_13)) (e14 : h q_fs1_13 = some (.inl (0, n12, .inl f13))) (b15 : a_6 < n12) (c16 : n12 < 2147483648) (e18 : f13 a_6 = nI v17) (c19 : v17 < 2147483648) (c20 : a_3 < 2147483648) (K1 : ¬ v17 = a_3 → ip sc call 139 MC MS Q 127 [some (.ref r_0), some (.int (nI a_1)), some (.int (nI a_2)), some (.int (nI a_3)), some (.int (nI a_4)), some (.int (nI a_5)), some (.int (nI a_6)), some (.int (nI a_7)), some (.int (nI v9)), o_9, o_10] [] h z c s) (K2 : ¬ (¬ v17 = a_3) → ip sc call 139 MC MS Q 122 [some (.ref r_0), some (.int (nI a_1)), some (.int (nI a_2)), some (.int (nI a_3)), some (.int (nI a_4)), some (.int (nI a_5)), some (.int (nI a_6)), some (.int (nI a_7)), some (.int (nI v9)), o_9, o_10] [] h z c s) : ip sc call 139 MC MS Q 97 [some (.ref r_0), some (.int (nI a_1)), some (.int (nI a_2)), some (.int (nI a_3)), some (.int (nI a_4)), some (.int (nI a_5)), some (.int (nI a_6)), some (.int (nI a_7)), o_8, o_9, o_10] [] h z c s := by
  refine jp_load (pc2 := 98) (n := 0) rfl rfl rfl rfl ?_
  refine jp_getf (pc2 := 101) rfl rfl e2 e3 ?_
  refine jp_load (pc2 := 102) (n := 1) rfl rfl rfl rfl ?_
  refine jp_con (pc2 := 104) (v := (.int (nI 68))) rfl rfl rfl ?_
  refine jp_bin (pc2 := 105) (v := nI (a_1 + 68)) rfl rfl (congrArg some (nI_add _ _)) ?_
  refine jp_load (pc2 := 107) (n := 4) rfl rfl rfl rfl ?_
  refine jp_bin (pc2 := 108) (v := nI ((a_1 + 68) + a_4)) rfl rfl (congrArg some (nI_add _ _)) ?_
  refine jp_iald (pc2 := 109) rfl rfl e6 (vp_in_nI b7 c8) ?_
  rw [(nI_clamp (Nat.lt_trans b7 c8))]
  rw [e10]
  refine jp_store (pc2 := 111) (n := 8) rfl rfl ⟨rfl, rfl⟩ rfl (Nat.le_of_ble_eq_true rfl) ?_
  refine jp_load (pc2 := 112) (n := 0) rfl rfl rfl rfl ?_
  refine jp_getf (pc2 := 115) rfl rfl e2 e11 ?_
  refine jp_load (pc2 := 117) (n := 6) rfl rfl rfl rfl ?_
  refine jp_iald (pc2 := 118) rfl rfl e14 (vp_in_nI b15 c16) ?_
  rw [(nI_clamp (Nat.lt_trans b15 c16))]
  rw [e18]
  refine jp_load (pc2 := 119) (n := 3) rfl rfl rfl rfl ?_
  exact jp_icmp (pc2 := 122) rfl rfl (fun q => K1 ((not_congr (nI_eq c19 c20)).mp q)) (fun q => K2 (fun r => q ((not_congr (nI_eq c19 c20)).mpr r)))
set_option maxRecDepth 100000 in
theorem c139_122 {r_0 : Nat} {a_1 : Nat} {a_2 : Nat} {a_3 : Nat} {a_4 : Nat} {a_5 : Nat} {a_6 : Nat} {a_7 : Nat} {a_8 : Nat} {o_9 : Option Value} {o_10 : Option Value} {fs1 : List Value} {P : ipQ} (e2 : h r_0 = some (.inr (9, fs1))) (m3 : c ≤ MC) (m4 : s ≤ MS) (hc : call 99 [(.ref r_0), (.int (nI a_2))] h z 0 0 P) (K : ∀ (o : Option Value) (h2 : HP) (z2 : Nat), P o h2 z2 → ip sc call 139 MC MS Q 127 [some (.ref r_0), some (.int (nI a_1)), some (.int (nI a_2)), some (.int (nI a_3)), some (.int (nI a_4)), some (.int (nI a_5)), some (.int (nI a_6)), some (.int (nI a_7)), some (.int (nI a_8)), o_9, o_10] (o.toList ++ []) h2 z2 c s) : ip sc call 139 MC MS Q 122 [some (.ref r_0), some (.int (nI a_1)), some (.int (nI a_2)), some (.int (nI a_3)), some (.int (nI a_4)), some (.int (nI a_5)), some (.int (nI a_6)), some (.int (nI a_7)), some (.int (nI a_8)), o_9, o_10] [] h z c s := by
  refine jp_load (pc2 := 123) (n := 0) rfl rfl rfl rfl ?_
  refine jp_load (pc2 := 124) (n := 2) rfl rfl rfl rfl ?_
  exact jp_virt0 (pc2 := 127) (As := [(.int (nI a_2))]) (rest := []) rfl rfl rfl (Nat.le_of_ble_eq_true rfl) e2 m3 m4 hc rfl K
set_option maxRecDepth 100000 in
theorem c139_127 {r_0 : Nat} {a_1 : Nat} {a_2 : Nat} {a_3 : Nat} {a_4 : Nat} {a_5 : Nat} {a_6 : Nat} {a_7 : Nat} {a_8 : Nat} {o_9 : Option Value} {o_10 : Option Value}  (K : ip sc call 139 MC MS Q 130 [some (.ref r_0), some (.int (nI a_1)), some (.int (nI a_2)), some (.int (nI a_3)), some (.int (nI a_4)), some (.int (nI a_5)), some (.int (nI a_6)), some (.int (nI a_7)), some (.int (nI a_8)), some (.int (nI 0)), o_10] [] h z c s) : ip sc call 139 MC MS Q 127 [some (.ref r_0), some (.int (nI a_1)), some (.int (nI a_2)), some (.int (nI a_3)), some (.int (nI a_4)), some (.int (nI a_5)), some (.int (nI a_6)), some (.int (nI a_7)), some (.int (nI a_8)), o_9, o_10] [] h z c s := by
  refine jp_con (pc2 := 128) (v := (.int (nI 0))) rfl rfl rfl ?_
  refine jp_store (pc2 := 130) (n := 9) rfl rfl ⟨rfl, rfl⟩ rfl (Nat.le_of_ble_eq_true rfl) ?_
  exact K
set_option maxRecDepth 100000 in
theorem c139_130 {r_0 : Nat} {a_1 : Nat} {a_2 : Nat} {a_3 : Nat} {a_4 : Nat} {a_5 : Nat} {a_6 : Nat} {a_7 : Nat} {a_8 : Nat} {a_9 : Nat} {o_10 : Option Value} (c1 : a_9 < 2147483648) (c2 : a_8 < 2147483648) (K1 : a_8 ≤ a_9 → ip sc call 139 MC MS Q 242 [some (.ref r_0), some (.int (nI a_1)), some (.int (nI a_2)), some (.int (nI a_3)), some (.int (nI a_4)), some (.int (nI a_5)), some (.int (nI a_6)), some (.int (nI a_7)), some (.int (nI a_8)), some (.int (nI a_9)), o_10] [] h z c s) (K2 : ¬ (a_8 ≤ a_9) → ip sc call 139 MC MS Q 137 [some (.ref r_0), some (.int (nI a_1)), some (.int (nI a_2)), some (.int (nI a_3)), some (.int (nI a_4)), some (.int (nI a_5)), some (.int (nI a_6)), some (.int (nI a_7)), some (.int (nI a_8)), some (.int (nI a_9)), o_10] [] h z c s) : ip sc call 139 MC MS Q 130 [some (.ref r_0), some (.int (nI a_1)), some (.int (nI a_2)), some (.int (nI a_3)), some (.int (nI a_4)), some (.int (nI a_5)), some (.int (nI a_6)), some (.int (nI a_7)), some (.int (nI a_8)), some (.int (nI a_9)), o_10] [] h z c s := by
  refine jp_load (pc2 := 132) (n := 9) rfl rfl rfl rfl ?_
  refine jp_load (pc2 := 134) (n := 8) rfl rfl rfl rfl ?_
  exact jp_icmp (pc2 := 137) rfl rfl (fun q => K1 ((nI_leI c2 c1).mp q)) (fun q => K2 (fun r => q ((nI_leI c2 c1).mpr r)))
set_option maxRecDepth 100000 in
theorem c139_137 {r_0 : Nat} {a_1 : Nat} {a_2 : Nat} {a_3 : Nat} {a_4 : Nat} {a_5 : Nat} {a_6 : Nat} {a_7 : Nat} {a_8 : Nat} {a_9 : Nat} {o_10 : Option Value} {fs1 : List Value} {q_fs1_13 : Nat} {n4 : Nat} {f5 : Nat → Int32} {v9 : Nat} (e2 : h r_0 = some (.inr (9, fs1))) (e3 : fs1[13]? = some (.ref q_fs1_13)) (e6 : h q_fs1_13 = some (.inl (0, n4, .inl f5))) (b7 : a_6 < n4) (c8 : n4 < 2147483648) (e10 : f5 a_6 = nI v9) (c11 : v9 < 2147483648) (c12 : a_3 < 2147483648) (K1 : ¬ v9 = a_3 → ip sc call 139 MC MS Q 242 [some (.ref r_0), some (.int (nI a_1)), some (.int (nI a_2)), some (.int (nI a_3)), some (.int (nI a_4)), some (.int (nI a_5)), some (.int (nI a_6)), some (.int (nI a_7)), some (.int (nI a_8)), some (.int (nI a_9)), o_10] [] h z c s) (K2 : ¬ (¬ v9 = a_3) → ip sc call 139 MC MS Q 148 [some (.ref r_0), some (.int (nI a_1)), some (.int (nI a_2)), some (.int (nI a_3)), some (.int (nI a_4)), some (.int (nI a_5)), some (.int (nI a_6)), some (.int (nI a_7)), some (.int (nI a_8)), some (.int (nI a_9)), o_10] [] h z c s) : ip sc call 139 MC MS Q 137 [some (.ref r_0), some (.int (nI a_1)), some (.int (nI a_2)), some (.int (nI a_3)), some (.int (nI a_4)), some (.int (nI a_5)), some (.int (nI a_6)), some (.int (nI a_7)), some (.int (nI a_8)), some (.int (nI a_9)), o_10] [] h z c s := by
  refine jp_load (pc2 := 138) (n := 0) rfl rfl rfl rfl ?_
  refine jp_getf (pc2 := 141) rfl rfl e2 e3 ?_
  refine jp_load (pc2 := 143) (n := 6) rfl rfl rfl rfl ?_
  refine jp_iald (pc2 := 144) rfl rfl e6 (vp_in_nI b7 c8) ?_
  rw [(nI_clamp (Nat.lt_trans b7 c8))]
  rw [e10]
  refine jp_load (pc2 := 145) (n := 3) rfl rfl rfl rfl ?_
  exact jp_icmp (pc2 := 148) rfl rfl (fun q => K1 ((not_congr (nI_eq c11 c12)).mp q)) (fun q => K2 (fun r => q ((not_congr (nI_eq c11 c12)).mpr r)))
set_option maxRecDepth 100000 in
theorem c139_148 {r_0 : Nat} {a_1 : Nat} {a_2 : Nat} {a_3 : Nat} {a_4 : Nat} {a_5 : Nat} {a_6 : Nat} {a_7 : Nat} {a_8 : Nat} {a_9 : Nat} {o_10 : Option Value} {fs1 : List Value} {q_fs1_0 : Nat} {n4 : Nat} {f5 : Nat → Int32} {v9 : Nat} {q_fs1_12 : Nat} {n12 : Nat} {f13 : Nat → Int32} {v17 : Nat} (e2 : h r_0 = some (.inr (9, fs1))) (e3 : fs1[0]? = some (.ref q_fs1_0)) (e6 : h q_fs1_0 = some (.inl (0, n4, .inl f5))) (b7 : a_5 + a_9 < n4) (c8 : n4 < 2147483648) (e10 : f5 (a_5 + a_9) = nI v9) (e11 : fs1[12]? = some (.ref q_fs1_12)) (e14 : h q_fs1_12 = some (.inl (0, n12, .inl f13))) (b15 : v9 < n12) (c16 : n12 < 2147483648) (e18 : f13 v9 = nI v17) (c19 : v17 < 2147483648) (K1 : 0 ≤ v17 → ip sc call 139 MC MS Q 224 [some (.ref r_0), some (.int (nI a_1)), some (.int (nI a_2)), some (.int (nI a_3)), some (.int (nI a_4)), some (.int (nI a_5)), some (.int (nI a_6)), some (.int (nI a_7)), some (.int (nI a_8)), some (.int (nI a_9)), some (.int (nI v9))] [] h z c s) (K2 : ¬ (0 ≤ v17) → ip sc call 139 MC MS Q 170 [some (.ref r_0), some (.int (nI a_1)), some (.int (nI a_2)), some (.int (nI a_3)), some (.int (nI a_4)), some (.int (nI a_5)), some (.int (nI a_6)), some (.int (nI a_7)), some (.int (nI a_8)), some (.int (nI a_9)), some (.int (nI v9))] [] h z c s) : ip sc call 139 MC MS Q 148 [some (.ref r_0), some (.int (nI a_1)), some (.int (nI a_2)), some (.int (nI a_3)), some (.int (nI a_4)), some (.int (nI a_5)), some (.int (nI a_6)), some (.int (nI a_7)), some (.int (nI a_8)), some (.int (nI a_9)), o_10] [] h z c s := by
  refine jp_load (pc2 := 149) (n := 0) rfl rfl rfl rfl ?_
  refine jp_getf (pc2 := 152) rfl rfl e2 e3 ?_
  refine jp_load (pc2 := 154) (n := 5) rfl rfl rfl rfl ?_
  refine jp_load (pc2 := 156) (n := 9) rfl rfl rfl rfl ?_
  refine jp_bin (pc2 := 157) (v := nI (a_5 + a_9)) rfl rfl (congrArg some (nI_add _ _)) ?_
  refine jp_iald (pc2 := 158) rfl rfl e6 (vp_in_nI b7 c8) ?_
  rw [(nI_clamp (Nat.lt_trans b7 c8))]
  rw [e10]
  refine jp_store (pc2 := 160) (n := 10) rfl rfl ⟨rfl, rfl⟩ rfl (Nat.le_of_ble_eq_true rfl) ?_
  refine jp_load (pc2 := 161) (n := 0) rfl rfl rfl rfl ?_
  refine jp_getf (pc2 := 164) rfl rfl e2 e11 ?_
  refine jp_load (pc2 := 166) (n := 10) rfl rfl rfl rfl ?_
  refine jp_iald (pc2 := 167) rfl rfl e14 (vp_in_nI b15 c16) ?_
  rw [(nI_clamp (Nat.lt_trans b15 c16))]
  rw [e18]
  exact jp_if0 (pc2 := 170) rfl rfl (fun q => K1 ((nI_leI (by decide) c19).mp q)) (fun q => K2 (fun r => q ((nI_leI (by decide) c19).mpr r)))
set_option maxRecDepth 100000 in
theorem c139_170 {r_0 : Nat} {a_1 : Nat} {a_2 : Nat} {a_3 : Nat} {a_4 : Nat} {a_5 : Nat} {a_6 : Nat} {a_7 : Nat} {a_8 : Nat} {a_9 : Nat} {a_10 : Nat} {fs1 : List Value} {q_fs1_12 : Nat} {q_fs1_0 : Nat} {n5 : Nat} {f6 : Nat → Int32} {v10 : Nat} {n12 : Nat} {f13 : Nat → Int32} {g17 : Nat → Int32} {v20 : Nat} {v24 : Nat} {g27 : Nat → Int32} {v30 : Nat} {g32 : Nat → Int32} (e2 : h r_0 = some (.inr (9, fs1))) (e3 : fs1[12]? = some (.ref q_fs1_12)) (e4 : fs1[0]? = some (.ref q_fs1_0)) (e7 : h q_fs1_0 = some (.inl (0, n5, .inl f6))) (b8 : a_2 + 0 < n5) (c9 : n5 < 2147483648) (e11 : f6 (a_2 + 0) = nI v10) (e14 : h q_fs1_12 = some (.inl (0, n12, .inl f13))) (b15 : a_10 < n12) (c16 : n12 < 2147483648) (d18 : upd f13 a_10 (nI v10) = g17) (n19 : r_0 ≠ q_fs1_12) (e21 : g17 a_10 = nI v20) (n22 : q_fs1_0 ≠ q_fs1_12) (b23 : (a_1 + 4) + a_10 < n5) (e25 : f6 ((a_1 + 4) + a_10) = nI v24) (b26 : (a_2 + 4) + v20 < n5) (d28 : upd f6 ((a_2 + 4) + v20) (nI v24) = g27) (n29 : r_0 ≠ q_fs1_0) (e31 : g27 (a_2 + 0) = nI v30) (d33 : upd g27 (a_2 + 0) (nI (v30 + 1)) = g32) (K : ip sc call 139 MC MS Q 224 [some (.ref r_0), some (.int (nI a_1)), some (.int (nI a_2)), some (.int (nI a_3)), some (.int (nI a_4)), some (.int (nI a_5)), some (.int (nI a_6)), some (.int (nI a_7)), some (.int (nI a_8)), some (.int (nI a_9)), some (.int (nI a_10))] [] (hup (hup h q_fs1_12 (.inl (0, n12, .inl g17))) q_fs1_0 (.inl (0, n5, .inl g32))) z c s) : ip sc call 139 MC MS Q 170 [some (.ref r_0), some (.int (nI a_1)), some (.int (nI a_2)), some (.int (nI a_3)), some (.int (nI a_4)), some (.int (nI a_5)), some (.int (nI a_6)), some (.int (nI a_7)), some (.int (nI a_8)), some (.int (nI a_9)), some (.int (nI a_10))] [] h z c s := by
  refine jp_load (pc2 := 171) (n := 0) rfl rfl rfl rfl ?_
  refine jp_getf (pc2 := 174) rfl rfl e2 e3 ?_
  refine jp_load (pc2 := 176) (n := 10) rfl rfl rfl rfl ?_
  refine jp_load (pc2 := 177) (n := 0) rfl rfl rfl rfl ?_
  refine jp_getf (pc2 := 180) rfl rfl e2 e4 ?_
  refine jp_load (pc2 := 181) (n := 2) rfl rfl rfl rfl ?_
  refine jp_con (pc2 := 182) (v := (.int (nI 0))) rfl rfl rfl ?_
  refine jp_bin (pc2 := 183) (v := nI (a_2 + 0)) rfl rfl (congrArg some (nI_add _ _)) ?_
  refine jp_iald (pc2 := 184) rfl rfl e7 (vp_in_nI b8 c9) ?_
  rw [(nI_clamp (Nat.lt_trans b8 c9))]
  rw [e11]
  refine jp_iast (pc2 := 185) rfl rfl e14 (vp_in_nI b15 c16) ?_
  rw [(nI_clamp (Nat.lt_trans b15 c16))]
  rw [d18]
  refine jp_load (pc2 := 186) (n := 0) rfl rfl rfl rfl ?_
  refine jp_getf (pc2 := 189) rfl rfl (hup_ne n19 e2) e4 ?_
  refine jp_load (pc2 := 190) (n := 2) rfl rfl rfl rfl ?_
  refine jp_con (pc2 := 191) (v := (.int (nI 4))) rfl rfl rfl ?_
  refine jp_bin (pc2 := 192) (v := nI (a_2 + 4)) rfl rfl (congrArg some (nI_add _ _)) ?_
  refine jp_load (pc2 := 193) (n := 0) rfl rfl rfl rfl ?_
  refine jp_getf (pc2 := 196) rfl rfl (hup_ne n19 e2) e3 ?_
  refine jp_load (pc2 := 198) (n := 10) rfl rfl rfl rfl ?_
  refine jp_iald (pc2 := 199) rfl rfl hup_eq (vp_in_nI b15 c16) ?_
  rw [(nI_clamp (Nat.lt_trans b15 c16))]
  rw [e21]
  refine jp_bin (pc2 := 200) (v := nI ((a_2 + 4) + v20)) rfl rfl (congrArg some (nI_add _ _)) ?_
  refine jp_load (pc2 := 201) (n := 0) rfl rfl rfl rfl ?_
  refine jp_getf (pc2 := 204) rfl rfl (hup_ne n19 e2) e4 ?_
  refine jp_load (pc2 := 205) (n := 1) rfl rfl rfl rfl ?_
  refine jp_con (pc2 := 206) (v := (.int (nI 4))) rfl rfl rfl ?_
  refine jp_bin (pc2 := 207) (v := nI (a_1 + 4)) rfl rfl (congrArg some (nI_add _ _)) ?_
  refine jp_load (pc2 := 209) (n := 10) rfl rfl rfl rfl ?_
  refine jp_bin (pc2 := 210) (v := nI ((a_1 + 4) + a_10)) rfl rfl (congrArg some (nI_add _ _)) ?_
  refine jp_iald (pc2 := 211) rfl rfl (hup_ne n22 e7) (vp_in_nI b23 c9) ?_
  rw [(nI_clamp (Nat.lt_trans b23 c9))]
  rw [e25]
  refine jp_iast (pc2 := 212) rfl rfl (hup_ne n22 e7) (vp_in_nI b26 c9) ?_
  rw [(nI_clamp (Nat.lt_trans b26 c9))]
  rw [d28]
  refine jp_load (pc2 := 213) (n := 0) rfl rfl rfl rfl ?_
  refine jp_getf (pc2 := 216) rfl rfl (hup_ne n29 (hup_ne n19 e2)) e4 ?_
  refine jp_load (pc2 := 217) (n := 2) rfl rfl rfl rfl ?_
  refine jp_con (pc2 := 218) (v := (.int (nI 0))) rfl rfl rfl ?_
  refine jp_bin (pc2 := 219) (v := nI (a_2 + 0)) rfl rfl (congrArg some (nI_add _ _)) ?_
  refine jp_dup2 (pc2 := 220) rfl rfl rfl rfl ?_
  refine jp_iald (pc2 := 221) rfl rfl hup_eq (vp_in_nI b8 c9) ?_
  rw [(nI_clamp (Nat.lt_trans b8 c9))]
  rw [e31]
  refine jp_con (pc2 := 222) (v := (.int (nI 1))) rfl rfl rfl ?_
  refine jp_bin (pc2 := 223) (v := nI (v30 + 1)) rfl rfl (congrArg some (nI_add _ _)) ?_
  refine jp_iast (pc2 := 224) rfl rfl hup_eq (vp_in_nI b8 c9) ?_
  rw [(nI_clamp (Nat.lt_trans b8 c9))]
  rw [d33]
  rw [hup_hup]
  exact K
set_option maxRecDepth 100000 in
theorem c139_224 {r_0 : Nat} {a_1 : Nat} {a_2 : Nat} {a_3 : Nat} {a_4 : Nat} {a_5 : Nat} {a_6 : Nat} {a_7 : Nat} {a_8 : Nat} {a_9 : Nat} {a_10 : Nat} {fs1 : List Value} {q_fs1_12 : Nat} {n4 : Nat} {f5 : Nat → Int32} {v9 : Nat} {P : ipQ} (e2 : h r_0 = some (.inr (9, fs1))) (e3 : fs1[12]? = some (.ref q_fs1_12)) (e6 : h q_fs1_12 = some (.inl (0, n4, .inl f5))) (b7 : a_10 < n4) (c8 : n4 < 2147483648) (e10 : f5 a_10 = nI v9) (m11 : c ≤ MC) (m12 : s ≤ MS) (hc : call 101 [(.ref r_0), (.int (nI a_2)), (.int (nI v9))] h z 0 0 P) (K : ∀ (o : Option Value) (h2 : HP) (z2 : Nat), P o h2 z2 → ip sc call 139 MC MS Q 236 [some (.ref r_0), some (.int (nI a_1)), some (.int (nI a_2)), some (.int (nI a_3)), some (.int (nI a_4)), some (.int (nI a_5)), some (.int (nI a_6)), some (.int (nI a_7)), some (.int (nI a_8)), some (.int (nI a_9)), some (.int (nI a_10))] (o.toList ++ []) h2 z2 c s) : ip sc call 139 MC MS Q 224 [some (.ref r_0), some (.int (nI a_1)), some (.int (nI a_2)), some (.int (nI a_3)), some (.int (nI a_4)), some (.int (nI a_5)), some (.int (nI a_6)), some (.int (nI a_7)), some (.int (nI a_8)), some (.int (nI a_9)), some (.int (nI a_10))] [] h z c s := by
  refine jp_load (pc2 := 225) (n := 0) rfl rfl rfl rfl ?_
  refine jp_load (pc2 := 226) (n := 2) rfl rfl rfl rfl ?_
  refine jp_load (pc2 := 227) (n := 0) rfl rfl rfl rfl ?_
  refine jp_getf (pc2 := 230) rfl rfl e2 e3 ?_
  refine jp_load (pc2 := 232) (n := 10) rfl rfl rfl rfl ?_
  refine jp_iald (pc2 := 233) rfl rfl e6 (vp_in_nI b7 c8) ?_
  rw [(nI_clamp (Nat.lt_trans b7 c8))]
  rw [e10]
  exact jp_virt0 (pc2 := 236) (As := [(.int (nI a_2)), (.int (nI v9))]) (rest := []) rfl rfl rfl (Nat.le_of_ble_eq_true rfl) e2 m11 m12 hc rfl K
set_option maxRecDepth 100000 in
theorem c139_236 {r_0 : Nat} {a_1 : Nat} {a_2 : Nat} {a_3 : Nat} {a_4 : Nat} {a_5 : Nat} {a_6 : Nat} {a_7 : Nat} {a_8 : Nat} {a_9 : Nat} {o_10 : Option Value}  (K : ip sc call 139 MC MS Q 130 [some (.ref r_0), some (.int (nI a_1)), some (.int (nI a_2)), some (.int (nI a_3)), some (.int (nI a_4)), some (.int (nI a_5)), some (.int (nI a_6)), some (.int (nI a_7)), some (.int (nI a_8)), some (.int (nI (a_9 + 1))), o_10] [] h z c s) : ip sc call 139 MC MS Q 236 [some (.ref r_0), some (.int (nI a_1)), some (.int (nI a_2)), some (.int (nI a_3)), some (.int (nI a_4)), some (.int (nI a_5)), some (.int (nI a_6)), some (.int (nI a_7)), some (.int (nI a_8)), some (.int (nI a_9)), o_10] [] h z c s := by
  refine jp_iinc (pc2 := 239) (n := 9) (v := nI (a_9 + 1)) rfl rfl rfl (nI_add _ 1) rfl ?_
  refine ip_goto rfl ?_
  exact K
set_option maxRecDepth 100000 in
theorem c139_242 {r_0 : Nat} {a_1 : Nat} {a_2 : Nat} {a_3 : Nat} {a_4 : Nat} {a_5 : Nat} {a_6 : Nat} {a_7 : Nat} {a_8 : Nat} {o_9 : Option Value} {o_10 : Option Value}  (K : ip sc call 139 MC MS Q 80 [some (.ref r_0), some (.int (nI a_1)), some (.int (nI a_2)), some (.int (nI a_3)), some (.int (nI (a_4 + 1))), some (.int (nI (a_5 + a_8))), some (.int (nI a_6)), some (.int (nI (a_7 + 1))), some (.int (nI a_8)), o_9, o_10] [] h z c s) : ip sc call 139 MC MS Q 242 [some (.ref r_0), some (.int (nI a_1)), some (.int (nI a_2)), some (.int (nI a_3)), some (.int (nI a_4)), some (.int (nI a_5)), some (.int (nI a_6)), some (.int (nI a_7)), some (.int (nI a_8)), o_9, o_10] [] h z c s := by
  refine jp_load (pc2 := 244) (n := 5) rfl rfl rfl rfl ?_
  refine jp_load (pc2 := 246) (n := 8) rfl rfl rfl rfl ?_
  refine jp_bin (pc2 := 247) (v := nI (a_5 + a_8)) rfl rfl (congrArg some (nI_add _ _)) ?_
  refine jp_store (pc2 := 249) (n := 5) rfl rfl ⟨rfl, rfl⟩ rfl (Nat.le_of_ble_eq_true rfl) ?_
  refine jp_iinc (pc2 := 252) (n := 4) (v := nI (a_4 + 1)) rfl rfl rfl (nI_add _ 1) rfl ?_
  refine jp_iinc (pc2 := 255) (n := 7) (v := nI (a_7 + 1)) rfl rfl rfl (nI_add _ 1) rfl ?_
  refine ip_goto rfl ?_
  exact K
set_option maxRecDepth 100000 in
theorem c139_258 {r_0 : Nat} {a_1 : Nat} {a_2 : Nat} {a_3 : Nat} {a_4 : Nat} {a_5 : Nat} {a_6 : Nat} {o_7 : Option Value} {o_8 : Option Value} {o_9 : Option Value} {o_10 : Option Value}  (K : ip sc call 139 MC MS Q 48 [some (.ref r_0), some (.int (nI a_1)), some (.int (nI a_2)), some (.int (nI a_3)), some (.int (nI a_4)), some (.int (nI a_5)), some (.int (nI (a_6 + 1))), o_7, o_8, o_9, o_10] [] h z c s) : ip sc call 139 MC MS Q 258 [some (.ref r_0), some (.int (nI a_1)), some (.int (nI a_2)), some (.int (nI a_3)), some (.int (nI a_4)), some (.int (nI a_5)), some (.int (nI a_6)), o_7, o_8, o_9, o_10] [] h z c s := by
  refine jp_iinc (pc2 := 261) (n := 6) (v := nI (a_6 + 1)) rfl rfl rfl (nI_add _ 1) rfl ?_
  refine ip_goto rfl ?_
  exact K
set_option maxRecDepth 100000 in
theorem c139_264 {o_0 : Option Value} {o_1 : Option Value} {o_2 : Option Value} {o_3 : Option Value} {o_4 : Option Value} {o_5 : Option Value} {o_6 : Option Value} {o_7 : Option Value} {o_8 : Option Value} {o_9 : Option Value} {o_10 : Option Value} (q1 : Q none h z)  : ip sc call 139 MC MS Q 264 [o_0, o_1, o_2, o_3, o_4, o_5, o_6, o_7, o_8, o_9, o_10] [] h z c s := by
  exact ip_vret (st := []) rfl rfl q1
theorem c140_0 {r_0 : Nat} {a_1 : Nat} {o_2 : Option Value} {o_3 : Option Value} {o_4 : Option Value} {o_5 : Option Value} {o_6 : Option Value} {fs1 : List Value} (e2 : h r_0 = some (.inr (9, fs1))) (l3 : fs1.length = 16) (K : ip sc call 140 MC MS Q 16 [some (.ref r_0), some (.int (nI a_1)), some (.int (nI 0)), some (.int (nI (a_1 + 132))), some (.int (nI 0)), o_5, o_6] [] (hup h r_0 (.inr (9, (fs1.set 15 (.int (nI 0)))))) z c s) : ip sc call 140 MC MS Q 0 [some (.ref r_0), some (.int (nI a_1)), o_2, o_3, o_4, o_5, o_6] [] h z c s := by
  refine jp_load (pc2 := 1) (n := 0) rfl rfl rfl rfl ?_
  refine jp_con (pc2 := 2) (v := (.int (nI 0))) rfl rfl rfl ?_
  refine jp_putf (pc2 := 5) rfl rfl e2 (ln_lt l3 (by decide)) ⟨rfl, rfl⟩ ?_
  refine jp_con (pc2 := 6) (v := (.int (nI 0))) rfl rfl rfl ?_
  refine jp_store (pc2 := 7) (n := 2) rfl rfl ⟨rfl, rfl⟩ rfl (Nat.le_of_ble_eq_true rfl) ?_
  refine jp_load (pc2 := 8) (n := 1) rfl rfl rfl rfl ?_
  refine jp_con (pc2 := 11) (v := (.int (nI 132))) rfl rfl rfl ?_
  refine jp_bin (pc2 := 12) (v := nI (a_1 + 132)) rfl rfl (congrArg some (nI_add _ _)) ?_
  refine jp_store (pc2 := 13) (n := 3) rfl rfl ⟨rfl, rfl⟩ rfl (Nat.le_of_ble_eq_true rfl) ?_
  refine jp_con (pc2 := 14) (v := (.int (nI 0))) rfl rfl rfl ?_
  refine jp_store (pc2 := 16) (n := 4) rfl rfl ⟨rfl, rfl⟩ rfl (Nat.le_of_ble_eq_true rfl) ?_
  exact K
theorem c140_16 {r_0 : Nat} {a_1 : Nat} {a_2 : Nat} {a_3 : Nat} {a_4 : Nat} {o_5 : Option Value} {o_6 : Option Value} {fs1 : List Value} {q_fs1_0 : Nat} {n4 : Nat} {f5 : Nat → Int32} {v9 : Nat} (e2 : h r_0 = some (.inr (9, fs1))) (e3 : fs1[0]? = some (.ref q_fs1_0)) (e6 : h q_fs1_0 = some (.inl (0, n4, .inl f5))) (b7 : a_1 + 1 < n4) (c8 : n4 < 2147483648) (e10 : f5 (a_1 + 1) = nI v9) (c11 : a_4 < 2147483648) (c12 : v9 < 2147483648) (K1 : v9 ≤ a_4 → ip sc call 140 MC MS Q 151 [some (.ref r_0), some (.int (nI a_1)), some (.int (nI a_2)), some (.int (nI a_3)), some (.int (nI a_4)), o_5, o_6] [] h z c s) (K2 : ¬ (v9 ≤ a_4) → ip sc call 140 MC MS Q 29 [some (.ref r_0), some (.int (nI a_1)), some (.int (nI a_2)), some (.int (nI a_3)), some (.int (nI a_4)), o_5, o_6] [] h z c s) : ip sc call 140 MC MS Q 16 [some (.ref r_0), some (.int (nI a_1)), some (.int (nI a_2)), some (.int (nI a_3)), some (.int (nI a_4)), o_5, o_6] [] h z c s := by
  refine jp_load (pc2 := 18) (n := 4) rfl rfl rfl rfl ?_
  refine jp_load (pc2 := 19) (n := 0) rfl rfl rfl rfl ?_
  refine jp_getf (pc2 := 22) rfl rfl e2 e3 ?_
  refine jp_load (pc2 := 23) (n := 1) rfl rfl rfl rfl ?_
  refine jp_con (pc2 := 24) (v := (.int (nI 1))) rfl rfl rfl ?_
  refine jp_bin (pc2 := 25) (v := nI (a_1 + 1)) rfl rfl (congrArg some (nI_add _ _)) ?_
  refine jp_iald (pc2 := 26) rfl rfl e6 (vp_in_nI b7 c8) ?_
  rw [(nI_clamp (Nat.lt_trans b7 c8))]
  rw [e10]
  exact jp_icmp (pc2 := 29) rfl rfl (fun q => K1 ((nI_leI c12 c11).mp q)) (fun q => K2 (fun r => q ((nI_leI c12 c11).mpr r)))
theorem c140_29 {r_0 : Nat} {a_1 : Nat} {a_2 : Nat} {a_3 : Nat} {a_4 : Nat} {o_5 : Option Value} {o_6 : Option Value} {fs1 : List Value} {P : ipQ} (e2 : h r_0 = some (.inr (9, fs1))) (m3 : c ≤ MC) (m4 : s ≤ MS) (hc : call 141 [(.ref r_0), (.int (nI 255))] h z 0 0 P) (K : ∀ (o : Option Value) (h2 : HP) (z2 : Nat), P o h2 z2 → ip sc call 140 MC MS Q 36 [some (.ref r_0), some (.int (nI a_1)), some (.int (nI a_2)), some (.int (nI a_3)), some (.int (nI a_4)), o_5, o_6] (o.toList ++ []) h2 z2 c s) : ip sc call 140 MC MS Q 29 [some (.ref r_0), some (.int (nI a_1)), some (.int (nI a_2)), some (.int (nI a_3)), some (.int (nI a_4)), o_5, o_6] [] h z c s := by
  refine jp_load (pc2 := 30) (n := 0) rfl rfl rfl rfl ?_
  refine jp_con (pc2 := 33) (v := (.int (nI 255))) rfl rfl rfl ?_
  exact jp_virt0 (pc2 := 36) (As := [(.int (nI 255))]) (rest := []) rfl rfl rfl (Nat.le_of_ble_eq_true rfl) e2 m3 m4 hc rfl K
theorem c140_36 {r_0 : Nat} {a_1 : Nat} {a_2 : Nat} {a_3 : Nat} {a_4 : Nat} {o_5 : Option Value} {o_6 : Option Value}  (K : ip sc call 140 MC MS Q 39 [some (.ref r_0), some (.int (nI a_1)), some (.int (nI a_2)), some (.int (nI a_3)), some (.int (nI a_4)), some (.int (nI 0)), o_6] [] h z c s) : ip sc call 140 MC MS Q 36 [some (.ref r_0), some (.int (nI a_1)), some (.int (nI a_2)), some (.int (nI a_3)), some (.int (nI a_4)), o_5, o_6] [] h z c s := by
  refine jp_con (pc2 := 37) (v := (.int (nI 0))) rfl rfl rfl ?_
  refine jp_store (pc2 := 39) (n := 5) rfl rfl ⟨rfl, rfl⟩ rfl (Nat.le_of_ble_eq_true rfl) ?_
  exact K
theorem c140_39 {r_0 : Nat} {a_1 : Nat} {a_2 : Nat} {a_3 : Nat} {a_4 : Nat} {a_5 : Nat} {o_6 : Option Value} {fs1 : List Value} {q_fs1_0 : Nat} {n4 : Nat} {f5 : Nat → Int32} {v9 : Nat} (e2 : h r_0 = some (.inr (9, fs1))) (e3 : fs1[0]? = some (.ref q_fs1_0)) (e6 : h q_fs1_0 = some (.inl (0, n4, .inl f5))) (b7 : (a_1 + 36) + a_4 < n4) (c8 : n4 < 2147483648) (e10 : f5 ((a_1 + 36) + a_4) = nI v9) (c11 : a_5 < 2147483648) (c12 : v9 < 2147483648) (K1 : v9 ≤ a_5 → ip sc call 140 MC MS Q 145 [some (.ref r_0), some (.int (nI a_1)), some (.int (nI a_2)), some (.int (nI a_3)), some (.int (nI a_4)), some (.int (nI a_5)), o_6] [] h z c s) (K2 : ¬ (v9 ≤ a_5) → ip sc call 140 MC MS Q 56 [some (.ref r_0), some (.int (nI a_1)), some (.int (nI a_2)), some (.int (nI a_3)), some (.int (nI a_4)), some (.int (nI a_5)), o_6] [] h z c s) : ip sc call 140 MC MS Q 39 [some (.ref r_0), some (.int (nI a_1)), some (.int (nI a_2)), some (.int (nI a_3)), some (.int (nI a_4)), some (.int (nI a_5)), o_6] [] h z c s := by
  refine jp_load (pc2 := 41) (n := 5) rfl rfl rfl rfl ?_
  refine jp_load (pc2 := 42) (n := 0) rfl rfl rfl rfl ?_
  refine jp_getf (pc2 := 45) rfl rfl e2 e3 ?_
  refine jp_load (pc2 := 46) (n := 1) rfl rfl rfl rfl ?_
  refine jp_con (pc2 := 48) (v := (.int (nI 36))) rfl rfl rfl ?_
  refine jp_bin (pc2 := 49) (v := nI (a_1 + 36)) rfl rfl (congrArg some (nI_add _ _)) ?_
  refine jp_load (pc2 := 51) (n := 4) rfl rfl rfl rfl ?_
  refine jp_bin (pc2 := 52) (v := nI ((a_1 + 36) + a_4)) rfl rfl (congrArg some (nI_add _ _)) ?_
  refine jp_iald (pc2 := 53) rfl rfl e6 (vp_in_nI b7 c8) ?_
  rw [(nI_clamp (Nat.lt_trans b7 c8))]
  rw [e10]
  exact jp_icmp (pc2 := 56) rfl rfl (fun q => K1 ((nI_leI c12 c11).mp q)) (fun q => K2 (fun r => q ((nI_leI c12 c11).mpr r)))
theorem c140_56 {r_0 : Nat} {a_1 : Nat} {a_2 : Nat} {a_3 : Nat} {a_4 : Nat} {a_5 : Nat} {o_6 : Option Value} {fs1 : List Value} {P : ipQ} (e2 : h r_0 = some (.inr (9, fs1))) (m3 : c ≤ MC) (m4 : s ≤ MS) (hc : call 141 [(.ref r_0), (.int (nI 254))] h z 0 0 P) (K : ∀ (o : Option Value) (h2 : HP) (z2 : Nat), P o h2 z2 → ip sc call 140 MC MS Q 63 [some (.ref r_0), some (.int (nI a_1)), some (.int (nI a_2)), some (.int (nI a_3)), some (.int (nI a_4)), some (.int (nI a_5)), o_6] (o.toList ++ []) h2 z2 c s) : ip sc call 140 MC MS Q 56 [some (.ref r_0), some (.int (nI a_1)), some (.int (nI a_2)), some (.int (nI a_3)), some (.int (nI a_4)), some (.int (nI a_5)), o_6] [] h z c s := by
  refine jp_load (pc2 := 57) (n := 0) rfl rfl rfl rfl ?_
  refine jp_con (pc2 := 60) (v := (.int (nI 254))) rfl rfl rfl ?_
  exact jp_virt0 (pc2 := 63) (As := [(.int (nI 254))]) (rest := []) rfl rfl rfl (Nat.le_of_ble_eq_true rfl) e2 m3 m4 hc rfl K
theorem c140_63 {r_0 : Nat} {a_1 : Nat} {a_2 : Nat} {a_3 : Nat} {a_4 : Nat} {a_5 : Nat} {o_6 : Option Value}  (K : ip sc call 140 MC MS Q 66 [some (.ref r_0), some (.int (nI a_1)), some (.int (nI a_2)), some (.int (nI a_3)), some (.int (nI a_4)), some (.int (nI a_5)), some (.int (nI 0))] [] h z c s) : ip sc call 140 MC MS Q 63 [some (.ref r_0), some (.int (nI a_1)), some (.int (nI a_2)), some (.int (nI a_3)), some (.int (nI a_4)), some (.int (nI a_5)), o_6] [] h z c s := by
  refine jp_con (pc2 := 64) (v := (.int (nI 0))) rfl rfl rfl ?_
  refine jp_store (pc2 := 66) (n := 6) rfl rfl ⟨rfl, rfl⟩ rfl (Nat.le_of_ble_eq_true rfl) ?_
  exact K
theorem c140_66 {r_0 : Nat} {a_1 : Nat} {a_2 : Nat} {a_3 : Nat} {a_4 : Nat} {a_5 : Nat} {a_6 : Nat} {fs1 : List Value} {q_fs1_0 : Nat} {n4 : Nat} {f5 : Nat → Int32} {v9 : Nat} (e2 : h r_0 = some (.inr (9, fs1))) (e3 : fs1[0]? = some (.ref q_fs1_0)) (e6 : h q_fs1_0 = some (.inl (0, n4, .inl f5))) (b7 : (a_1 + 68) + a_2 < n4) (c8 : n4 < 2147483648) (e10 : f5 ((a_1 + 68) + a_2) = nI v9) (c11 : a_6 < 2147483648) (c12 : v9 < 2147483648) (K1 : v9 ≤ a_6 → ip sc call 140 MC MS Q 122 [some (.ref r_0), some (.int (nI a_1)), some (.int (nI a_2)), some (.int (nI a_3)), some (.int (nI a_4)), some (.int (nI a_5)), some (.int (nI a_6))] [] h z c s) (K2 : ¬ (v9 ≤ a_6) → ip sc call 140 MC MS Q 82 [some (.ref r_0), some (.int (nI a_1)), some (.int (nI a_2)), some (.int (nI a_3)), some (.int (nI a_4)), some (.int (nI a_5)), some (.int (nI a_6))] [] h z c s) : ip sc call 140 MC MS Q 66 [some (.ref r_0), some (.int (nI a_1)), some (.int (nI a_2)), some (.int (nI a_3)), some (.int (nI a_4)), some (.int (nI a_5)), some (.int (nI a_6))] [] h z c s := by
  refine jp_load (pc2 := 68) (n := 6) rfl rfl rfl rfl ?_
  refine jp_load (pc2 := 69) (n := 0) rfl rfl rfl rfl ?_
  refine jp_getf (pc2 := 72) rfl rfl e2 e3 ?_
  refine jp_load (pc2 := 73) (n := 1) rfl rfl rfl rfl ?_
  refine jp_con (pc2 := 75) (v := (.int (nI 68))) rfl rfl rfl ?_
  refine jp_bin (pc2 := 76) (v := nI (a_1 + 68)) rfl rfl (congrArg some (nI_add _ _)) ?_
  refine jp_load (pc2 := 77) (n := 2) rfl rfl rfl rfl ?_
  refine jp_bin (pc2 := 78) (v := nI ((a_1 + 68) + a_2)) rfl rfl (congrArg some (nI_add _ _)) ?_
  refine jp_iald (pc2 := 79) rfl rfl e6 (vp_in_nI b7 c8) ?_
  rw [(nI_clamp (Nat.lt_trans b7 c8))]
  rw [e10]
  exact jp_icmp (pc2 := 82) rfl rfl (fun q => K1 ((nI_leI c12 c11).mp q)) (fun q => K2 (fun r => q ((nI_leI c12 c11).mpr r)))
theorem c140_82 {r_0 : Nat} {a_1 : Nat} {a_2 : Nat} {a_3 : Nat} {a_4 : Nat} {a_5 : Nat} {a_6 : Nat} {fs1 : List Value} {q_fs1_0 : Nat} {n4 : Nat} {f5 : Nat → Int32} {v9 : Nat} {v12 : Nat} {P : ipQ} (e2 : h r_0 = some (.inr (9, fs1))) (e3 : fs1[0]? = some (.ref q_fs1_0)) (e6 : h q_fs1_0 = some (.inl (0, n4, .inl f5))) (b7 : a_3 + a_6 < n4) (c8 : n4 < 2147483648) (e10 : f5 (a_3 + a_6) = nI v9) (b11 : (a_1 + 4) + v9 < n4) (e13 : f5 ((a_1 + 4) + v9) = nI v12) (m14 : c ≤ MC) (m15 : s ≤ MS) (hc : call 141 [(.ref r_0), (.int (nI ((4 * v9) + v12)))] h z 0 0 P) (K : ∀ (o : Option Value) (h2 : HP) (z2 : Nat), P o h2 z2 → ip sc call 140 MC MS Q 116 [some (.ref r_0), some (.int (nI a_1)), some (.int (nI a_2)), some (.int (nI a_3)), some (.int (nI a_4)), some (.int (nI a_5)), some (.int (nI a_6))] (o.toList ++ []) h2 z2 c s) : ip sc call 140 MC MS Q 82 [some (.ref r_0), some (.int (nI a_1)), some (.int (nI a_2)), some (.int (nI a_3)), some (.int (nI a_4)), some (.int (nI a_5)), some (.int (nI a_6))] [] h z c s := by
  refine jp_load (pc2 := 83) (n := 0) rfl rfl rfl rfl ?_
  refine jp_con (pc2 := 84) (v := (.int (nI 4))) rfl rfl rfl ?_
  refine jp_load (pc2 := 85) (n := 0) rfl rfl rfl rfl ?_
  refine jp_getf (pc2 := 88) rfl rfl e2 e3 ?_
  refine jp_load (pc2 := 89) (n := 3) rfl rfl rfl rfl ?_
  refine jp_load (pc2 := 91) (n := 6) rfl rfl rfl rfl ?_
  refine jp_bin (pc2 := 92) (v := nI (a_3 + a_6)) rfl rfl (congrArg some (nI_add _ _)) ?_
  refine jp_iald (pc2 := 93) rfl rfl e6 (vp_in_nI b7 c8) ?_
  rw [(nI_clamp (Nat.lt_trans b7 c8))]
  rw [e10]
  refine jp_bin (pc2 := 94) (v := nI (4 * v9)) rfl rfl (congrArg some (pk_mul _ _)) ?_
  refine jp_load (pc2 := 95) (n := 0) rfl rfl rfl rfl ?_
  refine jp_getf (pc2 := 98) rfl rfl e2 e3 ?_
  refine jp_load (pc2 := 99) (n := 1) rfl rfl rfl rfl ?_
  refine jp_con (pc2 := 100) (v := (.int (nI 4))) rfl rfl rfl ?_
  refine jp_bin (pc2 := 101) (v := nI (a_1 + 4)) rfl rfl (congrArg some (nI_add _ _)) ?_
  refine jp_load (pc2 := 102) (n := 0) rfl rfl rfl rfl ?_
  refine jp_getf (pc2 := 105) rfl rfl e2 e3 ?_
  refine jp_load (pc2 := 106) (n := 3) rfl rfl rfl rfl ?_
  refine jp_load (pc2 := 108) (n := 6) rfl rfl rfl rfl ?_
  refine jp_bin (pc2 := 109) (v := nI (a_3 + a_6)) rfl rfl (congrArg some (nI_add _ _)) ?_
  refine jp_iald (pc2 := 110) rfl rfl e6 (vp_in_nI b7 c8) ?_
  rw [(nI_clamp (Nat.lt_trans b7 c8))]
  rw [e10]
  refine jp_bin (pc2 := 111) (v := nI ((a_1 + 4) + v9)) rfl rfl (congrArg some (nI_add _ _)) ?_
  refine jp_iald (pc2 := 112) rfl rfl e6 (vp_in_nI b11 c8) ?_
  rw [(nI_clamp (Nat.lt_trans b11 c8))]
  rw [e13]
  refine jp_bin (pc2 := 113) (v := nI ((4 * v9) + v12)) rfl rfl (congrArg some (nI_add _ _)) ?_
  exact jp_virt0 (pc2 := 116) (As := [(.int (nI ((4 * v9) + v12)))]) (rest := []) rfl rfl rfl (Nat.le_of_ble_eq_true rfl) e2 m14 m15 hc rfl K
theorem c140_116 {r_0 : Nat} {a_1 : Nat} {a_2 : Nat} {a_3 : Nat} {a_4 : Nat} {a_5 : Nat} {a_6 : Nat}  (K : ip sc call 140 MC MS Q 66 [some (.ref r_0), some (.int (nI a_1)), some (.int (nI a_2)), some (.int (nI a_3)), some (.int (nI a_4)), some (.int (nI a_5)), some (.int (nI (a_6 + 1)))] [] h z c s) : ip sc call 140 MC MS Q 116 [some (.ref r_0), some (.int (nI a_1)), some (.int (nI a_2)), some (.int (nI a_3)), some (.int (nI a_4)), some (.int (nI a_5)), some (.int (nI a_6))] [] h z c s := by
  refine jp_iinc (pc2 := 119) (n := 6) (v := nI (a_6 + 1)) rfl rfl rfl (nI_add _ 1) rfl ?_
  refine ip_goto rfl ?_
  exact K
theorem c140_122 {r_0 : Nat} {a_1 : Nat} {a_2 : Nat} {a_3 : Nat} {a_4 : Nat} {a_5 : Nat} {o_6 : Option Value} {fs1 : List Value} {q_fs1_0 : Nat} {n4 : Nat} {f5 : Nat → Int32} {v9 : Nat} (e2 : h r_0 = some (.inr (9, fs1))) (e3 : fs1[0]? = some (.ref q_fs1_0)) (e6 : h q_fs1_0 = some (.inl (0, n4, .inl f5))) (b7 : (a_1 + 68) + a_2 < n4) (c8 : n4 < 2147483648) (e10 : f5 ((a_1 + 68) + a_2) = nI v9) (K : ip sc call 140 MC MS Q 39 [some (.ref r_0), some (.int (nI a_1)), some (.int (nI (a_2 + 1))), some (.int (nI (a_3 + v9))), some (.int (nI a_4)), some (.int (nI (a_5 + 1))), o_6] [] h z c s) : ip sc call 140 MC MS Q 122 [some (.ref r_0), some (.int (nI a_1)), some (.int (nI a_2)), some (.int (nI a_3)), some (.int (nI a_4)), some (.int (nI a_5)), o_6] [] h z c s := by
  refine jp_load (pc2 := 123) (n := 3) rfl rfl rfl rfl ?_
  refine jp_load (pc2 := 124) (n := 0) rfl rfl rfl rfl ?_
  refine jp_getf (pc2 := 127) rfl rfl e2 e3 ?_
  refine jp_load (pc2 := 128) (n := 1) rfl rfl rfl rfl ?_
  refine jp_con (pc2 := 130) (v := (.int (nI 68))) rfl rfl rfl ?_
  refine jp_bin (pc2 := 131) (v := nI (a_1 + 68)) rfl rfl (congrArg some (nI_add _ _)) ?_
  refine jp_load (pc2 := 132) (n := 2) rfl rfl rfl rfl ?_
  refine jp_bin (pc2 := 133) (v := nI ((a_1 + 68) + a_2)) rfl rfl (congrArg some (nI_add _ _)) ?_
  refine jp_iald (pc2 := 134) rfl rfl e6 (vp_in_nI b7 c8) ?_
  rw [(nI_clamp (Nat.lt_trans b7 c8))]
  rw [e10]
  refine jp_bin (pc2 := 135) (v := nI (a_3 + v9)) rfl rfl (congrArg some (nI_add _ _)) ?_
  refine jp_store (pc2 := 136) (n := 3) rfl rfl ⟨rfl, rfl⟩ rfl (Nat.le_of_ble_eq_true rfl) ?_
  refine jp_iinc (pc2 := 139) (n := 2) (v := nI (a_2 + 1)) rfl rfl rfl (nI_add _ 1) rfl ?_
  refine jp_iinc (pc2 := 142) (n := 5) (v := nI (a_5 + 1)) rfl rfl rfl (nI_add _ 1) rfl ?_
  refine ip_goto rfl ?_
  exact K
theorem c140_145 {r_0 : Nat} {a_1 : Nat} {a_2 : Nat} {a_3 : Nat} {a_4 : Nat} {o_5 : Option Value} {o_6 : Option Value}  (K : ip sc call 140 MC MS Q 16 [some (.ref r_0), some (.int (nI a_1)), some (.int (nI a_2)), some (.int (nI a_3)), some (.int (nI (a_4 + 1))), o_5, o_6] [] h z c s) : ip sc call 140 MC MS Q 145 [some (.ref r_0), some (.int (nI a_1)), some (.int (nI a_2)), some (.int (nI a_3)), some (.int (nI a_4)), o_5, o_6] [] h z c s := by
  refine jp_iinc (pc2 := 148) (n := 4) (v := nI (a_4 + 1)) rfl rfl rfl (nI_add _ 1) rfl ?_
  refine ip_goto rfl ?_
  exact K
theorem c140_151 {o_0 : Option Value} {o_1 : Option Value} {o_2 : Option Value} {o_3 : Option Value} {o_4 : Option Value} {o_5 : Option Value} {o_6 : Option Value} (q1 : Q none h z)  : ip sc call 140 MC MS Q 151 [o_0, o_1, o_2, o_3, o_4, o_5, o_6] [] h z c s := by
  exact ip_vret (st := []) rfl rfl q1
theorem c141_0 {r_0 : Nat} {a_1 : Nat} {fs1 : List Value} {v_fs1_15 : Nat} (e2 : h r_0 = some (.inr (9, fs1))) (e3 : fs1[15]? = some (.int (nI v_fs1_15))) (c4 : v_fs1_15 < 2147483648) (K1 : 72 ≤ v_fs1_15 → ip sc call 141 MC MS Q 20 [some (.ref r_0), some (.int (nI a_1))] [] h z c s) (K2 : ¬ (72 ≤ v_fs1_15) → ip sc call 141 MC MS Q 9 [some (.ref r_0), some (.int (nI a_1))] [] h z c s) : ip sc call 141 MC MS Q 0 [some (.ref r_0), some (.int (nI a_1))] [] h z c s := by
  refine jp_load (pc2 := 1) (n := 0) rfl rfl rfl rfl ?_
  refine jp_getf (pc2 := 4) rfl rfl e2 e3 ?_
  refine jp_con (pc2 := 6) (v := (.int (nI 72))) rfl rfl rfl ?_
  exact jp_icmp (pc2 := 9) rfl rfl (fun q => K1 ((nI_leI (by decide) c4).mp q)) (fun q => K2 (fun r => q ((nI_leI (by decide) c4).mpr r)))
theorem c141_9 {r_0 : Nat} {a_1 : Nat} {fs1 : List Value} {q_fs1_14 : Nat} {v_fs1_15 : Nat} {n5 : Nat} {f6 : Nat → Int32} {g10 : Nat → Int32} (e2 : h r_0 = some (.inr (9, fs1))) (e3 : fs1[14]? = some (.ref q_fs1_14)) (e4 : fs1[15]? = some (.int (nI v_fs1_15))) (e7 : h q_fs1_14 = some (.inl (2, n5, .inl f6))) (b8 : v_fs1_15 < n5) (c9 : n5 < 2147483648) (d11 : upd f6 v_fs1_15 (vp_nar .byte ((nI a_1).toInt8.toInt32)) = g10) (K : ip sc call 141 MC MS Q 20 [some (.ref r_0), some (.int (nI a_1))] [] (hup h q_fs1_14 (.inl (2, n5, .inl g10))) z c s) : ip sc call 141 MC MS Q 9 [some (.ref r_0), some (.int (nI a_1))] [] h z c s := by
  refine jp_load (pc2 := 10) (n := 0) rfl rfl rfl rfl ?_
  refine jp_getf (pc2 := 13) rfl rfl e2 e3 ?_
  refine jp_load (pc2 := 14) (n := 0) rfl rfl rfl rfl ?_
  refine jp_getf (pc2 := 17) rfl rfl e2 e4 ?_
  refine jp_load (pc2 := 18) (n := 1) rfl rfl rfl rfl ?_
  refine jp_cv (pc2 := 19) (v := (.int ((nI a_1).toInt8.toInt32))) rfl rfl rfl ?_
  refine jp_bast (pc2 := 20) rfl rfl e7 (vp_in_nI b8 c9) ?_
  rw [(nI_clamp (Nat.lt_trans b8 c9))]
  rw [d11]
  exact K
theorem c141_20 {r_0 : Nat} {o_1 : Option Value} {fs1 : List Value} {v_fs1_15 : Nat} (e2 : h r_0 = some (.inr (9, fs1))) (e3 : fs1[15]? = some (.int (nI v_fs1_15))) (l4 : fs1.length = 16) (q5 : Q none (hup h r_0 (.inr (9, (fs1.set 15 (.int (nI (v_fs1_15 + 1))))))) z)  : ip sc call 141 MC MS Q 20 [some (.ref r_0), o_1] [] h z c s := by
  refine jp_load (pc2 := 21) (n := 0) rfl rfl rfl rfl ?_
  refine jp_dup (pc2 := 22) rfl rfl rfl ?_
  refine jp_getf (pc2 := 25) rfl rfl e2 e3 ?_
  refine jp_con (pc2 := 26) (v := (.int (nI 1))) rfl rfl rfl ?_
  refine jp_bin (pc2 := 27) (v := nI (v_fs1_15 + 1)) rfl rfl (congrArg some (nI_add _ _)) ?_
  refine jp_putf (pc2 := 30) rfl rfl e2 (ln_lt l4 (by decide)) ⟨rfl, rfl⟩ ?_
  exact ip_vret (st := []) rfl rfl q5
theorem c142_0 {r_0 : Nat} {o_1 : Option Value} {o_2 : Option Value} {o_3 : Option Value} {o_4 : Option Value} {o_5 : Option Value} {fs1 : List Value} {v_fs1_15 : Nat} (e2 : h r_0 = some (.inr (9, fs1))) (e3 : fs1[15]? = some (.int (nI v_fs1_15))) (c4 : v_fs1_15 < 2147483648) (K1 : v_fs1_15 ≤ 72 → ip sc call 142 MC MS Q 11 [some (.ref r_0), o_1, o_2, o_3, o_4, o_5] [] h z c s) (K2 : ¬ (v_fs1_15 ≤ 72) → ip sc call 142 MC MS Q 9 [some (.ref r_0), o_1, o_2, o_3, o_4, o_5] [] h z c s) : ip sc call 142 MC MS Q 0 [some (.ref r_0), o_1, o_2, o_3, o_4, o_5] [] h z c s := by
  refine jp_load (pc2 := 1) (n := 0) rfl rfl rfl rfl ?_
  refine jp_getf (pc2 := 4) rfl rfl e2 e3 ?_
  refine jp_con (pc2 := 6) (v := (.int (nI 72))) rfl rfl rfl ?_
  exact jp_icmp (pc2 := 9) rfl rfl (fun q => K1 ((nI_leI c4 (by decide)).mp q)) (fun q => K2 (fun r => q ((nI_leI c4 (by decide)).mpr r)))
theorem c142_9 {o_0 : Option Value} {o_1 : Option Value} {o_2 : Option Value} {o_3 : Option Value} {o_4 : Option Value} {o_5 : Option Value} (q1 : Q (some (.int ((-1)))) h z)  : ip sc call 142 MC MS Q 9 [o_0, o_1, o_2, o_3, o_4, o_5] [] h z c s := by
  refine jp_con (pc2 := 10) (v := (.int ((-1)))) rfl rfl rfl ?_
  exact ip_iret (st := []) rfl rfl rfl q1
theorem c142_11 {r_0 : Nat} {o_1 : Option Value} {o_2 : Option Value} {o_3 : Option Value} {o_4 : Option Value} {o_5 : Option Value}  (K : ip sc call 142 MC MS Q 16 [some (.ref r_0), some (.int (nI 7)), some (.int (nI 0)), o_3, o_4, o_5] [] h z c s) : ip sc call 142 MC MS Q 11 [some (.ref r_0), o_1, o_2, o_3, o_4, o_5] [] h z c s := by
  refine jp_con (pc2 := 13) (v := (.int (nI 7))) rfl rfl rfl ?_
  refine jp_store (pc2 := 14) (n := 1) rfl rfl ⟨rfl, rfl⟩ rfl (Nat.le_of_ble_eq_true rfl) ?_
  refine jp_con (pc2 := 15) (v := (.int (nI 0))) rfl rfl rfl ?_
  refine jp_store (pc2 := 16) (n := 2) rfl rfl ⟨rfl, rfl⟩ rfl (Nat.le_of_ble_eq_true rfl) ?_
  exact K
theorem c142_16 {r_0 : Nat} {a_1 : Nat} {a_2 : Nat} {o_3 : Option Value} {o_4 : Option Value} {o_5 : Option Value} {fs1 : List Value} {v_fs1_15 : Nat} (e2 : h r_0 = some (.inr (9, fs1))) (e3 : fs1[15]? = some (.int (nI v_fs1_15))) (c4 : a_2 < 2147483648) (c5 : v_fs1_15 < 2147483648) (K1 : v_fs1_15 ≤ a_2 → ip sc call 142 MC MS Q 42 [some (.ref r_0), some (.int (nI a_1)), some (.int (nI a_2)), o_3, o_4, o_5] [] h z c s) (K2 : ¬ (v_fs1_15 ≤ a_2) → ip sc call 142 MC MS Q 24 [some (.ref r_0), some (.int (nI a_1)), some (.int (nI a_2)), o_3, o_4, o_5] [] h z c s) : ip sc call 142 MC MS Q 16 [some (.ref r_0), some (.int (nI a_1)), some (.int (nI a_2)), o_3, o_4, o_5] [] h z c s := by
  refine jp_load (pc2 := 17) (n := 2) rfl rfl rfl rfl ?_
  refine jp_load (pc2 := 18) (n := 0) rfl rfl rfl rfl ?_
  refine jp_getf (pc2 := 21) rfl rfl e2 e3 ?_
  exact jp_icmp (pc2 := 24) rfl rfl (fun q => K1 ((nI_leI c5 c4).mp q)) (fun q => K2 (fun r => q ((nI_leI c5 c4).mpr r)))
theorem c142_24 {r_0 : Nat} {a_1 : Nat} {a_2 : Nat} {o_3 : Option Value} {o_4 : Option Value} {o_5 : Option Value} {fs1 : List Value} {q_fs1_14 : Nat} {n4 : Nat} {f5 : Nat → Int32} {x9 : Int32} (e2 : h r_0 = some (.inr (9, fs1))) (e3 : fs1[14]? = some (.ref q_fs1_14)) (e6 : h q_fs1_14 = some (.inl (2, n4, .inl f5))) (b7 : a_2 < n4) (c8 : n4 < 2147483648) (e10 : f5 a_2 = x9) (K : ip sc call 142 MC MS Q 16 [some (.ref r_0), some (.int ((nI (31 * a_1)) + x9)), some (.int (nI (a_2 + 1))), o_3, o_4, o_5] [] h z c s) : ip sc call 142 MC MS Q 24 [some (.ref r_0), some (.int (nI a_1)), some (.int (nI a_2)), o_3, o_4, o_5] [] h z c s := by
  refine jp_con (pc2 := 26) (v := (.int (nI 31))) rfl rfl rfl ?_
  refine jp_load (pc2 := 27) (n := 1) rfl rfl rfl rfl ?_
  refine jp_bin (pc2 := 28) (v := nI (31 * a_1)) rfl rfl (congrArg some (pk_mul _ _)) ?_
  refine jp_load (pc2 := 29) (n := 0) rfl rfl rfl rfl ?_
  refine jp_getf (pc2 := 32) rfl rfl e2 e3 ?_
  refine jp_load (pc2 := 33) (n := 2) rfl rfl rfl rfl ?_
  refine jp_bald (pc2 := 34) rfl rfl e6 (by decide) (vp_in_nI b7 c8) ?_
  rw [(nI_clamp (Nat.lt_trans b7 c8))]
  rw [e10]
  refine jp_bin (pc2 := 35) (v := (nI (31 * a_1)) + x9) rfl rfl rfl ?_
  refine jp_store (pc2 := 36) (n := 1) rfl rfl ⟨rfl, rfl⟩ rfl (Nat.le_of_ble_eq_true rfl) ?_
  refine jp_iinc (pc2 := 39) (n := 2) (v := nI (a_2 + 1)) rfl rfl rfl (nI_add _ 1) rfl ?_
  refine ip_goto rfl ?_
  exact K
theorem c142_42 {r_0 : Nat} {a_1 : Nat} {o_2 : Option Value} {o_3 : Option Value} {o_4 : Option Value} {o_5 : Option Value} {x1 : Int32} (w2 : ((nI a_1).toUInt32 >>> ((nI 15).toUInt32 &&& Int32.toUInt32 31)).toInt32 = x1) (K : ip sc call 142 MC MS Q 55 [some (.ref r_0), some (.int (nI a_1)), some (.int (((nI a_1) ^^^ x1) &&& (nI 32767))), some (.int (nI 0)), o_4, o_5] [] h z c s) : ip sc call 142 MC MS Q 42 [some (.ref r_0), some (.int (nI a_1)), o_2, o_3, o_4, o_5] [] h z c s := by
  refine jp_load (pc2 := 43) (n := 1) rfl rfl rfl rfl ?_
  refine jp_load (pc2 := 44) (n := 1) rfl rfl rfl rfl ?_
  refine jp_con (pc2 := 46) (v := (.int (nI 15))) rfl rfl rfl ?_
  refine jp_bin (pc2 := 47) (v := x1) rfl rfl (congrArg some w2) ?_
  refine jp_bin (pc2 := 48) (v := (nI a_1) ^^^ x1) rfl rfl rfl ?_
  refine jp_con (pc2 := 51) (v := (.int (nI 32767))) rfl rfl rfl ?_
  refine jp_bin (pc2 := 52) (v := ((nI a_1) ^^^ x1) &&& (nI 32767)) rfl rfl rfl ?_
  refine jp_store (pc2 := 53) (n := 2) rfl rfl ⟨rfl, rfl⟩ rfl (Nat.le_of_ble_eq_true rfl) ?_
  refine jp_con (pc2 := 54) (v := (.int (nI 0))) rfl rfl rfl ?_
  refine jp_store (pc2 := 55) (n := 3) rfl rfl ⟨rfl, rfl⟩ rfl (Nat.le_of_ble_eq_true rfl) ?_
  exact K
theorem c142_55 {r_0 : Nat} {o_1 : Option Value} {a_2 : Nat} {a_3 : Nat} {o_4 : Option Value} {o_5 : Option Value} (c1 : a_3 < 2147483648) (K1 : 200 ≤ a_3 → ip sc call 142 MC MS Q 166 [some (.ref r_0), o_1, some (.int (nI a_2)), some (.int (nI a_3)), o_4, o_5] [] h z c s) (K2 : ¬ (200 ≤ a_3) → ip sc call 142 MC MS Q 62 [some (.ref r_0), o_1, some (.int (nI a_2)), some (.int (nI a_3)), o_4, o_5] [] h z c s) : ip sc call 142 MC MS Q 55 [some (.ref r_0), o_1, some (.int (nI a_2)), some (.int (nI a_3)), o_4, o_5] [] h z c s := by
  refine jp_load (pc2 := 56) (n := 3) rfl rfl rfl rfl ?_
  refine jp_con (pc2 := 59) (v := (.int (nI 200))) rfl rfl rfl ?_
  exact jp_icmp (pc2 := 62) rfl rfl (fun q => K1 ((nI_leI (by decide) c1).mp q)) (fun q => K2 (fun r => q ((nI_leI (by decide) c1).mpr r)))
theorem c142_62 {r_0 : Nat} {o_1 : Option Value} {a_2 : Nat} {a_3 : Nat} {o_4 : Option Value} {o_5 : Option Value} {fs1 : List Value} {q_fs1_3 : Nat} {n4 : Nat} {f5 : Nat → Int32} {v9 : Nat} (e2 : h r_0 = some (.inr (9, fs1))) (e3 : fs1[3]? = some (.ref q_fs1_3)) (e6 : h q_fs1_3 = some (.inl (0, n4, .inl f5))) (b7 : a_2 < n4) (c8 : n4 < 2147483648) (e10 : f5 a_2 = nI v9) (c11 : v9 < 2147483648) (K1 : ¬ v9 = 0 → ip sc call 142 MC MS Q 73 [some (.ref r_0), o_1, some (.int (nI a_2)), some (.int (nI a_3)), o_4, o_5] [] h z c s) (K2 : ¬ (¬ v9 = 0) → ip sc call 142 MC MS Q 71 [some (.ref r_0), o_1, some (.int (nI a_2)), some (.int (nI a_3)), o_4, o_5] [] h z c s) : ip sc call 142 MC MS Q 62 [some (.ref r_0), o_1, some (.int (nI a_2)), some (.int (nI a_3)), o_4, o_5] [] h z c s := by
  refine jp_load (pc2 := 63) (n := 0) rfl rfl rfl rfl ?_
  refine jp_getf (pc2 := 66) rfl rfl e2 e3 ?_
  refine jp_load (pc2 := 67) (n := 2) rfl rfl rfl rfl ?_
  refine jp_iald (pc2 := 68) rfl rfl e6 (vp_in_nI b7 c8) ?_
  rw [(nI_clamp (Nat.lt_trans b7 c8))]
  rw [e10]
  exact jp_if0 (pc2 := 71) rfl rfl (fun q => K1 ((not_congr (nI_eq c11 (by decide))).mp q)) (fun q => K2 (fun r => q ((not_congr (nI_eq c11 (by decide))).mpr r)))
theorem c142_71 {o_0 : Option Value} {o_1 : Option Value} {a_2 : Nat} {o_3 : Option Value} {o_4 : Option Value} {o_5 : Option Value} (q1 : Q (some (.int (nI a_2))) h z)  : ip sc call 142 MC MS Q 71 [o_0, o_1, some (.int (nI a_2)), o_3, o_4, o_5] [] h z c s := by
  refine jp_load (pc2 := 72) (n := 2) rfl rfl rfl rfl ?_
  exact ip_iret (st := []) rfl rfl rfl q1
theorem c142_73 {r_0 : Nat} {o_1 : Option Value} {a_2 : Nat} {a_3 : Nat} {o_4 : Option Value} {o_5 : Option Value} {fs1 : List Value} {q_fs1_3 : Nat} {n4 : Nat} {f5 : Nat → Int32} {v9 : Nat} {v_fs1_15 : Nat} (e2 : h r_0 = some (.inr (9, fs1))) (e3 : fs1[3]? = some (.ref q_fs1_3)) (e6 : h q_fs1_3 = some (.inl (0, n4, .inl f5))) (b7 : a_2 < n4) (c8 : n4 < 2147483648) (e10 : f5 a_2 = nI v9) (e11 : fs1[15]? = some (.int (nI v_fs1_15))) (c12 : v9 < 2147483648) (c13 : v_fs1_15 < 2147483648) (K1 : ¬ v9 = v_fs1_15 → ip sc call 142 MC MS Q 90 [some (.ref r_0), o_1, some (.int (nI a_2)), some (.int (nI a_3)), o_4, o_5] [] h z c s) (K2 : ¬ (¬ v9 = v_fs1_15) → ip sc call 142 MC MS Q 86 [some (.ref r_0), o_1, some (.int (nI a_2)), some (.int (nI a_3)), o_4, o_5] [] h z c s) : ip sc call 142 MC MS Q 73 [some (.ref r_0), o_1, some (.int (nI a_2)), some (.int (nI a_3)), o_4, o_5] [] h z c s := by
  refine jp_load (pc2 := 74) (n := 0) rfl rfl rfl rfl ?_
  refine jp_getf (pc2 := 77) rfl rfl e2 e3 ?_
  refine jp_load (pc2 := 78) (n := 2) rfl rfl rfl rfl ?_
  refine jp_iald (pc2 := 79) rfl rfl e6 (vp_in_nI b7 c8) ?_
  rw [(nI_clamp (Nat.lt_trans b7 c8))]
  rw [e10]
  refine jp_load (pc2 := 80) (n := 0) rfl rfl rfl rfl ?_
  refine jp_getf (pc2 := 83) rfl rfl e2 e11 ?_
  exact jp_icmp (pc2 := 86) rfl rfl (fun q => K1 ((not_congr (nI_eq c12 c13)).mp q)) (fun q => K2 (fun r => q ((not_congr (nI_eq c12 c13)).mpr r)))
theorem c142_86 {r_0 : Nat} {o_1 : Option Value} {a_2 : Nat} {a_3 : Nat} {o_4 : Option Value} {o_5 : Option Value}  (K : ip sc call 142 MC MS Q 91 [some (.ref r_0), o_1, some (.int (nI a_2)), some (.int (nI a_3)), o_4, o_5] [(.int (nI 1))] h z c s) : ip sc call 142 MC MS Q 86 [some (.ref r_0), o_1, some (.int (nI a_2)), some (.int (nI a_3)), o_4, o_5] [] h z c s := by
  refine jp_con (pc2 := 87) (v := (.int (nI 1))) rfl rfl rfl ?_
  refine ip_goto rfl ?_
  exact K
theorem c142_90 {r_0 : Nat} {o_1 : Option Value} {a_2 : Nat} {a_3 : Nat} {o_4 : Option Value} {o_5 : Option Value}  (K : ip sc call 142 MC MS Q 91 [some (.ref r_0), o_1, some (.int (nI a_2)), some (.int (nI a_3)), o_4, o_5] [(.int (nI 0))] h z c s) : ip sc call 142 MC MS Q 90 [some (.ref r_0), o_1, some (.int (nI a_2)), some (.int (nI a_3)), o_4, o_5] [] h z c s := by
  refine jp_con (pc2 := 91) (v := (.int (nI 0))) rfl rfl rfl ?_
  exact K
theorem c142_91 {r_0 : Nat} {o_1 : Option Value} {a_2 : Nat} {a_3 : Nat} {o_4 : Option Value} {o_5 : Option Value} {sa_0 : Nat}  (K : ip sc call 142 MC MS Q 96 [some (.ref r_0), o_1, some (.int (nI a_2)), some (.int (nI a_3)), some (.int (nI sa_0)), some (.int (nI 0))] [] h z c s) : ip sc call 142 MC MS Q 91 [some (.ref r_0), o_1, some (.int (nI a_2)), some (.int (nI a_3)), o_4, o_5] [(.int (nI sa_0))] h z c s := by
  refine jp_store (pc2 := 93) (n := 4) rfl rfl ⟨rfl, rfl⟩ rfl (Nat.le_of_ble_eq_true rfl) ?_
  refine jp_con (pc2 := 94) (v := (.int (nI 0))) rfl rfl rfl ?_
  refine jp_store (pc2 := 96) (n := 5) rfl rfl ⟨rfl, rfl⟩ rfl (Nat.le_of_ble_eq_true rfl) ?_
  exact K
theorem c142_96 {r_0 : Nat} {o_1 : Option Value} {a_2 : Nat} {a_3 : Nat} {a_4 : Nat} {a_5 : Nat} {fs1 : List Value} {v_fs1_15 : Nat} (e2 : h r_0 = some (.inr (9, fs1))) (e3 : fs1[15]? = some (.int (nI v_fs1_15))) (c4 : a_5 < 2147483648) (c5 : v_fs1_15 < 2147483648) (K1 : v_fs1_15 ≤ a_5 → ip sc call 142 MC MS Q 145 [some (.ref r_0), o_1, some (.int (nI a_2)), some (.int (nI a_3)), some (.int (nI a_4)), some (.int (nI a_5))] [] h z c s) (K2 : ¬ (v_fs1_15 ≤ a_5) → ip sc call 142 MC MS Q 105 [some (.ref r_0), o_1, some (.int (nI a_2)), some (.int (nI a_3)), some (.int (nI a_4)), some (.int (nI a_5))] [] h z c s) : ip sc call 142 MC MS Q 96 [some (.ref r_0), o_1, some (.int (nI a_2)), some (.int (nI a_3)), some (.int (nI a_4)), some (.int (nI a_5))] [] h z c s := by
  refine jp_load (pc2 := 98) (n := 5) rfl rfl rfl rfl ?_
  refine jp_load (pc2 := 99) (n := 0) rfl rfl rfl rfl ?_
  refine jp_getf (pc2 := 102) rfl rfl e2 e3 ?_
  exact jp_icmp (pc2 := 105) rfl rfl (fun q => K1 ((nI_leI c5 c4).mp q)) (fun q => K2 (fun r => q ((nI_leI c5 c4).mpr r)))
theorem c142_105 {r_0 : Nat} {o_1 : Option Value} {a_2 : Nat} {a_3 : Nat} {a_4 : Nat} {a_5 : Nat} (c1 : a_4 < 2147483648) (K1 : a_4 = 0 → ip sc call 142 MC MS Q 145 [some (.ref r_0), o_1, some (.int (nI a_2)), some (.int (nI a_3)), some (.int (nI a_4)), some (.int (nI a_5))] [] h z c s) (K2 : ¬ (a_4 = 0) → ip sc call 142 MC MS Q 110 [some (.ref r_0), o_1, some (.int (nI a_2)), some (.int (nI a_3)), some (.int (nI a_4)), some (.int (nI a_5))] [] h z c s) : ip sc call 142 MC MS Q 105 [some (.ref r_0), o_1, some (.int (nI a_2)), some (.int (nI a_3)), some (.int (nI a_4)), some (.int (nI a_5))] [] h z c s := by
  refine jp_load (pc2 := 107) (n := 4) rfl rfl rfl rfl ?_
  exact jp_if0 (pc2 := 110) rfl rfl (fun q => K1 ((nI_eq c1 (by decide)).mp q)) (fun q => K2 (fun r => q ((nI_eq c1 (by decide)).mpr r)))
theorem c142_110 {r_0 : Nat} {o_1 : Option Value} {a_2 : Nat} {a_3 : Nat} {o_4 : Option Value} {a_5 : Nat} {fs1 : List Value} {q_fs1_2 : Nat} {n4 : Nat} {f5 : Nat → Int32} {x9 : Int32} {q_fs1_14 : Nat} {n12 : Nat} {f13 : Nat → Int32} {x17 : Int32} (e2 : h r_0 = some (.inr (9, fs1))) (e3 : fs1[2]? = some (.ref q_fs1_2)) (e6 : h q_fs1_2 = some (.inl (2, n4, .inl f5))) (b7 : (72 * a_2) + a_5 < n4) (c8 : n4 < 2147483648) (e10 : f5 ((72 * a_2) + a_5) = x9) (e11 : fs1[14]? = some (.ref q_fs1_14)) (e14 : h q_fs1_14 = some (.inl (2, n12, .inl f13))) (b15 : a_5 < n12) (c16 : n12 < 2147483648) (e18 : f13 a_5 = x17) (K1 : ¬ x9 = x17 → ip sc call 142 MC MS Q 136 [some (.ref r_0), o_1, some (.int (nI a_2)), some (.int (nI a_3)), o_4, some (.int (nI a_5))] [] h z c s) (K2 : ¬ (¬ x9 = x17) → ip sc call 142 MC MS Q 132 [some (.ref r_0), o_1, some (.int (nI a_2)), some (.int (nI a_3)), o_4, some (.int (nI a_5))] [] h z c s) : ip sc call 142 MC MS Q 110 [some (.ref r_0), o_1, some (.int (nI a_2)), some (.int (nI a_3)), o_4, some (.int (nI a_5))] [] h z c s := by
  refine jp_load (pc2 := 111) (n := 0) rfl rfl rfl rfl ?_
  refine jp_getf (pc2 := 114) rfl rfl e2 e3 ?_
  refine jp_con (pc2 := 116) (v := (.int (nI 72))) rfl rfl rfl ?_
  refine jp_load (pc2 := 117) (n := 2) rfl rfl rfl rfl ?_
  refine jp_bin (pc2 := 118) (v := nI (72 * a_2)) rfl rfl (congrArg some (pk_mul _ _)) ?_
  refine jp_load (pc2 := 120) (n := 5) rfl rfl rfl rfl ?_
  refine jp_bin (pc2 := 121) (v := nI ((72 * a_2) + a_5)) rfl rfl (congrArg some (nI_add _ _)) ?_
  refine jp_bald (pc2 := 122) rfl rfl e6 (by decide) (vp_in_nI b7 c8) ?_
  rw [(nI_clamp (Nat.lt_trans b7 c8))]
  rw [e10]
  refine jp_load (pc2 := 123) (n := 0) rfl rfl rfl rfl ?_
  refine jp_getf (pc2 := 126) rfl rfl e2 e11 ?_
  refine jp_load (pc2 := 128) (n := 5) rfl rfl rfl rfl ?_
  refine jp_bald (pc2 := 129) rfl rfl e14 (by decide) (vp_in_nI b15 c16) ?_
  rw [(nI_clamp (Nat.lt_trans b15 c16))]
  rw [e18]
  exact jp_icmp (pc2 := 132) rfl rfl K1 K2
theorem c142_132 {r_0 : Nat} {o_1 : Option Value} {a_2 : Nat} {a_3 : Nat} {o_4 : Option Value} {a_5 : Nat}  (K : ip sc call 142 MC MS Q 137 [some (.ref r_0), o_1, some (.int (nI a_2)), some (.int (nI a_3)), o_4, some (.int (nI a_5))] [(.int (nI 1))] h z c s) : ip sc call 142 MC MS Q 132 [some (.ref r_0), o_1, some (.int (nI a_2)), some (.int (nI a_3)), o_4, some (.int (nI a_5))] [] h z c s := by
  refine jp_con (pc2 := 133) (v := (.int (nI 1))) rfl rfl rfl ?_
  refine ip_goto rfl ?_
  exact K
theorem c142_136 {r_0 : Nat} {o_1 : Option Value} {a_2 : Nat} {a_3 : Nat} {o_4 : Option Value} {a_5 : Nat}  (K : ip sc call 142 MC MS Q 137 [some (.ref r_0), o_1, some (.int (nI a_2)), some (.int (nI a_3)), o_4, some (.int (nI a_5))] [(.int (nI 0))] h z c s) : ip sc call 142 MC MS Q 136 [some (.ref r_0), o_1, some (.int (nI a_2)), some (.int (nI a_3)), o_4, some (.int (nI a_5))] [] h z c s := by
  refine jp_con (pc2 := 137) (v := (.int (nI 0))) rfl rfl rfl ?_
  exact K
theorem c142_137 {r_0 : Nat} {o_1 : Option Value} {a_2 : Nat} {a_3 : Nat} {o_4 : Option Value} {a_5 : Nat} {sa_0 : Nat}  (K : ip sc call 142 MC MS Q 96 [some (.ref r_0), o_1, some (.int (nI a_2)), some (.int (nI a_3)), some (.int (nI sa_0)), some (.int (nI (a_5 + 1)))] [] h z c s) : ip sc call 142 MC MS Q 137 [some (.ref r_0), o_1, some (.int (nI a_2)), some (.int (nI a_3)), o_4, some (.int (nI a_5))] [(.int (nI sa_0))] h z c s := by
  refine jp_store (pc2 := 139) (n := 4) rfl rfl ⟨rfl, rfl⟩ rfl (Nat.le_of_ble_eq_true rfl) ?_
  refine jp_iinc (pc2 := 142) (n := 5) (v := nI (a_5 + 1)) rfl rfl rfl (nI_add _ 1) rfl ?_
  refine ip_goto rfl ?_
  exact K
theorem c142_145 {r_0 : Nat} {o_1 : Option Value} {a_2 : Nat} {a_3 : Nat} {a_4 : Nat} {o_5 : Option Value} (c1 : a_4 < 2147483648) (K1 : a_4 = 0 → ip sc call 142 MC MS Q 152 [some (.ref r_0), o_1, some (.int (nI a_2)), some (.int (nI a_3)), some (.int (nI a_4)), o_5] [] h z c s) (K2 : ¬ (a_4 = 0) → ip sc call 142 MC MS Q 150 [some (.ref r_0), o_1, some (.int (nI a_2)), some (.int (nI a_3)), some (.int (nI a_4)), o_5] [] h z c s) : ip sc call 142 MC MS Q 145 [some (.ref r_0), o_1, some (.int (nI a_2)), some (.int (nI a_3)), some (.int (nI a_4)), o_5] [] h z c s := by
  refine jp_load (pc2 := 147) (n := 4) rfl rfl rfl rfl ?_
  exact jp_if0 (pc2 := 150) rfl rfl (fun q => K1 ((nI_eq c1 (by decide)).mp q)) (fun q => K2 (fun r => q ((nI_eq c1 (by decide)).mpr r)))
theorem c142_150 {o_0 : Option Value} {o_1 : Option Value} {a_2 : Nat} {o_3 : Option Value} {o_4 : Option Value} {o_5 : Option Value} (q1 : Q (some (.int (nI a_2))) h z)  : ip sc call 142 MC MS Q 150 [o_0, o_1, some (.int (nI a_2)), o_3, o_4, o_5] [] h z c s := by
  refine jp_load (pc2 := 151) (n := 2) rfl rfl rfl rfl ?_
  exact ip_iret (st := []) rfl rfl rfl q1
theorem c142_152 {r_0 : Nat} {o_1 : Option Value} {a_2 : Nat} {a_3 : Nat} {o_4 : Option Value} {o_5 : Option Value} (k1 : ip2 o_1 = false) (K : ip sc call 142 MC MS Q 55 [some (.ref r_0), o_1, some (.int ((nI (a_2 + 1)) &&& (nI 32767))), some (.int (nI (a_3 + 1))), o_4, o_5] [] h z c s) : ip sc call 142 MC MS Q 152 [some (.ref r_0), o_1, some (.int (nI a_2)), some (.int (nI a_3)), o_4, o_5] [] h z c s := by
  refine jp_load (pc2 := 153) (n := 2) rfl rfl rfl rfl ?_
  refine jp_con (pc2 := 154) (v := (.int (nI 1))) rfl rfl rfl ?_
  refine jp_bin (pc2 := 155) (v := nI (a_2 + 1)) rfl rfl (congrArg some (nI_add _ _)) ?_
  refine jp_con (pc2 := 158) (v := (.int (nI 32767))) rfl rfl rfl ?_
  refine jp_bin (pc2 := 159) (v := (nI (a_2 + 1)) &&& (nI 32767)) rfl rfl rfl ?_
  refine jp_store (pc2 := 160) (n := 2) rfl rfl ⟨rfl, rfl⟩ k1 (Nat.le_of_ble_eq_true rfl) ?_
  refine jp_iinc (pc2 := 163) (n := 3) (v := nI (a_3 + 1)) rfl rfl rfl (nI_add _ 1) rfl ?_
  refine ip_goto rfl ?_
  exact K
theorem c142_166 {o_0 : Option Value} {o_1 : Option Value} {o_2 : Option Value} {o_3 : Option Value} {o_4 : Option Value} {o_5 : Option Value} (q1 : Q (some (.int ((-1)))) h z)  : ip sc call 142 MC MS Q 166 [o_0, o_1, o_2, o_3, o_4, o_5] [] h z c s := by
  refine jp_con (pc2 := 167) (v := (.int ((-1)))) rfl rfl rfl ?_
  exact ip_iret (st := []) rfl rfl rfl q1
theorem c143_0 {a_0 : Nat} (q1 : Q (some (.int (nI (40900 + (332 * a_0))))) h z)  : ip sc call 143 MC MS Q 0 [some (.int (nI a_0))] [] h z c s := by
  refine jp_con (pc2 := 2) (v := (.int (nI 40900))) rfl rfl rfl ?_
  refine jp_con (pc2 := 5) (v := (.int (nI 332))) rfl rfl rfl ?_
  refine jp_load (pc2 := 6) (n := 0) rfl rfl rfl rfl ?_
  refine jp_bin (pc2 := 7) (v := nI (332 * a_0)) rfl rfl (congrArg some (pk_mul _ _)) ?_
  refine jp_bin (pc2 := 8) (v := nI (40900 + (332 * a_0))) rfl rfl (congrArg some (nI_add _ _)) ?_
  exact ip_iret (st := []) rfl rfl rfl q1
theorem c144_0 {r_0 : Nat} {a_1 : Nat} {a_2 : Nat} {o_3 : Option Value} {o_4 : Option Value} {o_5 : Option Value} {P : ipQ} (m1 : c ≤ MC) (m2 : s ≤ MS) (hc : call 143 [(.int (nI a_2))] h z 0 0 P) (K : ∀ (o : Option Value) (h2 : HP) (z2 : Nat), P o h2 z2 → ip sc call 144 MC MS Q 4 [some (.ref r_0), some (.int (nI a_1)), some (.int (nI a_2)), o_3, o_4, o_5] (o.toList ++ []) h2 z2 c s) : ip sc call 144 MC MS Q 0 [some (.ref r_0), some (.int (nI a_1)), some (.int (nI a_2)), o_3, o_4, o_5] [] h z c s := by
  refine jp_load (pc2 := 1) (n := 2) rfl rfl rfl rfl ?_
  exact jp_stat0 (pc2 := 4) (As := [(.int (nI a_2))]) (rest := []) rfl rfl rfl (Nat.le_of_ble_eq_true rfl) m1 m2 (by decide) hc rfl K
theorem c144_4 {r_0 : Nat} {a_1 : Nat} {a_2 : Nat} {o_3 : Option Value} {o_4 : Option Value} {o_5 : Option Value} {sa_0 : Nat} {fs1 : List Value} {P : ipQ} (e2 : h r_0 = some (.inr (9, fs1))) (m3 : c ≤ MC) (m4 : s ≤ MS) (hc : call 136 [(.ref r_0), (.int (nI a_1)), (.int (nI sa_0))] h z 0 0 P) (K : ∀ (o : Option Value) (h2 : HP) (z2 : Nat), P o h2 z2 → ip sc call 144 MC MS Q 11 [some (.ref r_0), some (.int (nI a_1)), some (.int (nI a_2)), some (.int (nI sa_0)), o_4, o_5] (o.toList ++ []) h2 z2 c s) : ip sc call 144 MC MS Q 4 [some (.ref r_0), some (.int (nI a_1)), some (.int (nI a_2)), o_3, o_4, o_5] [(.int (nI sa_0))] h z c s := by
  refine jp_store (pc2 := 5) (n := 3) rfl rfl ⟨rfl, rfl⟩ rfl (Nat.le_of_ble_eq_true rfl) ?_
  refine jp_load (pc2 := 6) (n := 0) rfl rfl rfl rfl ?_
  refine jp_load (pc2 := 7) (n := 1) rfl rfl rfl rfl ?_
  refine jp_load (pc2 := 8) (n := 3) rfl rfl rfl rfl ?_
  exact jp_virt0 (pc2 := 11) (As := [(.int (nI a_1)), (.int (nI sa_0))]) (rest := []) rfl rfl rfl (Nat.le_of_ble_eq_true rfl) e2 m3 m4 hc rfl K
theorem c144_11 {r_0 : Nat} {o_1 : Option Value} {a_2 : Nat} {a_3 : Nat} {o_4 : Option Value} {o_5 : Option Value}  (K : ip sc call 144 MC MS Q 17 [some (.ref r_0), o_1, some (.int (nI a_2)), some (.int (nI a_3)), some (.int (nI 0)), some (.int (nI 0))] [] h z c s) : ip sc call 144 MC MS Q 11 [some (.ref r_0), o_1, some (.int (nI a_2)), some (.int (nI a_3)), o_4, o_5] [] h z c s := by
  refine jp_con (pc2 := 12) (v := (.int (nI 0))) rfl rfl rfl ?_
  refine jp_store (pc2 := 14) (n := 4) rfl rfl ⟨rfl, rfl⟩ rfl (Nat.le_of_ble_eq_true rfl) ?_
  refine jp_con (pc2 := 15) (v := (.int (nI 0))) rfl rfl rfl ?_
  refine jp_store (pc2 := 17) (n := 5) rfl rfl ⟨rfl, rfl⟩ rfl (Nat.le_of_ble_eq_true rfl) ?_
  exact K
theorem c144_17 {r_0 : Nat} {o_1 : Option Value} {a_2 : Nat} {a_3 : Nat} {a_4 : Nat} {a_5 : Nat} {fs1 : List Value} {q_fs1_0 : Nat} {n4 : Nat} {f5 : Nat → Int32} {v9 : Nat} (e2 : h r_0 = some (.inr (9, fs1))) (e3 : fs1[0]? = some (.ref q_fs1_0)) (e6 : h q_fs1_0 = some (.inl (0, n4, .inl f5))) (b7 : a_3 + 1 < n4) (c8 : n4 < 2147483648) (e10 : f5 (a_3 + 1) = nI v9) (c11 : a_5 < 2147483648) (c12 : v9 < 2147483648) (K1 : v9 ≤ a_5 → ip sc call 144 MC MS Q 81 [some (.ref r_0), o_1, some (.int (nI a_2)), some (.int (nI a_3)), some (.int (nI a_4)), some (.int (nI a_5))] [] h z c s) (K2 : ¬ (v9 ≤ a_5) → ip sc call 144 MC MS Q 30 [some (.ref r_0), o_1, some (.int (nI a_2)), some (.int (nI a_3)), some (.int (nI a_4)), some (.int (nI a_5))] [] h z c s) : ip sc call 144 MC MS Q 17 [some (.ref r_0), o_1, some (.int (nI a_2)), some (.int (nI a_3)), some (.int (nI a_4)), some (.int (nI a_5))] [] h z c s := by
  refine jp_load (pc2 := 19) (n := 5) rfl rfl rfl rfl ?_
  refine jp_load (pc2 := 20) (n := 0) rfl rfl rfl rfl ?_
  refine jp_getf (pc2 := 23) rfl rfl e2 e3 ?_
  refine jp_load (pc2 := 24) (n := 3) rfl rfl rfl rfl ?_
  refine jp_con (pc2 := 25) (v := (.int (nI 1))) rfl rfl rfl ?_
  refine jp_bin (pc2 := 26) (v := nI (a_3 + 1)) rfl rfl (congrArg some (nI_add _ _)) ?_
  refine jp_iald (pc2 := 27) rfl rfl e6 (vp_in_nI b7 c8) ?_
  rw [(nI_clamp (Nat.lt_trans b7 c8))]
  rw [e10]
  exact jp_icmp (pc2 := 30) rfl rfl (fun q => K1 ((nI_leI c12 c11).mp q)) (fun q => K2 (fun r => q ((nI_leI c12 c11).mpr r)))
theorem c144_30 {r_0 : Nat} {o_1 : Option Value} {a_2 : Nat} {a_3 : Nat} {a_4 : Nat} {a_5 : Nat} {fs1 : List Value} {P : ipQ} (e2 : h r_0 = some (.inr (9, fs1))) (m3 : c ≤ MC) (m4 : s ≤ MS) (hc : call 137 [(.ref r_0), (.int (nI a_3))] h z 0 0 P) (K : ∀ (o : Option Value) (h2 : HP) (z2 : Nat), P o h2 z2 → ip sc call 144 MC MS Q 35 [some (.ref r_0), o_1, some (.int (nI a_2)), some (.int (nI a_3)), some (.int (nI a_4)), some (.int (nI a_5))] (o.toList ++ []) h2 z2 c s) : ip sc call 144 MC MS Q 30 [some (.ref r_0), o_1, some (.int (nI a_2)), some (.int (nI a_3)), some (.int (nI a_4)), some (.int (nI a_5))] [] h z c s := by
  refine jp_load (pc2 := 31) (n := 0) rfl rfl rfl rfl ?_
  refine jp_load (pc2 := 32) (n := 3) rfl rfl rfl rfl ?_
  exact jp_virt0 (pc2 := 35) (As := [(.int (nI a_3))]) (rest := []) rfl rfl rfl (Nat.le_of_ble_eq_true rfl) e2 m3 m4 hc rfl K
theorem c144_35 {r_0 : Nat} {o_1 : Option Value} {a_2 : Nat} {a_3 : Nat} {a_4 : Nat} {a_5 : Nat} {fs1 : List Value} {q_fs1_13 : Nat} {n4 : Nat} {f5 : Nat → Int32} {v9 : Nat} (e2 : h r_0 = some (.inr (9, fs1))) (e3 : fs1[13]? = some (.ref q_fs1_13)) (e6 : h q_fs1_13 = some (.inl (0, n4, .inl f5))) (b7 : a_5 < n4) (c8 : n4 < 2147483648) (e10 : f5 a_5 = nI v9) (c11 : v9 < 2147483648) (c12 : a_5 < 2147483648) (K1 : v9 = a_5 → ip sc call 144 MC MS Q 50 [some (.ref r_0), o_1, some (.int (nI a_2)), some (.int (nI a_3)), some (.int (nI a_4)), some (.int (nI a_5))] [] h z c s) (K2 : ¬ (v9 = a_5) → ip sc call 144 MC MS Q 47 [some (.ref r_0), o_1, some (.int (nI a_2)), some (.int (nI a_3)), some (.int (nI a_4)), some (.int (nI a_5))] [] h z c s) : ip sc call 144 MC MS Q 35 [some (.ref r_0), o_1, some (.int (nI a_2)), some (.int (nI a_3)), some (.int (nI a_4)), some (.int (nI a_5))] [] h z c s := by
  refine jp_load (pc2 := 36) (n := 0) rfl rfl rfl rfl ?_
  refine jp_getf (pc2 := 39) rfl rfl e2 e3 ?_
  refine jp_load (pc2 := 41) (n := 5) rfl rfl rfl rfl ?_
  refine jp_iald (pc2 := 42) rfl rfl e6 (vp_in_nI b7 c8) ?_
  rw [(nI_clamp (Nat.lt_trans b7 c8))]
  rw [e10]
  refine jp_load (pc2 := 44) (n := 5) rfl rfl rfl rfl ?_
  exact jp_icmp (pc2 := 47) rfl rfl (fun q => K1 ((nI_eq c11 c12).mp q)) (fun q => K2 (fun r => q ((nI_eq c11 c12).mpr r)))
theorem c144_47 {r_0 : Nat} {o_1 : Option Value} {a_2 : Nat} {a_3 : Nat} {a_4 : Nat} {a_5 : Nat}  (K : ip sc call 144 MC MS Q 75 [some (.ref r_0), o_1, some (.int (nI a_2)), some (.int (nI a_3)), some (.int (nI a_4)), some (.int (nI a_5))] [] h z c s) : ip sc call 144 MC MS Q 47 [some (.ref r_0), o_1, some (.int (nI a_2)), some (.int (nI a_3)), some (.int (nI a_4)), some (.int (nI a_5))] [] h z c s := by
  refine ip_goto rfl ?_
  exact K
theorem c144_50 {r_0 : Nat} {o_1 : Option Value} {a_2 : Nat} {a_3 : Nat} {a_4 : Nat} {a_5 : Nat} {P : ipQ} (m1 : c ≤ MC) (m2 : s ≤ MS) (hc : call 143 [(.int (nI (a_2 + 1)))] h z 0 0 P) (K : ∀ (o : Option Value) (h2 : HP) (z2 : Nat), P o h2 z2 → ip sc call 144 MC MS Q 58 [some (.ref r_0), o_1, some (.int (nI a_2)), some (.int (nI a_3)), some (.int (nI a_4)), some (.int (nI a_5))] (o.toList ++ [(.int (nI a_3)), (.ref r_0)]) h2 z2 c s) : ip sc call 144 MC MS Q 50 [some (.ref r_0), o_1, some (.int (nI a_2)), some (.int (nI a_3)), some (.int (nI a_4)), some (.int (nI a_5))] [] h z c s := by
  refine jp_load (pc2 := 51) (n := 0) rfl rfl rfl rfl ?_
  refine jp_load (pc2 := 52) (n := 3) rfl rfl rfl rfl ?_
  refine jp_load (pc2 := 53) (n := 2) rfl rfl rfl rfl ?_
  refine jp_con (pc2 := 54) (v := (.int (nI 1))) rfl rfl rfl ?_
  refine jp_bin (pc2 := 55) (v := nI (a_2 + 1)) rfl rfl (congrArg some (nI_add _ _)) ?_
  exact jp_stat0 (pc2 := 58) (As := [(.int (nI (a_2 + 1)))]) (rest := [(.int (nI a_3)), (.ref r_0)]) rfl rfl rfl (Nat.le_of_ble_eq_true rfl) m1 m2 (by decide) hc rfl K
theorem c144_58 {r_0 : Nat} {o_1 : Option Value} {a_2 : Nat} {a_3 : Nat} {a_4 : Nat} {a_5 : Nat} {sr_0 : Nat} {sa_1 : Nat} {sa_2 : Nat} {fs1 : List Value} {P : ipQ} (e2 : h sr_0 = some (.inr (9, fs1))) (m3 : c ≤ MC) (m4 : s ≤ MS) (hc : call 139 [(.ref sr_0), (.int (nI sa_1)), (.int (nI sa_2)), (.int (nI a_5))] h z 0 0 P) (K : ∀ (o : Option Value) (h2 : HP) (z2 : Nat), P o h2 z2 → ip sc call 144 MC MS Q 63 [some (.ref r_0), o_1, some (.int (nI a_2)), some (.int (nI a_3)), some (.int (nI a_4)), some (.int (nI a_5))] (o.toList ++ []) h2 z2 c s) : ip sc call 144 MC MS Q 58 [some (.ref r_0), o_1, some (.int (nI a_2)), some (.int (nI a_3)), some (.int (nI a_4)), some (.int (nI a_5))] [(.int (nI sa_2)), (.int (nI sa_1)), (.ref sr_0)] h z c s := by
  refine jp_load (pc2 := 60) (n := 5) rfl rfl rfl rfl ?_
  exact jp_virt0 (pc2 := 63) (As := [(.int (nI sa_1)), (.int (nI sa_2)), (.int (nI a_5))]) (rest := []) rfl rfl rfl (Nat.le_of_ble_eq_true rfl) e2 m3 m4 hc rfl K
theorem c144_63 {r_0 : Nat} {o_1 : Option Value} {a_2 : Nat} {a_3 : Nat} {a_4 : Nat} {a_5 : Nat} {fs1 : List Value} {P : ipQ} (e2 : h r_0 = some (.inr (9, fs1))) (m3 : c ≤ MC) (m4 : s ≤ MS) (hc : call 145 [(.ref r_0), (.int (nI (a_2 + 1)))] h z 0 0 P) (K : ∀ (o : Option Value) (h2 : HP) (z2 : Nat), P o h2 z2 → ip sc call 144 MC MS Q 72 [some (.ref r_0), o_1, some (.int (nI a_2)), some (.int (nI a_3)), some (.int (nI a_4)), some (.int (nI a_5))] (o.toList ++ [(.int (nI a_4))]) h2 z2 c s) : ip sc call 144 MC MS Q 63 [some (.ref r_0), o_1, some (.int (nI a_2)), some (.int (nI a_3)), some (.int (nI a_4)), some (.int (nI a_5))] [] h z c s := by
  refine jp_load (pc2 := 65) (n := 4) rfl rfl rfl rfl ?_
  refine jp_load (pc2 := 66) (n := 0) rfl rfl rfl rfl ?_
  refine jp_load (pc2 := 67) (n := 2) rfl rfl rfl rfl ?_
  refine jp_con (pc2 := 68) (v := (.int (nI 1))) rfl rfl rfl ?_
  refine jp_bin (pc2 := 69) (v := nI (a_2 + 1)) rfl rfl (congrArg some (nI_add _ _)) ?_
  exact jp_virt0 (pc2 := 72) (As := [(.int (nI (a_2 + 1)))]) (rest := [(.int (nI a_4))]) rfl rfl rfl (Nat.le_of_ble_eq_true rfl) e2 m3 m4 hc rfl K
theorem c144_72 {r_0 : Nat} {o_1 : Option Value} {a_2 : Nat} {a_3 : Nat} {o_4 : Option Value} {a_5 : Nat} {sa_0 : Nat} {sa_1 : Nat}  (K : ip sc call 144 MC MS Q 75 [some (.ref r_0), o_1, some (.int (nI a_2)), some (.int (nI a_3)), some (.int ((nI sa_0) ^^^ (nI sa_1))), some (.int (nI a_5))] [] h z c s) : ip sc call 144 MC MS Q 72 [some (.ref r_0), o_1, some (.int (nI a_2)), some (.int (nI a_3)), o_4, some (.int (nI a_5))] [(.int (nI sa_1)), (.int (nI sa_0))] h z c s := by
  refine jp_bin (pc2 := 73) (v := (nI sa_0) ^^^ (nI sa_1)) rfl rfl rfl ?_
  refine jp_store (pc2 := 75) (n := 4) rfl rfl ⟨rfl, rfl⟩ rfl (Nat.le_of_ble_eq_true rfl) ?_
  exact K
theorem c144_75 {r_0 : Nat} {o_1 : Option Value} {a_2 : Nat} {a_3 : Nat} {a_4 : Nat} {a_5 : Nat}  (K : ip sc call 144 MC MS Q 17 [some (.ref r_0), o_1, some (.int (nI a_2)), some (.int (nI a_3)), some (.int (nI a_4)), some (.int (nI (a_5 + 1)))] [] h z c s) : ip sc call 144 MC MS Q 75 [some (.ref r_0), o_1, some (.int (nI a_2)), some (.int (nI a_3)), some (.int (nI a_4)), some (.int (nI a_5))] [] h z c s := by
  refine jp_iinc (pc2 := 78) (n := 5) (v := nI (a_5 + 1)) rfl rfl rfl (nI_add _ 1) rfl ?_
  refine ip_goto rfl ?_
  exact K
theorem c144_81 {o_0 : Option Value} {o_1 : Option Value} {o_2 : Option Value} {o_3 : Option Value} {a_4 : Nat} {o_5 : Option Value} (q1 : Q (some (.int (nI a_4))) h z)  : ip sc call 144 MC MS Q 81 [o_0, o_1, o_2, o_3, some (.int (nI a_4)), o_5] [] h z c s := by
  refine jp_load (pc2 := 83) (n := 4) rfl rfl rfl rfl ?_
  exact ip_iret (st := []) rfl rfl rfl q1
theorem c145_0 {r_0 : Nat} {a_1 : Nat} {o_2 : Option Value} {o_3 : Option Value} {o_4 : Option Value} {o_5 : Option Value} {o_6 : Option Value} {o_7 : Option Value} {o_8 : Option Value} {o_9 : Option Value} {o_10 : Option Value} {o_11 : Option Value} {o_12 : Option Value} {P : ipQ} (m1 : c ≤ MC) (m2 : s ≤ MS) (hc : call 143 [(.int (nI a_1))] h z 0 0 P) (K : ∀ (o : Option Value) (h2 : HP) (z2 : Nat), P o h2 z2 → ip sc call 145 MC MS Q 4 [some (.ref r_0), some (.int (nI a_1)), o_2, o_3, o_4, o_5, o_6, o_7, o_8, o_9, o_10, o_11, o_12] (o.toList ++ []) h2 z2 c s) : ip sc call 145 MC MS Q 0 [some (.ref r_0), some (.int (nI a_1)), o_2, o_3, o_4, o_5, o_6, o_7, o_8, o_9, o_10, o_11, o_12] [] h z c s := by
  refine jp_load (pc2 := 1) (n := 1) rfl rfl rfl rfl ?_
  exact jp_stat0 (pc2 := 4) (As := [(.int (nI a_1))]) (rest := []) rfl rfl rfl (Nat.le_of_ble_eq_true rfl) m1 m2 (by decide) hc rfl K
theorem c145_4 {r_0 : Nat} {a_1 : Nat} {o_2 : Option Value} {o_3 : Option Value} {o_4 : Option Value} {o_5 : Option Value} {o_6 : Option Value} {o_7 : Option Value} {o_8 : Option Value} {o_9 : Option Value} {o_10 : Option Value} {o_11 : Option Value} {o_12 : Option Value} {sa_0 : Nat} {fs1 : List Value} {P : ipQ} (e2 : h r_0 = some (.inr (9, fs1))) (m3 : c ≤ MC) (m4 : s ≤ MS) (hc : call 140 [(.ref r_0), (.int (nI sa_0))] h z 0 0 P) (K : ∀ (o : Option Value) (h2 : HP) (z2 : Nat), P o h2 z2 → ip sc call 145 MC MS Q 10 [some (.ref r_0), some (.int (nI a_1)), some (.int (nI sa_0)), o_3, o_4, o_5, o_6, o_7, o_8, o_9, o_10, o_11, o_12] (o.toList ++ []) h2 z2 c s) : ip sc call 145 MC MS Q 4 [some (.ref r_0), some (.int (nI a_1)), o_2, o_3, o_4, o_5, o_6, o_7, o_8, o_9, o_10, o_11, o_12] [(.int (nI sa_0))] h z c s := by
  refine jp_store (pc2 := 5) (n := 2) rfl rfl ⟨rfl, rfl⟩ rfl (Nat.le_of_ble_eq_true rfl) ?_
  refine jp_load (pc2 := 6) (n := 0) rfl rfl rfl rfl ?_
  refine jp_load (pc2 := 7) (n := 2) rfl rfl rfl rfl ?_
  exact jp_virt0 (pc2 := 10) (As := [(.int (nI sa_0))]) (rest := []) rfl rfl rfl (Nat.le_of_ble_eq_true rfl) e2 m3 m4 hc rfl K
theorem c145_10 {r_0 : Nat} {a_1 : Nat} {a_2 : Nat} {o_3 : Option Value} {o_4 : Option Value} {o_5 : Option Value} {o_6 : Option Value} {o_7 : Option Value} {o_8 : Option Value} {o_9 : Option Value} {o_10 : Option Value} {o_11 : Option Value} {o_12 : Option Value} {fs1 : List Value} {P : ipQ} (e2 : h r_0 = some (.inr (9, fs1))) (m3 : c ≤ MC) (m4 : s ≤ MS) (hc : call 142 [(.ref r_0)] h z 0 0 P) (K : ∀ (o : Option Value) (h2 : HP) (z2 : Nat), P o h2 z2 → ip sc call 145 MC MS Q 14 [some (.ref r_0), some (.int (nI a_1)), some (.int (nI a_2)), o_3, o_4, o_5, o_6, o_7, o_8, o_9, o_10, o_11, o_12] (o.toList ++ []) h2 z2 c s) : ip sc call 145 MC MS Q 10 [some (.ref r_0), some (.int (nI a_1)), some (.int (nI a_2)), o_3, o_4, o_5, o_6, o_7, o_8, o_9, o_10, o_11, o_12] [] h z c s := by
  refine jp_load (pc2 := 11) (n := 0) rfl rfl rfl rfl ?_
  exact jp_virt0 (pc2 := 14) (As := []) (rest := []) rfl rfl rfl (Nat.le_of_ble_eq_true rfl) e2 m3 m4 hc rfl K
theorem c145_14 {r_0 : Nat} {a_1 : Nat} {a_2 : Nat} {o_3 : Option Value} {o_4 : Option Value} {o_5 : Option Value} {o_6 : Option Value} {o_7 : Option Value} {o_8 : Option Value} {o_9 : Option Value} {o_10 : Option Value} {o_11 : Option Value} {o_12 : Option Value} {sa_0 : Nat} (c1 : sa_0 < 2147483648) (K1 : sa_0 < 0 → ip sc call 145 MC MS Q 35 [some (.ref r_0), some (.int (nI a_1)), some (.int (nI a_2)), some (.int (nI sa_0)), o_4, o_5, o_6, o_7, o_8, o_9, o_10, o_11, o_12] [] h z c s) (K2 : ¬ (sa_0 < 0) → ip sc call 145 MC MS Q 19 [some (.ref r_0), some (.int (nI a_1)), some (.int (nI a_2)), some (.int (nI sa_0)), o_4, o_5, o_6, o_7, o_8, o_9, o_10, o_11, o_12] [] h z c s) : ip sc call 145 MC MS Q 14 [some (.ref r_0), some (.int (nI a_1)), some (.int (nI a_2)), o_3, o_4, o_5, o_6, o_7, o_8, o_9, o_10, o_11, o_12] [(.int (nI sa_0))] h z c s := by
  refine jp_store (pc2 := 15) (n := 3) rfl rfl ⟨rfl, rfl⟩ rfl (Nat.le_of_ble_eq_true rfl) ?_
  refine jp_load (pc2 := 16) (n := 3) rfl rfl rfl rfl ?_
  exact jp_if0 (pc2 := 19) rfl rfl (fun q => K1 ((nI_ltI c1 (by decide)).mp q)) (fun q => K2 (fun r => q ((nI_ltI c1 (by decide)).mpr r)))
theorem c145_19 {r_0 : Nat} {a_1 : Nat} {a_2 : Nat} {a_3 : Nat} {o_4 : Option Value} {o_5 : Option Value} {o_6 : Option Value} {o_7 : Option Value} {o_8 : Option Value} {o_9 : Option Value} {o_10 : Option Value} {o_11 : Option Value} {o_12 : Option Value} {fs1 : List Value} {q_fs1_3 : Nat} {n4 : Nat} {f5 : Nat → Int32} {v9 : Nat} (e2 : h r_0 = some (.inr (9, fs1))) (e3 : fs1[3]? = some (.ref q_fs1_3)) (e6 : h q_fs1_3 = some (.inl (0, n4, .inl f5))) (b7 : a_3 < n4) (c8 : n4 < 2147483648) (e10 : f5 a_3 = nI v9) (c11 : v9 < 2147483648) (K1 : v9 ≤ 0 → ip sc call 145 MC MS Q 35 [some (.ref r_0), some (.int (nI a_1)), some (.int (nI a_2)), some (.int (nI a_3)), o_4, o_5, o_6, o_7, o_8, o_9, o_10, o_11, o_12] [] h z c s) (K2 : ¬ (v9 ≤ 0) → ip sc call 145 MC MS Q 28 [some (.ref r_0), some (.int (nI a_1)), some (.int (nI a_2)), some (.int (nI a_3)), o_4, o_5, o_6, o_7, o_8, o_9, o_10, o_11, o_12] [] h z c s) : ip sc call 145 MC MS Q 19 [some (.ref r_0), some (.int (nI a_1)), some (.int (nI a_2)), some (.int (nI a_3)), o_4, o_5, o_6, o_7, o_8, o_9, o_10, o_11, o_12] [] h z c s := by
  refine jp_load (pc2 := 20) (n := 0) rfl rfl rfl rfl ?_
  refine jp_getf (pc2 := 23) rfl rfl e2 e3 ?_
  refine jp_load (pc2 := 24) (n := 3) rfl rfl rfl rfl ?_
  refine jp_iald (pc2 := 25) rfl rfl e6 (vp_in_nI b7 c8) ?_
  rw [(nI_clamp (Nat.lt_trans b7 c8))]
  rw [e10]
  exact jp_if0 (pc2 := 28) rfl rfl (fun q => K1 ((nI_leI c11 (by decide)).mp q)) (fun q => K2 (fun r => q ((nI_leI c11 (by decide)).mpr r)))
theorem c145_28 {r_0 : Nat} {o_1 : Option Value} {o_2 : Option Value} {a_3 : Nat} {o_4 : Option Value} {o_5 : Option Value} {o_6 : Option Value} {o_7 : Option Value} {o_8 : Option Value} {o_9 : Option Value} {o_10 : Option Value} {o_11 : Option Value} {o_12 : Option Value} {fs1 : List Value} {q_fs1_4 : Nat} {n4 : Nat} {f5 : Nat → Int32} {x9 : Int32} (e2 : h r_0 = some (.inr (9, fs1))) (e3 : fs1[4]? = some (.ref q_fs1_4)) (e6 : h q_fs1_4 = some (.inl (2, n4, .inl f5))) (b7 : a_3 < n4) (c8 : n4 < 2147483648) (e10 : f5 a_3 = x9) (q11 : Q (some (.int x9)) h z)  : ip sc call 145 MC MS Q 28 [some (.ref r_0), o_1, o_2, some (.int (nI a_3)), o_4, o_5, o_6, o_7, o_8, o_9, o_10, o_11, o_12] [] h z c s := by
  refine jp_load (pc2 := 29) (n := 0) rfl rfl rfl rfl ?_
  refine jp_getf (pc2 := 32) rfl rfl e2 e3 ?_
  refine jp_load (pc2 := 33) (n := 3) rfl rfl rfl rfl ?_
  refine jp_bald (pc2 := 34) rfl rfl e6 (by decide) (vp_in_nI b7 c8) ?_
  rw [(nI_clamp (Nat.lt_trans b7 c8))]
  rw [e10]
  exact ip_iret (st := []) rfl rfl rfl q11
theorem c145_35 {r_0 : Nat} {a_1 : Nat} {a_2 : Nat} {o_3 : Option Value} {o_4 : Option Value} {o_5 : Option Value} {o_6 : Option Value} {o_7 : Option Value} {o_8 : Option Value} {o_9 : Option Value} {o_10 : Option Value} {o_11 : Option Value} {o_12 : Option Value} {fs2 : List Value} {P : ipQ} (k1 : ip2 o_3 = false) (e3 : h r_0 = some (.inr (9, fs2))) (m4 : c ≤ MC) (m5 : s ≤ MS) (hc : call 112 [(.ref r_0)] h z 0 0 P) (K : ∀ (o : Option Value) (h2 : HP) (z2 : Nat), P o h2 z2 → ip sc call 145 MC MS Q 42 [some (.ref r_0), some (.int (nI a_1)), some (.int (nI a_2)), o_3, some (.int (nI 0)), o_5, o_6, o_7, o_8, o_9, o_10, o_11, o_12] (o.toList ++ []) h2 z2 c s) : ip sc call 145 MC MS Q 35 [some (.ref r_0), some (.int (nI a_1)), some (.int (nI a_2)), o_3, o_4, o_5, o_6, o_7, o_8, o_9, o_10, o_11, o_12] [] h z c s := by
  refine jp_con (pc2 := 36) (v := (.int (nI 0))) rfl rfl rfl ?_
  refine jp_store (pc2 := 38) (n := 4) rfl rfl ⟨rfl, rfl⟩ k1 (Nat.le_of_ble_eq_true rfl) ?_
  refine jp_load (pc2 := 39) (n := 0) rfl rfl rfl rfl ?_
  exact jp_virt0 (pc2 := 42) (As := []) (rest := []) rfl rfl rfl (Nat.le_of_ble_eq_true rfl) e3 m4 m5 hc rfl K
theorem c145_42 {r_0 : Nat} {a_1 : Nat} {a_2 : Nat} {o_3 : Option Value} {a_4 : Nat} {o_5 : Option Value} {o_6 : Option Value} {o_7 : Option Value} {o_8 : Option Value} {o_9 : Option Value} {o_10 : Option Value} {o_11 : Option Value} {o_12 : Option Value} {fs1 : List Value} {P : ipQ} (e2 : h r_0 = some (.inr (9, fs1))) (m3 : c ≤ MC) (m4 : s ≤ MS) (hc : call 114 [(.ref r_0), (.int (nI a_2))] h z 0 0 P) (K : ∀ (o : Option Value) (h2 : HP) (z2 : Nat), P o h2 z2 → ip sc call 145 MC MS Q 47 [some (.ref r_0), some (.int (nI a_1)), some (.int (nI a_2)), o_3, some (.int (nI a_4)), o_5, o_6, o_7, o_8, o_9, o_10, o_11, o_12] (o.toList ++ []) h2 z2 c s) : ip sc call 145 MC MS Q 42 [some (.ref r_0), some (.int (nI a_1)), some (.int (nI a_2)), o_3, some (.int (nI a_4)), o_5, o_6, o_7, o_8, o_9, o_10, o_11, o_12] [] h z c s := by
  refine jp_load (pc2 := 43) (n := 0) rfl rfl rfl rfl ?_
  refine jp_load (pc2 := 44) (n := 2) rfl rfl rfl rfl ?_
  exact jp_virt0 (pc2 := 47) (As := [(.int (nI a_2))]) (rest := []) rfl rfl rfl (Nat.le_of_ble_eq_true rfl) e2 m3 m4 hc rfl K
theorem c145_47 {r_0 : Nat} {a_1 : Nat} {a_2 : Nat} {o_3 : Option Value} {a_4 : Nat} {o_5 : Option Value} {o_6 : Option Value} {o_7 : Option Value} {o_8 : Option Value} {o_9 : Option Value} {o_10 : Option Value} {o_11 : Option Value} {o_12 : Option Value} {sa_0 : Nat} (c1 : sa_0 < 2147483648) (K1 : sa_0 = 0 → ip sc call 145 MC MS Q 174 [some (.ref r_0), some (.int (nI a_1)), some (.int (nI a_2)), o_3, some (.int (nI a_4)), o_5, o_6, o_7, o_8, o_9, o_10, o_11, o_12] [] h z c s) (K2 : ¬ (sa_0 = 0) → ip sc call 145 MC MS Q 50 [some (.ref r_0), some (.int (nI a_1)), some (.int (nI a_2)), o_3, some (.int (nI a_4)), o_5, o_6, o_7, o_8, o_9, o_10, o_11, o_12] [] h z c s) : ip sc call 145 MC MS Q 47 [some (.ref r_0), some (.int (nI a_1)), some (.int (nI a_2)), o_3, some (.int (nI a_4)), o_5, o_6, o_7, o_8, o_9, o_10, o_11, o_12] [(.int (nI sa_0))] h z c s := by
  exact jp_if0 (pc2 := 50) rfl rfl (fun q => K1 ((nI_eq c1 (by decide)).mp q)) (fun q => K2 (fun r => q ((nI_eq c1 (by decide)).mpr r)))
theorem c145_50 {r_0 : Nat} {a_1 : Nat} {a_2 : Nat} {o_3 : Option Value} {a_4 : Nat} {o_5 : Option Value} {o_6 : Option Value} {o_7 : Option Value} {o_8 : Option Value} {o_9 : Option Value} {o_10 : Option Value} {o_11 : Option Value} {o_12 : Option Value} {fs1 : List Value} {v_fs1_6 : Nat} {v_fs1_7 : Nat} {v_fs1_8 : Nat} {v_fs1_9 : Nat} {v_fs1_10 : Nat} {v_fs1_11 : Nat} {P : ipQ} (e2 : h r_0 = some (.inr (9, fs1))) (e3 : fs1[6]? = some (.int (nI v_fs1_6))) (e4 : fs1[7]? = some (.int (nI v_fs1_7))) (e5 : fs1[8]? = some (.int (nI v_fs1_8))) (e6 : fs1[9]? = some (.int (nI v_fs1_9))) (e7 : fs1[10]? = some (.int (nI v_fs1_10))) (e8 : fs1[11]? = some (.int (nI v_fs1_11))) (m9 : c ≤ MC) (m10 : s ≤ MS) (hc : call 143 [(.int (nI (a_1 + 1)))] h z 0 0 P) (K : ∀ (o : Option Value) (h2 : HP) (z2 : Nat), P o h2 z2 → ip sc call 145 MC MS Q 94 [some (.ref r_0), some (.int (nI a_1)), some (.int (nI a_2)), o_3, some (.int (nI a_4)), some (.int (nI v_fs1_6)), some (.int (nI v_fs1_7)), some (.int (nI v_fs1_8)), some (.int (nI v_fs1_9)), some (.int (nI v_fs1_10)), some (.int (nI v_fs1_11)), o_11, o_12] (o.toList ++ [(.int (nI a_2)), (.ref r_0)]) h2 z2 c s) : ip sc call 145 MC MS Q 50 [some (.ref r_0), some (.int (nI a_1)), some (.int (nI a_2)), o_3, some (.int (nI a_4)), o_5, o_6, o_7, o_8, o_9, o_10, o_11, o_12] [] h z c s := by
  refine jp_load (pc2 := 51) (n := 0) rfl rfl rfl rfl ?_
  refine jp_getf (pc2 := 54) rfl rfl e2 e3 ?_
  refine jp_store (pc2 := 56) (n := 5) rfl rfl ⟨rfl, rfl⟩ rfl (Nat.le_of_ble_eq_true rfl) ?_
  refine jp_load (pc2 := 57) (n := 0) rfl rfl rfl rfl ?_
  refine jp_getf (pc2 := 60) rfl rfl e2 e4 ?_
  refine jp_store (pc2 := 62) (n := 6) rfl rfl ⟨rfl, rfl⟩ rfl (Nat.le_of_ble_eq_true rfl) ?_
  refine jp_load (pc2 := 63) (n := 0) rfl rfl rfl rfl ?_
  refine jp_getf (pc2 := 66) rfl rfl e2 e5 ?_
  refine jp_store (pc2 := 68) (n := 7) rfl rfl ⟨rfl, rfl⟩ rfl (Nat.le_of_ble_eq_true rfl) ?_
  refine jp_load (pc2 := 69) (n := 0) rfl rfl rfl rfl ?_
  refine jp_getf (pc2 := 72) rfl rfl e2 e6 ?_
  refine jp_store (pc2 := 74) (n := 8) rfl rfl ⟨rfl, rfl⟩ rfl (Nat.le_of_ble_eq_true rfl) ?_
  refine jp_load (pc2 := 75) (n := 0) rfl rfl rfl rfl ?_
  refine jp_getf (pc2 := 78) rfl rfl e2 e7 ?_
  refine jp_store (pc2 := 80) (n := 9) rfl rfl ⟨rfl, rfl⟩ rfl (Nat.le_of_ble_eq_true rfl) ?_
  refine jp_load (pc2 := 81) (n := 0) rfl rfl rfl rfl ?_
  refine jp_getf (pc2 := 84) rfl rfl e2 e8 ?_
  refine jp_store (pc2 := 86) (n := 10) rfl rfl ⟨rfl, rfl⟩ rfl (Nat.le_of_ble_eq_true rfl) ?_
  refine jp_load (pc2 := 87) (n := 0) rfl rfl rfl rfl ?_
  refine jp_load (pc2 := 88) (n := 2) rfl rfl rfl rfl ?_
  refine jp_load (pc2 := 89) (n := 1) rfl rfl rfl rfl ?_
  refine jp_con (pc2 := 90) (v := (.int (nI 1))) rfl rfl rfl ?_
  refine jp_bin (pc2 := 91) (v := nI (a_1 + 1)) rfl rfl (congrArg some (nI_add _ _)) ?_
  exact jp_stat0 (pc2 := 94) (As := [(.int (nI (a_1 + 1)))]) (rest := [(.int (nI a_2)), (.ref r_0)]) rfl rfl rfl (Nat.le_of_ble_eq_true rfl) m9 m10 (by decide) hc rfl K
theorem c145_94 {r_0 : Nat} {a_1 : Nat} {a_2 : Nat} {o_3 : Option Value} {a_4 : Nat} {a_5 : Nat} {a_6 : Nat} {a_7 : Nat} {a_8 : Nat} {a_9 : Nat} {a_10 : Nat} {o_11 : Option Value} {o_12 : Option Value} {sr_0 : Nat} {sa_1 : Nat} {sa_2 : Nat} {fs1 : List Value} {P : ipQ} (e2 : h sr_0 = some (.inr (9, fs1))) (m3 : c ≤ MC) (m4 : s ≤ MS) (hc : call 108 [(.ref sr_0), (.int (nI sa_1)), (.int (nI sa_2)), (.int (nI a_5)), (.int (nI a_6)), (.int (nI a_7)), (.int (nI a_8)), (.int (nI a_9)), (.int (nI a_10))] h z 0 0 P) (K : ∀ (o : Option Value) (h2 : HP) (z2 : Nat), P o h2 z2 → ip sc call 145 MC MS Q 109 [some (.ref r_0), some (.int (nI a_1)), some (.int (nI a_2)), o_3, some (.int (nI a_4)), some (.int (nI a_5)), some (.int (nI a_6)), some (.int (nI a_7)), some (.int (nI a_8)), some (.int (nI a_9)), some (.int (nI a_10)), o_11, o_12] (o.toList ++ []) h2 z2 c s) : ip sc call 145 MC MS Q 94 [some (.ref r_0), some (.int (nI a_1)), some (.int (nI a_2)), o_3, some (.int (nI a_4)), some (.int (nI a_5)), some (.int (nI a_6)), some (.int (nI a_7)), some (.int (nI a_8)), some (.int (nI a_9)), some (.int (nI a_10)), o_11, o_12] [(.int (nI sa_2)), (.int (nI sa_1)), (.ref sr_0)] h z c s := by
  refine jp_load (pc2 := 96) (n := 5) rfl rfl rfl rfl ?_
  refine jp_load (pc2 := 98) (n := 6) rfl rfl rfl rfl ?_
  refine jp_load (pc2 := 100) (n := 7) rfl rfl rfl rfl ?_
  refine jp_load (pc2 := 102) (n := 8) rfl rfl rfl rfl ?_
  refine jp_load (pc2 := 104) (n := 9) rfl rfl rfl rfl ?_
  refine jp_load (pc2 := 106) (n := 10) rfl rfl rfl rfl ?_
  exact jp_virt0 (pc2 := 109) (As := [(.int (nI sa_1)), (.int (nI sa_2)), (.int (nI a_5)), (.int (nI a_6)), (.int (nI a_7)), (.int (nI a_8)), (.int (nI a_9)), (.int (nI a_10))]) (rest := []) rfl rfl rfl (Nat.le_of_ble_eq_true rfl) e2 m3 m4 hc rfl K
theorem c145_109 {r_0 : Nat} {a_1 : Nat} {a_2 : Nat} {o_3 : Option Value} {a_4 : Nat} {a_5 : Nat} {a_6 : Nat} {a_7 : Nat} {a_8 : Nat} {a_9 : Nat} {a_10 : Nat} {o_11 : Option Value} {o_12 : Option Value} {sa_0 : Nat} {P : ipQ} (m1 : c ≤ MC) (m2 : s ≤ MS) (hc : call 143 [(.int (nI (a_1 + 1)))] h z 0 0 P) (K : ∀ (o : Option Value) (h2 : HP) (z2 : Nat), P o h2 z2 → ip sc call 145 MC MS Q 118 [some (.ref r_0), some (.int (nI a_1)), some (.int (nI a_2)), o_3, some (.int (nI a_4)), some (.int (nI a_5)), some (.int (nI a_6)), some (.int (nI a_7)), some (.int (nI a_8)), some (.int (nI a_9)), some (.int (nI a_10)), some (.int (nI sa_0)), o_12] (o.toList ++ [(.ref r_0)]) h2 z2 c s) : ip sc call 145 MC MS Q 109 [some (.ref r_0), some (.int (nI a_1)), some (.int (nI a_2)), o_3, some (.int (nI a_4)), some (.int (nI a_5)), some (.int (nI a_6)), some (.int (nI a_7)), some (.int (nI a_8)), some (.int (nI a_9)), some (.int (nI a_10)), o_11, o_12] [(.int (nI sa_0))] h z c s := by
  refine jp_store (pc2 := 111) (n := 11) rfl rfl ⟨rfl, rfl⟩ rfl (Nat.le_of_ble_eq_true rfl) ?_
  refine jp_load (pc2 := 112) (n := 0) rfl rfl rfl rfl ?_
  refine jp_load (pc2 := 113) (n := 1) rfl rfl rfl rfl ?_
  refine jp_con (pc2 := 114) (v := (.int (nI 1))) rfl rfl rfl ?_
  refine jp_bin (pc2 := 115) (v := nI (a_1 + 1)) rfl rfl (congrArg some (nI_add _ _)) ?_
  exact jp_stat0 (pc2 := 118) (As := [(.int (nI (a_1 + 1)))]) (rest := [(.ref r_0)]) rfl rfl rfl (Nat.le_of_ble_eq_true rfl) m1 m2 (by decide) hc rfl K
theorem c145_118 {r_0 : Nat} {a_1 : Nat} {a_2 : Nat} {o_3 : Option Value} {a_4 : Nat} {a_5 : Nat} {a_6 : Nat} {a_7 : Nat} {a_8 : Nat} {a_9 : Nat} {a_10 : Nat} {o_11 : Option Value} {o_12 : Option Value} {sr_0 : Nat} {sa_1 : Nat} {fs1 : List Value} {P : ipQ} (e2 : h sr_0 = some (.inr (9, fs1))) (m3 : c ≤ MC) (m4 : s ≤ MS) (hc : call 144 [(.ref sr_0), (.int (nI sa_1)), (.int (nI (a_1 + 2)))] h z 0 0 P) (K : ∀ (o : Option Value) (h2 : HP) (z2 : Nat), P o h2 z2 → ip sc call 145 MC MS Q 124 [some (.ref r_0), some (.int (nI a_1)), some (.int (nI a_2)), o_3, some (.int (nI a_4)), some (.int (nI a_5)), some (.int (nI a_6)), some (.int (nI a_7)), some (.int (nI a_8)), some (.int (nI a_9)), some (.int (nI a_10)), o_11, o_12] (o.toList ++ []) h2 z2 c s) : ip sc call 145 MC MS Q 118 [some (.ref r_0), some (.int (nI a_1)), some (.int (nI a_2)), o_3, some (.int (nI a_4)), some (.int (nI a_5)), some (.int (nI a_6)), some (.int (nI a_7)), some (.int (nI a_8)), some (.int (nI a_9)), some (.int (nI a_10)), o_11, o_12] [(.int (nI sa_1)), (.ref sr_0)] h z c s := by
  refine jp_load (pc2 := 119) (n := 1) rfl rfl rfl rfl ?_
  refine jp_con (pc2 := 120) (v := (.int (nI 2))) rfl rfl rfl ?_
  refine jp_bin (pc2 := 121) (v := nI (a_1 + 2)) rfl rfl (congrArg some (nI_add _ _)) ?_
  exact jp_virt0 (pc2 := 124) (As := [(.int (nI sa_1)), (.int (nI (a_1 + 2)))]) (rest := []) rfl rfl rfl (Nat.le_of_ble_eq_true rfl) e2 m3 m4 hc rfl K
theorem c145_124 {r_0 : Nat} {a_1 : Nat} {a_2 : Nat} {o_3 : Option Value} {a_4 : Nat} {a_5 : Nat} {a_6 : Nat} {a_7 : Nat} {a_8 : Nat} {a_9 : Nat} {a_10 : Nat} {o_11 : Option Value} {o_12 : Option Value} {sa_0 : Nat} {fs3 : List Value} (k1 : ip2 o_11 = false) (k2 : ip2 o_3 = false) (e4 : h r_0 = some (.inr (9, fs3))) (l5 : fs3.length = 16) (K : ip sc call 145 MC MS Q 42 [some (.ref r_0), some (.int (nI a_1)), some (.int (nI a_2)), o_3, some (.int ((nI a_4) ||| ((nI 1) <<< ((nI sa_0) &&& 31)))), some (.int (nI a_5)), some (.int (nI a_6)), some (.int (nI a_7)), some (.int (nI a_8)), some (.int (nI a_9)), some (.int (nI a_10)), o_11, some (.int (nI sa_0))] [] (hup h r_0 (.inr (9, ((((((fs3.set 6 (.int (nI a_5))).set 7 (.int (nI a_6))).set 8 (.int (nI a_7))).set 9 (.int (nI a_8))).set 10 (.int (nI a_9))).set 11 (.int (nI a_10)))))) z c s) : ip sc call 145 MC MS Q 124 [some (.ref r_0), some (.int (nI a_1)), some (.int (nI a_2)), o_3, some (.int (nI a_4)), some (.int (nI a_5)), some (.int (nI a_6)), some (.int (nI a_7)), some (.int (nI a_8)), some (.int (nI a_9)), some (.int (nI a_10)), o_11, o_12] [(.int (nI sa_0))] h z c s := by
  refine jp_store (pc2 := 126) (n := 12) rfl rfl ⟨rfl, rfl⟩ k1 (Nat.le_of_ble_eq_true rfl) ?_
  refine jp_load (pc2 := 128) (n := 4) rfl rfl rfl rfl ?_
  refine jp_con (pc2 := 129) (v := (.int (nI 1))) rfl rfl rfl ?_
  refine jp_load (pc2 := 131) (n := 12) rfl rfl rfl rfl ?_
  refine jp_bin (pc2 := 132) (v := (nI 1) <<< ((nI sa_0) &&& 31)) rfl rfl rfl ?_
  refine jp_bin (pc2 := 133) (v := (nI a_4) ||| ((nI 1) <<< ((nI sa_0) &&& 31))) rfl rfl rfl ?_
  refine jp_store (pc2 := 135) (n := 4) rfl rfl ⟨rfl, rfl⟩ k2 (Nat.le_of_ble_eq_true rfl) ?_
  refine jp_load (pc2 := 136) (n := 0) rfl rfl rfl rfl ?_
  refine jp_load (pc2 := 138) (n := 5) rfl rfl rfl rfl ?_
  refine jp_putf (pc2 := 141) rfl rfl e4 (ln_lt l5 (by decide)) ⟨rfl, rfl⟩ ?_
  refine jp_load (pc2 := 142) (n := 0) rfl rfl rfl rfl ?_
  refine jp_load (pc2 := 144) (n := 6) rfl rfl rfl rfl ?_
  refine jp_putf (pc2 := 147) rfl rfl hup_eq (ls_lt (ln_lt l5 (by decide))) ⟨rfl, rfl⟩ ?_
  rw [hup_hup]
  refine jp_load (pc2 := 148) (n := 0) rfl rfl rfl rfl ?_
  refine jp_load (pc2 := 150) (n := 7) rfl rfl rfl rfl ?_
  refine jp_putf (pc2 := 153) rfl rfl hup_eq (ls_lt (ls_lt (ln_lt l5 (by decide)))) ⟨rfl, rfl⟩ ?_
  rw [hup_hup]
  refine jp_load (pc2 := 154) (n := 0) rfl rfl rfl rfl ?_
  refine jp_load (pc2 := 156) (n := 8) rfl rfl rfl rfl ?_
  refine jp_putf (pc2 := 159) rfl rfl hup_eq (ls_lt (ls_lt (ls_lt (ln_lt l5 (by decide))))) ⟨rfl, rfl⟩ ?_
  rw [hup_hup]
  refine jp_load (pc2 := 160) (n := 0) rfl rfl rfl rfl ?_
  refine jp_load (pc2 := 162) (n := 9) rfl rfl rfl rfl ?_
  refine jp_putf (pc2 := 165) rfl rfl hup_eq (ls_lt (ls_lt (ls_lt (ls_lt (ln_lt l5 (by decide)))))) ⟨rfl, rfl⟩ ?_
  rw [hup_hup]
  refine jp_load (pc2 := 166) (n := 0) rfl rfl rfl rfl ?_
  refine jp_load (pc2 := 168) (n := 10) rfl rfl rfl rfl ?_
  refine jp_putf (pc2 := 171) rfl rfl hup_eq (ls_lt (ls_lt (ls_lt (ls_lt (ls_lt (ln_lt l5 (by decide))))))) ⟨rfl, rfl⟩ ?_
  rw [hup_hup]
  refine ip_goto rfl ?_
  exact K
theorem c145_174 {r_0 : Nat} {o_1 : Option Value} {a_2 : Nat} {o_3 : Option Value} {a_4 : Nat} {o_5 : Option Value} {o_6 : Option Value} {o_7 : Option Value} {o_8 : Option Value} {o_9 : Option Value} {o_10 : Option Value} {o_11 : Option Value} {o_12 : Option Value}  (K : ip sc call 145 MC MS Q 177 [some (.ref r_0), o_1, some (.int (nI a_2)), o_3, some (.int (nI a_4)), some (.int (nI 0)), o_6, o_7, o_8, o_9, o_10, o_11, o_12] [] h z c s) : ip sc call 145 MC MS Q 174 [some (.ref r_0), o_1, some (.int (nI a_2)), o_3, some (.int (nI a_4)), o_5, o_6, o_7, o_8, o_9, o_10, o_11, o_12] [] h z c s := by
  refine jp_con (pc2 := 175) (v := (.int (nI 0))) rfl rfl rfl ?_
  refine jp_store (pc2 := 177) (n := 5) rfl rfl ⟨rfl, rfl⟩ rfl (Nat.le_of_ble_eq_true rfl) ?_
  exact K
theorem c145_177 {r_0 : Nat} {o_1 : Option Value} {a_2 : Nat} {o_3 : Option Value} {a_4 : Nat} {a_5 : Nat} {o_6 : Option Value} {o_7 : Option Value} {o_8 : Option Value} {o_9 : Option Value} {o_10 : Option Value} {o_11 : Option Value} {o_12 : Option Value}  (K1 : ¬ (((nI a_4) >>> ((nI a_5) &&& 31)) &&& (nI 1)) = (nI 1) → ip sc call 145 MC MS Q 194 [some (.ref r_0), o_1, some (.int (nI a_2)), o_3, some (.int (nI a_4)), some (.int (nI a_5)), o_6, o_7, o_8, o_9, o_10, o_11, o_12] [] h z c s) (K2 : ¬ (¬ (((nI a_4) >>> ((nI a_5) &&& 31)) &&& (nI 1)) = (nI 1)) → ip sc call 145 MC MS Q 188 [some (.ref r_0), o_1, some (.int (nI a_2)), o_3, some (.int (nI a_4)), some (.int (nI a_5)), o_6, o_7, o_8, o_9, o_10, o_11, o_12] [] h z c s) : ip sc call 145 MC MS Q 177 [some (.ref r_0), o_1, some (.int (nI a_2)), o_3, some (.int (nI a_4)), some (.int (nI a_5)), o_6, o_7, o_8, o_9, o_10, o_11, o_12] [] h z c s := by
  refine jp_load (pc2 := 179) (n := 4) rfl rfl rfl rfl ?_
  refine jp_load (pc2 := 181) (n := 5) rfl rfl rfl rfl ?_
  refine jp_bin (pc2 := 182) (v := (nI a_4) >>> ((nI a_5) &&& 31)) rfl rfl rfl ?_
  refine jp_con (pc2 := 183) (v := (.int (nI 1))) rfl rfl rfl ?_
  refine jp_bin (pc2 := 184) (v := ((nI a_4) >>> ((nI a_5) &&& 31)) &&& (nI 1)) rfl rfl rfl ?_
  refine jp_con (pc2 := 185) (v := (.int (nI 1))) rfl rfl rfl ?_
  exact jp_icmp (pc2 := 188) rfl rfl K1 K2
theorem c145_188 {r_0 : Nat} {o_1 : Option Value} {a_2 : Nat} {o_3 : Option Value} {a_4 : Nat} {a_5 : Nat} {o_6 : Option Value} {o_7 : Option Value} {o_8 : Option Value} {o_9 : Option Value} {o_10 : Option Value} {o_11 : Option Value} {o_12 : Option Value}  (K : ip sc call 145 MC MS Q 177 [some (.ref r_0), o_1, some (.int (nI a_2)), o_3, some (.int (nI a_4)), some (.int (nI (a_5 + 1))), o_6, o_7, o_8, o_9, o_10, o_11, o_12] [] h z c s) : ip sc call 145 MC MS Q 188 [some (.ref r_0), o_1, some (.int (nI a_2)), o_3, some (.int (nI a_4)), some (.int (nI a_5)), o_6, o_7, o_8, o_9, o_10, o_11, o_12] [] h z c s := by
  refine jp_iinc (pc2 := 191) (n := 5) (v := nI (a_5 + 1)) rfl rfl rfl (nI_add _ 1) rfl ?_
  refine ip_goto rfl ?_
  exact K
theorem c145_194 {r_0 : Nat} {o_1 : Option Value} {a_2 : Nat} {o_3 : Option Value} {o_4 : Option Value} {a_5 : Nat} {o_6 : Option Value} {o_7 : Option Value} {o_8 : Option Value} {o_9 : Option Value} {o_10 : Option Value} {o_11 : Option Value} {o_12 : Option Value} {fs1 : List Value} {P : ipQ} (e2 : h r_0 = some (.inr (9, fs1))) (m3 : c ≤ MC) (m4 : s ≤ MS) (hc : call 146 [(.ref r_0), (.int (nI a_2)), (.int (nI a_5))] h z 0 0 P) (K : ∀ (o : Option Value) (h2 : HP) (z2 : Nat), P o h2 z2 → ip sc call 145 MC MS Q 201 [some (.ref r_0), o_1, some (.int (nI a_2)), o_3, o_4, some (.int (nI a_5)), o_6, o_7, o_8, o_9, o_10, o_11, o_12] (o.toList ++ []) h2 z2 c s) : ip sc call 145 MC MS Q 194 [some (.ref r_0), o_1, some (.int (nI a_2)), o_3, o_4, some (.int (nI a_5)), o_6, o_7, o_8, o_9, o_10, o_11, o_12] [] h z c s := by
  refine jp_load (pc2 := 195) (n := 0) rfl rfl rfl rfl ?_
  refine jp_load (pc2 := 196) (n := 2) rfl rfl rfl rfl ?_
  refine jp_load (pc2 := 198) (n := 5) rfl rfl rfl rfl ?_
  exact jp_virt0 (pc2 := 201) (As := [(.int (nI a_2)), (.int (nI a_5))]) (rest := []) rfl rfl rfl (Nat.le_of_ble_eq_true rfl) e2 m3 m4 hc rfl K
theorem c145_201 {o_0 : Option Value} {o_1 : Option Value} {o_2 : Option Value} {o_3 : Option Value} {o_4 : Option Value} {a_5 : Nat} {o_6 : Option Value} {o_7 : Option Value} {o_8 : Option Value} {o_9 : Option Value} {o_10 : Option Value} {o_11 : Option Value} {o_12 : Option Value} (q1 : Q (some (.int (nI a_5))) h z)  : ip sc call 145 MC MS Q 201 [o_0, o_1, o_2, o_3, o_4, some (.int (nI a_5)), o_6, o_7, o_8, o_9, o_10, o_11, o_12] [] h z c s := by
  refine jp_load (pc2 := 203) (n := 5) rfl rfl rfl rfl ?_
  exact ip_iret (st := []) rfl rfl rfl q1
theorem c146_0 {r_0 : Nat} {a_1 : Nat} {a_2 : Nat} {o_3 : Option Value} {o_4 : Option Value} {fs1 : List Value} {P : ipQ} (e2 : h r_0 = some (.inr (9, fs1))) (m3 : c ≤ MC) (m4 : s ≤ MS) (hc : call 140 [(.ref r_0), (.int (nI a_1))] h z 0 0 P) (K : ∀ (o : Option Value) (h2 : HP) (z2 : Nat), P o h2 z2 → ip sc call 146 MC MS Q 5 [some (.ref r_0), some (.int (nI a_1)), some (.int (nI a_2)), o_3, o_4] (o.toList ++ []) h2 z2 c s) : ip sc call 146 MC MS Q 0 [some (.ref r_0), some (.int (nI a_1)), some (.int (nI a_2)), o_3, o_4] [] h z c s := by
  refine jp_load (pc2 := 1) (n := 0) rfl rfl rfl rfl ?_
  refine jp_load (pc2 := 2) (n := 1) rfl rfl rfl rfl ?_
  exact jp_virt0 (pc2 := 5) (As := [(.int (nI a_1))]) (rest := []) rfl rfl rfl (Nat.le_of_ble_eq_true rfl) e2 m3 m4 hc rfl K
theorem c146_5 {r_0 : Nat} {o_1 : Option Value} {a_2 : Nat} {o_3 : Option Value} {o_4 : Option Value} {fs1 : List Value} {P : ipQ} (e2 : h r_0 = some (.inr (9, fs1))) (m3 : c ≤ MC) (m4 : s ≤ MS) (hc : call 142 [(.ref r_0)] h z 0 0 P) (K : ∀ (o : Option Value) (h2 : HP) (z2 : Nat), P o h2 z2 → ip sc call 146 MC MS Q 9 [some (.ref r_0), o_1, some (.int (nI a_2)), o_3, o_4] (o.toList ++ []) h2 z2 c s) : ip sc call 146 MC MS Q 5 [some (.ref r_0), o_1, some (.int (nI a_2)), o_3, o_4] [] h z c s := by
  refine jp_load (pc2 := 6) (n := 0) rfl rfl rfl rfl ?_
  exact jp_virt0 (pc2 := 9) (As := []) (rest := []) rfl rfl rfl (Nat.le_of_ble_eq_true rfl) e2 m3 m4 hc rfl K
theorem c146_9 {r_0 : Nat} {o_1 : Option Value} {a_2 : Nat} {o_3 : Option Value} {o_4 : Option Value} {sa_0 : Nat} (c1 : sa_0 < 2147483648) (K1 : sa_0 < 0 → ip sc call 146 MC MS Q 33 [some (.ref r_0), o_1, some (.int (nI a_2)), some (.int (nI sa_0)), o_4] [] h z c s) (K2 : ¬ (sa_0 < 0) → ip sc call 146 MC MS Q 14 [some (.ref r_0), o_1, some (.int (nI a_2)), some (.int (nI sa_0)), o_4] [] h z c s) : ip sc call 146 MC MS Q 9 [some (.ref r_0), o_1, some (.int (nI a_2)), o_3, o_4] [(.int (nI sa_0))] h z c s := by
  refine jp_store (pc2 := 10) (n := 3) rfl rfl ⟨rfl, rfl⟩ rfl (Nat.le_of_ble_eq_true rfl) ?_
  refine jp_load (pc2 := 11) (n := 3) rfl rfl rfl rfl ?_
  exact jp_if0 (pc2 := 14) rfl rfl (fun q => K1 ((nI_ltI c1 (by decide)).mp q)) (fun q => K2 (fun r => q ((nI_ltI c1 (by decide)).mpr r)))
theorem c146_14 {r_0 : Nat} {o_1 : Option Value} {a_2 : Nat} {a_3 : Nat} {o_4 : Option Value} {fs1 : List Value} {q_fs1_3 : Nat} {n4 : Nat} {f5 : Nat → Int32} {v9 : Nat} (e2 : h r_0 = some (.inr (9, fs1))) (e3 : fs1[3]? = some (.ref q_fs1_3)) (e6 : h q_fs1_3 = some (.inl (0, n4, .inl f5))) (b7 : a_3 < n4) (c8 : n4 < 2147483648) (e10 : f5 a_3 = nI v9) (c11 : v9 < 2147483648) (K1 : 0 < v9 → ip sc call 146 MC MS Q 33 [some (.ref r_0), o_1, some (.int (nI a_2)), some (.int (nI a_3)), o_4] [] h z c s) (K2 : ¬ (0 < v9) → ip sc call 146 MC MS Q 23 [some (.ref r_0), o_1, some (.int (nI a_2)), some (.int (nI a_3)), o_4] [] h z c s) : ip sc call 146 MC MS Q 14 [some (.ref r_0), o_1, some (.int (nI a_2)), some (.int (nI a_3)), o_4] [] h z c s := by
  refine jp_load (pc2 := 15) (n := 0) rfl rfl rfl rfl ?_
  refine jp_getf (pc2 := 18) rfl rfl e2 e3 ?_
  refine jp_load (pc2 := 19) (n := 3) rfl rfl rfl rfl ?_
  refine jp_iald (pc2 := 20) rfl rfl e6 (vp_in_nI b7 c8) ?_
  rw [(nI_clamp (Nat.lt_trans b7 c8))]
  rw [e10]
  exact jp_if0 (pc2 := 23) rfl rfl (fun q => K1 ((nI_ltI (by decide) c11).mp q)) (fun q => K2 (fun r => q ((nI_ltI (by decide) c11).mpr r)))
theorem c146_23 {r_0 : Nat} {o_1 : Option Value} {a_2 : Nat} {a_3 : Nat} {o_4 : Option Value} {fs1 : List Value} {v_fs1_5 : Nat} (e2 : h r_0 = some (.inr (9, fs1))) (e3 : fs1[5]? = some (.int (nI v_fs1_5))) (c4 : v_fs1_5 < 2147483648) (K1 : v_fs1_5 ≤ 30000 → ip sc call 146 MC MS Q 34 [some (.ref r_0), o_1, some (.int (nI a_2)), some (.int (nI a_3)), o_4] [] h z c s) (K2 : ¬ (v_fs1_5 ≤ 30000) → ip sc call 146 MC MS Q 33 [some (.ref r_0), o_1, some (.int (nI a_2)), some (.int (nI a_3)), o_4] [] h z c s) : ip sc call 146 MC MS Q 23 [some (.ref r_0), o_1, some (.int (nI a_2)), some (.int (nI a_3)), o_4] [] h z c s := by
  refine jp_load (pc2 := 24) (n := 0) rfl rfl rfl rfl ?_
  refine jp_getf (pc2 := 27) rfl rfl e2 e3 ?_
  refine jp_con (pc2 := 30) (v := (.int (nI 30000))) rfl rfl rfl ?_
  exact jp_icmp (pc2 := 33) rfl rfl (fun q => K1 ((nI_leI c4 (by decide)).mp q)) (fun q => K2 (fun r => q ((nI_leI c4 (by decide)).mpr r)))
theorem c146_33 {o_0 : Option Value} {o_1 : Option Value} {o_2 : Option Value} {o_3 : Option Value} {o_4 : Option Value} (q1 : Q none h z)  : ip sc call 146 MC MS Q 33 [o_0, o_1, o_2, o_3, o_4] [] h z c s := by
  exact ip_vret (st := []) rfl rfl q1
theorem c146_34 {r_0 : Nat} {o_1 : Option Value} {a_2 : Nat} {a_3 : Nat} {o_4 : Option Value} {fs1 : List Value} {q_fs1_3 : Nat} {v_fs1_15 : Nat} {n5 : Nat} {f6 : Nat → Int32} {g10 : Nat → Int32} {q_fs1_4 : Nat} {n14 : Nat} {f15 : Nat → Int32} {g20 : Nat → Int32} (e2 : h r_0 = some (.inr (9, fs1))) (e3 : fs1[3]? = some (.ref q_fs1_3)) (e4 : fs1[15]? = some (.int (nI v_fs1_15))) (e7 : h q_fs1_3 = some (.inl (0, n5, .inl f6))) (b8 : a_3 < n5) (c9 : n5 < 2147483648) (d11 : upd f6 a_3 (nI v_fs1_15) = g10) (n12 : r_0 ≠ q_fs1_3) (e13 : fs1[4]? = some (.ref q_fs1_4)) (e16 : h q_fs1_4 = some (.inl (2, n14, .inl f15))) (n17 : q_fs1_4 ≠ q_fs1_3) (b18 : a_3 < n14) (c19 : n14 < 2147483648) (d21 : upd f15 a_3 (vp_nar .byte ((nI a_2).toInt8.toInt32)) = g20) (K : ip sc call 146 MC MS Q 55 [some (.ref r_0), o_1, some (.int (nI a_2)), some (.int (nI a_3)), some (.int (nI 0))] [] (hup (hup h q_fs1_3 (.inl (0, n5, .inl g10))) q_fs1_4 (.inl (2, n14, .inl g20))) z c s) : ip sc call 146 MC MS Q 34 [some (.ref r_0), o_1, some (.int (nI a_2)), some (.int (nI a_3)), o_4] [] h z c s := by
  refine jp_load (pc2 := 35) (n := 0) rfl rfl rfl rfl ?_
  refine jp_getf (pc2 := 38) rfl rfl e2 e3 ?_
  refine jp_load (pc2 := 39) (n := 3) rfl rfl rfl rfl ?_
  refine jp_load (pc2 := 40) (n := 0) rfl rfl rfl rfl ?_
  refine jp_getf (pc2 := 43) rfl rfl e2 e4 ?_
  refine jp_iast (pc2 := 44) rfl rfl e7 (vp_in_nI b8 c9) ?_
  rw [(nI_clamp (Nat.lt_trans b8 c9))]
  rw [d11]
  refine jp_load (pc2 := 45) (n := 0) rfl rfl rfl rfl ?_
  refine jp_getf (pc2 := 48) rfl rfl (hup_ne n12 e2) e13 ?_
  refine jp_load (pc2 := 49) (n := 3) rfl rfl rfl rfl ?_
  refine jp_load (pc2 := 50) (n := 2) rfl rfl rfl rfl ?_
  refine jp_cv (pc2 := 51) (v := (.int ((nI a_2).toInt8.toInt32))) rfl rfl rfl ?_
  refine jp_bast (pc2 := 52) rfl rfl (hup_ne n17 e16) (vp_in_nI b18 c19) ?_
  rw [(nI_clamp (Nat.lt_trans b18 c19))]
  rw [d21]
  refine jp_con (pc2 := 53) (v := (.int (nI 0))) rfl rfl rfl ?_
  refine jp_store (pc2 := 55) (n := 4) rfl rfl ⟨rfl, rfl⟩ rfl (Nat.le_of_ble_eq_true rfl) ?_
  exact K
theorem c146_55 {r_0 : Nat} {o_1 : Option Value} {o_2 : Option Value} {a_3 : Nat} {a_4 : Nat} {fs1 : List Value} {v_fs1_15 : Nat} (e2 : h r_0 = some (.inr (9, fs1))) (e3 : fs1[15]? = some (.int (nI v_fs1_15))) (c4 : a_4 < 2147483648) (c5 : v_fs1_15 < 2147483648) (K1 : v_fs1_15 ≤ a_4 → ip sc call 146 MC MS Q 89 [some (.ref r_0), o_1, o_2, some (.int (nI a_3)), some (.int (nI a_4))] [] h z c s) (K2 : ¬ (v_fs1_15 ≤ a_4) → ip sc call 146 MC MS Q 64 [some (.ref r_0), o_1, o_2, some (.int (nI a_3)), some (.int (nI a_4))] [] h z c s) : ip sc call 146 MC MS Q 55 [some (.ref r_0), o_1, o_2, some (.int (nI a_3)), some (.int (nI a_4))] [] h z c s := by
  refine jp_load (pc2 := 57) (n := 4) rfl rfl rfl rfl ?_
  refine jp_load (pc2 := 58) (n := 0) rfl rfl rfl rfl ?_
  refine jp_getf (pc2 := 61) rfl rfl e2 e3 ?_
  exact jp_icmp (pc2 := 64) rfl rfl (fun q => K1 ((nI_leI c5 c4).mp q)) (fun q => K2 (fun r => q ((nI_leI c5 c4).mpr r)))
theorem c146_64 {r_0 : Nat} {o_1 : Option Value} {o_2 : Option Value} {a_3 : Nat} {a_4 : Nat} {fs1 : List Value} {q_fs1_2 : Nat} {q_fs1_14 : Nat} {n5 : Nat} {f6 : Nat → Int32} {x10 : Int32} {n12 : Nat} {f13 : Nat → Int32} {g17 : Nat → Int32} (e2 : h r_0 = some (.inr (9, fs1))) (e3 : fs1[2]? = some (.ref q_fs1_2)) (e4 : fs1[14]? = some (.ref q_fs1_14)) (e7 : h q_fs1_14 = some (.inl (2, n5, .inl f6))) (b8 : a_4 < n5) (c9 : n5 < 2147483648) (e11 : f6 a_4 = x10) (e14 : h q_fs1_2 = some (.inl (2, n12, .inl f13))) (b15 : (72 * a_3) + a_4 < n12) (c16 : n12 < 2147483648) (d18 : upd f13 ((72 * a_3) + a_4) (vp_nar .byte x10) = g17) (K : ip sc call 146 MC MS Q 55 [some (.ref r_0), o_1, o_2, some (.int (nI a_3)), some (.int (nI (a_4 + 1)))] [] (hup h q_fs1_2 (.inl (2, n12, .inl g17))) z c s) : ip sc call 146 MC MS Q 64 [some (.ref r_0), o_1, o_2, some (.int (nI a_3)), some (.int (nI a_4))] [] h z c s := by
  refine jp_load (pc2 := 65) (n := 0) rfl rfl rfl rfl ?_
  refine jp_getf (pc2 := 68) rfl rfl e2 e3 ?_
  refine jp_con (pc2 := 70) (v := (.int (nI 72))) rfl rfl rfl ?_
  refine jp_load (pc2 := 71) (n := 3) rfl rfl rfl rfl ?_
  refine jp_bin (pc2 := 72) (v := nI (72 * a_3)) rfl rfl (congrArg some (pk_mul _ _)) ?_
  refine jp_load (pc2 := 74) (n := 4) rfl rfl rfl rfl ?_
  refine jp_bin (pc2 := 75) (v := nI ((72 * a_3) + a_4)) rfl rfl (congrArg some (nI_add _ _)) ?_
  refine jp_load (pc2 := 76) (n := 0) rfl rfl rfl rfl ?_
  refine jp_getf (pc2 := 79) rfl rfl e2 e4 ?_
  refine jp_load (pc2 := 81) (n := 4) rfl rfl rfl rfl ?_
  refine jp_bald (pc2 := 82) rfl rfl e7 (by decide) (vp_in_nI b8 c9) ?_
  rw [(nI_clamp (Nat.lt_trans b8 c9))]
  rw [e11]
  refine jp_bast (pc2 := 83) rfl rfl e14 (vp_in_nI b15 c16) ?_
  rw [(nI_clamp (Nat.lt_trans b15 c16))]
  rw [d18]
  refine jp_iinc (pc2 := 86) (n := 4) (v := nI (a_4 + 1)) rfl rfl rfl (nI_add _ 1) rfl ?_
  refine ip_goto rfl ?_
  exact K
theorem c146_89 {r_0 : Nat} {o_1 : Option Value} {o_2 : Option Value} {o_3 : Option Value} {o_4 : Option Value} {fs1 : List Value} {v_fs1_5 : Nat} (e2 : h r_0 = some (.inr (9, fs1))) (e3 : fs1[5]? = some (.int (nI v_fs1_5))) (l4 : fs1.length = 16) (q5 : Q none (hup h r_0 (.inr (9, (fs1.set 5 (.int (nI (v_fs1_5 + 1))))))) z)  : ip sc call 146 MC MS Q 89 [some (.ref r_0), o_1, o_2, o_3, o_4] [] h z c s := by
  refine jp_load (pc2 := 90) (n := 0) rfl rfl rfl rfl ?_
  refine jp_dup (pc2 := 91) rfl rfl rfl ?_
  refine jp_getf (pc2 := 94) rfl rfl e2 e3 ?_
  refine jp_con (pc2 := 95) (v := (.int (nI 1))) rfl rfl rfl ?_
  refine jp_bin (pc2 := 96) (v := nI (v_fs1_5 + 1)) rfl rfl (congrArg some (nI_add _ _)) ?_
  refine jp_putf (pc2 := 99) rfl rfl e2 (ln_lt l4 (by decide)) ⟨rfl, rfl⟩ ?_
  exact ip_vret (st := []) rfl rfl q5
theorem c147_0 {r_0 : Nat} {fs1 : List Value} {P : ipQ} (e2 : h r_0 = some (.inr (9, fs1))) (m3 : c ≤ MC) (m4 : s ≤ MS) (hc : call 94 [(.ref r_0)] h z 0 0 P) (K : ∀ (o : Option Value) (h2 : HP) (z2 : Nat), P o h2 z2 → ip sc call 147 MC MS Q 5 [some (.ref r_0)] (o.toList ++ [(.ref r_0)]) h2 z2 c s) : ip sc call 147 MC MS Q 0 [some (.ref r_0)] [] h z c s := by
  refine jp_load (pc2 := 1) (n := 0) rfl rfl rfl rfl ?_
  refine jp_load (pc2 := 2) (n := 0) rfl rfl rfl rfl ?_
  exact jp_virt0 (pc2 := 5) (As := []) (rest := [(.ref r_0)]) rfl rfl rfl (Nat.le_of_ble_eq_true rfl) e2 m3 m4 hc rfl K
theorem c147_5 {r_0 : Nat} {sr_0 : Nat} {sa_1 : Nat} {fs1 : List Value} {P : ipQ} (e2 : h sr_0 = some (.inr (9, fs1))) (m3 : c ≤ MC) (m4 : s ≤ MS) (hc : call 118 [(.ref sr_0), (.int (nI sa_1))] h z 0 0 P) (K : ∀ (o : Option Value) (h2 : HP) (z2 : Nat), P o h2 z2 → ip sc call 147 MC MS Q 8 [some (.ref r_0)] (o.toList ++ []) h2 z2 c s) : ip sc call 147 MC MS Q 5 [some (.ref r_0)] [(.int (nI sa_1)), (.ref sr_0)] h z c s := by
  exact jp_virt0 (pc2 := 8) (As := [(.int (nI sa_1))]) (rest := []) rfl rfl rfl (Nat.le_of_ble_eq_true rfl) e2 m3 m4 hc rfl K
theorem c147_8 {r_0 : Nat} {sa_0 : Nat} (c1 : sa_0 < 2147483648) (K1 : sa_0 ≤ 9 → ip sc call 147 MC MS Q 17 [some (.ref r_0)] [] h z c s) (K2 : ¬ (sa_0 ≤ 9) → ip sc call 147 MC MS Q 13 [some (.ref r_0)] [] h z c s) : ip sc call 147 MC MS Q 8 [some (.ref r_0)] [(.int (nI sa_0))] h z c s := by
  refine jp_con (pc2 := 10) (v := (.int (nI 9))) rfl rfl rfl ?_
  exact jp_icmp (pc2 := 13) rfl rfl (fun q => K1 ((nI_leI c1 (by decide)).mp q)) (fun q => K2 (fun r => q ((nI_leI c1 (by decide)).mpr r)))
theorem c147_13 {o_0 : Option Value}  (K : ip sc call 147 MC MS Q 26 [o_0] [(.int ((-1)))] h z c s) : ip sc call 147 MC MS Q 13 [o_0] [] h z c s := by
  refine jp_con (pc2 := 14) (v := (.int ((-1)))) rfl rfl rfl ?_
  refine ip_goto rfl ?_
  exact K
theorem c147_17 {r_0 : Nat} {fs1 : List Value} {P : ipQ} (e2 : h r_0 = some (.inr (9, fs1))) (m3 : c ≤ MC) (m4 : s ≤ MS) (hc : call 94 [(.ref r_0)] h z 0 0 P) (K : ∀ (o : Option Value) (h2 : HP) (z2 : Nat), P o h2 z2 → ip sc call 147 MC MS Q 22 [some (.ref r_0)] (o.toList ++ [(.ref r_0)]) h2 z2 c s) : ip sc call 147 MC MS Q 17 [some (.ref r_0)] [] h z c s := by
  refine jp_load (pc2 := 18) (n := 0) rfl rfl rfl rfl ?_
  refine jp_load (pc2 := 19) (n := 0) rfl rfl rfl rfl ?_
  exact jp_virt0 (pc2 := 22) (As := []) (rest := [(.ref r_0)]) rfl rfl rfl (Nat.le_of_ble_eq_true rfl) e2 m3 m4 hc rfl K
theorem c147_22 {o_0 : Option Value} {sr_0 : Nat} {sa_1 : Nat} {fs1 : List Value} {P : ipQ} (e2 : h sr_0 = some (.inr (9, fs1))) (m3 : c ≤ MC) (m4 : s ≤ MS) (hc : call 144 [(.ref sr_0), (.int (nI sa_1)), (.int (nI 0))] h z 0 0 P) (K : ∀ (o : Option Value) (h2 : HP) (z2 : Nat), P o h2 z2 → ip sc call 147 MC MS Q 26 [o_0] (o.toList ++ []) h2 z2 c s) : ip sc call 147 MC MS Q 22 [o_0] [(.int (nI sa_1)), (.ref sr_0)] h z c s := by
  refine jp_con (pc2 := 23) (v := (.int (nI 0))) rfl rfl rfl ?_
  exact jp_virt0 (pc2 := 26) (As := [(.int (nI sa_1)), (.int (nI 0))]) (rest := []) rfl rfl rfl (Nat.le_of_ble_eq_true rfl) e2 m3 m4 hc rfl K
theorem c147_26 {o_0 : Option Value} {sa_0 : Nat} (q1 : Q (some (.int (nI sa_0))) h z)  : ip sc call 147 MC MS Q 26 [o_0] [(.int (nI sa_0))] h z c s := by
  exact ip_iret (st := []) rfl rfl rfl q1
theorem c148_0 {r_0 : Nat} {o_1 : Option Value} {o_2 : Option Value} {o_3 : Option Value} {o_4 : Option Value} {o_5 : Option Value} {o_6 : Option Value} {o_7 : Option Value} {o_8 : Option Value} {o_9 : Option Value} {fs1 : List Value} {P : ipQ} (e2 : h r_0 = some (.inr (9, fs1))) (m3 : c ≤ MC) (m4 : s ≤ MS) (hc : call 94 [(.ref r_0)] h z 0 0 P) (K : ∀ (o : Option Value) (h2 : HP) (z2 : Nat), P o h2 z2 → ip sc call 148 MC MS Q 4 [some (.ref r_0), o_1, o_2, o_3, o_4, o_5, o_6, o_7, o_8, o_9] (o.toList ++ []) h2 z2 c s) : ip sc call 148 MC MS Q 0 [some (.ref r_0), o_1, o_2, o_3, o_4, o_5, o_6, o_7, o_8, o_9] [] h z c s := by
  refine jp_load (pc2 := 1) (n := 0) rfl rfl rfl rfl ?_
  exact jp_virt0 (pc2 := 4) (As := []) (rest := []) rfl rfl rfl (Nat.le_of_ble_eq_true rfl) e2 m3 m4 hc rfl K
theorem c148_4 {r_0 : Nat} {o_1 : Option Value} {o_2 : Option Value} {o_3 : Option Value} {o_4 : Option Value} {o_5 : Option Value} {o_6 : Option Value} {o_7 : Option Value} {o_8 : Option Value} {o_9 : Option Value} {sa_0 : Nat} {fs1 : List Value} {P : ipQ} (e2 : h r_0 = some (.inr (9, fs1))) (m3 : c ≤ MC) (m4 : s ≤ MS) (hc : call 118 [(.ref r_0), (.int (nI sa_0))] h z 0 0 P) (K : ∀ (o : Option Value) (h2 : HP) (z2 : Nat), P o h2 z2 → ip sc call 148 MC MS Q 10 [some (.ref r_0), some (.int (nI sa_0)), o_2, o_3, o_4, o_5, o_6, o_7, o_8, o_9] (o.toList ++ []) h2 z2 c s) : ip sc call 148 MC MS Q 4 [some (.ref r_0), o_1, o_2, o_3, o_4, o_5, o_6, o_7, o_8, o_9] [(.int (nI sa_0))] h z c s := by
  refine jp_store (pc2 := 5) (n := 1) rfl rfl ⟨rfl, rfl⟩ rfl (Nat.le_of_ble_eq_true rfl) ?_
  refine jp_load (pc2 := 6) (n := 0) rfl rfl rfl rfl ?_
  refine jp_load (pc2 := 7) (n := 1) rfl rfl rfl rfl ?_
  exact jp_virt0 (pc2 := 10) (As := [(.int (nI sa_0))]) (rest := []) rfl rfl rfl (Nat.le_of_ble_eq_true rfl) e2 m3 m4 hc rfl K
theorem c148_10 {r_0 : Nat} {a_1 : Nat} {o_2 : Option Value} {o_3 : Option Value} {o_4 : Option Value} {o_5 : Option Value} {o_6 : Option Value} {o_7 : Option Value} {o_8 : Option Value} {o_9 : Option Value} {sa_0 : Nat} (c1 : sa_0 < 2147483648) (K1 : sa_0 ≤ 9 → ip sc call 148 MC MS Q 17 [some (.ref r_0), some (.int (nI a_1)), o_2, o_3, o_4, o_5, o_6, o_7, o_8, o_9] [] h z c s) (K2 : ¬ (sa_0 ≤ 9) → ip sc call 148 MC MS Q 15 [some (.ref r_0), some (.int (nI a_1)), o_2, o_3, o_4, o_5, o_6, o_7, o_8, o_9] [] h z c s) : ip sc call 148 MC MS Q 10 [some (.ref r_0), some (.int (nI a_1)), o_2, o_3, o_4, o_5, o_6, o_7, o_8, o_9] [(.int (nI sa_0))] h z c s := by
  refine jp_con (pc2 := 12) (v := (.int (nI 9))) rfl rfl rfl ?_
  exact jp_icmp (pc2 := 15) rfl rfl (fun q => K1 ((nI_leI c1 (by decide)).mp q)) (fun q => K2 (fun r => q ((nI_leI c1 (by decide)).mpr r)))
theorem c148_15 {o_0 : Option Value} {o_1 : Option Value} {o_2 : Option Value} {o_3 : Option Value} {o_4 : Option Value} {o_5 : Option Value} {o_6 : Option Value} {o_7 : Option Value} {o_8 : Option Value} {o_9 : Option Value} (q1 : Q (some (.int ((-1)))) h z)  : ip sc call 148 MC MS Q 15 [o_0, o_1, o_2, o_3, o_4, o_5, o_6, o_7, o_8, o_9] [] h z c s := by
  refine jp_con (pc2 := 16) (v := (.int ((-1)))) rfl rfl rfl ?_
  exact ip_iret (st := []) rfl rfl rfl q1
theorem c148_17 {r_0 : Nat} {a_1 : Nat} {o_2 : Option Value} {o_3 : Option Value} {o_4 : Option Value} {o_5 : Option Value} {o_6 : Option Value} {o_7 : Option Value} {o_8 : Option Value} {o_9 : Option Value} {fs1 : List Value} {P : ipQ} (e2 : h r_0 = some (.inr (9, fs1))) (m3 : c ≤ MC) (m4 : s ≤ MS) (hc : call 112 [(.ref r_0)] h z 0 0 P) (K : ∀ (o : Option Value) (h2 : HP) (z2 : Nat), P o h2 z2 → ip sc call 148 MC MS Q 23 [some (.ref r_0), some (.int (nI a_1)), some (.int (nI 0)), o_3, o_4, o_5, o_6, o_7, o_8, o_9] (o.toList ++ []) h2 z2 c s) : ip sc call 148 MC MS Q 17 [some (.ref r_0), some (.int (nI a_1)), o_2, o_3, o_4, o_5, o_6, o_7, o_8, o_9] [] h z c s := by
  refine jp_con (pc2 := 18) (v := (.int (nI 0))) rfl rfl rfl ?_
  refine jp_store (pc2 := 19) (n := 2) rfl rfl ⟨rfl, rfl⟩ rfl (Nat.le_of_ble_eq_true rfl) ?_
  refine jp_load (pc2 := 20) (n := 0) rfl rfl rfl rfl ?_
  exact jp_virt0 (pc2 := 23) (As := []) (rest := []) rfl rfl rfl (Nat.le_of_ble_eq_true rfl) e2 m3 m4 hc rfl K
theorem c148_23 {r_0 : Nat} {a_1 : Nat} {a_2 : Nat} {o_3 : Option Value} {o_4 : Option Value} {o_5 : Option Value} {o_6 : Option Value} {o_7 : Option Value} {o_8 : Option Value} {o_9 : Option Value} {fs1 : List Value} {P : ipQ} (e2 : h r_0 = some (.inr (9, fs1))) (m3 : c ≤ MC) (m4 : s ≤ MS) (hc : call 114 [(.ref r_0), (.int (nI a_1))] h z 0 0 P) (K : ∀ (o : Option Value) (h2 : HP) (z2 : Nat), P o h2 z2 → ip sc call 148 MC MS Q 28 [some (.ref r_0), some (.int (nI a_1)), some (.int (nI a_2)), o_3, o_4, o_5, o_6, o_7, o_8, o_9] (o.toList ++ []) h2 z2 c s) : ip sc call 148 MC MS Q 23 [some (.ref r_0), some (.int (nI a_1)), some (.int (nI a_2)), o_3, o_4, o_5, o_6, o_7, o_8, o_9] [] h z c s := by
  refine jp_load (pc2 := 24) (n := 0) rfl rfl rfl rfl ?_
  refine jp_load (pc2 := 25) (n := 1) rfl rfl rfl rfl ?_
  exact jp_virt0 (pc2 := 28) (As := [(.int (nI a_1))]) (rest := []) rfl rfl rfl (Nat.le_of_ble_eq_true rfl) e2 m3 m4 hc rfl K
theorem c148_28 {r_0 : Nat} {a_1 : Nat} {a_2 : Nat} {o_3 : Option Value} {o_4 : Option Value} {o_5 : Option Value} {o_6 : Option Value} {o_7 : Option Value} {o_8 : Option Value} {o_9 : Option Value} {sa_0 : Nat} (c1 : sa_0 < 2147483648) (K1 : sa_0 = 0 → ip sc call 148 MC MS Q 143 [some (.ref r_0), some (.int (nI a_1)), some (.int (nI a_2)), o_3, o_4, o_5, o_6, o_7, o_8, o_9] [] h z c s) (K2 : ¬ (sa_0 = 0) → ip sc call 148 MC MS Q 31 [some (.ref r_0), some (.int (nI a_1)), some (.int (nI a_2)), o_3, o_4, o_5, o_6, o_7, o_8, o_9] [] h z c s) : ip sc call 148 MC MS Q 28 [some (.ref r_0), some (.int (nI a_1)), some (.int (nI a_2)), o_3, o_4, o_5, o_6, o_7, o_8, o_9] [(.int (nI sa_0))] h z c s := by
  exact jp_if0 (pc2 := 31) rfl rfl (fun q => K1 ((nI_eq c1 (by decide)).mp q)) (fun q => K2 (fun r => q ((nI_eq c1 (by decide)).mpr r)))
theorem c148_31 {r_0 : Nat} {a_1 : Nat} {a_2 : Nat} {o_3 : Option Value} {o_4 : Option Value} {o_5 : Option Value} {o_6 : Option Value} {o_7 : Option Value} {o_8 : Option Value} {o_9 : Option Value} {fs1 : List Value} {v_fs1_6 : Nat} {v_fs1_7 : Nat} {v_fs1_8 : Nat} {v_fs1_9 : Nat} {v_fs1_10 : Nat} {v_fs1_11 : Nat} {P : ipQ} (e2 : h r_0 = some (.inr (9, fs1))) (e3 : fs1[6]? = some (.int (nI v_fs1_6))) (e4 : fs1[7]? = some (.int (nI v_fs1_7))) (e5 : fs1[8]? = some (.int (nI v_fs1_8))) (e6 : fs1[9]? = some (.int (nI v_fs1_9))) (e7 : fs1[10]? = some (.int (nI v_fs1_10))) (e8 : fs1[11]? = some (.int (nI v_fs1_11))) (m9 : c ≤ MC) (m10 : s ≤ MS) (hc : call 143 [(.int (nI 0))] h z 0 0 P) (K : ∀ (o : Option Value) (h2 : HP) (z2 : Nat), P o h2 z2 → ip sc call 148 MC MS Q 72 [some (.ref r_0), some (.int (nI a_1)), some (.int (nI a_2)), some (.int (nI v_fs1_6)), some (.int (nI v_fs1_7)), some (.int (nI v_fs1_8)), some (.int (nI v_fs1_9)), some (.int (nI v_fs1_10)), some (.int (nI v_fs1_11)), o_9] (o.toList ++ [(.int (nI a_1)), (.ref r_0)]) h2 z2 c s) : ip sc call 148 MC MS Q 31 [some (.ref r_0), some (.int (nI a_1)), some (.int (nI a_2)), o_3, o_4, o_5, o_6, o_7, o_8, o_9] [] h z c s := by
  refine jp_load (pc2 := 32) (n := 0) rfl rfl rfl rfl ?_
  refine jp_getf (pc2 := 35) rfl rfl e2 e3 ?_
  refine jp_store (pc2 := 36) (n := 3) rfl rfl ⟨rfl, rfl⟩ rfl (Nat.le_of_ble_eq_true rfl) ?_
  refine jp_load (pc2 := 37) (n := 0) rfl rfl rfl rfl ?_
  refine jp_getf (pc2 := 40) rfl rfl e2 e4 ?_
  refine jp_store (pc2 := 42) (n := 4) rfl rfl ⟨rfl, rfl⟩ rfl (Nat.le_of_ble_eq_true rfl) ?_
  refine jp_load (pc2 := 43) (n := 0) rfl rfl rfl rfl ?_
  refine jp_getf (pc2 := 46) rfl rfl e2 e5 ?_
  refine jp_store (pc2 := 48) (n := 5) rfl rfl ⟨rfl, rfl⟩ rfl (Nat.le_of_ble_eq_true rfl) ?_
  refine jp_load (pc2 := 49) (n := 0) rfl rfl rfl rfl ?_
  refine jp_getf (pc2 := 52) rfl rfl e2 e6 ?_
  refine jp_store (pc2 := 54) (n := 6) rfl rfl ⟨rfl, rfl⟩ rfl (Nat.le_of_ble_eq_true rfl) ?_
  refine jp_load (pc2 := 55) (n := 0) rfl rfl rfl rfl ?_
  refine jp_getf (pc2 := 58) rfl rfl e2 e7 ?_
  refine jp_store (pc2 := 60) (n := 7) rfl rfl ⟨rfl, rfl⟩ rfl (Nat.le_of_ble_eq_true rfl) ?_
  refine jp_load (pc2 := 61) (n := 0) rfl rfl rfl rfl ?_
  refine jp_getf (pc2 := 64) rfl rfl e2 e8 ?_
  refine jp_store (pc2 := 66) (n := 8) rfl rfl ⟨rfl, rfl⟩ rfl (Nat.le_of_ble_eq_true rfl) ?_
  refine jp_load (pc2 := 67) (n := 0) rfl rfl rfl rfl ?_
  refine jp_load (pc2 := 68) (n := 1) rfl rfl rfl rfl ?_
  refine jp_con (pc2 := 69) (v := (.int (nI 0))) rfl rfl rfl ?_
  exact jp_stat0 (pc2 := 72) (As := [(.int (nI 0))]) (rest := [(.int (nI a_1)), (.ref r_0)]) rfl rfl rfl (Nat.le_of_ble_eq_true rfl) m9 m10 (by decide) hc rfl K
theorem c148_72 {r_0 : Nat} {a_1 : Nat} {a_2 : Nat} {a_3 : Nat} {a_4 : Nat} {a_5 : Nat} {a_6 : Nat} {a_7 : Nat} {a_8 : Nat} {o_9 : Option Value} {sr_0 : Nat} {sa_1 : Nat} {sa_2 : Nat} {fs1 : List Value} {P : ipQ} (e2 : h sr_0 = some (.inr (9, fs1))) (m3 : c ≤ MC) (m4 : s ≤ MS) (hc : call 108 [(.ref sr_0), (.int (nI sa_1)), (.int (nI sa_2)), (.int (nI a_3)), (.int (nI a_4)), (.int (nI a_5)), (.int (nI a_6)), (.int (nI a_7)), (.int (nI a_8))] h z 0 0 P) (K : ∀ (o : Option Value) (h2 : HP) (z2 : Nat), P o h2 z2 → ip sc call 148 MC MS Q 86 [some (.ref r_0), some (.int (nI a_1)), some (.int (nI a_2)), some (.int (nI a_3)), some (.int (nI a_4)), some (.int (nI a_5)), some (.int (nI a_6)), some (.int (nI a_7)), some (.int (nI a_8)), o_9] (o.toList ++ []) h2 z2 c s) : ip sc call 148 MC MS Q 72 [some (.ref r_0), some (.int (nI a_1)), some (.int (nI a_2)), some (.int (nI a_3)), some (.int (nI a_4)), some (.int (nI a_5)), some (.int (nI a_6)), some (.int (nI a_7)), some (.int (nI a_8)), o_9] [(.int (nI sa_2)), (.int (nI sa_1)), (.ref sr_0)] h z c s := by
  refine jp_load (pc2 := 73) (n := 3) rfl rfl rfl rfl ?_
  refine jp_load (pc2 := 75) (n := 4) rfl rfl rfl rfl ?_
  refine jp_load (pc2 := 77) (n := 5) rfl rfl rfl rfl ?_
  refine jp_load (pc2 := 79) (n := 6) rfl rfl rfl rfl ?_
  refine jp_load (pc2 := 81) (n := 7) rfl rfl rfl rfl ?_
  refine jp_load (pc2 := 83) (n := 8) rfl rfl rfl rfl ?_
  exact jp_virt0 (pc2 := 86) (As := [(.int (nI sa_1)), (.int (nI sa_2)), (.int (nI a_3)), (.int (nI a_4)), (.int (nI a_5)), (.int (nI a_6)), (.int (nI a_7)), (.int (nI a_8))]) (rest := []) rfl rfl rfl (Nat.le_of_ble_eq_true rfl) e2 m3 m4 hc rfl K
theorem c148_86 {r_0 : Nat} {a_1 : Nat} {a_2 : Nat} {a_3 : Nat} {a_4 : Nat} {a_5 : Nat} {a_6 : Nat} {a_7 : Nat} {a_8 : Nat} {o_9 : Option Value} {sa_0 : Nat} {P : ipQ} (m1 : c ≤ MC) (m2 : s ≤ MS) (hc : call 143 [(.int (nI 0))] h z 0 0 P) (K : ∀ (o : Option Value) (h2 : HP) (z2 : Nat), P o h2 z2 → ip sc call 148 MC MS Q 93 [some (.ref r_0), some (.int (nI a_1)), some (.int (nI a_2)), some (.int (nI a_3)), some (.int (nI a_4)), some (.int (nI a_5)), some (.int (nI a_6)), some (.int (nI a_7)), some (.int (nI a_8)), some (.int (nI sa_0))] (o.toList ++ [(.ref r_0)]) h2 z2 c s) : ip sc call 148 MC MS Q 86 [some (.ref r_0), some (.int (nI a_1)), some (.int (nI a_2)), some (.int (nI a_3)), some (.int (nI a_4)), some (.int (nI a_5)), some (.int (nI a_6)), some (.int (nI a_7)), some (.int (nI a_8)), o_9] [(.int (nI sa_0))] h z c s := by
  refine jp_store (pc2 := 88) (n := 9) rfl rfl ⟨rfl, rfl⟩ rfl (Nat.le_of_ble_eq_true rfl) ?_
  refine jp_load (pc2 := 89) (n := 0) rfl rfl rfl rfl ?_
  refine jp_con (pc2 := 90) (v := (.int (nI 0))) rfl rfl rfl ?_
  exact jp_stat0 (pc2 := 93) (As := [(.int (nI 0))]) (rest := [(.ref r_0)]) rfl rfl rfl (Nat.le_of_ble_eq_true rfl) m1 m2 (by decide) hc rfl K
theorem c148_93 {r_0 : Nat} {a_1 : Nat} {a_2 : Nat} {a_3 : Nat} {a_4 : Nat} {a_5 : Nat} {a_6 : Nat} {a_7 : Nat} {a_8 : Nat} {o_9 : Option Value} {sr_0 : Nat} {sa_1 : Nat} {fs1 : List Value} {P : ipQ} (e2 : h sr_0 = some (.inr (9, fs1))) (m3 : c ≤ MC) (m4 : s ≤ MS) (hc : call 144 [(.ref sr_0), (.int (nI sa_1)), (.int (nI 1))] h z 0 0 P) (K : ∀ (o : Option Value) (h2 : HP) (z2 : Nat), P o h2 z2 → ip sc call 148 MC MS Q 97 [some (.ref r_0), some (.int (nI a_1)), some (.int (nI a_2)), some (.int (nI a_3)), some (.int (nI a_4)), some (.int (nI a_5)), some (.int (nI a_6)), some (.int (nI a_7)), some (.int (nI a_8)), o_9] (o.toList ++ []) h2 z2 c s) : ip sc call 148 MC MS Q 93 [some (.ref r_0), some (.int (nI a_1)), some (.int (nI a_2)), some (.int (nI a_3)), some (.int (nI a_4)), some (.int (nI a_5)), some (.int (nI a_6)), some (.int (nI a_7)), some (.int (nI a_8)), o_9] [(.int (nI sa_1)), (.ref sr_0)] h z c s := by
  refine jp_con (pc2 := 94) (v := (.int (nI 1))) rfl rfl rfl ?_
  exact jp_virt0 (pc2 := 97) (As := [(.int (nI sa_1)), (.int (nI 1))]) (rest := []) rfl rfl rfl (Nat.le_of_ble_eq_true rfl) e2 m3 m4 hc rfl K
theorem c148_97 {r_0 : Nat} {a_1 : Nat} {a_2 : Nat} {a_3 : Nat} {a_4 : Nat} {a_5 : Nat} {a_6 : Nat} {a_7 : Nat} {a_8 : Nat} {o_9 : Option Value} {sa_0 : Nat} (c1 : sa_0 < 2147483648) (K1 : ¬ sa_0 = 0 → ip sc call 148 MC MS Q 102 [some (.ref r_0), some (.int (nI a_1)), some (.int (nI a_2)), some (.int (nI a_3)), some (.int (nI a_4)), some (.int (nI a_5)), some (.int (nI a_6)), some (.int (nI a_7)), some (.int (nI a_8)), o_9] [] h z c s) (K2 : ¬ (¬ sa_0 = 0) → ip sc call 148 MC MS Q 100 [some (.ref r_0), some (.int (nI a_1)), some (.int (nI a_2)), some (.int (nI a_3)), some (.int (nI a_4)), some (.int (nI a_5)), some (.int (nI a_6)), some (.int (nI a_7)), some (.int (nI a_8)), o_9] [] h z c s) : ip sc call 148 MC MS Q 97 [some (.ref r_0), some (.int (nI a_1)), some (.int (nI a_2)), some (.int (nI a_3)), some (.int (nI a_4)), some (.int (nI a_5)), some (.int (nI a_6)), some (.int (nI a_7)), some (.int (nI a_8)), o_9] [(.int (nI sa_0))] h z c s := by
  exact jp_if0 (pc2 := 100) rfl rfl (fun q => K1 ((not_congr (nI_eq c1 (by decide))).mp q)) (fun q => K2 (fun r => q ((not_congr (nI_eq c1 (by decide))).mpr r)))
theorem c148_100 {o_0 : Option Value} {o_1 : Option Value} {a_2 : Nat} {o_3 : Option Value} {o_4 : Option Value} {o_5 : Option Value} {o_6 : Option Value} {o_7 : Option Value} {o_8 : Option Value} {o_9 : Option Value} (q1 : Q (some (.int (nI a_2))) h z)  : ip sc call 148 MC MS Q 100 [o_0, o_1, some (.int (nI a_2)), o_3, o_4, o_5, o_6, o_7, o_8, o_9] [] h z c s := by
  refine jp_load (pc2 := 101) (n := 2) rfl rfl rfl rfl ?_
  exact ip_iret (st := []) rfl rfl rfl q1
theorem c148_102 {r_0 : Nat} {a_1 : Nat} {a_2 : Nat} {a_3 : Nat} {a_4 : Nat} {a_5 : Nat} {a_6 : Nat} {a_7 : Nat} {a_8 : Nat} {o_9 : Option Value} {fs1 : List Value} (e2 : h r_0 = some (.inr (9, fs1))) (l3 : fs1.length = 16) (K : ip sc call 148 MC MS Q 23 [some (.ref r_0), some (.int (nI a_1)), some (.int (nI (a_2 + 1))), some (.int (nI a_3)), some (.int (nI a_4)), some (.int (nI a_5)), some (.int (nI a_6)), some (.int (nI a_7)), some (.int (nI a_8)), o_9] [] (hup h r_0 (.inr (9, ((((((fs1.set 6 (.int (nI a_3))).set 7 (.int (nI a_4))).set 8 (.int (nI a_5))).set 9 (.int (nI a_6))).set 10 (.int (nI a_7))).set 11 (.int (nI a_8)))))) z c s) : ip sc call 148 MC MS Q 102 [some (.ref r_0), some (.int (nI a_1)), some (.int (nI a_2)), some (.int (nI a_3)), some (.int (nI a_4)), some (.int (nI a_5)), some (.int (nI a_6)), some (.int (nI a_7)), some (.int (nI a_8)), o_9] [] h z c s := by
  refine jp_load (pc2 := 103) (n := 0) rfl rfl rfl rfl ?_
  refine jp_load (pc2 := 104) (n := 3) rfl rfl rfl rfl ?_
  refine jp_putf (pc2 := 107) rfl rfl e2 (ln_lt l3 (by decide)) ⟨rfl, rfl⟩ ?_
  refine jp_load (pc2 := 108) (n := 0) rfl rfl rfl rfl ?_
  refine jp_load (pc2 := 110) (n := 4) rfl rfl rfl rfl ?_
  refine jp_putf (pc2 := 113) rfl rfl hup_eq (ls_lt (ln_lt l3 (by decide))) ⟨rfl, rfl⟩ ?_
  rw [hup_hup]
  refine jp_load (pc2 := 114) (n := 0) rfl rfl rfl rfl ?_
  refine jp_load (pc2 := 116) (n := 5) rfl rfl rfl rfl ?_
  refine jp_putf (pc2 := 119) rfl rfl hup_eq (ls_lt (ls_lt (ln_lt l3 (by decide)))) ⟨rfl, rfl⟩ ?_
  rw [hup_hup]
  refine jp_load (pc2 := 120) (n := 0) rfl rfl rfl rfl ?_
  refine jp_load (pc2 := 122) (n := 6) rfl rfl rfl rfl ?_
  refine jp_putf (pc2 := 125) rfl rfl hup_eq (ls_lt (ls_lt (ls_lt (ln_lt l3 (by decide))))) ⟨rfl, rfl⟩ ?_
  rw [hup_hup]
  refine jp_load (pc2 := 126) (n := 0) rfl rfl rfl rfl ?_
  refine jp_load (pc2 := 128) (n := 7) rfl rfl rfl rfl ?_
  refine jp_putf (pc2 := 131) rfl rfl hup_eq (ls_lt (ls_lt (ls_lt (ls_lt (ln_lt l3 (by decide)))))) ⟨rfl, rfl⟩ ?_
  rw [hup_hup]
  refine jp_load (pc2 := 132) (n := 0) rfl rfl rfl rfl ?_
  refine jp_load (pc2 := 134) (n := 8) rfl rfl rfl rfl ?_
  refine jp_putf (pc2 := 137) rfl rfl hup_eq (ls_lt (ls_lt (ls_lt (ls_lt (ls_lt (ln_lt l3 (by decide))))))) ⟨rfl, rfl⟩ ?_
  rw [hup_hup]
  refine jp_iinc (pc2 := 140) (n := 2) (v := nI (a_2 + 1)) rfl rfl rfl (nI_add _ 1) rfl ?_
  refine ip_goto rfl ?_
  exact K
theorem c148_143 {o_0 : Option Value} {o_1 : Option Value} {o_2 : Option Value} {o_3 : Option Value} {o_4 : Option Value} {o_5 : Option Value} {o_6 : Option Value} {o_7 : Option Value} {o_8 : Option Value} {o_9 : Option Value} (q1 : Q (some (.int ((-1)))) h z)  : ip sc call 148 MC MS Q 143 [o_0, o_1, o_2, o_3, o_4, o_5, o_6, o_7, o_8, o_9] [] h z c s := by
  refine jp_con (pc2 := 144) (v := (.int ((-1)))) rfl rfl rfl ?_
  exact ip_iret (st := []) rfl rfl rfl q1
theorem c149_0 {r_0 : Nat} {a_1 : Nat} {o_2 : Option Value} {P : ipQ} (m1 : c ≤ MC) (m2 : s ≤ MS) (hc : call 95 [(.int (nI a_1)), (.int (nI 4))] h z 0 0 P) (K : ∀ (o : Option Value) (h2 : HP) (z2 : Nat), P o h2 z2 → ip sc call 149 MC MS Q 5 [some (.ref r_0), some (.int (nI a_1)), o_2] (o.toList ++ []) h2 z2 c s) : ip sc call 149 MC MS Q 0 [some (.ref r_0), some (.int (nI a_1)), o_2] [] h z c s := by
  refine jp_load (pc2 := 1) (n := 1) rfl rfl rfl rfl ?_
  refine jp_con (pc2 := 2) (v := (.int (nI 4))) rfl rfl rfl ?_
  exact jp_stat0 (pc2 := 5) (As := [(.int (nI a_1)), (.int (nI 4))]) (rest := []) rfl rfl rfl (Nat.le_of_ble_eq_true rfl) m1 m2 (by decide) hc rfl K
theorem c149_5 {r_0 : Nat} {a_1 : Nat} {o_2 : Option Value} {sa_0 : Nat} (c1 : sa_0 < 2147483648) (K1 : ¬ sa_0 = 0 → ip sc call 149 MC MS Q 10 [some (.ref r_0), some (.int (nI a_1)), o_2] [] h z c s) (K2 : ¬ (¬ sa_0 = 0) → ip sc call 149 MC MS Q 8 [some (.ref r_0), some (.int (nI a_1)), o_2] [] h z c s) : ip sc call 149 MC MS Q 5 [some (.ref r_0), some (.int (nI a_1)), o_2] [(.int (nI sa_0))] h z c s := by
  exact jp_if0 (pc2 := 8) rfl rfl (fun q => K1 ((not_congr (nI_eq c1 (by decide))).mp q)) (fun q => K2 (fun r => q ((not_congr (nI_eq c1 (by decide))).mpr r)))
theorem c149_8 {o_0 : Option Value} {o_1 : Option Value} {o_2 : Option Value} (q1 : Q (some (.int (nI 0))) h z)  : ip sc call 149 MC MS Q 8 [o_0, o_1, o_2] [] h z c s := by
  refine jp_con (pc2 := 9) (v := (.int (nI 0))) rfl rfl rfl ?_
  exact ip_iret (st := []) rfl rfl rfl q1
theorem c149_10 {r_0 : Nat} {a_1 : Nat} {o_2 : Option Value} {fs1 : List Value} {q_fs1_1 : Nat} {n4 : Nat} {f5 : Nat → Int32} {g9 : Nat → Int32} (e2 : h r_0 = some (.inr (9, fs1))) (e3 : fs1[1]? = some (.ref q_fs1_1)) (e6 : h q_fs1_1 = some (.inl (3, n4, .inl f5))) (b7 : a_1 < n4) (c8 : n4 < 2147483648) (d10 : upd f5 a_1 (vp_nar .boolean (nI 1)) = g9) (K : ip sc call 149 MC MS Q 19 [some (.ref r_0), some (.int (nI a_1)), some (.int (nI 0))] [] (hup h q_fs1_1 (.inl (3, n4, .inl g9))) z c s) : ip sc call 149 MC MS Q 10 [some (.ref r_0), some (.int (nI a_1)), o_2] [] h z c s := by
  refine jp_load (pc2 := 11) (n := 0) rfl rfl rfl rfl ?_
  refine jp_getf (pc2 := 14) rfl rfl e2 e3 ?_
  refine jp_load (pc2 := 15) (n := 1) rfl rfl rfl rfl ?_
  refine jp_con (pc2 := 16) (v := (.int (nI 1))) rfl rfl rfl ?_
  refine jp_zast (pc2 := 17) rfl rfl e6 (vp_in_nI b7 c8) ?_
  rw [(nI_clamp (Nat.lt_trans b7 c8))]
  rw [d10]
  refine jp_con (pc2 := 18) (v := (.int (nI 0))) rfl rfl rfl ?_
  refine jp_store (pc2 := 19) (n := 2) rfl rfl ⟨rfl, rfl⟩ rfl (Nat.le_of_ble_eq_true rfl) ?_
  exact K
theorem c149_19 {r_0 : Nat} {a_1 : Nat} {a_2 : Nat} (c1 : a_2 < 2147483648) (K1 : 8180 ≤ a_2 → ip sc call 149 MC MS Q 52 [some (.ref r_0), some (.int (nI a_1)), some (.int (nI a_2))] [] h z c s) (K2 : ¬ (8180 ≤ a_2) → ip sc call 149 MC MS Q 26 [some (.ref r_0), some (.int (nI a_1)), some (.int (nI a_2))] [] h z c s) : ip sc call 149 MC MS Q 19 [some (.ref r_0), some (.int (nI a_1)), some (.int (nI a_2))] [] h z c s := by
  refine jp_load (pc2 := 20) (n := 2) rfl rfl rfl rfl ?_
  refine jp_con (pc2 := 23) (v := (.int (nI 8180))) rfl rfl rfl ?_
  exact jp_icmp (pc2 := 26) rfl rfl (fun q => K1 ((nI_leI (by decide) c1).mp q)) (fun q => K2 (fun r => q ((nI_leI (by decide) c1).mpr r)))
theorem c149_26 {r_0 : Nat} {a_1 : Nat} {a_2 : Nat} {fs1 : List Value} {q_fs1_0 : Nat} {n4 : Nat} {f5 : Nat → Int32} {v9 : Nat} {g12 : Nat → Int32} (e2 : h r_0 = some (.inr (9, fs1))) (e3 : fs1[0]? = some (.ref q_fs1_0)) (e6 : h q_fs1_0 = some (.inl (0, n4, .inl f5))) (b7 : a_2 < n4) (c8 : n4 < 2147483648) (e10 : f5 a_2 = nI v9) (b11 : (8180 * (a_1 + 1)) + a_2 < n4) (d13 : upd f5 ((8180 * (a_1 + 1)) + a_2) (nI v9) = g12) (K : ip sc call 149 MC MS Q 19 [some (.ref r_0), some (.int (nI a_1)), some (.int (nI (a_2 + 1)))] [] (hup h q_fs1_0 (.inl (0, n4, .inl g12))) z c s) : ip sc call 149 MC MS Q 26 [some (.ref r_0), some (.int (nI a_1)), some (.int (nI a_2))] [] h z c s := by
  refine jp_load (pc2 := 27) (n := 0) rfl rfl rfl rfl ?_
  refine jp_getf (pc2 := 30) rfl rfl e2 e3 ?_
  refine jp_con (pc2 := 33) (v := (.int (nI 8180))) rfl rfl rfl ?_
  refine jp_load (pc2 := 34) (n := 1) rfl rfl rfl rfl ?_
  refine jp_con (pc2 := 35) (v := (.int (nI 1))) rfl rfl rfl ?_
  refine jp_bin (pc2 := 36) (v := nI (a_1 + 1)) rfl rfl (congrArg some (nI_add _ _)) ?_
  refine jp_bin (pc2 := 37) (v := nI (8180 * (a_1 + 1))) rfl rfl (congrArg some (pk_mul _ _)) ?_
  refine jp_load (pc2 := 38) (n := 2) rfl rfl rfl rfl ?_
  refine jp_bin (pc2 := 39) (v := nI ((8180 * (a_1 + 1)) + a_2)) rfl rfl (congrArg some (nI_add _ _)) ?_
  refine jp_load (pc2 := 40) (n := 0) rfl rfl rfl rfl ?_
  refine jp_getf (pc2 := 43) rfl rfl e2 e3 ?_
  refine jp_load (pc2 := 44) (n := 2) rfl rfl rfl rfl ?_
  refine jp_iald (pc2 := 45) rfl rfl e6 (vp_in_nI b7 c8) ?_
  rw [(nI_clamp (Nat.lt_trans b7 c8))]
  rw [e10]
  refine jp_iast (pc2 := 46) rfl rfl e6 (vp_in_nI b11 c8) ?_
  rw [(nI_clamp (Nat.lt_trans b11 c8))]
  rw [d13]
  refine jp_iinc (pc2 := 49) (n := 2) (v := nI (a_2 + 1)) rfl rfl rfl (nI_add _ 1) rfl ?_
  refine ip_goto rfl ?_
  exact K
theorem c149_52 {o_0 : Option Value} {o_1 : Option Value} {o_2 : Option Value} (q1 : Q (some (.int (nI 1))) h z)  : ip sc call 149 MC MS Q 52 [o_0, o_1, o_2] [] h z c s := by
  refine jp_con (pc2 := 53) (v := (.int (nI 1))) rfl rfl rfl ?_
  exact ip_iret (st := []) rfl rfl rfl q1
theorem c150_0 {r_0 : Nat} {a_1 : Nat} {o_2 : Option Value} {P : ipQ} (m1 : c ≤ MC) (m2 : s ≤ MS) (hc : call 95 [(.int (nI a_1)), (.int (nI 4))] h z 0 0 P) (K : ∀ (o : Option Value) (h2 : HP) (z2 : Nat), P o h2 z2 → ip sc call 150 MC MS Q 5 [some (.ref r_0), some (.int (nI a_1)), o_2] (o.toList ++ []) h2 z2 c s) : ip sc call 150 MC MS Q 0 [some (.ref r_0), some (.int (nI a_1)), o_2] [] h z c s := by
  refine jp_load (pc2 := 1) (n := 1) rfl rfl rfl rfl ?_
  refine jp_con (pc2 := 2) (v := (.int (nI 4))) rfl rfl rfl ?_
  exact jp_stat0 (pc2 := 5) (As := [(.int (nI a_1)), (.int (nI 4))]) (rest := []) rfl rfl rfl (Nat.le_of_ble_eq_true rfl) m1 m2 (by decide) hc rfl K
theorem c150_5 {r_0 : Nat} {a_1 : Nat} {o_2 : Option Value} {sa_0 : Nat} (c1 : sa_0 < 2147483648) (K1 : sa_0 = 0 → ip sc call 150 MC MS Q 17 [some (.ref r_0), some (.int (nI a_1)), o_2] [] h z c s) (K2 : ¬ (sa_0 = 0) → ip sc call 150 MC MS Q 8 [some (.ref r_0), some (.int (nI a_1)), o_2] [] h z c s) : ip sc call 150 MC MS Q 5 [some (.ref r_0), some (.int (nI a_1)), o_2] [(.int (nI sa_0))] h z c s := by
  exact jp_if0 (pc2 := 8) rfl rfl (fun q => K1 ((nI_eq c1 (by decide)).mp q)) (fun q => K2 (fun r => q ((nI_eq c1 (by decide)).mpr r)))
theorem c150_8 {r_0 : Nat} {a_1 : Nat} {o_2 : Option Value} {fs1 : List Value} {q_fs1_1 : Nat} {n4 : Nat} {f5 : Nat → Int32} {v9 : Nat} (e2 : h r_0 = some (.inr (9, fs1))) (e3 : fs1[1]? = some (.ref q_fs1_1)) (e6 : h q_fs1_1 = some (.inl (3, n4, .inl f5))) (b7 : a_1 < n4) (c8 : n4 < 2147483648) (e10 : f5 a_1 = nI v9) (c11 : v9 < 2147483648) (K1 : ¬ v9 = 0 → ip sc call 150 MC MS Q 19 [some (.ref r_0), some (.int (nI a_1)), o_2] [] h z c s) (K2 : ¬ (¬ v9 = 0) → ip sc call 150 MC MS Q 17 [some (.ref r_0), some (.int (nI a_1)), o_2] [] h z c s) : ip sc call 150 MC MS Q 8 [some (.ref r_0), some (.int (nI a_1)), o_2] [] h z c s := by
  refine jp_load (pc2 := 9) (n := 0) rfl rfl rfl rfl ?_
  refine jp_getf (pc2 := 12) rfl rfl e2 e3 ?_
  refine jp_load (pc2 := 13) (n := 1) rfl rfl rfl rfl ?_
  refine jp_bald (pc2 := 14) rfl rfl e6 (by decide) (vp_in_nI b7 c8) ?_
  rw [(nI_clamp (Nat.lt_trans b7 c8))]
  rw [e10]
  exact jp_if0 (pc2 := 17) rfl rfl (fun q => K1 ((not_congr (nI_eq c11 (by decide))).mp q)) (fun q => K2 (fun r => q ((not_congr (nI_eq c11 (by decide))).mpr r)))
theorem c150_17 {o_0 : Option Value} {o_1 : Option Value} {o_2 : Option Value} (q1 : Q (some (.int (nI 0))) h z)  : ip sc call 150 MC MS Q 17 [o_0, o_1, o_2] [] h z c s := by
  refine jp_con (pc2 := 18) (v := (.int (nI 0))) rfl rfl rfl ?_
  exact ip_iret (st := []) rfl rfl rfl q1
theorem c150_19 {r_0 : Nat} {a_1 : Nat} {o_2 : Option Value}  (K : ip sc call 150 MC MS Q 21 [some (.ref r_0), some (.int (nI a_1)), some (.int (nI 0))] [] h z c s) : ip sc call 150 MC MS Q 19 [some (.ref r_0), some (.int (nI a_1)), o_2] [] h z c s := by
  refine jp_con (pc2 := 20) (v := (.int (nI 0))) rfl rfl rfl ?_
  refine jp_store (pc2 := 21) (n := 2) rfl rfl ⟨rfl, rfl⟩ rfl (Nat.le_of_ble_eq_true rfl) ?_
  exact K
theorem c150_21 {r_0 : Nat} {a_1 : Nat} {a_2 : Nat} (c1 : a_2 < 2147483648) (K1 : 8180 ≤ a_2 → ip sc call 150 MC MS Q 54 [some (.ref r_0), some (.int (nI a_1)), some (.int (nI a_2))] [] h z c s) (K2 : ¬ (8180 ≤ a_2) → ip sc call 150 MC MS Q 28 [some (.ref r_0), some (.int (nI a_1)), some (.int (nI a_2))] [] h z c s) : ip sc call 150 MC MS Q 21 [some (.ref r_0), some (.int (nI a_1)), some (.int (nI a_2))] [] h z c s := by
  refine jp_load (pc2 := 22) (n := 2) rfl rfl rfl rfl ?_
  refine jp_con (pc2 := 25) (v := (.int (nI 8180))) rfl rfl rfl ?_
  exact jp_icmp (pc2 := 28) rfl rfl (fun q => K1 ((nI_leI (by decide) c1).mp q)) (fun q => K2 (fun r => q ((nI_leI (by decide) c1).mpr r)))
theorem c150_28 {r_0 : Nat} {a_1 : Nat} {a_2 : Nat} {fs1 : List Value} {q_fs1_0 : Nat} {n4 : Nat} {f5 : Nat → Int32} {v9 : Nat} {g12 : Nat → Int32} (e2 : h r_0 = some (.inr (9, fs1))) (e3 : fs1[0]? = some (.ref q_fs1_0)) (e6 : h q_fs1_0 = some (.inl (0, n4, .inl f5))) (b7 : (8180 * (a_1 + 1)) + a_2 < n4) (c8 : n4 < 2147483648) (e10 : f5 ((8180 * (a_1 + 1)) + a_2) = nI v9) (b11 : a_2 < n4) (d13 : upd f5 a_2 (nI v9) = g12) (K : ip sc call 150 MC MS Q 21 [some (.ref r_0), some (.int (nI a_1)), some (.int (nI (a_2 + 1)))] [] (hup h q_fs1_0 (.inl (0, n4, .inl g12))) z c s) : ip sc call 150 MC MS Q 28 [some (.ref r_0), some (.int (nI a_1)), some (.int (nI a_2))] [] h z c s := by
  refine jp_load (pc2 := 29) (n := 0) rfl rfl rfl rfl ?_
  refine jp_getf (pc2 := 32) rfl rfl e2 e3 ?_
  refine jp_load (pc2 := 33) (n := 2) rfl rfl rfl rfl ?_
  refine jp_load (pc2 := 34) (n := 0) rfl rfl rfl rfl ?_
  refine jp_getf (pc2 := 37) rfl rfl e2 e3 ?_
  refine jp_con (pc2 := 40) (v := (.int (nI 8180))) rfl rfl rfl ?_
  refine jp_load (pc2 := 41) (n := 1) rfl rfl rfl rfl ?_
  refine jp_con (pc2 := 42) (v := (.int (nI 1))) rfl rfl rfl ?_
  refine jp_bin (pc2 := 43) (v := nI (a_1 + 1)) rfl rfl (congrArg some (nI_add _ _)) ?_
  refine jp_bin (pc2 := 44) (v := nI (8180 * (a_1 + 1))) rfl rfl (congrArg some (pk_mul _ _)) ?_
  refine jp_load (pc2 := 45) (n := 2) rfl rfl rfl rfl ?_
  refine jp_bin (pc2 := 46) (v := nI ((8180 * (a_1 + 1)) + a_2)) rfl rfl (congrArg some (nI_add _ _)) ?_
  refine jp_iald (pc2 := 47) rfl rfl e6 (vp_in_nI b7 c8) ?_
  rw [(nI_clamp (Nat.lt_trans b7 c8))]
  rw [e10]
  refine jp_iast (pc2 := 48) rfl rfl e6 (vp_in_nI b11 c8) ?_
  rw [(nI_clamp (Nat.lt_trans b11 c8))]
  rw [d13]
  refine jp_iinc (pc2 := 51) (n := 2) (v := nI (a_2 + 1)) rfl rfl rfl (nI_add _ 1) rfl ?_
  refine ip_goto rfl ?_
  exact K
theorem c150_54 {o_0 : Option Value} {o_1 : Option Value} {o_2 : Option Value} (q1 : Q (some (.int (nI 1))) h z)  : ip sc call 150 MC MS Q 54 [o_0, o_1, o_2] [] h z c s := by
  refine jp_con (pc2 := 55) (v := (.int (nI 1))) rfl rfl rfl ?_
  exact ip_iret (st := []) rfl rfl rfl q1
end BLK
